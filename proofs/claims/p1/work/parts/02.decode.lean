theorem d_Cal_take_0 : decode b_Cal_take 0 = .ok (.aload_n 0, 1) := by decide +kernel
theorem d_Cal_take_1 : decode b_Cal_take 1 = .ok (.getfield 9, 3) := by decide +kernel
theorem d_Cal_take_4 : decode b_Cal_take 4 = .ok (.iload_n 1, 1) := by decide +kernel
theorem d_Cal_take_5 : decode b_Cal_take 5 = .ok (.iconst 1, 1) := by decide +kernel
theorem d_Cal_take_6 : decode b_Cal_take 6 = .ok (.bastore, 1) := by decide +kernel
theorem d_Cal_take_7 : decode b_Cal_take 7 = .ok (.aload_n 0, 1) := by decide +kernel
theorem d_Cal_take_8 : decode b_Cal_take 8 = .ok (.getfield 15, 3) := by decide +kernel
theorem d_Cal_take_11 : decode b_Cal_take 11 = .ok (.iload_n 1, 1) := by decide +kernel
theorem d_Cal_take_12 : decode b_Cal_take 12 = .ok (.iload_n 2, 1) := by decide +kernel
theorem d_Cal_take_13 : decode b_Cal_take 13 = .ok (.iastore, 1) := by decide +kernel
theorem d_Cal_take_14 : decode b_Cal_take 14 = .ok (.aload_n 0, 1) := by decide +kernel
theorem d_Cal_take_15 : decode b_Cal_take 15 = .ok (.getfield 19, 3) := by decide +kernel
theorem d_Cal_take_18 : decode b_Cal_take 18 = .ok (.iload_n 1, 1) := by decide +kernel
theorem d_Cal_take_19 : decode b_Cal_take 19 = .ok (.iload_n 3, 1) := by decide +kernel
theorem d_Cal_take_20 : decode b_Cal_take 20 = .ok (.iastore, 1) := by decide +kernel
theorem d_Cal_take_21 : decode b_Cal_take 21 = .ok (.return_, 1) := by decide +kernel
theorem d_Cal_takenOn_0 : decode b_Cal_takenOn 0 = .ok (.iconst 0, 1) := by decide +kernel
theorem d_Cal_takenOn_1 : decode b_Cal_takenOn 1 = .ok (.istore_n 2, 1) := by decide +kernel
theorem d_Cal_takenOn_2 : decode b_Cal_takenOn 2 = .ok (.iconst 0, 1) := by decide +kernel
theorem d_Cal_takenOn_3 : decode b_Cal_takenOn 3 = .ok (.istore_n 3, 1) := by decide +kernel
theorem d_Cal_takenOn_4 : decode b_Cal_takenOn 4 = .ok (.iload_n 3, 1) := by decide +kernel
theorem d_Cal_takenOn_5 : decode b_Cal_takenOn 5 = .ok (.bipush 60, 2) := by decide +kernel
theorem d_Cal_takenOn_7 : decode b_Cal_takenOn 7 = .ok (.if_icmp .ge 37, 3) := by decide +kernel
theorem d_Cal_takenOn_10 : decode b_Cal_takenOn 10 = .ok (.aload_n 0, 1) := by decide +kernel
theorem d_Cal_takenOn_11 : decode b_Cal_takenOn 11 = .ok (.getfield 9, 3) := by decide +kernel
theorem d_Cal_takenOn_14 : decode b_Cal_takenOn 14 = .ok (.iload_n 3, 1) := by decide +kernel
theorem d_Cal_takenOn_15 : decode b_Cal_takenOn 15 = .ok (.baload, 1) := by decide +kernel
theorem d_Cal_takenOn_16 : decode b_Cal_takenOn 16 = .ok (.ifCond .eq 22, 3) := by decide +kernel
theorem d_Cal_takenOn_19 : decode b_Cal_takenOn 19 = .ok (.aload_n 0, 1) := by decide +kernel
theorem d_Cal_takenOn_20 : decode b_Cal_takenOn 20 = .ok (.getfield 15, 3) := by decide +kernel
theorem d_Cal_takenOn_23 : decode b_Cal_takenOn 23 = .ok (.iload_n 3, 1) := by decide +kernel
theorem d_Cal_takenOn_24 : decode b_Cal_takenOn 24 = .ok (.iaload, 1) := by decide +kernel
theorem d_Cal_takenOn_25 : decode b_Cal_takenOn 25 = .ok (.iload_n 1, 1) := by decide +kernel
theorem d_Cal_takenOn_26 : decode b_Cal_takenOn 26 = .ok (.if_icmp .ne 12, 3) := by decide +kernel
theorem d_Cal_takenOn_29 : decode b_Cal_takenOn 29 = .ok (.iload_n 2, 1) := by decide +kernel
theorem d_Cal_takenOn_30 : decode b_Cal_takenOn 30 = .ok (.aload_n 0, 1) := by decide +kernel
theorem d_Cal_takenOn_31 : decode b_Cal_takenOn 31 = .ok (.getfield 19, 3) := by decide +kernel
theorem d_Cal_takenOn_34 : decode b_Cal_takenOn 34 = .ok (.iload_n 3, 1) := by decide +kernel
theorem d_Cal_takenOn_35 : decode b_Cal_takenOn 35 = .ok (.iaload, 1) := by decide +kernel
theorem d_Cal_takenOn_36 : decode b_Cal_takenOn 36 = .ok (.iadd, 1) := by decide +kernel
theorem d_Cal_takenOn_37 : decode b_Cal_takenOn 37 = .ok (.istore_n 2, 1) := by decide +kernel
theorem d_Cal_takenOn_38 : decode b_Cal_takenOn 38 = .ok (.iinc 3 1, 3) := by decide +kernel
theorem d_Cal_takenOn_41 : decode b_Cal_takenOn 41 = .ok (.goto (-37), 3) := by decide +kernel
theorem d_Cal_takenOn_44 : decode b_Cal_takenOn 44 = .ok (.iload_n 2, 1) := by decide +kernel
theorem d_Cal_takenOn_45 : decode b_Cal_takenOn 45 = .ok (.ireturn, 1) := by decide +kernel
theorem d_Cal_fitsInto_0 : decode b_Cal_fitsInto 0 = .ok (.iconst 0, 1) := by decide +kernel
theorem d_Cal_fitsInto_1 : decode b_Cal_fitsInto 1 = .ok (.istore_n 2, 1) := by decide +kernel
theorem d_Cal_fitsInto_2 : decode b_Cal_fitsInto 2 = .ok (.iload_n 2, 1) := by decide +kernel
theorem d_Cal_fitsInto_3 : decode b_Cal_fitsInto 3 = .ok (.bipush 60, 2) := by decide +kernel
theorem d_Cal_fitsInto_5 : decode b_Cal_fitsInto 5 = .ok (.if_icmp .ge 34, 3) := by decide +kernel
theorem d_Cal_fitsInto_8 : decode b_Cal_fitsInto 8 = .ok (.aload_n 0, 1) := by decide +kernel
theorem d_Cal_fitsInto_9 : decode b_Cal_fitsInto 9 = .ok (.getfield 9, 3) := by decide +kernel
theorem d_Cal_fitsInto_12 : decode b_Cal_fitsInto 12 = .ok (.iload_n 2, 1) := by decide +kernel
theorem d_Cal_fitsInto_13 : decode b_Cal_fitsInto 13 = .ok (.baload, 1) := by decide +kernel
theorem d_Cal_fitsInto_14 : decode b_Cal_fitsInto 14 = .ok (.ifCond .eq 19, 3) := by decide +kernel
theorem d_Cal_fitsInto_17 : decode b_Cal_fitsInto 17 = .ok (.aload_n 0, 1) := by decide +kernel
theorem d_Cal_fitsInto_18 : decode b_Cal_fitsInto 18 = .ok (.aload_n 0, 1) := by decide +kernel
theorem d_Cal_fitsInto_19 : decode b_Cal_fitsInto 19 = .ok (.getfield 15, 3) := by decide +kernel
theorem d_Cal_fitsInto_22 : decode b_Cal_fitsInto 22 = .ok (.iload_n 2, 1) := by decide +kernel
theorem d_Cal_fitsInto_23 : decode b_Cal_fitsInto 23 = .ok (.iaload, 1) := by decide +kernel
theorem d_Cal_fitsInto_24 : decode b_Cal_fitsInto 24 = .ok (.invokevirtual 26, 3) := by decide +kernel
theorem d_Cal_fitsInto_27 : decode b_Cal_fitsInto 27 = .ok (.iload_n 1, 1) := by decide +kernel
theorem d_Cal_fitsInto_28 : decode b_Cal_fitsInto 28 = .ok (.if_icmp .le 5, 3) := by decide +kernel
theorem d_Cal_fitsInto_31 : decode b_Cal_fitsInto 31 = .ok (.iconst 0, 1) := by decide +kernel
theorem d_Cal_fitsInto_32 : decode b_Cal_fitsInto 32 = .ok (.ireturn, 1) := by decide +kernel
theorem d_Cal_fitsInto_33 : decode b_Cal_fitsInto 33 = .ok (.iinc 2 1, 3) := by decide +kernel
theorem d_Cal_fitsInto_36 : decode b_Cal_fitsInto 36 = .ok (.goto (-34), 3) := by decide +kernel
theorem d_Cal_fitsInto_39 : decode b_Cal_fitsInto 39 = .ok (.iconst 1, 1) := by decide +kernel
theorem d_Cal_fitsInto_40 : decode b_Cal_fitsInto 40 = .ok (.ireturn, 1) := by decide +kernel
theorem d_Cal_latestDayFor_0 : decode b_Cal_latestDayFor 0 = .ok (.iload_n 1, 1) := by decide +kernel
theorem d_Cal_latestDayFor_1 : decode b_Cal_latestDayFor 1 = .ok (.aload_n 0, 1) := by decide +kernel
theorem d_Cal_latestDayFor_2 : decode b_Cal_latestDayFor 2 = .ok (.getfield 22, 3) := by decide +kernel
theorem d_Cal_latestDayFor_5 : decode b_Cal_latestDayFor 5 = .ok (.if_icmp .le 5, 3) := by decide +kernel
theorem d_Cal_latestDayFor_8 : decode b_Cal_latestDayFor 8 = .ok (.iconst (-1), 1) := by decide +kernel
theorem d_Cal_latestDayFor_9 : decode b_Cal_latestDayFor 9 = .ok (.ireturn, 1) := by decide +kernel
theorem d_Cal_latestDayFor_10 : decode b_Cal_latestDayFor 10 = .ok (.iload_n 3, 1) := by decide +kernel
theorem d_Cal_latestDayFor_11 : decode b_Cal_latestDayFor 11 = .ok (.istore 4, 2) := by decide +kernel
theorem d_Cal_latestDayFor_13 : decode b_Cal_latestDayFor 13 = .ok (.iload 4, 2) := by decide +kernel
theorem d_Cal_latestDayFor_15 : decode b_Cal_latestDayFor 15 = .ok (.iload_n 2, 1) := by decide +kernel
theorem d_Cal_latestDayFor_16 : decode b_Cal_latestDayFor 16 = .ok (.if_icmp .lt 27, 3) := by decide +kernel
theorem d_Cal_latestDayFor_19 : decode b_Cal_latestDayFor 19 = .ok (.aload_n 0, 1) := by decide +kernel
theorem d_Cal_latestDayFor_20 : decode b_Cal_latestDayFor 20 = .ok (.iload 4, 2) := by decide +kernel
theorem d_Cal_latestDayFor_22 : decode b_Cal_latestDayFor 22 = .ok (.invokevirtual 26, 3) := by decide +kernel
theorem d_Cal_latestDayFor_25 : decode b_Cal_latestDayFor 25 = .ok (.aload_n 0, 1) := by decide +kernel
theorem d_Cal_latestDayFor_26 : decode b_Cal_latestDayFor 26 = .ok (.getfield 22, 3) := by decide +kernel
theorem d_Cal_latestDayFor_29 : decode b_Cal_latestDayFor 29 = .ok (.iload_n 1, 1) := by decide +kernel
theorem d_Cal_latestDayFor_30 : decode b_Cal_latestDayFor 30 = .ok (.isub, 1) := by decide +kernel
theorem d_Cal_latestDayFor_31 : decode b_Cal_latestDayFor 31 = .ok (.if_icmp .gt 6, 3) := by decide +kernel
theorem d_Cal_latestDayFor_34 : decode b_Cal_latestDayFor 34 = .ok (.iload 4, 2) := by decide +kernel
theorem d_Cal_latestDayFor_36 : decode b_Cal_latestDayFor 36 = .ok (.ireturn, 1) := by decide +kernel
theorem d_Cal_latestDayFor_37 : decode b_Cal_latestDayFor 37 = .ok (.iinc 4 (-1), 3) := by decide +kernel
theorem d_Cal_latestDayFor_40 : decode b_Cal_latestDayFor 40 = .ok (.goto (-27), 3) := by decide +kernel
theorem d_Cal_latestDayFor_43 : decode b_Cal_latestDayFor 43 = .ok (.iconst (-1), 1) := by decide +kernel
theorem d_Cal_latestDayFor_44 : decode b_Cal_latestDayFor 44 = .ok (.ireturn, 1) := by decide +kernel
theorem d_Chg_hasRoom_0 : decode b_Chg_hasRoom 0 = .ok (.aload_n 0, 1) := by decide +kernel
theorem d_Chg_hasRoom_1 : decode b_Chg_hasRoom 1 = .ok (.getfield 24, 3) := by decide +kernel
theorem d_Chg_hasRoom_4 : decode b_Chg_hasRoom 4 = .ok (.iload_n 1, 1) := by decide +kernel
theorem d_Chg_hasRoom_5 : decode b_Chg_hasRoom 5 = .ok (.iaload, 1) := by decide +kernel
theorem d_Chg_hasRoom_6 : decode b_Chg_hasRoom 6 = .ok (.bipush 20, 2) := by decide +kernel
theorem d_Chg_hasRoom_8 : decode b_Chg_hasRoom 8 = .ok (.iload_n 2, 1) := by decide +kernel
theorem d_Chg_hasRoom_9 : decode b_Chg_hasRoom 9 = .ok (.isub, 1) := by decide +kernel
theorem d_Chg_hasRoom_10 : decode b_Chg_hasRoom 10 = .ok (.if_icmp .gt 7, 3) := by decide +kernel
theorem d_Chg_hasRoom_13 : decode b_Chg_hasRoom 13 = .ok (.iconst 1, 1) := by decide +kernel
theorem d_Chg_hasRoom_14 : decode b_Chg_hasRoom 14 = .ok (.goto 4, 3) := by decide +kernel
theorem d_Chg_hasRoom_17 : decode b_Chg_hasRoom 17 = .ok (.iconst 0, 1) := by decide +kernel
theorem d_Chg_hasRoom_18 : decode b_Chg_hasRoom 18 = .ok (.ireturn, 1) := by decide +kernel
theorem d_Or_isWithin_0 : decode b_Or_isWithin 0 = .ok (.iload_n 0, 1) := by decide +kernel
theorem d_Or_isWithin_1 : decode b_Or_isWithin 1 = .ok (.iload_n 1, 1) := by decide +kernel
theorem d_Or_isWithin_2 : decode b_Or_isWithin 2 = .ok (.if_icmp .lt 12, 3) := by decide +kernel
theorem d_Or_isWithin_5 : decode b_Or_isWithin 5 = .ok (.iload_n 0, 1) := by decide +kernel
theorem d_Or_isWithin_6 : decode b_Or_isWithin 6 = .ok (.iload_n 2, 1) := by decide +kernel
theorem d_Or_isWithin_7 : decode b_Or_isWithin 7 = .ok (.if_icmp .gt 7, 3) := by decide +kernel
theorem d_Or_isWithin_10 : decode b_Or_isWithin 10 = .ok (.iconst 1, 1) := by decide +kernel
theorem d_Or_isWithin_11 : decode b_Or_isWithin 11 = .ok (.goto 4, 3) := by decide +kernel
theorem d_Or_isWithin_14 : decode b_Or_isWithin 14 = .ok (.iconst 0, 1) := by decide +kernel
theorem d_Or_isWithin_15 : decode b_Or_isWithin 15 = .ok (.ireturn, 1) := by decide +kernel
theorem d_Chg_has_0 : decode b_Chg_has 0 = .ok (.iload_n 2, 1) := by decide +kernel
theorem d_Chg_has_1 : decode b_Chg_has 1 = .ok (.iconst 0, 1) := by decide +kernel
theorem d_Chg_has_2 : decode b_Chg_has 2 = .ok (.aload_n 0, 1) := by decide +kernel
theorem d_Chg_has_3 : decode b_Chg_has 3 = .ok (.getfield 24, 3) := by decide +kernel
theorem d_Chg_has_6 : decode b_Chg_has 6 = .ok (.iload_n 1, 1) := by decide +kernel
theorem d_Chg_has_7 : decode b_Chg_has 7 = .ok (.iaload, 1) := by decide +kernel
theorem d_Chg_has_8 : decode b_Chg_has 8 = .ok (.iconst 1, 1) := by decide +kernel
theorem d_Chg_has_9 : decode b_Chg_has 9 = .ok (.isub, 1) := by decide +kernel
theorem d_Chg_has_10 : decode b_Chg_has 10 = .ok (.invokestatic 27, 3) := by decide +kernel
theorem d_Chg_has_13 : decode b_Chg_has 13 = .ok (.ireturn, 1) := by decide +kernel
theorem d_Chg_add_0 : decode b_Chg_add 0 = .ok (.iload_n 1, 1) := by decide +kernel
theorem d_Chg_add_1 : decode b_Chg_add 1 = .ok (.bipush 20, 2) := by decide +kernel
theorem d_Chg_add_3 : decode b_Chg_add 3 = .ok (.imul, 1) := by decide +kernel
theorem d_Chg_add_4 : decode b_Chg_add 4 = .ok (.aload_n 0, 1) := by decide +kernel
theorem d_Chg_add_5 : decode b_Chg_add 5 = .ok (.getfield 24, 3) := by decide +kernel
theorem d_Chg_add_8 : decode b_Chg_add 8 = .ok (.iload_n 1, 1) := by decide +kernel
theorem d_Chg_add_9 : decode b_Chg_add 9 = .ok (.iaload, 1) := by decide +kernel
theorem d_Chg_add_10 : decode b_Chg_add 10 = .ok (.iadd, 1) := by decide +kernel
theorem d_Chg_add_11 : decode b_Chg_add 11 = .ok (.istore 6, 2) := by decide +kernel
theorem d_Chg_add_13 : decode b_Chg_add 13 = .ok (.aload_n 0, 1) := by decide +kernel
theorem d_Chg_add_14 : decode b_Chg_add 14 = .ok (.getfield 9, 3) := by decide +kernel
theorem d_Chg_add_17 : decode b_Chg_add 17 = .ok (.iload 6, 2) := by decide +kernel
theorem d_Chg_add_19 : decode b_Chg_add 19 = .ok (.iload_n 2, 1) := by decide +kernel
theorem d_Chg_add_20 : decode b_Chg_add 20 = .ok (.iastore, 1) := by decide +kernel
theorem d_Chg_add_21 : decode b_Chg_add 21 = .ok (.aload_n 0, 1) := by decide +kernel
theorem d_Chg_add_22 : decode b_Chg_add 22 = .ok (.getfield 15, 3) := by decide +kernel
theorem d_Chg_add_25 : decode b_Chg_add 25 = .ok (.iload 6, 2) := by decide +kernel
theorem d_Chg_add_27 : decode b_Chg_add 27 = .ok (.iload_n 3, 1) := by decide +kernel
theorem d_Chg_add_28 : decode b_Chg_add 28 = .ok (.iastore, 1) := by decide +kernel
theorem d_Chg_add_29 : decode b_Chg_add 29 = .ok (.aload_n 0, 1) := by decide +kernel
theorem d_Chg_add_30 : decode b_Chg_add 30 = .ok (.getfield 18, 3) := by decide +kernel
theorem d_Chg_add_33 : decode b_Chg_add 33 = .ok (.iload 6, 2) := by decide +kernel
theorem d_Chg_add_35 : decode b_Chg_add 35 = .ok (.iload 4, 2) := by decide +kernel
theorem d_Chg_add_37 : decode b_Chg_add 37 = .ok (.iastore, 1) := by decide +kernel
theorem d_Chg_add_38 : decode b_Chg_add 38 = .ok (.aload_n 0, 1) := by decide +kernel
theorem d_Chg_add_39 : decode b_Chg_add 39 = .ok (.getfield 21, 3) := by decide +kernel
theorem d_Chg_add_42 : decode b_Chg_add 42 = .ok (.iload 6, 2) := by decide +kernel
theorem d_Chg_add_44 : decode b_Chg_add 44 = .ok (.iload 5, 2) := by decide +kernel
theorem d_Chg_add_46 : decode b_Chg_add 46 = .ok (.iastore, 1) := by decide +kernel
theorem d_Chg_add_47 : decode b_Chg_add 47 = .ok (.aload_n 0, 1) := by decide +kernel
theorem d_Chg_add_48 : decode b_Chg_add 48 = .ok (.getfield 24, 3) := by decide +kernel
theorem d_Chg_add_51 : decode b_Chg_add 51 = .ok (.iload_n 1, 1) := by decide +kernel
theorem d_Chg_add_52 : decode b_Chg_add 52 = .ok (.dup2, 1) := by decide +kernel
theorem d_Chg_add_53 : decode b_Chg_add 53 = .ok (.iaload, 1) := by decide +kernel
theorem d_Chg_add_54 : decode b_Chg_add 54 = .ok (.iconst 1, 1) := by decide +kernel
theorem d_Chg_add_55 : decode b_Chg_add 55 = .ok (.iadd, 1) := by decide +kernel
theorem d_Chg_add_56 : decode b_Chg_add 56 = .ok (.iastore, 1) := by decide +kernel
theorem d_Chg_add_57 : decode b_Chg_add 57 = .ok (.return_, 1) := by decide +kernel
theorem d_Chg_look_0 : decode b_Chg_look 0 = .ok (.iload_n 1, 1) := by decide +kernel
theorem d_Chg_look_1 : decode b_Chg_look 1 = .ok (.bipush 20, 2) := by decide +kernel
theorem d_Chg_look_3 : decode b_Chg_look 3 = .ok (.imul, 1) := by decide +kernel
theorem d_Chg_look_4 : decode b_Chg_look 4 = .ok (.iload_n 2, 1) := by decide +kernel
theorem d_Chg_look_5 : decode b_Chg_look 5 = .ok (.iadd, 1) := by decide +kernel
theorem d_Chg_look_6 : decode b_Chg_look 6 = .ok (.istore 4, 2) := by decide +kernel
theorem d_Chg_look_8 : decode b_Chg_look 8 = .ok (.iload_n 3, 1) := by decide +kernel
theorem d_Chg_look_9 : decode b_Chg_look 9 = .ok (.tableswitch 51 0 2 #[27, 35, 43], 27) := by decide +kernel
theorem d_Chg_look_36 : decode b_Chg_look 36 = .ok (.aload_n 0, 1) := by decide +kernel
theorem d_Chg_look_37 : decode b_Chg_look 37 = .ok (.getfield 9, 3) := by decide +kernel
theorem d_Chg_look_40 : decode b_Chg_look 40 = .ok (.iload 4, 2) := by decide +kernel
theorem d_Chg_look_42 : decode b_Chg_look 42 = .ok (.iaload, 1) := by decide +kernel
theorem d_Chg_look_43 : decode b_Chg_look 43 = .ok (.ireturn, 1) := by decide +kernel
theorem d_Chg_look_44 : decode b_Chg_look 44 = .ok (.aload_n 0, 1) := by decide +kernel
theorem d_Chg_look_45 : decode b_Chg_look 45 = .ok (.getfield 15, 3) := by decide +kernel
theorem d_Chg_look_48 : decode b_Chg_look 48 = .ok (.iload 4, 2) := by decide +kernel
theorem d_Chg_look_50 : decode b_Chg_look 50 = .ok (.iaload, 1) := by decide +kernel
theorem d_Chg_look_51 : decode b_Chg_look 51 = .ok (.ireturn, 1) := by decide +kernel
theorem d_Chg_look_52 : decode b_Chg_look 52 = .ok (.aload_n 0, 1) := by decide +kernel
theorem d_Chg_look_53 : decode b_Chg_look 53 = .ok (.getfield 18, 3) := by decide +kernel
theorem d_Chg_look_56 : decode b_Chg_look 56 = .ok (.iload 4, 2) := by decide +kernel
theorem d_Chg_look_58 : decode b_Chg_look 58 = .ok (.iaload, 1) := by decide +kernel
theorem d_Chg_look_59 : decode b_Chg_look 59 = .ok (.ireturn, 1) := by decide +kernel
theorem d_Chg_look_60 : decode b_Chg_look 60 = .ok (.aload_n 0, 1) := by decide +kernel
theorem d_Chg_look_61 : decode b_Chg_look 61 = .ok (.getfield 21, 3) := by decide +kernel
theorem d_Chg_look_64 : decode b_Chg_look 64 = .ok (.iload 4, 2) := by decide +kernel
theorem d_Chg_look_66 : decode b_Chg_look 66 = .ok (.iaload, 1) := by decide +kernel
theorem d_Chg_look_67 : decode b_Chg_look 67 = .ok (.ireturn, 1) := by decide +kernel
theorem d_Chg_valueOn_0 : decode b_Chg_valueOn 0 = .ok (.iload 4, 2) := by decide +kernel
theorem d_Chg_valueOn_2 : decode b_Chg_valueOn 2 = .ok (.istore 5, 2) := by decide +kernel
theorem d_Chg_valueOn_4 : decode b_Chg_valueOn 4 = .ok (.iconst 0, 1) := by decide +kernel
theorem d_Chg_valueOn_5 : decode b_Chg_valueOn 5 = .ok (.istore 6, 2) := by decide +kernel
theorem d_Chg_valueOn_7 : decode b_Chg_valueOn 7 = .ok (.iload_n 1, 1) := by decide +kernel
theorem d_Chg_valueOn_8 : decode b_Chg_valueOn 8 = .ok (.bipush 20, 2) := by decide +kernel
theorem d_Chg_valueOn_10 : decode b_Chg_valueOn 10 = .ok (.imul, 1) := by decide +kernel
theorem d_Chg_valueOn_11 : decode b_Chg_valueOn 11 = .ok (.istore 7, 2) := by decide +kernel
theorem d_Chg_valueOn_13 : decode b_Chg_valueOn 13 = .ok (.iload 7, 2) := by decide +kernel
theorem d_Chg_valueOn_15 : decode b_Chg_valueOn 15 = .ok (.aload_n 0, 1) := by decide +kernel
theorem d_Chg_valueOn_16 : decode b_Chg_valueOn 16 = .ok (.getfield 24, 3) := by decide +kernel
theorem d_Chg_valueOn_19 : decode b_Chg_valueOn 19 = .ok (.iload_n 1, 1) := by decide +kernel
theorem d_Chg_valueOn_20 : decode b_Chg_valueOn 20 = .ok (.iaload, 1) := by decide +kernel
theorem d_Chg_valueOn_21 : decode b_Chg_valueOn 21 = .ok (.iadd, 1) := by decide +kernel
theorem d_Chg_valueOn_22 : decode b_Chg_valueOn 22 = .ok (.istore 8, 2) := by decide +kernel
theorem d_Chg_valueOn_24 : decode b_Chg_valueOn 24 = .ok (.iload 7, 2) := by decide +kernel
theorem d_Chg_valueOn_26 : decode b_Chg_valueOn 26 = .ok (.istore 9, 2) := by decide +kernel
theorem d_Chg_valueOn_28 : decode b_Chg_valueOn 28 = .ok (.iload 9, 2) := by decide +kernel
theorem d_Chg_valueOn_30 : decode b_Chg_valueOn 30 = .ok (.iload 8, 2) := by decide +kernel
theorem d_Chg_valueOn_32 : decode b_Chg_valueOn 32 = .ok (.if_icmp .ge 54, 3) := by decide +kernel
theorem d_Chg_valueOn_35 : decode b_Chg_valueOn 35 = .ok (.aload_n 0, 1) := by decide +kernel
theorem d_Chg_valueOn_36 : decode b_Chg_valueOn 36 = .ok (.getfield 9, 3) := by decide +kernel
theorem d_Chg_valueOn_39 : decode b_Chg_valueOn 39 = .ok (.iload 9, 2) := by decide +kernel
theorem d_Chg_valueOn_41 : decode b_Chg_valueOn 41 = .ok (.iaload, 1) := by decide +kernel
theorem d_Chg_valueOn_42 : decode b_Chg_valueOn 42 = .ok (.iload_n 2, 1) := by decide +kernel
theorem d_Chg_valueOn_43 : decode b_Chg_valueOn 43 = .ok (.if_icmp .ne 37, 3) := by decide +kernel
theorem d_Chg_valueOn_46 : decode b_Chg_valueOn 46 = .ok (.aload_n 0, 1) := by decide +kernel
theorem d_Chg_valueOn_47 : decode b_Chg_valueOn 47 = .ok (.getfield 18, 3) := by decide +kernel
theorem d_Chg_valueOn_50 : decode b_Chg_valueOn 50 = .ok (.iload 9, 2) := by decide +kernel
theorem d_Chg_valueOn_52 : decode b_Chg_valueOn 52 = .ok (.iaload, 1) := by decide +kernel
theorem d_Chg_valueOn_53 : decode b_Chg_valueOn 53 = .ok (.iload 6, 2) := by decide +kernel
theorem d_Chg_valueOn_55 : decode b_Chg_valueOn 55 = .ok (.iload_n 3, 1) := by decide +kernel
theorem d_Chg_valueOn_56 : decode b_Chg_valueOn 56 = .ok (.invokestatic 27, 3) := by decide +kernel
theorem d_Chg_valueOn_59 : decode b_Chg_valueOn 59 = .ok (.ifCond .eq 21, 3) := by decide +kernel
theorem d_Chg_valueOn_62 : decode b_Chg_valueOn 62 = .ok (.aload_n 0, 1) := by decide +kernel
theorem d_Chg_valueOn_63 : decode b_Chg_valueOn 63 = .ok (.getfield 15, 3) := by decide +kernel
theorem d_Chg_valueOn_66 : decode b_Chg_valueOn 66 = .ok (.iload 9, 2) := by decide +kernel
theorem d_Chg_valueOn_68 : decode b_Chg_valueOn 68 = .ok (.iaload, 1) := by decide +kernel
theorem d_Chg_valueOn_69 : decode b_Chg_valueOn 69 = .ok (.istore 5, 2) := by decide +kernel
theorem d_Chg_valueOn_71 : decode b_Chg_valueOn 71 = .ok (.aload_n 0, 1) := by decide +kernel
theorem d_Chg_valueOn_72 : decode b_Chg_valueOn 72 = .ok (.getfield 18, 3) := by decide +kernel
theorem d_Chg_valueOn_75 : decode b_Chg_valueOn 75 = .ok (.iload 9, 2) := by decide +kernel
theorem d_Chg_valueOn_77 : decode b_Chg_valueOn 77 = .ok (.iaload, 1) := by decide +kernel
theorem d_Chg_valueOn_78 : decode b_Chg_valueOn 78 = .ok (.istore 6, 2) := by decide +kernel
theorem d_Chg_valueOn_80 : decode b_Chg_valueOn 80 = .ok (.iinc 9 1, 3) := by decide +kernel
theorem d_Chg_valueOn_83 : decode b_Chg_valueOn 83 = .ok (.goto (-55), 3) := by decide +kernel
theorem d_Chg_valueOn_86 : decode b_Chg_valueOn 86 = .ok (.iload 5, 2) := by decide +kernel
theorem d_Chg_valueOn_88 : decode b_Chg_valueOn 88 = .ok (.ireturn, 1) := by decide +kernel
theorem d_Itm_has_0 : decode b_Itm_has 0 = .ok (.iload_n 1, 1) := by decide +kernel
theorem d_Itm_has_1 : decode b_Itm_has 1 = .ok (.iconst 0, 1) := by decide +kernel
theorem d_Itm_has_2 : decode b_Itm_has 2 = .ok (.aload_n 0, 1) := by decide +kernel
theorem d_Itm_has_3 : decode b_Itm_has 3 = .ok (.getfield 21, 3) := by decide +kernel
theorem d_Itm_has_6 : decode b_Itm_has 6 = .ok (.iconst 1, 1) := by decide +kernel
theorem d_Itm_has_7 : decode b_Itm_has 7 = .ok (.isub, 1) := by decide +kernel
theorem d_Itm_has_8 : decode b_Itm_has 8 = .ok (.invokestatic 25, 3) := by decide +kernel
theorem d_Itm_has_11 : decode b_Itm_has 11 = .ok (.ireturn, 1) := by decide +kernel
theorem d_Itm_add_0 : decode b_Itm_add 0 = .ok (.aload_n 0, 1) := by decide +kernel
theorem d_Itm_add_1 : decode b_Itm_add 1 = .ok (.getfield 21, 3) := by decide +kernel
theorem d_Itm_add_4 : decode b_Itm_add 4 = .ok (.istore_n 2, 1) := by decide +kernel
theorem d_Itm_add_5 : decode b_Itm_add 5 = .ok (.aload_n 0, 1) := by decide +kernel
theorem d_Itm_add_6 : decode b_Itm_add 6 = .ok (.getfield 9, 3) := by decide +kernel
theorem d_Itm_add_9 : decode b_Itm_add 9 = .ok (.iload_n 2, 1) := by decide +kernel
theorem d_Itm_add_10 : decode b_Itm_add 10 = .ok (.iload_n 1, 1) := by decide +kernel
theorem d_Itm_add_11 : decode b_Itm_add 11 = .ok (.iastore, 1) := by decide +kernel
theorem d_Itm_add_12 : decode b_Itm_add 12 = .ok (.aload_n 0, 1) := by decide +kernel
theorem d_Itm_add_13 : decode b_Itm_add 13 = .ok (.dup, 1) := by decide +kernel
theorem d_Itm_add_14 : decode b_Itm_add 14 = .ok (.getfield 21, 3) := by decide +kernel
theorem d_Itm_add_17 : decode b_Itm_add 17 = .ok (.iconst 1, 1) := by decide +kernel
theorem d_Itm_add_18 : decode b_Itm_add 18 = .ok (.iadd, 1) := by decide +kernel
theorem d_Itm_add_19 : decode b_Itm_add 19 = .ok (.putfield 21, 3) := by decide +kernel
theorem d_Itm_add_22 : decode b_Itm_add 22 = .ok (.iload_n 2, 1) := by decide +kernel
theorem d_Itm_add_23 : decode b_Itm_add 23 = .ok (.ireturn, 1) := by decide +kernel
theorem d_Itm_begin_0 : decode b_Itm_begin 0 = .ok (.aload_n 0, 1) := by decide +kernel
theorem d_Itm_begin_1 : decode b_Itm_begin 1 = .ok (.getfield 18, 3) := by decide +kernel
theorem d_Itm_begin_4 : decode b_Itm_begin 4 = .ok (.iload_n 1, 1) := by decide +kernel
theorem d_Itm_begin_5 : decode b_Itm_begin 5 = .ok (.bipush 6, 2) := by decide +kernel
theorem d_Itm_begin_7 : decode b_Itm_begin 7 = .ok (.imul, 1) := by decide +kernel
theorem d_Itm_begin_8 : decode b_Itm_begin 8 = .ok (.iload_n 2, 1) := by decide +kernel
theorem d_Itm_begin_9 : decode b_Itm_begin 9 = .ok (.iadd, 1) := by decide +kernel
theorem d_Itm_begin_10 : decode b_Itm_begin 10 = .ok (.iload_n 3, 1) := by decide +kernel
theorem d_Itm_begin_11 : decode b_Itm_begin 11 = .ok (.iastore, 1) := by decide +kernel
theorem d_Itm_begin_12 : decode b_Itm_begin 12 = .ok (.return_, 1) := by decide +kernel
theorem d_Itm_atFirst_0 : decode b_Itm_atFirst 0 = .ok (.aload_n 0, 1) := by decide +kernel
theorem d_Itm_atFirst_1 : decode b_Itm_atFirst 1 = .ok (.getfield 18, 3) := by decide +kernel
theorem d_Itm_atFirst_4 : decode b_Itm_atFirst 4 = .ok (.iload_n 1, 1) := by decide +kernel
theorem d_Itm_atFirst_5 : decode b_Itm_atFirst 5 = .ok (.bipush 6, 2) := by decide +kernel
theorem d_Itm_atFirst_7 : decode b_Itm_atFirst 7 = .ok (.imul, 1) := by decide +kernel
theorem d_Itm_atFirst_8 : decode b_Itm_atFirst 8 = .ok (.iload_n 2, 1) := by decide +kernel
theorem d_Itm_atFirst_9 : decode b_Itm_atFirst 9 = .ok (.iadd, 1) := by decide +kernel
theorem d_Itm_atFirst_10 : decode b_Itm_atFirst 10 = .ok (.iaload, 1) := by decide +kernel
theorem d_Itm_atFirst_11 : decode b_Itm_atFirst 11 = .ok (.ireturn, 1) := by decide +kernel
theorem d_Itm_isAgreed_0 : decode b_Itm_isAgreed 0 = .ok (.aload_n 0, 1) := by decide +kernel
theorem d_Itm_isAgreed_1 : decode b_Itm_isAgreed 1 = .ok (.getfield 15, 3) := by decide +kernel
theorem d_Itm_isAgreed_4 : decode b_Itm_isAgreed 4 = .ok (.iload_n 1, 1) := by decide +kernel
theorem d_Itm_isAgreed_5 : decode b_Itm_isAgreed 5 = .ok (.iaload, 1) := by decide +kernel
theorem d_Itm_isAgreed_6 : decode b_Itm_isAgreed 6 = .ok (.ifCond .eq 17, 3) := by decide +kernel
theorem d_Itm_isAgreed_9 : decode b_Itm_isAgreed 9 = .ok (.aload_n 0, 1) := by decide +kernel
theorem d_Itm_isAgreed_10 : decode b_Itm_isAgreed 10 = .ok (.getfield 15, 3) := by decide +kernel
theorem d_Itm_isAgreed_13 : decode b_Itm_isAgreed 13 = .ok (.iload_n 1, 1) := by decide +kernel
theorem d_Itm_isAgreed_14 : decode b_Itm_isAgreed 14 = .ok (.iaload, 1) := by decide +kernel
theorem d_Itm_isAgreed_15 : decode b_Itm_isAgreed 15 = .ok (.iload_n 2, 1) := by decide +kernel
theorem d_Itm_isAgreed_16 : decode b_Itm_isAgreed 16 = .ok (.if_icmp .ne 7, 3) := by decide +kernel
theorem d_Itm_isAgreed_19 : decode b_Itm_isAgreed 19 = .ok (.iconst 1, 1) := by decide +kernel
theorem d_Itm_isAgreed_20 : decode b_Itm_isAgreed 20 = .ok (.goto 4, 3) := by decide +kernel
theorem d_Itm_isAgreed_23 : decode b_Itm_isAgreed 23 = .ok (.iconst 0, 1) := by decide +kernel
theorem d_Itm_isAgreed_24 : decode b_Itm_isAgreed 24 = .ok (.ireturn, 1) := by decide +kernel
theorem d_Ord_has_0 : decode b_Ord_has 0 = .ok (.iload_n 1, 1) := by decide +kernel
theorem d_Ord_has_1 : decode b_Ord_has 1 = .ok (.iconst 0, 1) := by decide +kernel
theorem d_Ord_has_2 : decode b_Ord_has 2 = .ok (.aload_n 0, 1) := by decide +kernel
theorem d_Ord_has_3 : decode b_Ord_has 3 = .ok (.getfield 21, 3) := by decide +kernel
theorem d_Ord_has_6 : decode b_Ord_has 6 = .ok (.iconst 1, 1) := by decide +kernel
theorem d_Ord_has_7 : decode b_Ord_has 7 = .ok (.isub, 1) := by decide +kernel
theorem d_Ord_has_8 : decode b_Ord_has 8 = .ok (.invokestatic 25, 3) := by decide +kernel
theorem d_Ord_has_11 : decode b_Ord_has 11 = .ok (.ireturn, 1) := by decide +kernel
theorem d_Ord_add_0 : decode b_Ord_add 0 = .ok (.aload_n 0, 1) := by decide +kernel
theorem d_Ord_add_1 : decode b_Ord_add 1 = .ok (.getfield 21, 3) := by decide +kernel
theorem d_Ord_add_4 : decode b_Ord_add 4 = .ok (.istore_n 3, 1) := by decide +kernel
theorem d_Ord_add_5 : decode b_Ord_add 5 = .ok (.aload_n 0, 1) := by decide +kernel
theorem d_Ord_add_6 : decode b_Ord_add 6 = .ok (.getfield 9, 3) := by decide +kernel
theorem d_Ord_add_9 : decode b_Ord_add 9 = .ok (.iload_n 3, 1) := by decide +kernel
theorem d_Ord_add_10 : decode b_Ord_add 10 = .ok (.iload_n 1, 1) := by decide +kernel
theorem d_Ord_add_11 : decode b_Ord_add 11 = .ok (.iastore, 1) := by decide +kernel
theorem d_Ord_add_12 : decode b_Ord_add 12 = .ok (.aload_n 0, 1) := by decide +kernel
theorem d_Ord_add_13 : decode b_Ord_add 13 = .ok (.getfield 15, 3) := by decide +kernel
theorem d_Ord_add_16 : decode b_Ord_add 16 = .ok (.iload_n 3, 1) := by decide +kernel
theorem d_Ord_add_17 : decode b_Ord_add 17 = .ok (.iload_n 2, 1) := by decide +kernel
theorem d_Ord_add_18 : decode b_Ord_add 18 = .ok (.iastore, 1) := by decide +kernel
theorem d_Ord_add_19 : decode b_Ord_add 19 = .ok (.aload_n 0, 1) := by decide +kernel
theorem d_Ord_add_20 : decode b_Ord_add 20 = .ok (.getfield 18, 3) := by decide +kernel
theorem d_Ord_add_23 : decode b_Ord_add 23 = .ok (.iload_n 3, 1) := by decide +kernel
theorem d_Ord_add_24 : decode b_Ord_add 24 = .ok (.iload_n 3, 1) := by decide +kernel
theorem d_Ord_add_25 : decode b_Ord_add 25 = .ok (.iastore, 1) := by decide +kernel
theorem d_Ord_add_26 : decode b_Ord_add 26 = .ok (.aload_n 0, 1) := by decide +kernel
theorem d_Ord_add_27 : decode b_Ord_add 27 = .ok (.dup, 1) := by decide +kernel
theorem d_Ord_add_28 : decode b_Ord_add 28 = .ok (.getfield 21, 3) := by decide +kernel
theorem d_Ord_add_31 : decode b_Ord_add 31 = .ok (.iconst 1, 1) := by decide +kernel
theorem d_Ord_add_32 : decode b_Ord_add 32 = .ok (.iadd, 1) := by decide +kernel
theorem d_Ord_add_33 : decode b_Ord_add 33 = .ok (.putfield 21, 3) := by decide +kernel
theorem d_Ord_add_36 : decode b_Ord_add 36 = .ok (.iload_n 3, 1) := by decide +kernel
theorem d_Ord_add_37 : decode b_Ord_add 37 = .ok (.ireturn, 1) := by decide +kernel
theorem d_Ord_merge_0 : decode b_Ord_merge 0 = .ok (.aload_n 0, 1) := by decide +kernel
theorem d_Ord_merge_1 : decode b_Ord_merge 1 = .ok (.getfield 18, 3) := by decide +kernel
theorem d_Ord_merge_4 : decode b_Ord_merge 4 = .ok (.iload_n 1, 1) := by decide +kernel
theorem d_Ord_merge_5 : decode b_Ord_merge 5 = .ok (.iaload, 1) := by decide +kernel
theorem d_Ord_merge_6 : decode b_Ord_merge 6 = .ok (.istore_n 3, 1) := by decide +kernel
theorem d_Ord_merge_7 : decode b_Ord_merge 7 = .ok (.aload_n 0, 1) := by decide +kernel
theorem d_Ord_merge_8 : decode b_Ord_merge 8 = .ok (.getfield 18, 3) := by decide +kernel
theorem d_Ord_merge_11 : decode b_Ord_merge 11 = .ok (.iload_n 2, 1) := by decide +kernel
theorem d_Ord_merge_12 : decode b_Ord_merge 12 = .ok (.iaload, 1) := by decide +kernel
theorem d_Ord_merge_13 : decode b_Ord_merge 13 = .ok (.istore 4, 2) := by decide +kernel
theorem d_Ord_merge_15 : decode b_Ord_merge 15 = .ok (.iconst 0, 1) := by decide +kernel
theorem d_Ord_merge_16 : decode b_Ord_merge 16 = .ok (.istore 5, 2) := by decide +kernel
theorem d_Ord_merge_18 : decode b_Ord_merge 18 = .ok (.iload 5, 2) := by decide +kernel
theorem d_Ord_merge_20 : decode b_Ord_merge 20 = .ok (.aload_n 0, 1) := by decide +kernel
theorem d_Ord_merge_21 : decode b_Ord_merge 21 = .ok (.getfield 21, 3) := by decide +kernel
theorem d_Ord_merge_24 : decode b_Ord_merge 24 = .ok (.if_icmp .ge 29, 3) := by decide +kernel
theorem d_Ord_merge_27 : decode b_Ord_merge 27 = .ok (.aload_n 0, 1) := by decide +kernel
theorem d_Ord_merge_28 : decode b_Ord_merge 28 = .ok (.getfield 18, 3) := by decide +kernel
theorem d_Ord_merge_31 : decode b_Ord_merge 31 = .ok (.iload 5, 2) := by decide +kernel
theorem d_Ord_merge_33 : decode b_Ord_merge 33 = .ok (.iaload, 1) := by decide +kernel
theorem d_Ord_merge_34 : decode b_Ord_merge 34 = .ok (.iload 4, 2) := by decide +kernel
theorem d_Ord_merge_36 : decode b_Ord_merge 36 = .ok (.if_icmp .ne 11, 3) := by decide +kernel
theorem d_Ord_merge_39 : decode b_Ord_merge 39 = .ok (.aload_n 0, 1) := by decide +kernel
theorem d_Ord_merge_40 : decode b_Ord_merge 40 = .ok (.getfield 18, 3) := by decide +kernel
theorem d_Ord_merge_43 : decode b_Ord_merge 43 = .ok (.iload 5, 2) := by decide +kernel
theorem d_Ord_merge_45 : decode b_Ord_merge 45 = .ok (.iload_n 3, 1) := by decide +kernel
theorem d_Ord_merge_46 : decode b_Ord_merge 46 = .ok (.iastore, 1) := by decide +kernel
theorem d_Ord_merge_47 : decode b_Ord_merge 47 = .ok (.iinc 5 1, 3) := by decide +kernel
theorem d_Ord_merge_50 : decode b_Ord_merge 50 = .ok (.goto (-32), 3) := by decide +kernel
theorem d_Ord_merge_53 : decode b_Ord_merge 53 = .ok (.return_, 1) := by decide +kernel
theorem d_Ord_areTogether_0 : decode b_Ord_areTogether 0 = .ok (.aload_n 0, 1) := by decide +kernel
theorem d_Ord_areTogether_1 : decode b_Ord_areTogether 1 = .ok (.getfield 18, 3) := by decide +kernel
theorem d_Ord_areTogether_4 : decode b_Ord_areTogether 4 = .ok (.iload_n 1, 1) := by decide +kernel
theorem d_Ord_areTogether_5 : decode b_Ord_areTogether 5 = .ok (.iaload, 1) := by decide +kernel
theorem d_Ord_areTogether_6 : decode b_Ord_areTogether 6 = .ok (.aload_n 0, 1) := by decide +kernel
theorem d_Ord_areTogether_7 : decode b_Ord_areTogether 7 = .ok (.getfield 18, 3) := by decide +kernel
theorem d_Ord_areTogether_10 : decode b_Ord_areTogether 10 = .ok (.iload_n 2, 1) := by decide +kernel
theorem d_Ord_areTogether_11 : decode b_Ord_areTogether 11 = .ok (.iaload, 1) := by decide +kernel
theorem d_Ord_areTogether_12 : decode b_Ord_areTogether 12 = .ok (.if_icmp .ne 7, 3) := by decide +kernel
theorem d_Ord_areTogether_15 : decode b_Ord_areTogether 15 = .ok (.iconst 1, 1) := by decide +kernel
theorem d_Ord_areTogether_16 : decode b_Ord_areTogether 16 = .ok (.goto 4, 3) := by decide +kernel
theorem d_Ord_areTogether_19 : decode b_Ord_areTogether 19 = .ok (.iconst 0, 1) := by decide +kernel
theorem d_Ord_areTogether_20 : decode b_Ord_areTogether 20 = .ok (.ireturn, 1) := by decide +kernel
theorem d_Ord_countTogether_0 : decode b_Ord_countTogether 0 = .ok (.iconst 0, 1) := by decide +kernel
theorem d_Ord_countTogether_1 : decode b_Ord_countTogether 1 = .ok (.istore_n 2, 1) := by decide +kernel
theorem d_Ord_countTogether_2 : decode b_Ord_countTogether 2 = .ok (.iconst 0, 1) := by decide +kernel
theorem d_Ord_countTogether_3 : decode b_Ord_countTogether 3 = .ok (.istore_n 3, 1) := by decide +kernel
theorem d_Ord_countTogether_4 : decode b_Ord_countTogether 4 = .ok (.iload_n 3, 1) := by decide +kernel
theorem d_Ord_countTogether_5 : decode b_Ord_countTogether 5 = .ok (.aload_n 0, 1) := by decide +kernel
theorem d_Ord_countTogether_6 : decode b_Ord_countTogether 6 = .ok (.getfield 21, 3) := by decide +kernel
theorem d_Ord_countTogether_9 : decode b_Ord_countTogether 9 = .ok (.if_icmp .ge 21, 3) := by decide +kernel
theorem d_Ord_countTogether_12 : decode b_Ord_countTogether 12 = .ok (.aload_n 0, 1) := by decide +kernel
theorem d_Ord_countTogether_13 : decode b_Ord_countTogether 13 = .ok (.iload_n 1, 1) := by decide +kernel
theorem d_Ord_countTogether_14 : decode b_Ord_countTogether 14 = .ok (.iload_n 3, 1) := by decide +kernel
theorem d_Ord_countTogether_15 : decode b_Ord_countTogether 15 = .ok (.invokevirtual 29, 3) := by decide +kernel
theorem d_Ord_countTogether_18 : decode b_Ord_countTogether 18 = .ok (.ifCond .eq 6, 3) := by decide +kernel
theorem d_Ord_countTogether_21 : decode b_Ord_countTogether 21 = .ok (.iinc 2 1, 3) := by decide +kernel
theorem d_Ord_countTogether_24 : decode b_Ord_countTogether 24 = .ok (.iinc 3 1, 3) := by decide +kernel
theorem d_Ord_countTogether_27 : decode b_Ord_countTogether 27 = .ok (.goto (-23), 3) := by decide +kernel
theorem d_Ord_countTogether_30 : decode b_Ord_countTogether 30 = .ok (.iload_n 2, 1) := by decide +kernel
theorem d_Ord_countTogether_31 : decode b_Ord_countTogether 31 = .ok (.ireturn, 1) := by decide +kernel
theorem d_Out_add_0 : decode b_Out_add 0 = .ok (.aload_n 0, 1) := by decide +kernel
theorem d_Out_add_1 : decode b_Out_add 1 = .ok (.getfield 9, 3) := by decide +kernel
theorem d_Out_add_4 : decode b_Out_add 4 = .ok (.aload_n 0, 1) := by decide +kernel
theorem d_Out_add_5 : decode b_Out_add 5 = .ok (.getfield 24, 3) := by decide +kernel
theorem d_Out_add_8 : decode b_Out_add 8 = .ok (.iload_n 1, 1) := by decide +kernel
theorem d_Out_add_9 : decode b_Out_add 9 = .ok (.iastore, 1) := by decide +kernel
theorem d_Out_add_10 : decode b_Out_add 10 = .ok (.aload_n 0, 1) := by decide +kernel
theorem d_Out_add_11 : decode b_Out_add 11 = .ok (.getfield 15, 3) := by decide +kernel
theorem d_Out_add_14 : decode b_Out_add 14 = .ok (.aload_n 0, 1) := by decide +kernel
theorem d_Out_add_15 : decode b_Out_add 15 = .ok (.getfield 24, 3) := by decide +kernel
theorem d_Out_add_18 : decode b_Out_add 18 = .ok (.iload_n 2, 1) := by decide +kernel
theorem d_Out_add_19 : decode b_Out_add 19 = .ok (.iastore, 1) := by decide +kernel
theorem d_Out_add_20 : decode b_Out_add 20 = .ok (.aload_n 0, 1) := by decide +kernel
theorem d_Out_add_21 : decode b_Out_add 21 = .ok (.getfield 18, 3) := by decide +kernel
theorem d_Out_add_24 : decode b_Out_add 24 = .ok (.aload_n 0, 1) := by decide +kernel
theorem d_Out_add_25 : decode b_Out_add 25 = .ok (.getfield 24, 3) := by decide +kernel
theorem d_Out_add_28 : decode b_Out_add 28 = .ok (.iload_n 3, 1) := by decide +kernel
theorem d_Out_add_29 : decode b_Out_add 29 = .ok (.iastore, 1) := by decide +kernel
theorem d_Out_add_30 : decode b_Out_add 30 = .ok (.aload_n 0, 1) := by decide +kernel
theorem d_Out_add_31 : decode b_Out_add 31 = .ok (.getfield 21, 3) := by decide +kernel
theorem d_Out_add_34 : decode b_Out_add 34 = .ok (.iload_n 1, 1) := by decide +kernel
theorem d_Out_add_35 : decode b_Out_add 35 = .ok (.dup2, 1) := by decide +kernel
theorem d_Out_add_36 : decode b_Out_add 36 = .ok (.iaload, 1) := by decide +kernel
theorem d_Out_add_37 : decode b_Out_add 37 = .ok (.iload_n 3, 1) := by decide +kernel
theorem d_Out_add_38 : decode b_Out_add 38 = .ok (.iadd, 1) := by decide +kernel
theorem d_Out_add_39 : decode b_Out_add 39 = .ok (.iastore, 1) := by decide +kernel
theorem d_Out_add_40 : decode b_Out_add 40 = .ok (.aload_n 0, 1) := by decide +kernel
theorem d_Out_add_41 : decode b_Out_add 41 = .ok (.dup, 1) := by decide +kernel
theorem d_Out_add_42 : decode b_Out_add 42 = .ok (.getfield 24, 3) := by decide +kernel
theorem d_Out_add_45 : decode b_Out_add 45 = .ok (.iconst 1, 1) := by decide +kernel
theorem d_Out_add_46 : decode b_Out_add 46 = .ok (.iadd, 1) := by decide +kernel
theorem d_Out_add_47 : decode b_Out_add 47 = .ok (.putfield 24, 3) := by decide +kernel
theorem d_Out_add_50 : decode b_Out_add 50 = .ok (.return_, 1) := by decide +kernel
theorem d_Out_upTo_0 : decode b_Out_upTo 0 = .ok (.aload_n 0, 1) := by decide +kernel
theorem d_Out_upTo_1 : decode b_Out_upTo 1 = .ok (.getfield 21, 3) := by decide +kernel
theorem d_Out_upTo_4 : decode b_Out_upTo 4 = .ok (.iload_n 1, 1) := by decide +kernel
theorem d_Out_upTo_5 : decode b_Out_upTo 5 = .ok (.iaload, 1) := by decide +kernel
theorem d_Out_upTo_6 : decode b_Out_upTo 6 = .ok (.istore_n 3, 1) := by decide +kernel
theorem d_Out_upTo_7 : decode b_Out_upTo 7 = .ok (.aload_n 0, 1) := by decide +kernel
theorem d_Out_upTo_8 : decode b_Out_upTo 8 = .ok (.getfield 24, 3) := by decide +kernel
theorem d_Out_upTo_11 : decode b_Out_upTo 11 = .ok (.iconst 1, 1) := by decide +kernel
theorem d_Out_upTo_12 : decode b_Out_upTo 12 = .ok (.isub, 1) := by decide +kernel
theorem d_Out_upTo_13 : decode b_Out_upTo 13 = .ok (.istore 4, 2) := by decide +kernel
theorem d_Out_upTo_15 : decode b_Out_upTo 15 = .ok (.iload 4, 2) := by decide +kernel
theorem d_Out_upTo_17 : decode b_Out_upTo 17 = .ok (.ifCond .lt 41, 3) := by decide +kernel
theorem d_Out_upTo_20 : decode b_Out_upTo 20 = .ok (.aload_n 0, 1) := by decide +kernel
theorem d_Out_upTo_21 : decode b_Out_upTo 21 = .ok (.getfield 15, 3) := by decide +kernel
theorem d_Out_upTo_24 : decode b_Out_upTo 24 = .ok (.iload 4, 2) := by decide +kernel
theorem d_Out_upTo_26 : decode b_Out_upTo 26 = .ok (.iaload, 1) := by decide +kernel
theorem d_Out_upTo_27 : decode b_Out_upTo 27 = .ok (.iload_n 2, 1) := by decide +kernel
theorem d_Out_upTo_28 : decode b_Out_upTo 28 = .ok (.if_icmp .le 30, 3) := by decide +kernel
theorem d_Out_upTo_31 : decode b_Out_upTo 31 = .ok (.aload_n 0, 1) := by decide +kernel
theorem d_Out_upTo_32 : decode b_Out_upTo 32 = .ok (.getfield 9, 3) := by decide +kernel
theorem d_Out_upTo_35 : decode b_Out_upTo 35 = .ok (.iload 4, 2) := by decide +kernel
theorem d_Out_upTo_37 : decode b_Out_upTo 37 = .ok (.iaload, 1) := by decide +kernel
theorem d_Out_upTo_38 : decode b_Out_upTo 38 = .ok (.iload_n 1, 1) := by decide +kernel
theorem d_Out_upTo_39 : decode b_Out_upTo 39 = .ok (.if_icmp .ne 13, 3) := by decide +kernel
theorem d_Out_upTo_42 : decode b_Out_upTo 42 = .ok (.iload_n 3, 1) := by decide +kernel
theorem d_Out_upTo_43 : decode b_Out_upTo 43 = .ok (.aload_n 0, 1) := by decide +kernel
theorem d_Out_upTo_44 : decode b_Out_upTo 44 = .ok (.getfield 18, 3) := by decide +kernel
theorem d_Out_upTo_47 : decode b_Out_upTo 47 = .ok (.iload 4, 2) := by decide +kernel
theorem d_Out_upTo_49 : decode b_Out_upTo 49 = .ok (.iaload, 1) := by decide +kernel
theorem d_Out_upTo_50 : decode b_Out_upTo 50 = .ok (.isub, 1) := by decide +kernel
theorem d_Out_upTo_51 : decode b_Out_upTo 51 = .ok (.istore_n 3, 1) := by decide +kernel
theorem d_Out_upTo_52 : decode b_Out_upTo 52 = .ok (.iinc 4 (-1), 3) := by decide +kernel
theorem d_Out_upTo_55 : decode b_Out_upTo 55 = .ok (.goto (-40), 3) := by decide +kernel
theorem d_Out_upTo_58 : decode b_Out_upTo 58 = .ok (.iload_n 3, 1) := by decide +kernel
theorem d_Out_upTo_59 : decode b_Out_upTo 59 = .ok (.ireturn, 1) := by decide +kernel
theorem d_Quo_has_0 : decode b_Quo_has 0 = .ok (.iload_n 1, 1) := by decide +kernel
theorem d_Quo_has_1 : decode b_Quo_has 1 = .ok (.iconst 0, 1) := by decide +kernel
theorem d_Quo_has_2 : decode b_Quo_has 2 = .ok (.aload_n 0, 1) := by decide +kernel
theorem d_Quo_has_3 : decode b_Quo_has 3 = .ok (.getfield 26, 3) := by decide +kernel
theorem d_Quo_has_6 : decode b_Quo_has 6 = .ok (.iconst 1, 1) := by decide +kernel
theorem d_Quo_has_7 : decode b_Quo_has 7 = .ok (.isub, 1) := by decide +kernel
theorem d_Quo_has_8 : decode b_Quo_has 8 = .ok (.invokestatic 30, 3) := by decide +kernel
theorem d_Quo_has_11 : decode b_Quo_has 11 = .ok (.ireturn, 1) := by decide +kernel
theorem d_Quo_add_0 : decode b_Quo_add 0 = .ok (.aload_n 0, 1) := by decide +kernel
theorem d_Quo_add_1 : decode b_Quo_add 1 = .ok (.getfield 26, 3) := by decide +kernel
theorem d_Quo_add_4 : decode b_Quo_add 4 = .ok (.istore 5, 2) := by decide +kernel
theorem d_Quo_add_6 : decode b_Quo_add 6 = .ok (.aload_n 0, 1) := by decide +kernel
theorem d_Quo_add_7 : decode b_Quo_add 7 = .ok (.getfield 9, 3) := by decide +kernel
theorem d_Quo_add_10 : decode b_Quo_add 10 = .ok (.iload 5, 2) := by decide +kernel
theorem d_Quo_add_12 : decode b_Quo_add 12 = .ok (.iload_n 1, 1) := by decide +kernel
theorem d_Quo_add_13 : decode b_Quo_add 13 = .ok (.iastore, 1) := by decide +kernel
theorem d_Quo_add_14 : decode b_Quo_add 14 = .ok (.aload_n 0, 1) := by decide +kernel
theorem d_Quo_add_15 : decode b_Quo_add 15 = .ok (.getfield 15, 3) := by decide +kernel
theorem d_Quo_add_18 : decode b_Quo_add 18 = .ok (.iload 5, 2) := by decide +kernel
theorem d_Quo_add_20 : decode b_Quo_add 20 = .ok (.iload_n 2, 1) := by decide +kernel
theorem d_Quo_add_21 : decode b_Quo_add 21 = .ok (.iastore, 1) := by decide +kernel
theorem d_Quo_add_22 : decode b_Quo_add 22 = .ok (.aload_n 0, 1) := by decide +kernel
theorem d_Quo_add_23 : decode b_Quo_add 23 = .ok (.getfield 18, 3) := by decide +kernel
theorem d_Quo_add_26 : decode b_Quo_add 26 = .ok (.iload 5, 2) := by decide +kernel
theorem d_Quo_add_28 : decode b_Quo_add 28 = .ok (.lload_n 3, 1) := by decide +kernel
theorem d_Quo_add_29 : decode b_Quo_add 29 = .ok (.lastore, 1) := by decide +kernel
theorem d_Quo_add_30 : decode b_Quo_add 30 = .ok (.aload_n 0, 1) := by decide +kernel
theorem d_Quo_add_31 : decode b_Quo_add 31 = .ok (.dup, 1) := by decide +kernel
theorem d_Quo_add_32 : decode b_Quo_add 32 = .ok (.getfield 26, 3) := by decide +kernel
theorem d_Quo_add_35 : decode b_Quo_add 35 = .ok (.iconst 1, 1) := by decide +kernel
theorem d_Quo_add_36 : decode b_Quo_add 36 = .ok (.iadd, 1) := by decide +kernel
theorem d_Quo_add_37 : decode b_Quo_add 37 = .ok (.putfield 26, 3) := by decide +kernel
theorem d_Quo_add_40 : decode b_Quo_add 40 = .ok (.iload 5, 2) := by decide +kernel
theorem d_Quo_add_42 : decode b_Quo_add 42 = .ok (.ireturn, 1) := by decide +kernel
theorem d_Quo_look_0 : decode b_Quo_look 0 = .ok (.iload_n 2, 1) := by decide +kernel
theorem d_Quo_look_1 : decode b_Quo_look 1 = .ok (.lookupswitch 41 #[(0, 27), (1, 34)], 27) := by decide +kernel
theorem d_Quo_look_28 : decode b_Quo_look 28 = .ok (.aload_n 0, 1) := by decide +kernel
theorem d_Quo_look_29 : decode b_Quo_look 29 = .ok (.getfield 9, 3) := by decide +kernel
theorem d_Quo_look_32 : decode b_Quo_look 32 = .ok (.iload_n 1, 1) := by decide +kernel
theorem d_Quo_look_33 : decode b_Quo_look 33 = .ok (.iaload, 1) := by decide +kernel
theorem d_Quo_look_34 : decode b_Quo_look 34 = .ok (.ireturn, 1) := by decide +kernel
theorem d_Quo_look_35 : decode b_Quo_look 35 = .ok (.aload_n 0, 1) := by decide +kernel
theorem d_Quo_look_36 : decode b_Quo_look 36 = .ok (.getfield 15, 3) := by decide +kernel
theorem d_Quo_look_39 : decode b_Quo_look 39 = .ok (.iload_n 1, 1) := by decide +kernel
theorem d_Quo_look_40 : decode b_Quo_look 40 = .ok (.iaload, 1) := by decide +kernel
theorem d_Quo_look_41 : decode b_Quo_look 41 = .ok (.ireturn, 1) := by decide +kernel
theorem d_Quo_look_42 : decode b_Quo_look 42 = .ok (.aload_n 0, 1) := by decide +kernel
theorem d_Quo_look_43 : decode b_Quo_look 43 = .ok (.getfield 22, 3) := by decide +kernel
theorem d_Quo_look_46 : decode b_Quo_look 46 = .ok (.iload_n 1, 1) := by decide +kernel
theorem d_Quo_look_47 : decode b_Quo_look 47 = .ok (.baload, 1) := by decide +kernel
theorem d_Quo_look_48 : decode b_Quo_look 48 = .ok (.ifCond .eq 7, 3) := by decide +kernel
theorem d_Quo_look_51 : decode b_Quo_look 51 = .ok (.iconst 1, 1) := by decide +kernel
theorem d_Quo_look_52 : decode b_Quo_look 52 = .ok (.goto 4, 3) := by decide +kernel
theorem d_Quo_look_55 : decode b_Quo_look 55 = .ok (.iconst 0, 1) := by decide +kernel
theorem d_Quo_look_56 : decode b_Quo_look 56 = .ok (.ireturn, 1) := by decide +kernel
theorem d_Rat_set_0 : decode b_Rat_set 0 = .ok (.aload_n 0, 1) := by decide +kernel
theorem d_Rat_set_1 : decode b_Rat_set 1 = .ok (.iload_n 1, 1) := by decide +kernel
theorem d_Rat_set_2 : decode b_Rat_set 2 = .ok (.putfield 7, 3) := by decide +kernel
theorem d_Rat_set_5 : decode b_Rat_set 5 = .ok (.aload_n 0, 1) := by decide +kernel
theorem d_Rat_set_6 : decode b_Rat_set 6 = .ok (.iload_n 2, 1) := by decide +kernel
theorem d_Rat_set_7 : decode b_Rat_set 7 = .ok (.putfield 13, 3) := by decide +kernel
theorem d_Rat_set_10 : decode b_Rat_set 10 = .ok (.aload_n 0, 1) := by decide +kernel
theorem d_Rat_set_11 : decode b_Rat_set 11 = .ok (.iload_n 3, 1) := by decide +kernel
theorem d_Rat_set_12 : decode b_Rat_set 12 = .ok (.putfield 16, 3) := by decide +kernel
theorem d_Rat_set_15 : decode b_Rat_set 15 = .ok (.return_, 1) := by decide +kernel
theorem d_Rat_centsFor_0 : decode b_Rat_centsFor 0 = .ok (.iload_n 1, 1) := by decide +kernel
theorem d_Rat_centsFor_1 : decode b_Rat_centsFor 1 = .ok (.i2l, 1) := by decide +kernel
theorem d_Rat_centsFor_2 : decode b_Rat_centsFor 2 = .ok (.ldc2_w 19, 3) := by decide +kernel
theorem d_Rat_centsFor_5 : decode b_Rat_centsFor 5 = .ok (.ladd, 1) := by decide +kernel
theorem d_Rat_centsFor_6 : decode b_Rat_centsFor 6 = .ok (.ldc2_w 21, 3) := by decide +kernel
theorem d_Rat_centsFor_9 : decode b_Rat_centsFor 9 = .ok (.ldiv, 1) := by decide +kernel
theorem d_Rat_centsFor_10 : decode b_Rat_centsFor 10 = .ok (.lstore_n 3, 1) := by decide +kernel
theorem d_Rat_centsFor_11 : decode b_Rat_centsFor 11 = .ok (.aload_n 0, 1) := by decide +kernel
theorem d_Rat_centsFor_12 : decode b_Rat_centsFor 12 = .ok (.getfield 7, 3) := by decide +kernel
theorem d_Rat_centsFor_15 : decode b_Rat_centsFor 15 = .ok (.i2l, 1) := by decide +kernel
theorem d_Rat_centsFor_16 : decode b_Rat_centsFor 16 = .ok (.lload_n 3, 1) := by decide +kernel
theorem d_Rat_centsFor_17 : decode b_Rat_centsFor 17 = .ok (.aload_n 0, 1) := by decide +kernel
theorem d_Rat_centsFor_18 : decode b_Rat_centsFor 18 = .ok (.getfield 13, 3) := by decide +kernel
theorem d_Rat_centsFor_21 : decode b_Rat_centsFor 21 = .ok (.i2l, 1) := by decide +kernel
theorem d_Rat_centsFor_22 : decode b_Rat_centsFor 22 = .ok (.lmul, 1) := by decide +kernel
theorem d_Rat_centsFor_23 : decode b_Rat_centsFor 23 = .ok (.ladd, 1) := by decide +kernel
theorem d_Rat_centsFor_24 : decode b_Rat_centsFor 24 = .ok (.iload_n 2, 1) := by decide +kernel
theorem d_Rat_centsFor_25 : decode b_Rat_centsFor 25 = .ok (.i2l, 1) := by decide +kernel
theorem d_Rat_centsFor_26 : decode b_Rat_centsFor 26 = .ok (.aload_n 0, 1) := by decide +kernel
theorem d_Rat_centsFor_27 : decode b_Rat_centsFor 27 = .ok (.getfield 16, 3) := by decide +kernel
theorem d_Rat_centsFor_30 : decode b_Rat_centsFor 30 = .ok (.i2l, 1) := by decide +kernel
theorem d_Rat_centsFor_31 : decode b_Rat_centsFor 31 = .ok (.lmul, 1) := by decide +kernel
theorem d_Rat_centsFor_32 : decode b_Rat_centsFor 32 = .ok (.ladd, 1) := by decide +kernel
theorem d_Rat_centsFor_33 : decode b_Rat_centsFor 33 = .ok (.lreturn, 1) := by decide +kernel
theorem d_Or_needIndex_0 : decode b_Or_needIndex 0 = .ok (.iload_n 0, 1) := by decide +kernel
theorem d_Or_needIndex_1 : decode b_Or_needIndex 1 = .ok (.ifCond .ne 13, 3) := by decide +kernel
theorem d_Or_needIndex_4 : decode b_Or_needIndex 4 = .ok (.new 246, 3) := by decide +kernel
theorem d_Or_needIndex_7 : decode b_Or_needIndex 7 = .ok (.dup, 1) := by decide +kernel
theorem d_Or_needIndex_8 : decode b_Or_needIndex 8 = .ok (.ldc 248, 2) := by decide +kernel
theorem d_Or_needIndex_10 : decode b_Or_needIndex 10 = .ok (.invokespecial 250, 3) := by decide +kernel
theorem d_Or_needIndex_13 : decode b_Or_needIndex 13 = .ok (.athrow, 1) := by decide +kernel
theorem d_Or_needIndex_14 : decode b_Or_needIndex 14 = .ok (.return_, 1) := by decide +kernel
theorem d_Or_isDayToCome_0 : decode b_Or_isDayToCome 0 = .ok (.iload_n 1, 1) := by decide +kernel
theorem d_Or_isDayToCome_1 : decode b_Or_isDayToCome 1 = .ok (.aload_n 0, 1) := by decide +kernel
theorem d_Or_isDayToCome_2 : decode b_Or_isDayToCome 2 = .ok (.getfield 65, 3) := by decide +kernel
theorem d_Or_isDayToCome_5 : decode b_Or_isDayToCome 5 = .ok (.sipush 9999, 3) := by decide +kernel
theorem d_Or_isDayToCome_8 : decode b_Or_isDayToCome 8 = .ok (.invokestatic 69, 3) := by decide +kernel
theorem d_Or_isDayToCome_11 : decode b_Or_isDayToCome 11 = .ok (.ireturn, 1) := by decide +kernel
theorem d_Or_needRange_0 : decode b_Or_needRange 0 = .ok (.iload_n 0, 1) := by decide +kernel
theorem d_Or_needRange_1 : decode b_Or_needRange 1 = .ok (.ifCond .ne 14, 3) := by decide +kernel
theorem d_Or_needRange_4 : decode b_Or_needRange 4 = .ok (.new 258, 3) := by decide +kernel
theorem d_Or_needRange_7 : decode b_Or_needRange 7 = .ok (.dup, 1) := by decide +kernel
theorem d_Or_needRange_8 : decode b_Or_needRange 8 = .ok (.ldc_w 260, 3) := by decide +kernel
theorem d_Or_needRange_11 : decode b_Or_needRange 11 = .ok (.invokespecial 262, 3) := by decide +kernel
theorem d_Or_needRange_14 : decode b_Or_needRange 14 = .ok (.athrow, 1) := by decide +kernel
theorem d_Or_needRange_15 : decode b_Or_needRange 15 = .ok (.return_, 1) := by decide +kernel
theorem d_Or_needMeaning_0 : decode b_Or_needMeaning 0 = .ok (.iload_n 0, 1) := by decide +kernel
theorem d_Or_needMeaning_1 : decode b_Or_needMeaning 1 = .ok (.ifCond .ne 14, 3) := by decide +kernel
theorem d_Or_needMeaning_4 : decode b_Or_needMeaning 4 = .ok (.new 263, 3) := by decide +kernel
theorem d_Or_needMeaning_7 : decode b_Or_needMeaning 7 = .ok (.dup, 1) := by decide +kernel
theorem d_Or_needMeaning_8 : decode b_Or_needMeaning 8 = .ok (.ldc_w 265, 3) := by decide +kernel
theorem d_Or_needMeaning_11 : decode b_Or_needMeaning 11 = .ok (.invokespecial 267, 3) := by decide +kernel
theorem d_Or_needMeaning_14 : decode b_Or_needMeaning 14 = .ok (.athrow, 1) := by decide +kernel
theorem d_Or_needMeaning_15 : decode b_Or_needMeaning 15 = .ok (.return_, 1) := by decide +kernel
theorem d_Or_order_0 : decode b_Or_order 0 = .ok (.iload_n 1, 1) := by decide +kernel
theorem d_Or_order_1 : decode b_Or_order 1 = .ok (.iconst 0, 1) := by decide +kernel
theorem d_Or_order_2 : decode b_Or_order 2 = .ok (.bipush 9, 2) := by decide +kernel
theorem d_Or_order_4 : decode b_Or_order 4 = .ok (.invokestatic 69, 3) := by decide +kernel
theorem d_Or_order_7 : decode b_Or_order 7 = .ok (.invokestatic 73, 3) := by decide +kernel
theorem d_Or_order_10 : decode b_Or_order 10 = .ok (.aload_n 0, 1) := by decide +kernel
theorem d_Or_order_11 : decode b_Or_order 11 = .ok (.iload_n 2, 1) := by decide +kernel
theorem d_Or_order_12 : decode b_Or_order 12 = .ok (.invokevirtual 77, 3) := by decide +kernel
theorem d_Or_order_15 : decode b_Or_order 15 = .ok (.invokestatic 81, 3) := by decide +kernel
theorem d_Or_order_18 : decode b_Or_order 18 = .ok (.aload_n 0, 1) := by decide +kernel
theorem d_Or_order_19 : decode b_Or_order 19 = .ok (.getfield 10, 3) := by decide +kernel
theorem d_Or_order_22 : decode b_Or_order 22 = .ok (.getfield 84, 3) := by decide +kernel
theorem d_Or_order_25 : decode b_Or_order 25 = .ok (.bipush 30, 2) := by decide +kernel
theorem d_Or_order_27 : decode b_Or_order 27 = .ok (.if_icmp .ge 7, 3) := by decide +kernel
theorem d_Or_order_30 : decode b_Or_order 30 = .ok (.iconst 1, 1) := by decide +kernel
theorem d_Or_order_31 : decode b_Or_order 31 = .ok (.goto 4, 3) := by decide +kernel
theorem d_Or_order_34 : decode b_Or_order 34 = .ok (.iconst 0, 1) := by decide +kernel
theorem d_Or_order_35 : decode b_Or_order 35 = .ok (.invokestatic 87, 3) := by decide +kernel
theorem d_Or_order_38 : decode b_Or_order 38 = .ok (.aload_n 0, 1) := by decide +kernel
theorem d_Or_order_39 : decode b_Or_order 39 = .ok (.getfield 10, 3) := by decide +kernel
theorem d_Or_order_42 : decode b_Or_order 42 = .ok (.iload_n 1, 1) := by decide +kernel
theorem d_Or_order_43 : decode b_Or_order 43 = .ok (.iload_n 2, 1) := by decide +kernel
theorem d_Or_order_44 : decode b_Or_order 44 = .ok (.invokevirtual 90, 3) := by decide +kernel
theorem d_Or_order_47 : decode b_Or_order 47 = .ok (.ireturn, 1) := by decide +kernel
theorem d_Or_isSize_0 : decode b_Or_isSize 0 = .ok (.iload_n 0, 1) := by decide +kernel
theorem d_Or_isSize_1 : decode b_Or_isSize 1 = .ok (.iconst 1, 1) := by decide +kernel
theorem d_Or_isSize_2 : decode b_Or_isSize 2 = .ok (.ldc_w 268, 3) := by decide +kernel
theorem d_Or_isSize_5 : decode b_Or_isSize 5 = .ok (.invokestatic 69, 3) := by decide +kernel
theorem d_Or_isSize_8 : decode b_Or_isSize 8 = .ok (.ireturn, 1) := by decide +kernel
theorem d_Or_item_0 : decode b_Or_item 0 = .ok (.aload_n 0, 1) := by decide +kernel
theorem d_Or_item_1 : decode b_Or_item 1 = .ok (.getfield 10, 3) := by decide +kernel
theorem d_Or_item_4 : decode b_Or_item 4 = .ok (.iload_n 1, 1) := by decide +kernel
theorem d_Or_item_5 : decode b_Or_item 5 = .ok (.invokevirtual 94, 3) := by decide +kernel
theorem d_Or_item_8 : decode b_Or_item 8 = .ok (.invokestatic 73, 3) := by decide +kernel
theorem d_Or_item_11 : decode b_Or_item 11 = .ok (.iload_n 2, 1) := by decide +kernel
theorem d_Or_item_12 : decode b_Or_item 12 = .ok (.invokestatic 97, 3) := by decide +kernel
theorem d_Or_item_15 : decode b_Or_item 15 = .ok (.ifCond .eq 22, 3) := by decide +kernel
theorem d_Or_item_18 : decode b_Or_item 18 = .ok (.iload_n 3, 1) := by decide +kernel
theorem d_Or_item_19 : decode b_Or_item 19 = .ok (.invokestatic 97, 3) := by decide +kernel
theorem d_Or_item_22 : decode b_Or_item 22 = .ok (.ifCond .eq 15, 3) := by decide +kernel
theorem d_Or_item_25 : decode b_Or_item 25 = .ok (.iload 4, 2) := by decide +kernel
theorem d_Or_item_27 : decode b_Or_item 27 = .ok (.invokestatic 97, 3) := by decide +kernel
theorem d_Or_item_30 : decode b_Or_item 30 = .ok (.ifCond .eq 7, 3) := by decide +kernel
theorem d_Or_item_33 : decode b_Or_item 33 = .ok (.iconst 1, 1) := by decide +kernel
theorem d_Or_item_34 : decode b_Or_item 34 = .ok (.goto 4, 3) := by decide +kernel
theorem d_Or_item_37 : decode b_Or_item 37 = .ok (.iconst 0, 1) := by decide +kernel
theorem d_Or_item_38 : decode b_Or_item 38 = .ok (.invokestatic 81, 3) := by decide +kernel
theorem d_Or_item_41 : decode b_Or_item 41 = .ok (.aload_n 0, 1) := by decide +kernel
theorem d_Or_item_42 : decode b_Or_item 42 = .ok (.getfield 19, 3) := by decide +kernel
theorem d_Or_item_45 : decode b_Or_item 45 = .ok (.getfield 100, 3) := by decide +kernel
theorem d_Or_item_48 : decode b_Or_item 48 = .ok (.bipush 60, 2) := by decide +kernel
theorem d_Or_item_50 : decode b_Or_item 50 = .ok (.if_icmp .ge 7, 3) := by decide +kernel
theorem d_Or_item_53 : decode b_Or_item 53 = .ok (.iconst 1, 1) := by decide +kernel
theorem d_Or_item_54 : decode b_Or_item 54 = .ok (.goto 4, 3) := by decide +kernel
theorem d_Or_item_57 : decode b_Or_item 57 = .ok (.iconst 0, 1) := by decide +kernel
theorem d_Or_item_58 : decode b_Or_item 58 = .ok (.invokestatic 87, 3) := by decide +kernel
theorem d_Or_item_61 : decode b_Or_item 61 = .ok (.aload_n 0, 1) := by decide +kernel
theorem d_Or_item_62 : decode b_Or_item 62 = .ok (.getfield 19, 3) := by decide +kernel
theorem d_Or_item_65 : decode b_Or_item 65 = .ok (.iload_n 1, 1) := by decide +kernel
theorem d_Or_item_66 : decode b_Or_item 66 = .ok (.invokevirtual 101, 3) := by decide +kernel
theorem d_Or_item_69 : decode b_Or_item 69 = .ok (.istore 5, 2) := by decide +kernel
theorem d_Or_item_71 : decode b_Or_item 71 = .ok (.aload_n 0, 1) := by decide +kernel
theorem d_Or_item_72 : decode b_Or_item 72 = .ok (.getfield 19, 3) := by decide +kernel
theorem d_Or_item_75 : decode b_Or_item 75 = .ok (.iload 5, 2) := by decide +kernel
theorem d_Or_item_77 : decode b_Or_item 77 = .ok (.iconst 0, 1) := by decide +kernel
theorem d_Or_item_78 : decode b_Or_item 78 = .ok (.iload_n 2, 1) := by decide +kernel
theorem d_Or_item_79 : decode b_Or_item 79 = .ok (.invokevirtual 104, 3) := by decide +kernel
theorem d_Or_item_82 : decode b_Or_item 82 = .ok (.aload_n 0, 1) := by decide +kernel
theorem d_Or_item_83 : decode b_Or_item 83 = .ok (.getfield 19, 3) := by decide +kernel
theorem d_Or_item_86 : decode b_Or_item 86 = .ok (.iload 5, 2) := by decide +kernel
theorem d_Or_item_88 : decode b_Or_item 88 = .ok (.iconst 1, 1) := by decide +kernel
theorem d_Or_item_89 : decode b_Or_item 89 = .ok (.iload_n 3, 1) := by decide +kernel
theorem d_Or_item_90 : decode b_Or_item 90 = .ok (.invokevirtual 104, 3) := by decide +kernel
theorem d_Or_item_93 : decode b_Or_item 93 = .ok (.aload_n 0, 1) := by decide +kernel
theorem d_Or_item_94 : decode b_Or_item 94 = .ok (.getfield 19, 3) := by decide +kernel
theorem d_Or_item_97 : decode b_Or_item 97 = .ok (.iload 5, 2) := by decide +kernel
theorem d_Or_item_99 : decode b_Or_item 99 = .ok (.iconst 2, 1) := by decide +kernel
theorem d_Or_item_100 : decode b_Or_item 100 = .ok (.iload 4, 2) := by decide +kernel
theorem d_Or_item_102 : decode b_Or_item 102 = .ok (.invokevirtual 104, 3) := by decide +kernel
theorem d_Or_item_105 : decode b_Or_item 105 = .ok (.aload_n 0, 1) := by decide +kernel
theorem d_Or_item_106 : decode b_Or_item 106 = .ok (.getfield 19, 3) := by decide +kernel
theorem d_Or_item_109 : decode b_Or_item 109 = .ok (.iload 5, 2) := by decide +kernel
theorem d_Or_item_111 : decode b_Or_item 111 = .ok (.iconst 5, 1) := by decide +kernel
theorem d_Or_item_112 : decode b_Or_item 112 = .ok (.aload_n 0, 1) := by decide +kernel
theorem d_Or_item_113 : decode b_Or_item 113 = .ok (.getfield 10, 3) := by decide +kernel
theorem d_Or_item_116 : decode b_Or_item 116 = .ok (.getfield 108, 3) := by decide +kernel
theorem d_Or_item_119 : decode b_Or_item 119 = .ok (.iload_n 1, 1) := by decide +kernel
theorem d_Or_item_120 : decode b_Or_item 120 = .ok (.iaload, 1) := by decide +kernel
theorem d_Or_item_121 : decode b_Or_item 121 = .ok (.invokevirtual 104, 3) := by decide +kernel
theorem d_Or_item_124 : decode b_Or_item 124 = .ok (.iload 5, 2) := by decide +kernel
theorem d_Or_item_126 : decode b_Or_item 126 = .ok (.ireturn, 1) := by decide +kernel
theorem d_Or_isWeight_0 : decode b_Or_isWeight 0 = .ok (.iload_n 0, 1) := by decide +kernel
theorem d_Or_isWeight_1 : decode b_Or_isWeight 1 = .ok (.iconst 0, 1) := by decide +kernel
theorem d_Or_isWeight_2 : decode b_Or_isWeight 2 = .ok (.ldc 165, 2) := by decide +kernel
theorem d_Or_isWeight_4 : decode b_Or_isWeight 4 = .ok (.invokestatic 69, 3) := by decide +kernel
theorem d_Or_isWeight_7 : decode b_Or_isWeight 7 = .ok (.ireturn, 1) := by decide +kernel
theorem d_Or_weights_0 : decode b_Or_weights 0 = .ok (.aload_n 0, 1) := by decide +kernel
theorem d_Or_weights_1 : decode b_Or_weights 1 = .ok (.getfield 19, 3) := by decide +kernel
theorem d_Or_weights_4 : decode b_Or_weights 4 = .ok (.iload_n 1, 1) := by decide +kernel
theorem d_Or_weights_5 : decode b_Or_weights 5 = .ok (.invokevirtual 112, 3) := by decide +kernel
theorem d_Or_weights_8 : decode b_Or_weights 8 = .ok (.invokestatic 73, 3) := by decide +kernel
theorem d_Or_weights_11 : decode b_Or_weights 11 = .ok (.iload_n 2, 1) := by decide +kernel
theorem d_Or_weights_12 : decode b_Or_weights 12 = .ok (.invokestatic 113, 3) := by decide +kernel
theorem d_Or_weights_15 : decode b_Or_weights 15 = .ok (.ifCond .eq 19, 3) := by decide +kernel
theorem d_Or_weights_18 : decode b_Or_weights 18 = .ok (.iload_n 3, 1) := by decide +kernel
theorem d_Or_weights_19 : decode b_Or_weights 19 = .ok (.invokestatic 113, 3) := by decide +kernel
theorem d_Or_weights_22 : decode b_Or_weights 22 = .ok (.ifCond .eq 12, 3) := by decide +kernel
theorem d_Or_weights_25 : decode b_Or_weights 25 = .ok (.iload_n 2, 1) := by decide +kernel
theorem d_Or_weights_26 : decode b_Or_weights 26 = .ok (.iload_n 3, 1) := by decide +kernel
theorem d_Or_weights_27 : decode b_Or_weights 27 = .ok (.if_icmp .gt 7, 3) := by decide +kernel
theorem d_Or_weights_30 : decode b_Or_weights 30 = .ok (.iconst 1, 1) := by decide +kernel
theorem d_Or_weights_31 : decode b_Or_weights 31 = .ok (.goto 4, 3) := by decide +kernel
theorem d_Or_weights_34 : decode b_Or_weights 34 = .ok (.iconst 0, 1) := by decide +kernel
theorem d_Or_weights_35 : decode b_Or_weights 35 = .ok (.invokestatic 81, 3) := by decide +kernel
theorem d_Or_weights_38 : decode b_Or_weights 38 = .ok (.aload_n 0, 1) := by decide +kernel
theorem d_Or_weights_39 : decode b_Or_weights 39 = .ok (.getfield 26, 3) := by decide +kernel
theorem d_Or_weights_42 : decode b_Or_weights 42 = .ok (.iload_n 1, 1) := by decide +kernel
theorem d_Or_weights_43 : decode b_Or_weights 43 = .ok (.iconst 2, 1) := by decide +kernel
theorem d_Or_weights_44 : decode b_Or_weights 44 = .ok (.invokevirtual 116, 3) := by decide +kernel
theorem d_Or_weights_47 : decode b_Or_weights 47 = .ok (.invokestatic 87, 3) := by decide +kernel
theorem d_Or_weights_50 : decode b_Or_weights 50 = .ok (.aload_n 0, 1) := by decide +kernel
theorem d_Or_weights_51 : decode b_Or_weights 51 = .ok (.getfield 26, 3) := by decide +kernel
theorem d_Or_weights_54 : decode b_Or_weights 54 = .ok (.iload_n 1, 1) := by decide +kernel
theorem d_Or_weights_55 : decode b_Or_weights 55 = .ok (.iconst 3, 1) := by decide +kernel
theorem d_Or_weights_56 : decode b_Or_weights 56 = .ok (.iload_n 2, 1) := by decide +kernel
theorem d_Or_weights_57 : decode b_Or_weights 57 = .ok (.aload_n 0, 1) := by decide +kernel
theorem d_Or_weights_58 : decode b_Or_weights 58 = .ok (.getfield 65, 3) := by decide +kernel
theorem d_Or_weights_61 : decode b_Or_weights 61 = .ok (.aload_n 0, 1) := by decide +kernel
theorem d_Or_weights_62 : decode b_Or_weights 62 = .ok (.getfield 65, 3) := by decide +kernel
theorem d_Or_weights_65 : decode b_Or_weights 65 = .ok (.invokevirtual 120, 3) := by decide +kernel
theorem d_Or_weights_68 : decode b_Or_weights 68 = .ok (.aload_n 0, 1) := by decide +kernel
theorem d_Or_weights_69 : decode b_Or_weights 69 = .ok (.getfield 26, 3) := by decide +kernel
theorem d_Or_weights_72 : decode b_Or_weights 72 = .ok (.iload_n 1, 1) := by decide +kernel
theorem d_Or_weights_73 : decode b_Or_weights 73 = .ok (.iconst 4, 1) := by decide +kernel
theorem d_Or_weights_74 : decode b_Or_weights 74 = .ok (.iload_n 3, 1) := by decide +kernel
theorem d_Or_weights_75 : decode b_Or_weights 75 = .ok (.aload_n 0, 1) := by decide +kernel
theorem d_Or_weights_76 : decode b_Or_weights 76 = .ok (.getfield 65, 3) := by decide +kernel
theorem d_Or_weights_79 : decode b_Or_weights 79 = .ok (.aload_n 0, 1) := by decide +kernel
theorem d_Or_weights_80 : decode b_Or_weights 80 = .ok (.getfield 65, 3) := by decide +kernel
theorem d_Or_weights_83 : decode b_Or_weights 83 = .ok (.invokevirtual 120, 3) := by decide +kernel
theorem d_Or_weights_86 : decode b_Or_weights 86 = .ok (.return_, 1) := by decide +kernel
theorem d_Or_agree_0 : decode b_Or_agree 0 = .ok (.aload_n 0, 1) := by decide +kernel
theorem d_Or_agree_1 : decode b_Or_agree 1 = .ok (.getfield 19, 3) := by decide +kernel
theorem d_Or_agree_4 : decode b_Or_agree 4 = .ok (.iload_n 1, 1) := by decide +kernel
theorem d_Or_agree_5 : decode b_Or_agree 5 = .ok (.invokevirtual 112, 3) := by decide +kernel
theorem d_Or_agree_8 : decode b_Or_agree 8 = .ok (.invokestatic 73, 3) := by decide +kernel
theorem d_Or_agree_11 : decode b_Or_agree 11 = .ok (.iload_n 2, 1) := by decide +kernel
theorem d_Or_agree_12 : decode b_Or_agree 12 = .ok (.iconst 1, 1) := by decide +kernel
theorem d_Or_agree_13 : decode b_Or_agree 13 = .ok (.bipush 99, 2) := by decide +kernel
theorem d_Or_agree_15 : decode b_Or_agree 15 = .ok (.invokestatic 69, 3) := by decide +kernel
theorem d_Or_agree_18 : decode b_Or_agree 18 = .ok (.invokestatic 81, 3) := by decide +kernel
theorem d_Or_agree_21 : decode b_Or_agree 21 = .ok (.aload_n 0, 1) := by decide +kernel
theorem d_Or_agree_22 : decode b_Or_agree 22 = .ok (.getfield 19, 3) := by decide +kernel
theorem d_Or_agree_25 : decode b_Or_agree 25 = .ok (.getfield 123, 3) := by decide +kernel
theorem d_Or_agree_28 : decode b_Or_agree 28 = .ok (.iload_n 1, 1) := by decide +kernel
theorem d_Or_agree_29 : decode b_Or_agree 29 = .ok (.iload_n 2, 1) := by decide +kernel
theorem d_Or_agree_30 : decode b_Or_agree 30 = .ok (.iastore, 1) := by decide +kernel
theorem d_Or_agree_31 : decode b_Or_agree 31 = .ok (.return_, 1) := by decide +kernel
theorem d_Or_needTurn_0 : decode b_Or_needTurn 0 = .ok (.iload_n 0, 1) := by decide +kernel
theorem d_Or_needTurn_1 : decode b_Or_needTurn 1 = .ok (.ifCond .ne 13, 3) := by decide +kernel
theorem d_Or_needTurn_4 : decode b_Or_needTurn 4 = .ok (.new 253, 3) := by decide +kernel
theorem d_Or_needTurn_7 : decode b_Or_needTurn 7 = .ok (.dup, 1) := by decide +kernel
theorem d_Or_needTurn_8 : decode b_Or_needTurn 8 = .ok (.ldc 255, 2) := by decide +kernel
theorem d_Or_needTurn_10 : decode b_Or_needTurn 10 = .ok (.invokespecial 257, 3) := by decide +kernel
theorem d_Or_needTurn_13 : decode b_Or_needTurn 13 = .ok (.athrow, 1) := by decide +kernel
theorem d_Or_needTurn_14 : decode b_Or_needTurn 14 = .ok (.return_, 1) := by decide +kernel
theorem d_Or_isValueOf_0 : decode b_Or_isValueOf 0 = .ok (.iload_n 1, 1) := by decide +kernel
theorem d_Or_isValueOf_1 : decode b_Or_isValueOf 1 = .ok (.iconst 2, 1) := by decide +kernel
theorem d_Or_isValueOf_2 : decode b_Or_isValueOf 2 = .ok (.if_icmp .gt 8, 3) := by decide +kernel
theorem d_Or_isValueOf_5 : decode b_Or_isValueOf 5 = .ok (.iload_n 2, 1) := by decide +kernel
theorem d_Or_isValueOf_6 : decode b_Or_isValueOf 6 = .ok (.invokestatic 97, 3) := by decide +kernel
theorem d_Or_isValueOf_9 : decode b_Or_isValueOf 9 = .ok (.ireturn, 1) := by decide +kernel
theorem d_Or_isValueOf_10 : decode b_Or_isValueOf 10 = .ok (.iload_n 1, 1) := by decide +kernel
theorem d_Or_isValueOf_11 : decode b_Or_isValueOf 11 = .ok (.iconst 5, 1) := by decide +kernel
theorem d_Or_isValueOf_12 : decode b_Or_isValueOf 12 = .ok (.if_icmp .ne 11, 3) := by decide +kernel
theorem d_Or_isValueOf_15 : decode b_Or_isValueOf 15 = .ok (.aload_n 0, 1) := by decide +kernel
theorem d_Or_isValueOf_16 : decode b_Or_isValueOf 16 = .ok (.iload_n 2, 1) := by decide +kernel
theorem d_Or_isValueOf_17 : decode b_Or_isValueOf 17 = .ok (.invokevirtual 77, 3) := by decide +kernel
theorem d_Or_isValueOf_20 : decode b_Or_isValueOf 20 = .ok (.goto 7, 3) := by decide +kernel
theorem d_Or_isValueOf_23 : decode b_Or_isValueOf 23 = .ok (.iload_n 2, 1) := by decide +kernel
theorem d_Or_isValueOf_24 : decode b_Or_isValueOf 24 = .ok (.invokestatic 113, 3) := by decide +kernel
theorem d_Or_isValueOf_27 : decode b_Or_isValueOf 27 = .ok (.ireturn, 1) := by decide +kernel
theorem d_Or_valueOn_0 : decode b_Or_valueOn 0 = .ok (.aload_n 0, 1) := by decide +kernel
theorem d_Or_valueOn_1 : decode b_Or_valueOn 1 = .ok (.getfield 26, 3) := by decide +kernel
theorem d_Or_valueOn_4 : decode b_Or_valueOn 4 = .ok (.iload_n 1, 1) := by decide +kernel
theorem d_Or_valueOn_5 : decode b_Or_valueOn 5 = .ok (.iload_n 2, 1) := by decide +kernel
theorem d_Or_valueOn_6 : decode b_Or_valueOn 6 = .ok (.iload_n 3, 1) := by decide +kernel
theorem d_Or_valueOn_7 : decode b_Or_valueOn 7 = .ok (.aload_n 0, 1) := by decide +kernel
theorem d_Or_valueOn_8 : decode b_Or_valueOn 8 = .ok (.getfield 19, 3) := by decide +kernel
theorem d_Or_valueOn_11 : decode b_Or_valueOn 11 = .ok (.iload_n 1, 1) := by decide +kernel
theorem d_Or_valueOn_12 : decode b_Or_valueOn 12 = .ok (.iload_n 2, 1) := by decide +kernel
theorem d_Or_valueOn_13 : decode b_Or_valueOn 13 = .ok (.invokevirtual 269, 3) := by decide +kernel
theorem d_Or_valueOn_16 : decode b_Or_valueOn 16 = .ok (.invokevirtual 272, 3) := by decide +kernel
theorem d_Or_valueOn_19 : decode b_Or_valueOn 19 = .ok (.ireturn, 1) := by decide +kernel
theorem d_Or_keepsLeastWithinMost_0 : decode b_Or_keepsLeastWithinMost 0 = .ok (.iload_n 2, 1) := by decide +kernel
theorem d_Or_keepsLeastWithinMost_1 : decode b_Or_keepsLeastWithinMost 1 = .ok (.iconst 3, 1) := by decide +kernel
theorem d_Or_keepsLeastWithinMost_2 : decode b_Or_keepsLeastWithinMost 2 = .ok (.if_icmp .ne 21, 3) := by decide +kernel
theorem d_Or_keepsLeastWithinMost_5 : decode b_Or_keepsLeastWithinMost 5 = .ok (.iload_n 3, 1) := by decide +kernel
theorem d_Or_keepsLeastWithinMost_6 : decode b_Or_keepsLeastWithinMost 6 = .ok (.aload_n 0, 1) := by decide +kernel
theorem d_Or_keepsLeastWithinMost_7 : decode b_Or_keepsLeastWithinMost 7 = .ok (.iload_n 1, 1) := by decide +kernel
theorem d_Or_keepsLeastWithinMost_8 : decode b_Or_keepsLeastWithinMost 8 = .ok (.iconst 4, 1) := by decide +kernel
theorem d_Or_keepsLeastWithinMost_9 : decode b_Or_keepsLeastWithinMost 9 = .ok (.iload 4, 2) := by decide +kernel
theorem d_Or_keepsLeastWithinMost_11 : decode b_Or_keepsLeastWithinMost 11 = .ok (.invokevirtual 148, 3) := by decide +kernel
theorem d_Or_keepsLeastWithinMost_14 : decode b_Or_keepsLeastWithinMost 14 = .ok (.if_icmp .gt 7, 3) := by decide +kernel
theorem d_Or_keepsLeastWithinMost_17 : decode b_Or_keepsLeastWithinMost 17 = .ok (.iconst 1, 1) := by decide +kernel
theorem d_Or_keepsLeastWithinMost_18 : decode b_Or_keepsLeastWithinMost 18 = .ok (.goto 4, 3) := by decide +kernel
theorem d_Or_keepsLeastWithinMost_21 : decode b_Or_keepsLeastWithinMost 21 = .ok (.iconst 0, 1) := by decide +kernel
theorem d_Or_keepsLeastWithinMost_22 : decode b_Or_keepsLeastWithinMost 22 = .ok (.ireturn, 1) := by decide +kernel
theorem d_Or_keepsLeastWithinMost_23 : decode b_Or_keepsLeastWithinMost 23 = .ok (.iload_n 2, 1) := by decide +kernel
theorem d_Or_keepsLeastWithinMost_24 : decode b_Or_keepsLeastWithinMost 24 = .ok (.iconst 4, 1) := by decide +kernel
theorem d_Or_keepsLeastWithinMost_25 : decode b_Or_keepsLeastWithinMost 25 = .ok (.if_icmp .ne 15, 3) := by decide +kernel
theorem d_Or_keepsLeastWithinMost_28 : decode b_Or_keepsLeastWithinMost 28 = .ok (.aload_n 0, 1) := by decide +kernel
theorem d_Or_keepsLeastWithinMost_29 : decode b_Or_keepsLeastWithinMost 29 = .ok (.iload_n 1, 1) := by decide +kernel
theorem d_Or_keepsLeastWithinMost_30 : decode b_Or_keepsLeastWithinMost 30 = .ok (.iconst 3, 1) := by decide +kernel
theorem d_Or_keepsLeastWithinMost_31 : decode b_Or_keepsLeastWithinMost 31 = .ok (.iload 4, 2) := by decide +kernel
theorem d_Or_keepsLeastWithinMost_33 : decode b_Or_keepsLeastWithinMost 33 = .ok (.invokevirtual 148, 3) := by decide +kernel
theorem d_Or_keepsLeastWithinMost_36 : decode b_Or_keepsLeastWithinMost 36 = .ok (.iload_n 3, 1) := by decide +kernel
theorem d_Or_keepsLeastWithinMost_37 : decode b_Or_keepsLeastWithinMost 37 = .ok (.if_icmp .gt 7, 3) := by decide +kernel
theorem d_Or_keepsLeastWithinMost_40 : decode b_Or_keepsLeastWithinMost 40 = .ok (.iconst 1, 1) := by decide +kernel
theorem d_Or_keepsLeastWithinMost_41 : decode b_Or_keepsLeastWithinMost 41 = .ok (.goto 4, 3) := by decide +kernel
theorem d_Or_keepsLeastWithinMost_44 : decode b_Or_keepsLeastWithinMost 44 = .ok (.iconst 0, 1) := by decide +kernel
theorem d_Or_keepsLeastWithinMost_45 : decode b_Or_keepsLeastWithinMost 45 = .ok (.ireturn, 1) := by decide +kernel
theorem d_Or_isDay_0 : decode b_Or_isDay 0 = .ok (.iload_n 0, 1) := by decide +kernel
theorem d_Or_isDay_1 : decode b_Or_isDay 1 = .ok (.iconst 0, 1) := by decide +kernel
theorem d_Or_isDay_2 : decode b_Or_isDay 2 = .ok (.sipush 9999, 3) := by decide +kernel
theorem d_Or_isDay_5 : decode b_Or_isDay 5 = .ok (.invokestatic 69, 3) := by decide +kernel
theorem d_Or_isDay_8 : decode b_Or_isDay 8 = .ok (.ireturn, 1) := by decide +kernel
theorem d_Or_isField_0 : decode b_Or_isField 0 = .ok (.iload_n 0, 1) := by decide +kernel
theorem d_Or_isField_1 : decode b_Or_isField 1 = .ok (.iconst 0, 1) := by decide +kernel
theorem d_Or_isField_2 : decode b_Or_isField 2 = .ok (.iconst 5, 1) := by decide +kernel
theorem d_Or_isField_3 : decode b_Or_isField 3 = .ok (.invokestatic 69, 3) := by decide +kernel
theorem d_Or_isField_6 : decode b_Or_isField 6 = .ok (.ireturn, 1) := by decide +kernel
theorem d_Or_change_0 : decode b_Or_change 0 = .ok (.aload_n 0, 1) := by decide +kernel
theorem d_Or_change_1 : decode b_Or_change 1 = .ok (.getfield 19, 3) := by decide +kernel
theorem d_Or_change_4 : decode b_Or_change 4 = .ok (.iload_n 1, 1) := by decide +kernel
theorem d_Or_change_5 : decode b_Or_change 5 = .ok (.invokevirtual 112, 3) := by decide +kernel
theorem d_Or_change_8 : decode b_Or_change 8 = .ok (.ifCond .eq 14, 3) := by decide +kernel
theorem d_Or_change_11 : decode b_Or_change 11 = .ok (.iload_n 2, 1) := by decide +kernel
theorem d_Or_change_12 : decode b_Or_change 12 = .ok (.invokestatic 126, 3) := by decide +kernel
theorem d_Or_change_15 : decode b_Or_change 15 = .ok (.ifCond .eq 7, 3) := by decide +kernel
theorem d_Or_change_18 : decode b_Or_change 18 = .ok (.iconst 1, 1) := by decide +kernel
theorem d_Or_change_19 : decode b_Or_change 19 = .ok (.goto 4, 3) := by decide +kernel
theorem d_Or_change_22 : decode b_Or_change 22 = .ok (.iconst 0, 1) := by decide +kernel
theorem d_Or_change_23 : decode b_Or_change 23 = .ok (.invokestatic 73, 3) := by decide +kernel
theorem d_Or_change_26 : decode b_Or_change 26 = .ok (.iload_n 2, 1) := by decide +kernel
theorem d_Or_change_27 : decode b_Or_change 27 = .ok (.iconst 2, 1) := by decide +kernel
theorem d_Or_change_28 : decode b_Or_change 28 = .ok (.if_icmp .gt 28, 3) := by decide +kernel
theorem d_Or_change_31 : decode b_Or_change 31 = .ok (.aload_n 0, 1) := by decide +kernel
theorem d_Or_change_32 : decode b_Or_change 32 = .ok (.getfield 33, 3) := by decide +kernel
theorem d_Or_change_35 : decode b_Or_change 35 = .ok (.getfield 129, 3) := by decide +kernel
theorem d_Or_change_38 : decode b_Or_change 38 = .ok (.iload_n 1, 1) := by decide +kernel
theorem d_Or_change_39 : decode b_Or_change 39 = .ok (.iaload, 1) := by decide +kernel
theorem d_Or_change_40 : decode b_Or_change 40 = .ok (.ifCond .eq 16, 3) := by decide +kernel
theorem d_Or_change_43 : decode b_Or_change 43 = .ok (.aload_n 0, 1) := by decide +kernel
theorem d_Or_change_44 : decode b_Or_change 44 = .ok (.getfield 19, 3) := by decide +kernel
theorem d_Or_change_47 : decode b_Or_change 47 = .ok (.iload_n 1, 1) := by decide +kernel
theorem d_Or_change_48 : decode b_Or_change 48 = .ok (.iload 5, 2) := by decide +kernel
theorem d_Or_change_50 : decode b_Or_change 50 = .ok (.invokevirtual 132, 3) := by decide +kernel
theorem d_Or_change_53 : decode b_Or_change 53 = .ok (.ifCond .eq 7, 3) := by decide +kernel
theorem d_Or_change_56 : decode b_Or_change 56 = .ok (.iconst 1, 1) := by decide +kernel
theorem d_Or_change_57 : decode b_Or_change 57 = .ok (.goto 4, 3) := by decide +kernel
theorem d_Or_change_60 : decode b_Or_change 60 = .ok (.iconst 0, 1) := by decide +kernel
theorem d_Or_change_61 : decode b_Or_change 61 = .ok (.invokestatic 135, 3) := by decide +kernel
theorem d_Or_change_64 : decode b_Or_change 64 = .ok (.aload_n 0, 1) := by decide +kernel
theorem d_Or_change_65 : decode b_Or_change 65 = .ok (.iload_n 2, 1) := by decide +kernel
theorem d_Or_change_66 : decode b_Or_change 66 = .ok (.iload_n 3, 1) := by decide +kernel
theorem d_Or_change_67 : decode b_Or_change 67 = .ok (.invokevirtual 138, 3) := by decide +kernel
theorem d_Or_change_70 : decode b_Or_change 70 = .ok (.ifCond .eq 15, 3) := by decide +kernel
theorem d_Or_change_73 : decode b_Or_change 73 = .ok (.iload 4, 2) := by decide +kernel
theorem d_Or_change_75 : decode b_Or_change 75 = .ok (.invokestatic 141, 3) := by decide +kernel
theorem d_Or_change_78 : decode b_Or_change 78 = .ok (.ifCond .eq 7, 3) := by decide +kernel
theorem d_Or_change_81 : decode b_Or_change 81 = .ok (.iconst 1, 1) := by decide +kernel
theorem d_Or_change_82 : decode b_Or_change 82 = .ok (.goto 4, 3) := by decide +kernel
theorem d_Or_change_85 : decode b_Or_change 85 = .ok (.iconst 0, 1) := by decide +kernel
theorem d_Or_change_86 : decode b_Or_change 86 = .ok (.invokestatic 81, 3) := by decide +kernel
theorem d_Or_change_89 : decode b_Or_change 89 = .ok (.aload_n 0, 1) := by decide +kernel
theorem d_Or_change_90 : decode b_Or_change 90 = .ok (.iload_n 1, 1) := by decide +kernel
theorem d_Or_change_91 : decode b_Or_change 91 = .ok (.iload_n 2, 1) := by decide +kernel
theorem d_Or_change_92 : decode b_Or_change 92 = .ok (.iload_n 3, 1) := by decide +kernel
theorem d_Or_change_93 : decode b_Or_change 93 = .ok (.iload 4, 2) := by decide +kernel
theorem d_Or_change_95 : decode b_Or_change 95 = .ok (.invokevirtual 144, 3) := by decide +kernel
theorem d_Or_change_98 : decode b_Or_change 98 = .ok (.ifCond .eq 19, 3) := by decide +kernel
theorem d_Or_change_101 : decode b_Or_change 101 = .ok (.aload_n 0, 1) := by decide +kernel
theorem d_Or_change_102 : decode b_Or_change 102 = .ok (.getfield 26, 3) := by decide +kernel
theorem d_Or_change_105 : decode b_Or_change 105 = .ok (.iload_n 1, 1) := by decide +kernel
theorem d_Or_change_106 : decode b_Or_change 106 = .ok (.iconst 1, 1) := by decide +kernel
theorem d_Or_change_107 : decode b_Or_change 107 = .ok (.invokevirtual 116, 3) := by decide +kernel
theorem d_Or_change_110 : decode b_Or_change 110 = .ok (.ifCond .eq 7, 3) := by decide +kernel
theorem d_Or_change_113 : decode b_Or_change 113 = .ok (.iconst 1, 1) := by decide +kernel
theorem d_Or_change_114 : decode b_Or_change 114 = .ok (.goto 4, 3) := by decide +kernel
theorem d_Or_change_117 : decode b_Or_change 117 = .ok (.iconst 0, 1) := by decide +kernel
theorem d_Or_change_118 : decode b_Or_change 118 = .ok (.invokestatic 87, 3) := by decide +kernel
theorem d_Or_change_121 : decode b_Or_change 121 = .ok (.aload_n 0, 1) := by decide +kernel
theorem d_Or_change_122 : decode b_Or_change 122 = .ok (.getfield 26, 3) := by decide +kernel
theorem d_Or_change_125 : decode b_Or_change 125 = .ok (.iload_n 1, 1) := by decide +kernel
theorem d_Or_change_126 : decode b_Or_change 126 = .ok (.iload_n 2, 1) := by decide +kernel
theorem d_Or_change_127 : decode b_Or_change 127 = .ok (.iload_n 3, 1) := by decide +kernel
theorem d_Or_change_128 : decode b_Or_change 128 = .ok (.iload 4, 2) := by decide +kernel
theorem d_Or_change_130 : decode b_Or_change 130 = .ok (.aload_n 0, 1) := by decide +kernel
theorem d_Or_change_131 : decode b_Or_change 131 = .ok (.getfield 65, 3) := by decide +kernel
theorem d_Or_change_134 : decode b_Or_change 134 = .ok (.invokevirtual 120, 3) := by decide +kernel
theorem d_Or_change_137 : decode b_Or_change 137 = .ok (.return_, 1) := by decide +kernel
theorem d_Or_field_0 : decode b_Or_field 0 = .ok (.aload_n 0, 1) := by decide +kernel
theorem d_Or_field_1 : decode b_Or_field 1 = .ok (.getfield 19, 3) := by decide +kernel
theorem d_Or_field_4 : decode b_Or_field 4 = .ok (.iload_n 1, 1) := by decide +kernel
theorem d_Or_field_5 : decode b_Or_field 5 = .ok (.invokevirtual 112, 3) := by decide +kernel
theorem d_Or_field_8 : decode b_Or_field 8 = .ok (.ifCond .eq 14, 3) := by decide +kernel
theorem d_Or_field_11 : decode b_Or_field 11 = .ok (.iload_n 2, 1) := by decide +kernel
theorem d_Or_field_12 : decode b_Or_field 12 = .ok (.invokestatic 126, 3) := by decide +kernel
theorem d_Or_field_15 : decode b_Or_field 15 = .ok (.ifCond .eq 7, 3) := by decide +kernel
theorem d_Or_field_18 : decode b_Or_field 18 = .ok (.iconst 1, 1) := by decide +kernel
theorem d_Or_field_19 : decode b_Or_field 19 = .ok (.goto 4, 3) := by decide +kernel
theorem d_Or_field_22 : decode b_Or_field 22 = .ok (.iconst 0, 1) := by decide +kernel
theorem d_Or_field_23 : decode b_Or_field 23 = .ok (.invokestatic 73, 3) := by decide +kernel
theorem d_Or_field_26 : decode b_Or_field 26 = .ok (.iload_n 3, 1) := by decide +kernel
theorem d_Or_field_27 : decode b_Or_field 27 = .ok (.invokestatic 141, 3) := by decide +kernel
theorem d_Or_field_30 : decode b_Or_field 30 = .ok (.invokestatic 81, 3) := by decide +kernel
theorem d_Or_field_33 : decode b_Or_field 33 = .ok (.aload_n 0, 1) := by decide +kernel
theorem d_Or_field_34 : decode b_Or_field 34 = .ok (.iload_n 1, 1) := by decide +kernel
theorem d_Or_field_35 : decode b_Or_field 35 = .ok (.iload_n 2, 1) := by decide +kernel
theorem d_Or_field_36 : decode b_Or_field 36 = .ok (.iload_n 3, 1) := by decide +kernel
theorem d_Or_field_37 : decode b_Or_field 37 = .ok (.invokevirtual 148, 3) := by decide +kernel
theorem d_Or_field_40 : decode b_Or_field 40 = .ok (.ireturn, 1) := by decide +kernel
theorem d_Or_history_0 : decode b_Or_history 0 = .ok (.aload_n 0, 1) := by decide +kernel
theorem d_Or_history_1 : decode b_Or_history 1 = .ok (.getfield 19, 3) := by decide +kernel
theorem d_Or_history_4 : decode b_Or_history 4 = .ok (.iload_n 1, 1) := by decide +kernel
theorem d_Or_history_5 : decode b_Or_history 5 = .ok (.invokevirtual 112, 3) := by decide +kernel
theorem d_Or_history_8 : decode b_Or_history 8 = .ok (.ifCond .eq 28, 3) := by decide +kernel
theorem d_Or_history_11 : decode b_Or_history 11 = .ok (.aload_n 0, 1) := by decide +kernel
theorem d_Or_history_12 : decode b_Or_history 12 = .ok (.getfield 26, 3) := by decide +kernel
theorem d_Or_history_15 : decode b_Or_history 15 = .ok (.iload_n 1, 1) := by decide +kernel
theorem d_Or_history_16 : decode b_Or_history 16 = .ok (.iload_n 2, 1) := by decide +kernel
theorem d_Or_history_17 : decode b_Or_history 17 = .ok (.invokevirtual 152, 3) := by decide +kernel
theorem d_Or_history_20 : decode b_Or_history 20 = .ok (.ifCond .eq 16, 3) := by decide +kernel
theorem d_Or_history_23 : decode b_Or_history 23 = .ok (.iload_n 3, 1) := by decide +kernel
theorem d_Or_history_24 : decode b_Or_history 24 = .ok (.iconst 0, 1) := by decide +kernel
theorem d_Or_history_25 : decode b_Or_history 25 = .ok (.iconst 3, 1) := by decide +kernel
theorem d_Or_history_26 : decode b_Or_history 26 = .ok (.invokestatic 69, 3) := by decide +kernel
theorem d_Or_history_29 : decode b_Or_history 29 = .ok (.ifCond .eq 7, 3) := by decide +kernel
theorem d_Or_history_32 : decode b_Or_history 32 = .ok (.iconst 1, 1) := by decide +kernel
theorem d_Or_history_33 : decode b_Or_history 33 = .ok (.goto 4, 3) := by decide +kernel
theorem d_Or_history_36 : decode b_Or_history 36 = .ok (.iconst 0, 1) := by decide +kernel
theorem d_Or_history_37 : decode b_Or_history 37 = .ok (.invokestatic 73, 3) := by decide +kernel
theorem d_Or_history_40 : decode b_Or_history 40 = .ok (.aload_n 0, 1) := by decide +kernel
theorem d_Or_history_41 : decode b_Or_history 41 = .ok (.getfield 26, 3) := by decide +kernel
theorem d_Or_history_44 : decode b_Or_history 44 = .ok (.iload_n 1, 1) := by decide +kernel
theorem d_Or_history_45 : decode b_Or_history 45 = .ok (.iload_n 2, 1) := by decide +kernel
theorem d_Or_history_46 : decode b_Or_history 46 = .ok (.iload_n 3, 1) := by decide +kernel
theorem d_Or_history_47 : decode b_Or_history 47 = .ok (.invokevirtual 154, 3) := by decide +kernel
theorem d_Or_history_50 : decode b_Or_history 50 = .ok (.ireturn, 1) := by decide +kernel
theorem d_Or_copyOfToday_0 : decode b_Or_copyOfToday 0 = .ok (.aload_n 0, 1) := by decide +kernel
theorem d_Or_copyOfToday_1 : decode b_Or_copyOfToday 1 = .ok (.getfield 19, 3) := by decide +kernel
theorem d_Or_copyOfToday_4 : decode b_Or_copyOfToday 4 = .ok (.aload_n 0, 1) := by decide +kernel
theorem d_Or_copyOfToday_5 : decode b_Or_copyOfToday 5 = .ok (.getfield 19, 3) := by decide +kernel
theorem d_Or_copyOfToday_8 : decode b_Or_copyOfToday 8 = .ok (.getfield 211, 3) := by decide +kernel
theorem d_Or_copyOfToday_11 : decode b_Or_copyOfToday 11 = .ok (.iload_n 1, 1) := by decide +kernel
theorem d_Or_copyOfToday_12 : decode b_Or_copyOfToday 12 = .ok (.iaload, 1) := by decide +kernel
theorem d_Or_copyOfToday_13 : decode b_Or_copyOfToday 13 = .ok (.invokevirtual 101, 3) := by decide +kernel
theorem d_Or_copyOfToday_16 : decode b_Or_copyOfToday 16 = .ok (.istore_n 2, 1) := by decide +kernel
theorem d_Or_copyOfToday_17 : decode b_Or_copyOfToday 17 = .ok (.iconst 0, 1) := by decide +kernel
theorem d_Or_copyOfToday_18 : decode b_Or_copyOfToday 18 = .ok (.istore_n 3, 1) := by decide +kernel
theorem d_Or_copyOfToday_19 : decode b_Or_copyOfToday 19 = .ok (.iload_n 3, 1) := by decide +kernel
theorem d_Or_copyOfToday_20 : decode b_Or_copyOfToday 20 = .ok (.bipush 6, 2) := by decide +kernel
theorem d_Or_copyOfToday_22 : decode b_Or_copyOfToday 22 = .ok (.if_icmp .ge 28, 3) := by decide +kernel
theorem d_Or_copyOfToday_25 : decode b_Or_copyOfToday 25 = .ok (.aload_n 0, 1) := by decide +kernel
theorem d_Or_copyOfToday_26 : decode b_Or_copyOfToday 26 = .ok (.getfield 19, 3) := by decide +kernel
theorem d_Or_copyOfToday_29 : decode b_Or_copyOfToday 29 = .ok (.iload_n 2, 1) := by decide +kernel
theorem d_Or_copyOfToday_30 : decode b_Or_copyOfToday 30 = .ok (.iload_n 3, 1) := by decide +kernel
theorem d_Or_copyOfToday_31 : decode b_Or_copyOfToday 31 = .ok (.aload_n 0, 1) := by decide +kernel
theorem d_Or_copyOfToday_32 : decode b_Or_copyOfToday 32 = .ok (.iload_n 1, 1) := by decide +kernel
theorem d_Or_copyOfToday_33 : decode b_Or_copyOfToday 33 = .ok (.iload_n 3, 1) := by decide +kernel
theorem d_Or_copyOfToday_34 : decode b_Or_copyOfToday 34 = .ok (.aload_n 0, 1) := by decide +kernel
theorem d_Or_copyOfToday_35 : decode b_Or_copyOfToday 35 = .ok (.getfield 65, 3) := by decide +kernel
theorem d_Or_copyOfToday_38 : decode b_Or_copyOfToday 38 = .ok (.invokevirtual 148, 3) := by decide +kernel
theorem d_Or_copyOfToday_41 : decode b_Or_copyOfToday 41 = .ok (.invokevirtual 104, 3) := by decide +kernel
theorem d_Or_copyOfToday_44 : decode b_Or_copyOfToday 44 = .ok (.iinc 3 1, 3) := by decide +kernel
theorem d_Or_copyOfToday_47 : decode b_Or_copyOfToday 47 = .ok (.goto (-28), 3) := by decide +kernel
theorem d_Or_copyOfToday_50 : decode b_Or_copyOfToday 50 = .ok (.iload_n 2, 1) := by decide +kernel
theorem d_Or_copyOfToday_51 : decode b_Or_copyOfToday 51 = .ok (.ireturn, 1) := by decide +kernel
theorem d_Or_split_0 : decode b_Or_split 0 = .ok (.aload_n 0, 1) := by decide +kernel
theorem d_Or_split_1 : decode b_Or_split 1 = .ok (.getfield 19, 3) := by decide +kernel
theorem d_Or_split_4 : decode b_Or_split 4 = .ok (.iload_n 1, 1) := by decide +kernel
theorem d_Or_split_5 : decode b_Or_split 5 = .ok (.invokevirtual 112, 3) := by decide +kernel
theorem d_Or_split_8 : decode b_Or_split 8 = .ok (.invokestatic 73, 3) := by decide +kernel
theorem d_Or_split_11 : decode b_Or_split 11 = .ok (.aload_n 0, 1) := by decide +kernel
theorem d_Or_split_12 : decode b_Or_split 12 = .ok (.getfield 33, 3) := by decide +kernel
theorem d_Or_split_15 : decode b_Or_split 15 = .ok (.getfield 129, 3) := by decide +kernel
theorem d_Or_split_18 : decode b_Or_split 18 = .ok (.iload_n 1, 1) := by decide +kernel
theorem d_Or_split_19 : decode b_Or_split 19 = .ok (.iaload, 1) := by decide +kernel
theorem d_Or_split_20 : decode b_Or_split 20 = .ok (.ifCond .ne 7, 3) := by decide +kernel
theorem d_Or_split_23 : decode b_Or_split 23 = .ok (.iconst 1, 1) := by decide +kernel
theorem d_Or_split_24 : decode b_Or_split 24 = .ok (.goto 4, 3) := by decide +kernel
theorem d_Or_split_27 : decode b_Or_split 27 = .ok (.iconst 0, 1) := by decide +kernel
theorem d_Or_split_28 : decode b_Or_split 28 = .ok (.invokestatic 135, 3) := by decide +kernel
theorem d_Or_split_31 : decode b_Or_split 31 = .ok (.aload_n 0, 1) := by decide +kernel
theorem d_Or_split_32 : decode b_Or_split 32 = .ok (.iload_n 1, 1) := by decide +kernel
theorem d_Or_split_33 : decode b_Or_split 33 = .ok (.iconst 4, 1) := by decide +kernel
theorem d_Or_split_34 : decode b_Or_split 34 = .ok (.aload_n 0, 1) := by decide +kernel
theorem d_Or_split_35 : decode b_Or_split 35 = .ok (.getfield 65, 3) := by decide +kernel
theorem d_Or_split_38 : decode b_Or_split 38 = .ok (.invokevirtual 148, 3) := by decide +kernel
theorem d_Or_split_41 : decode b_Or_split 41 = .ok (.istore_n 3, 1) := by decide +kernel
theorem d_Or_split_42 : decode b_Or_split 42 = .ok (.iload_n 2, 1) := by decide +kernel
theorem d_Or_split_43 : decode b_Or_split 43 = .ok (.iconst 1, 1) := by decide +kernel
theorem d_Or_split_44 : decode b_Or_split 44 = .ok (.iload_n 3, 1) := by decide +kernel
theorem d_Or_split_45 : decode b_Or_split 45 = .ok (.invokestatic 69, 3) := by decide +kernel
theorem d_Or_split_48 : decode b_Or_split 48 = .ok (.invokestatic 81, 3) := by decide +kernel
theorem d_Or_split_51 : decode b_Or_split 51 = .ok (.aload_n 0, 1) := by decide +kernel
theorem d_Or_split_52 : decode b_Or_split 52 = .ok (.getfield 19, 3) := by decide +kernel
theorem d_Or_split_55 : decode b_Or_split 55 = .ok (.getfield 100, 3) := by decide +kernel
theorem d_Or_split_58 : decode b_Or_split 58 = .ok (.bipush 60, 2) := by decide +kernel
theorem d_Or_split_60 : decode b_Or_split 60 = .ok (.if_icmp .ge 19, 3) := by decide +kernel
theorem d_Or_split_63 : decode b_Or_split 63 = .ok (.aload_n 0, 1) := by decide +kernel
theorem d_Or_split_64 : decode b_Or_split 64 = .ok (.getfield 26, 3) := by decide +kernel
theorem d_Or_split_67 : decode b_Or_split 67 = .ok (.iload_n 1, 1) := by decide +kernel
theorem d_Or_split_68 : decode b_Or_split 68 = .ok (.iconst 2, 1) := by decide +kernel
theorem d_Or_split_69 : decode b_Or_split 69 = .ok (.invokevirtual 116, 3) := by decide +kernel
theorem d_Or_split_72 : decode b_Or_split 72 = .ok (.ifCond .eq 7, 3) := by decide +kernel
theorem d_Or_split_75 : decode b_Or_split 75 = .ok (.iconst 1, 1) := by decide +kernel
theorem d_Or_split_76 : decode b_Or_split 76 = .ok (.goto 4, 3) := by decide +kernel
theorem d_Or_split_79 : decode b_Or_split 79 = .ok (.iconst 0, 1) := by decide +kernel
theorem d_Or_split_80 : decode b_Or_split 80 = .ok (.invokestatic 87, 3) := by decide +kernel
theorem d_Or_split_83 : decode b_Or_split 83 = .ok (.aload_n 0, 1) := by decide +kernel
theorem d_Or_split_84 : decode b_Or_split 84 = .ok (.iload_n 1, 1) := by decide +kernel
theorem d_Or_split_85 : decode b_Or_split 85 = .ok (.iconst 3, 1) := by decide +kernel
theorem d_Or_split_86 : decode b_Or_split 86 = .ok (.aload_n 0, 1) := by decide +kernel
theorem d_Or_split_87 : decode b_Or_split 87 = .ok (.getfield 65, 3) := by decide +kernel
theorem d_Or_split_90 : decode b_Or_split 90 = .ok (.invokevirtual 148, 3) := by decide +kernel
theorem d_Or_split_93 : decode b_Or_split 93 = .ok (.istore 4, 2) := by decide +kernel
theorem d_Or_split_95 : decode b_Or_split 95 = .ok (.iload 4, 2) := by decide +kernel
theorem d_Or_split_97 : decode b_Or_split 97 = .ok (.iload_n 2, 1) := by decide +kernel
theorem d_Or_split_98 : decode b_Or_split 98 = .ok (.invokestatic 157, 3) := by decide +kernel
theorem d_Or_split_101 : decode b_Or_split 101 = .ok (.istore 5, 2) := by decide +kernel
theorem d_Or_split_103 : decode b_Or_split 103 = .ok (.aload_n 0, 1) := by decide +kernel
theorem d_Or_split_104 : decode b_Or_split 104 = .ok (.iload_n 1, 1) := by decide +kernel
theorem d_Or_split_105 : decode b_Or_split 105 = .ok (.invokevirtual 162, 3) := by decide +kernel
theorem d_Or_split_108 : decode b_Or_split 108 = .ok (.istore 6, 2) := by decide +kernel
theorem d_Or_split_110 : decode b_Or_split 110 = .ok (.aload_n 0, 1) := by decide +kernel
theorem d_Or_split_111 : decode b_Or_split 111 = .ok (.getfield 19, 3) := by decide +kernel
theorem d_Or_split_114 : decode b_Or_split 114 = .ok (.iload 6, 2) := by decide +kernel
theorem d_Or_split_116 : decode b_Or_split 116 = .ok (.iconst 3, 1) := by decide +kernel
theorem d_Or_split_117 : decode b_Or_split 117 = .ok (.iload 5, 2) := by decide +kernel
theorem d_Or_split_119 : decode b_Or_split 119 = .ok (.invokevirtual 104, 3) := by decide +kernel
theorem d_Or_split_122 : decode b_Or_split 122 = .ok (.aload_n 0, 1) := by decide +kernel
theorem d_Or_split_123 : decode b_Or_split 123 = .ok (.getfield 19, 3) := by decide +kernel
theorem d_Or_split_126 : decode b_Or_split 126 = .ok (.iload 6, 2) := by decide +kernel
theorem d_Or_split_128 : decode b_Or_split 128 = .ok (.iconst 4, 1) := by decide +kernel
theorem d_Or_split_129 : decode b_Or_split 129 = .ok (.iload_n 2, 1) := by decide +kernel
theorem d_Or_split_130 : decode b_Or_split 130 = .ok (.invokevirtual 104, 3) := by decide +kernel
theorem d_Or_split_133 : decode b_Or_split 133 = .ok (.aload_n 0, 1) := by decide +kernel
theorem d_Or_split_134 : decode b_Or_split 134 = .ok (.getfield 26, 3) := by decide +kernel
theorem d_Or_split_137 : decode b_Or_split 137 = .ok (.iload_n 1, 1) := by decide +kernel
theorem d_Or_split_138 : decode b_Or_split 138 = .ok (.iconst 4, 1) := by decide +kernel
theorem d_Or_split_139 : decode b_Or_split 139 = .ok (.iload_n 3, 1) := by decide +kernel
theorem d_Or_split_140 : decode b_Or_split 140 = .ok (.iload_n 2, 1) := by decide +kernel
theorem d_Or_split_141 : decode b_Or_split 141 = .ok (.isub, 1) := by decide +kernel
theorem d_Or_split_142 : decode b_Or_split 142 = .ok (.aload_n 0, 1) := by decide +kernel
theorem d_Or_split_143 : decode b_Or_split 143 = .ok (.getfield 65, 3) := by decide +kernel
theorem d_Or_split_146 : decode b_Or_split 146 = .ok (.aload_n 0, 1) := by decide +kernel
theorem d_Or_split_147 : decode b_Or_split 147 = .ok (.getfield 65, 3) := by decide +kernel
theorem d_Or_split_150 : decode b_Or_split 150 = .ok (.invokevirtual 120, 3) := by decide +kernel
theorem d_Or_split_153 : decode b_Or_split 153 = .ok (.aload_n 0, 1) := by decide +kernel
theorem d_Or_split_154 : decode b_Or_split 154 = .ok (.getfield 26, 3) := by decide +kernel
theorem d_Or_split_157 : decode b_Or_split 157 = .ok (.iload_n 1, 1) := by decide +kernel
theorem d_Or_split_158 : decode b_Or_split 158 = .ok (.iconst 3, 1) := by decide +kernel
theorem d_Or_split_159 : decode b_Or_split 159 = .ok (.iload 4, 2) := by decide +kernel
theorem d_Or_split_161 : decode b_Or_split 161 = .ok (.iload 5, 2) := by decide +kernel
theorem d_Or_split_163 : decode b_Or_split 163 = .ok (.isub, 1) := by decide +kernel
theorem d_Or_split_164 : decode b_Or_split 164 = .ok (.aload_n 0, 1) := by decide +kernel
theorem d_Or_split_165 : decode b_Or_split 165 = .ok (.getfield 65, 3) := by decide +kernel
theorem d_Or_split_168 : decode b_Or_split 168 = .ok (.aload_n 0, 1) := by decide +kernel
theorem d_Or_split_169 : decode b_Or_split 169 = .ok (.getfield 65, 3) := by decide +kernel
theorem d_Or_split_172 : decode b_Or_split 172 = .ok (.invokevirtual 120, 3) := by decide +kernel
theorem d_Or_split_175 : decode b_Or_split 175 = .ok (.iload 6, 2) := by decide +kernel
theorem d_Or_split_177 : decode b_Or_split 177 = .ok (.ireturn, 1) := by decide +kernel
theorem d_Or_made_0 : decode b_Or_made 0 = .ok (.aload_n 0, 1) := by decide +kernel
theorem d_Or_made_1 : decode b_Or_made 1 = .ok (.getfield 19, 3) := by decide +kernel
theorem d_Or_made_4 : decode b_Or_made 4 = .ok (.iload_n 1, 1) := by decide +kernel
theorem d_Or_made_5 : decode b_Or_made 5 = .ok (.invokevirtual 112, 3) := by decide +kernel
theorem d_Or_made_8 : decode b_Or_made 8 = .ok (.invokestatic 73, 3) := by decide +kernel
theorem d_Or_made_11 : decode b_Or_made 11 = .ok (.iload_n 2, 1) := by decide +kernel
theorem d_Or_made_12 : decode b_Or_made 12 = .ok (.iconst 1, 1) := by decide +kernel
theorem d_Or_made_13 : decode b_Or_made 13 = .ok (.ldc 165, 2) := by decide +kernel
theorem d_Or_made_15 : decode b_Or_made 15 = .ok (.invokestatic 69, 3) := by decide +kernel
theorem d_Or_made_18 : decode b_Or_made 18 = .ok (.invokestatic 81, 3) := by decide +kernel
theorem d_Or_made_21 : decode b_Or_made 21 = .ok (.aload_n 0, 1) := by decide +kernel
theorem d_Or_made_22 : decode b_Or_made 22 = .ok (.getfield 33, 3) := by decide +kernel
theorem d_Or_made_25 : decode b_Or_made 25 = .ok (.getfield 129, 3) := by decide +kernel
theorem d_Or_made_28 : decode b_Or_made 28 = .ok (.iload_n 1, 1) := by decide +kernel
theorem d_Or_made_29 : decode b_Or_made 29 = .ok (.iaload, 1) := by decide +kernel
theorem d_Or_made_30 : decode b_Or_made 30 = .ok (.ldc 166, 2) := by decide +kernel
theorem d_Or_made_32 : decode b_Or_made 32 = .ok (.iload_n 2, 1) := by decide +kernel
theorem d_Or_made_33 : decode b_Or_made 33 = .ok (.isub, 1) := by decide +kernel
theorem d_Or_made_34 : decode b_Or_made 34 = .ok (.if_icmp .gt 20, 3) := by decide +kernel
theorem d_Or_made_37 : decode b_Or_made 37 = .ok (.aload_n 0, 1) := by decide +kernel
theorem d_Or_made_38 : decode b_Or_made 38 = .ok (.getfield 33, 3) := by decide +kernel
theorem d_Or_made_41 : decode b_Or_made 41 = .ok (.getfield 167, 3) := by decide +kernel
theorem d_Or_made_44 : decode b_Or_made 44 = .ok (.sipush 200, 3) := by decide +kernel
theorem d_Or_made_47 : decode b_Or_made 47 = .ok (.if_icmp .ge 7, 3) := by decide +kernel
theorem d_Or_made_50 : decode b_Or_made 50 = .ok (.iconst 1, 1) := by decide +kernel
theorem d_Or_made_51 : decode b_Or_made 51 = .ok (.goto 4, 3) := by decide +kernel
theorem d_Or_made_54 : decode b_Or_made 54 = .ok (.iconst 0, 1) := by decide +kernel
theorem d_Or_made_55 : decode b_Or_made 55 = .ok (.invokestatic 87, 3) := by decide +kernel
theorem d_Or_made_58 : decode b_Or_made 58 = .ok (.aload_n 0, 1) := by decide +kernel
theorem d_Or_made_59 : decode b_Or_made 59 = .ok (.getfield 33, 3) := by decide +kernel
theorem d_Or_made_62 : decode b_Or_made 62 = .ok (.iload_n 1, 1) := by decide +kernel
theorem d_Or_made_63 : decode b_Or_made 63 = .ok (.aload_n 0, 1) := by decide +kernel
theorem d_Or_made_64 : decode b_Or_made 64 = .ok (.getfield 65, 3) := by decide +kernel
theorem d_Or_made_67 : decode b_Or_made 67 = .ok (.iload_n 2, 1) := by decide +kernel
theorem d_Or_made_68 : decode b_Or_made 68 = .ok (.invokevirtual 168, 3) := by decide +kernel
theorem d_Or_made_71 : decode b_Or_made 71 = .ok (.aload_n 0, 1) := by decide +kernel
theorem d_Or_made_72 : decode b_Or_made 72 = .ok (.getfield 33, 3) := by decide +kernel
theorem d_Or_made_75 : decode b_Or_made 75 = .ok (.getfield 129, 3) := by decide +kernel
theorem d_Or_made_78 : decode b_Or_made 78 = .ok (.iload_n 1, 1) := by decide +kernel
theorem d_Or_made_79 : decode b_Or_made 79 = .ok (.iaload, 1) := by decide +kernel
theorem d_Or_made_80 : decode b_Or_made 80 = .ok (.ireturn, 1) := by decide +kernel
theorem d_Or_stateOn_0 : decode b_Or_stateOn 0 = .ok (.aload_n 0, 1) := by decide +kernel
theorem d_Or_stateOn_1 : decode b_Or_stateOn 1 = .ok (.getfield 33, 3) := by decide +kernel
theorem d_Or_stateOn_4 : decode b_Or_stateOn 4 = .ok (.iload_n 1, 1) := by decide +kernel
theorem d_Or_stateOn_5 : decode b_Or_stateOn 5 = .ok (.iload_n 2, 1) := by decide +kernel
theorem d_Or_stateOn_6 : decode b_Or_stateOn 6 = .ok (.invokevirtual 275, 3) := by decide +kernel
theorem d_Or_stateOn_9 : decode b_Or_stateOn 9 = .ok (.istore_n 3, 1) := by decide +kernel
theorem d_Or_stateOn_10 : decode b_Or_stateOn 10 = .ok (.iload_n 3, 1) := by decide +kernel
theorem d_Or_stateOn_11 : decode b_Or_stateOn 11 = .ok (.aload_n 0, 1) := by decide +kernel
theorem d_Or_stateOn_12 : decode b_Or_stateOn 12 = .ok (.iload_n 1, 1) := by decide +kernel
theorem d_Or_stateOn_13 : decode b_Or_stateOn 13 = .ok (.iconst 4, 1) := by decide +kernel
theorem d_Or_stateOn_14 : decode b_Or_stateOn 14 = .ok (.iload_n 2, 1) := by decide +kernel
theorem d_Or_stateOn_15 : decode b_Or_stateOn 15 = .ok (.invokevirtual 148, 3) := by decide +kernel
theorem d_Or_stateOn_18 : decode b_Or_stateOn 18 = .ok (.if_icmp .le 5, 3) := by decide +kernel
theorem d_Or_stateOn_21 : decode b_Or_stateOn 21 = .ok (.iconst 3, 1) := by decide +kernel
theorem d_Or_stateOn_22 : decode b_Or_stateOn 22 = .ok (.ireturn, 1) := by decide +kernel
theorem d_Or_stateOn_23 : decode b_Or_stateOn 23 = .ok (.iload_n 3, 1) := by decide +kernel
theorem d_Or_stateOn_24 : decode b_Or_stateOn 24 = .ok (.aload_n 0, 1) := by decide +kernel
theorem d_Or_stateOn_25 : decode b_Or_stateOn 25 = .ok (.iload_n 1, 1) := by decide +kernel
theorem d_Or_stateOn_26 : decode b_Or_stateOn 26 = .ok (.iconst 3, 1) := by decide +kernel
theorem d_Or_stateOn_27 : decode b_Or_stateOn 27 = .ok (.iload_n 2, 1) := by decide +kernel
theorem d_Or_stateOn_28 : decode b_Or_stateOn 28 = .ok (.invokevirtual 148, 3) := by decide +kernel
theorem d_Or_stateOn_31 : decode b_Or_stateOn 31 = .ok (.if_icmp .lt 5, 3) := by decide +kernel
theorem d_Or_stateOn_34 : decode b_Or_stateOn 34 = .ok (.iconst 2, 1) := by decide +kernel
theorem d_Or_stateOn_35 : decode b_Or_stateOn 35 = .ok (.ireturn, 1) := by decide +kernel
theorem d_Or_stateOn_36 : decode b_Or_stateOn 36 = .ok (.iload_n 2, 1) := by decide +kernel
theorem d_Or_stateOn_37 : decode b_Or_stateOn 37 = .ok (.aload_n 0, 1) := by decide +kernel
theorem d_Or_stateOn_38 : decode b_Or_stateOn 38 = .ok (.iload_n 1, 1) := by decide +kernel
theorem d_Or_stateOn_39 : decode b_Or_stateOn 39 = .ok (.iconst 5, 1) := by decide +kernel
theorem d_Or_stateOn_40 : decode b_Or_stateOn 40 = .ok (.iload_n 2, 1) := by decide +kernel
theorem d_Or_stateOn_41 : decode b_Or_stateOn 41 = .ok (.invokevirtual 148, 3) := by decide +kernel
theorem d_Or_stateOn_44 : decode b_Or_stateOn 44 = .ok (.if_icmp .gt 7, 3) := by decide +kernel
theorem d_Or_stateOn_47 : decode b_Or_stateOn 47 = .ok (.iconst 0, 1) := by decide +kernel
theorem d_Or_stateOn_48 : decode b_Or_stateOn 48 = .ok (.goto 4, 3) := by decide +kernel
theorem d_Or_stateOn_51 : decode b_Or_stateOn 51 = .ok (.iconst 1, 1) := by decide +kernel
theorem d_Or_stateOn_52 : decode b_Or_stateOn 52 = .ok (.ireturn, 1) := by decide +kernel
theorem d_Or_state_0 : decode b_Or_state 0 = .ok (.aload_n 0, 1) := by decide +kernel
theorem d_Or_state_1 : decode b_Or_state 1 = .ok (.getfield 19, 3) := by decide +kernel
theorem d_Or_state_4 : decode b_Or_state 4 = .ok (.iload_n 1, 1) := by decide +kernel
theorem d_Or_state_5 : decode b_Or_state 5 = .ok (.invokevirtual 112, 3) := by decide +kernel
theorem d_Or_state_8 : decode b_Or_state 8 = .ok (.invokestatic 73, 3) := by decide +kernel
theorem d_Or_state_11 : decode b_Or_state 11 = .ok (.iload_n 2, 1) := by decide +kernel
theorem d_Or_state_12 : decode b_Or_state 12 = .ok (.invokestatic 141, 3) := by decide +kernel
theorem d_Or_state_15 : decode b_Or_state 15 = .ok (.invokestatic 81, 3) := by decide +kernel
theorem d_Or_state_18 : decode b_Or_state 18 = .ok (.aload_n 0, 1) := by decide +kernel
theorem d_Or_state_19 : decode b_Or_state 19 = .ok (.iload_n 1, 1) := by decide +kernel
theorem d_Or_state_20 : decode b_Or_state 20 = .ok (.iload_n 2, 1) := by decide +kernel
theorem d_Or_state_21 : decode b_Or_state 21 = .ok (.invokevirtual 170, 3) := by decide +kernel
theorem d_Or_state_24 : decode b_Or_state 24 = .ok (.ireturn, 1) := by decide +kernel
theorem d_Or_rest_0 : decode b_Or_rest 0 = .ok (.aload_n 0, 1) := by decide +kernel
theorem d_Or_rest_1 : decode b_Or_rest 1 = .ok (.getfield 19, 3) := by decide +kernel
theorem d_Or_rest_4 : decode b_Or_rest 4 = .ok (.iload_n 1, 1) := by decide +kernel
theorem d_Or_rest_5 : decode b_Or_rest 5 = .ok (.invokevirtual 112, 3) := by decide +kernel
theorem d_Or_rest_8 : decode b_Or_rest 8 = .ok (.invokestatic 73, 3) := by decide +kernel
theorem d_Or_rest_11 : decode b_Or_rest 11 = .ok (.iconst 0, 1) := by decide +kernel
theorem d_Or_rest_12 : decode b_Or_rest 12 = .ok (.aload_n 0, 1) := by decide +kernel
theorem d_Or_rest_13 : decode b_Or_rest 13 = .ok (.iload_n 1, 1) := by decide +kernel
theorem d_Or_rest_14 : decode b_Or_rest 14 = .ok (.iconst 3, 1) := by decide +kernel
theorem d_Or_rest_15 : decode b_Or_rest 15 = .ok (.aload_n 0, 1) := by decide +kernel
theorem d_Or_rest_16 : decode b_Or_rest 16 = .ok (.getfield 65, 3) := by decide +kernel
theorem d_Or_rest_19 : decode b_Or_rest 19 = .ok (.invokevirtual 148, 3) := by decide +kernel
theorem d_Or_rest_22 : decode b_Or_rest 22 = .ok (.aload_n 0, 1) := by decide +kernel
theorem d_Or_rest_23 : decode b_Or_rest 23 = .ok (.getfield 33, 3) := by decide +kernel
theorem d_Or_rest_26 : decode b_Or_rest 26 = .ok (.getfield 129, 3) := by decide +kernel
theorem d_Or_rest_29 : decode b_Or_rest 29 = .ok (.iload_n 1, 1) := by decide +kernel
theorem d_Or_rest_30 : decode b_Or_rest 30 = .ok (.iaload, 1) := by decide +kernel
theorem d_Or_rest_31 : decode b_Or_rest 31 = .ok (.isub, 1) := by decide +kernel
theorem d_Or_rest_32 : decode b_Or_rest 32 = .ok (.invokestatic 173, 3) := by decide +kernel
theorem d_Or_rest_35 : decode b_Or_rest 35 = .ok (.ireturn, 1) := by decide +kernel
theorem d_Or_isRate_0 : decode b_Or_isRate 0 = .ok (.iload_n 0, 1) := by decide +kernel
theorem d_Or_isRate_1 : decode b_Or_isRate 1 = .ok (.iconst 0, 1) := by decide +kernel
theorem d_Or_isRate_2 : decode b_Or_isRate 2 = .ok (.ldc_w 268, 3) := by decide +kernel
theorem d_Or_isRate_5 : decode b_Or_isRate 5 = .ok (.invokestatic 69, 3) := by decide +kernel
theorem d_Or_isRate_8 : decode b_Or_isRate 8 = .ok (.ireturn, 1) := by decide +kernel
theorem d_Or_costs_0 : decode b_Or_costs 0 = .ok (.iload_n 1, 1) := by decide +kernel
theorem d_Or_costs_1 : decode b_Or_costs 1 = .ok (.invokestatic 176, 3) := by decide +kernel
theorem d_Or_costs_4 : decode b_Or_costs 4 = .ok (.ifCond .eq 21, 3) := by decide +kernel
theorem d_Or_costs_7 : decode b_Or_costs 7 = .ok (.iload_n 2, 1) := by decide +kernel
theorem d_Or_costs_8 : decode b_Or_costs 8 = .ok (.invokestatic 176, 3) := by decide +kernel
theorem d_Or_costs_11 : decode b_Or_costs 11 = .ok (.ifCond .eq 14, 3) := by decide +kernel
theorem d_Or_costs_14 : decode b_Or_costs 14 = .ok (.iload_n 3, 1) := by decide +kernel
theorem d_Or_costs_15 : decode b_Or_costs 15 = .ok (.invokestatic 176, 3) := by decide +kernel
theorem d_Or_costs_18 : decode b_Or_costs 18 = .ok (.ifCond .eq 7, 3) := by decide +kernel
theorem d_Or_costs_21 : decode b_Or_costs 21 = .ok (.iconst 1, 1) := by decide +kernel
theorem d_Or_costs_22 : decode b_Or_costs 22 = .ok (.goto 4, 3) := by decide +kernel
theorem d_Or_costs_25 : decode b_Or_costs 25 = .ok (.iconst 0, 1) := by decide +kernel
theorem d_Or_costs_26 : decode b_Or_costs 26 = .ok (.invokestatic 81, 3) := by decide +kernel
theorem d_Or_costs_29 : decode b_Or_costs 29 = .ok (.aload_n 0, 1) := by decide +kernel
theorem d_Or_costs_30 : decode b_Or_costs 30 = .ok (.getfield 40, 3) := by decide +kernel
theorem d_Or_costs_33 : decode b_Or_costs 33 = .ok (.iload_n 1, 1) := by decide +kernel
theorem d_Or_costs_34 : decode b_Or_costs 34 = .ok (.iload_n 2, 1) := by decide +kernel
theorem d_Or_costs_35 : decode b_Or_costs 35 = .ok (.iload_n 3, 1) := by decide +kernel
theorem d_Or_costs_36 : decode b_Or_costs 36 = .ok (.invokevirtual 179, 3) := by decide +kernel
theorem d_Or_costs_39 : decode b_Or_costs 39 = .ok (.return_, 1) := by decide +kernel
theorem d_Or_quote_0 : decode b_Or_quote 0 = .ok (.aload_n 0, 1) := by decide +kernel
theorem d_Or_quote_1 : decode b_Or_quote 1 = .ok (.getfield 19, 3) := by decide +kernel
theorem d_Or_quote_4 : decode b_Or_quote 4 = .ok (.iload_n 1, 1) := by decide +kernel
theorem d_Or_quote_5 : decode b_Or_quote 5 = .ok (.invokevirtual 112, 3) := by decide +kernel
theorem d_Or_quote_8 : decode b_Or_quote 8 = .ok (.invokestatic 73, 3) := by decide +kernel
theorem d_Or_quote_11 : decode b_Or_quote 11 = .ok (.aload_n 0, 1) := by decide +kernel
theorem d_Or_quote_12 : decode b_Or_quote 12 = .ok (.iload_n 2, 1) := by decide +kernel
theorem d_Or_quote_13 : decode b_Or_quote 13 = .ok (.invokevirtual 77, 3) := by decide +kernel
theorem d_Or_quote_16 : decode b_Or_quote 16 = .ok (.invokestatic 81, 3) := by decide +kernel
theorem d_Or_quote_19 : decode b_Or_quote 19 = .ok (.aload_n 0, 1) := by decide +kernel
theorem d_Or_quote_20 : decode b_Or_quote 20 = .ok (.getfield 47, 3) := by decide +kernel
theorem d_Or_quote_23 : decode b_Or_quote 23 = .ok (.getfield 182, 3) := by decide +kernel
theorem d_Or_quote_26 : decode b_Or_quote 26 = .ok (.bipush 60, 2) := by decide +kernel
theorem d_Or_quote_28 : decode b_Or_quote 28 = .ok (.if_icmp .ge 7, 3) := by decide +kernel
theorem d_Or_quote_31 : decode b_Or_quote 31 = .ok (.iconst 1, 1) := by decide +kernel
theorem d_Or_quote_32 : decode b_Or_quote 32 = .ok (.goto 4, 3) := by decide +kernel
theorem d_Or_quote_35 : decode b_Or_quote 35 = .ok (.iconst 0, 1) := by decide +kernel
theorem d_Or_quote_36 : decode b_Or_quote 36 = .ok (.invokestatic 87, 3) := by decide +kernel
theorem d_Or_quote_39 : decode b_Or_quote 39 = .ok (.aload_n 0, 1) := by decide +kernel
theorem d_Or_quote_40 : decode b_Or_quote 40 = .ok (.getfield 40, 3) := by decide +kernel
theorem d_Or_quote_43 : decode b_Or_quote 43 = .ok (.aload_n 0, 1) := by decide +kernel
theorem d_Or_quote_44 : decode b_Or_quote 44 = .ok (.iload_n 1, 1) := by decide +kernel
theorem d_Or_quote_45 : decode b_Or_quote 45 = .ok (.iconst 4, 1) := by decide +kernel
theorem d_Or_quote_46 : decode b_Or_quote 46 = .ok (.aload_n 0, 1) := by decide +kernel
theorem d_Or_quote_47 : decode b_Or_quote 47 = .ok (.getfield 65, 3) := by decide +kernel
theorem d_Or_quote_50 : decode b_Or_quote 50 = .ok (.invokevirtual 148, 3) := by decide +kernel
theorem d_Or_quote_53 : decode b_Or_quote 53 = .ok (.aload_n 0, 1) := by decide +kernel
theorem d_Or_quote_54 : decode b_Or_quote 54 = .ok (.iload_n 1, 1) := by decide +kernel
theorem d_Or_quote_55 : decode b_Or_quote 55 = .ok (.iconst 1, 1) := by decide +kernel
theorem d_Or_quote_56 : decode b_Or_quote 56 = .ok (.aload_n 0, 1) := by decide +kernel
theorem d_Or_quote_57 : decode b_Or_quote 57 = .ok (.getfield 65, 3) := by decide +kernel
theorem d_Or_quote_60 : decode b_Or_quote 60 = .ok (.invokevirtual 148, 3) := by decide +kernel
theorem d_Or_quote_63 : decode b_Or_quote 63 = .ok (.invokevirtual 183, 3) := by decide +kernel
theorem d_Or_quote_66 : decode b_Or_quote 66 = .ok (.lstore_n 3, 1) := by decide +kernel
theorem d_Or_quote_67 : decode b_Or_quote 67 = .ok (.aload_n 0, 1) := by decide +kernel
theorem d_Or_quote_68 : decode b_Or_quote 68 = .ok (.getfield 47, 3) := by decide +kernel
theorem d_Or_quote_71 : decode b_Or_quote 71 = .ok (.iload_n 1, 1) := by decide +kernel
theorem d_Or_quote_72 : decode b_Or_quote 72 = .ok (.iload_n 2, 1) := by decide +kernel
theorem d_Or_quote_73 : decode b_Or_quote 73 = .ok (.lload_n 3, 1) := by decide +kernel
theorem d_Or_quote_74 : decode b_Or_quote 74 = .ok (.invokevirtual 187, 3) := by decide +kernel
theorem d_Or_quote_77 : decode b_Or_quote 77 = .ok (.ireturn, 1) := by decide +kernel
theorem d_Or_quoteAt_0 : decode b_Or_quoteAt 0 = .ok (.aload_n 0, 1) := by decide +kernel
theorem d_Or_quoteAt_1 : decode b_Or_quoteAt 1 = .ok (.getfield 47, 3) := by decide +kernel
theorem d_Or_quoteAt_4 : decode b_Or_quoteAt 4 = .ok (.iload_n 1, 1) := by decide +kernel
theorem d_Or_quoteAt_5 : decode b_Or_quoteAt 5 = .ok (.invokevirtual 190, 3) := by decide +kernel
theorem d_Or_quoteAt_8 : decode b_Or_quoteAt 8 = .ok (.ifCond .eq 16, 3) := by decide +kernel
theorem d_Or_quoteAt_11 : decode b_Or_quoteAt 11 = .ok (.iload_n 2, 1) := by decide +kernel
theorem d_Or_quoteAt_12 : decode b_Or_quoteAt 12 = .ok (.iconst 0, 1) := by decide +kernel
theorem d_Or_quoteAt_13 : decode b_Or_quoteAt 13 = .ok (.iconst 2, 1) := by decide +kernel
theorem d_Or_quoteAt_14 : decode b_Or_quoteAt 14 = .ok (.invokestatic 69, 3) := by decide +kernel
theorem d_Or_quoteAt_17 : decode b_Or_quoteAt 17 = .ok (.ifCond .eq 7, 3) := by decide +kernel
theorem d_Or_quoteAt_20 : decode b_Or_quoteAt 20 = .ok (.iconst 1, 1) := by decide +kernel
theorem d_Or_quoteAt_21 : decode b_Or_quoteAt 21 = .ok (.goto 4, 3) := by decide +kernel
theorem d_Or_quoteAt_24 : decode b_Or_quoteAt 24 = .ok (.iconst 0, 1) := by decide +kernel
theorem d_Or_quoteAt_25 : decode b_Or_quoteAt 25 = .ok (.invokestatic 73, 3) := by decide +kernel
theorem d_Or_quoteAt_28 : decode b_Or_quoteAt 28 = .ok (.aload_n 0, 1) := by decide +kernel
theorem d_Or_quoteAt_29 : decode b_Or_quoteAt 29 = .ok (.getfield 47, 3) := by decide +kernel
theorem d_Or_quoteAt_32 : decode b_Or_quoteAt 32 = .ok (.iload_n 1, 1) := by decide +kernel
theorem d_Or_quoteAt_33 : decode b_Or_quoteAt 33 = .ok (.iload_n 2, 1) := by decide +kernel
theorem d_Or_quoteAt_34 : decode b_Or_quoteAt 34 = .ok (.invokevirtual 191, 3) := by decide +kernel
theorem d_Or_quoteAt_37 : decode b_Or_quoteAt 37 = .ok (.ireturn, 1) := by decide +kernel
theorem d_Or_price_0 : decode b_Or_price 0 = .ok (.aload_n 0, 1) := by decide +kernel
theorem d_Or_price_1 : decode b_Or_price 1 = .ok (.getfield 47, 3) := by decide +kernel
theorem d_Or_price_4 : decode b_Or_price 4 = .ok (.iload_n 1, 1) := by decide +kernel
theorem d_Or_price_5 : decode b_Or_price 5 = .ok (.invokevirtual 190, 3) := by decide +kernel
theorem d_Or_price_8 : decode b_Or_price 8 = .ok (.invokestatic 73, 3) := by decide +kernel
theorem d_Or_price_11 : decode b_Or_price 11 = .ok (.aload_n 0, 1) := by decide +kernel
theorem d_Or_price_12 : decode b_Or_price 12 = .ok (.getfield 47, 3) := by decide +kernel
theorem d_Or_price_15 : decode b_Or_price 15 = .ok (.getfield 193, 3) := by decide +kernel
theorem d_Or_price_18 : decode b_Or_price 18 = .ok (.iload_n 1, 1) := by decide +kernel
theorem d_Or_price_19 : decode b_Or_price 19 = .ok (.laload, 1) := by decide +kernel
theorem d_Or_price_20 : decode b_Or_price 20 = .ok (.lreturn, 1) := by decide +kernel
theorem d_Or_credit_0 : decode b_Or_credit 0 = .ok (.iload_n 1, 1) := by decide +kernel
theorem d_Or_credit_1 : decode b_Or_credit 1 = .ok (.iconst 0, 1) := by decide +kernel
theorem d_Or_credit_2 : decode b_Or_credit 2 = .ok (.bipush 9, 2) := by decide +kernel
theorem d_Or_credit_4 : decode b_Or_credit 4 = .ok (.invokestatic 69, 3) := by decide +kernel
theorem d_Or_credit_7 : decode b_Or_credit 7 = .ok (.invokestatic 73, 3) := by decide +kernel
theorem d_Or_credit_10 : decode b_Or_credit 10 = .ok (.iload_n 2, 1) := by decide +kernel
theorem d_Or_credit_11 : decode b_Or_credit 11 = .ok (.iconst 0, 1) := by decide +kernel
theorem d_Or_credit_12 : decode b_Or_credit 12 = .ok (.ldc 197, 2) := by decide +kernel
theorem d_Or_credit_14 : decode b_Or_credit 14 = .ok (.invokestatic 69, 3) := by decide +kernel
theorem d_Or_credit_17 : decode b_Or_credit 17 = .ok (.invokestatic 81, 3) := by decide +kernel
theorem d_Or_credit_20 : decode b_Or_credit 20 = .ok (.aload_n 0, 1) := by decide +kernel
theorem d_Or_credit_21 : decode b_Or_credit 21 = .ok (.getfield 54, 3) := by decide +kernel
theorem d_Or_credit_24 : decode b_Or_credit 24 = .ok (.getfield 198, 3) := by decide +kernel
theorem d_Or_credit_27 : decode b_Or_credit 27 = .ok (.iload_n 1, 1) := by decide +kernel
theorem d_Or_credit_28 : decode b_Or_credit 28 = .ok (.iload_n 2, 1) := by decide +kernel
theorem d_Or_credit_29 : decode b_Or_credit 29 = .ok (.iastore, 1) := by decide +kernel
theorem d_Or_credit_30 : decode b_Or_credit 30 = .ok (.return_, 1) := by decide +kernel
theorem d_Or_accept_0 : decode b_Or_accept 0 = .ok (.aload_n 0, 1) := by decide +kernel
theorem d_Or_accept_1 : decode b_Or_accept 1 = .ok (.getfield 47, 3) := by decide +kernel
theorem d_Or_accept_4 : decode b_Or_accept 4 = .ok (.iload_n 1, 1) := by decide +kernel
theorem d_Or_accept_5 : decode b_Or_accept 5 = .ok (.invokevirtual 190, 3) := by decide +kernel
theorem d_Or_accept_8 : decode b_Or_accept 8 = .ok (.invokestatic 73, 3) := by decide +kernel
theorem d_Or_accept_11 : decode b_Or_accept 11 = .ok (.aload_n 0, 1) := by decide +kernel
theorem d_Or_accept_12 : decode b_Or_accept 12 = .ok (.getfield 47, 3) := by decide +kernel
theorem d_Or_accept_15 : decode b_Or_accept 15 = .ok (.getfield 201, 3) := by decide +kernel
theorem d_Or_accept_18 : decode b_Or_accept 18 = .ok (.iload_n 1, 1) := by decide +kernel
theorem d_Or_accept_19 : decode b_Or_accept 19 = .ok (.baload, 1) := by decide +kernel
theorem d_Or_accept_20 : decode b_Or_accept 20 = .ok (.ifCond .ne 23, 3) := by decide +kernel
theorem d_Or_accept_23 : decode b_Or_accept 23 = .ok (.aload_n 0, 1) := by decide +kernel
theorem d_Or_accept_24 : decode b_Or_accept 24 = .ok (.getfield 47, 3) := by decide +kernel
theorem d_Or_accept_27 : decode b_Or_accept 27 = .ok (.getfield 205, 3) := by decide +kernel
theorem d_Or_accept_30 : decode b_Or_accept 30 = .ok (.iload_n 1, 1) := by decide +kernel
theorem d_Or_accept_31 : decode b_Or_accept 31 = .ok (.iaload, 1) := by decide +kernel
theorem d_Or_accept_32 : decode b_Or_accept 32 = .ok (.aload_n 0, 1) := by decide +kernel
theorem d_Or_accept_33 : decode b_Or_accept 33 = .ok (.getfield 65, 3) := by decide +kernel
theorem d_Or_accept_36 : decode b_Or_accept 36 = .ok (.if_icmp .lt 7, 3) := by decide +kernel
theorem d_Or_accept_39 : decode b_Or_accept 39 = .ok (.iconst 1, 1) := by decide +kernel
theorem d_Or_accept_40 : decode b_Or_accept 40 = .ok (.goto 4, 3) := by decide +kernel
theorem d_Or_accept_43 : decode b_Or_accept 43 = .ok (.iconst 0, 1) := by decide +kernel
theorem d_Or_accept_44 : decode b_Or_accept 44 = .ok (.invokestatic 135, 3) := by decide +kernel
theorem d_Or_accept_47 : decode b_Or_accept 47 = .ok (.aload_n 0, 1) := by decide +kernel
theorem d_Or_accept_48 : decode b_Or_accept 48 = .ok (.getfield 10, 3) := by decide +kernel
theorem d_Or_accept_51 : decode b_Or_accept 51 = .ok (.getfield 208, 3) := by decide +kernel
theorem d_Or_accept_54 : decode b_Or_accept 54 = .ok (.aload_n 0, 1) := by decide +kernel
theorem d_Or_accept_55 : decode b_Or_accept 55 = .ok (.getfield 19, 3) := by decide +kernel
theorem d_Or_accept_58 : decode b_Or_accept 58 = .ok (.getfield 211, 3) := by decide +kernel
theorem d_Or_accept_61 : decode b_Or_accept 61 = .ok (.aload_n 0, 1) := by decide +kernel
theorem d_Or_accept_62 : decode b_Or_accept 62 = .ok (.getfield 47, 3) := by decide +kernel
theorem d_Or_accept_65 : decode b_Or_accept 65 = .ok (.getfield 214, 3) := by decide +kernel
theorem d_Or_accept_68 : decode b_Or_accept 68 = .ok (.iload_n 1, 1) := by decide +kernel
theorem d_Or_accept_69 : decode b_Or_accept 69 = .ok (.iaload, 1) := by decide +kernel
theorem d_Or_accept_70 : decode b_Or_accept 70 = .ok (.iaload, 1) := by decide +kernel
theorem d_Or_accept_71 : decode b_Or_accept 71 = .ok (.iaload, 1) := by decide +kernel
theorem d_Or_accept_72 : decode b_Or_accept 72 = .ok (.istore_n 2, 1) := by decide +kernel
theorem d_Or_accept_73 : decode b_Or_accept 73 = .ok (.aload_n 0, 1) := by decide +kernel
theorem d_Or_accept_74 : decode b_Or_accept 74 = .ok (.getfield 54, 3) := by decide +kernel
theorem d_Or_accept_77 : decode b_Or_accept 77 = .ok (.getfield 217, 3) := by decide +kernel
theorem d_Or_accept_80 : decode b_Or_accept 80 = .ok (.iload_n 2, 1) := by decide +kernel
theorem d_Or_accept_81 : decode b_Or_accept 81 = .ok (.laload, 1) := by decide +kernel
theorem d_Or_accept_82 : decode b_Or_accept 82 = .ok (.aload_n 0, 1) := by decide +kernel
theorem d_Or_accept_83 : decode b_Or_accept 83 = .ok (.getfield 47, 3) := by decide +kernel
theorem d_Or_accept_86 : decode b_Or_accept 86 = .ok (.getfield 193, 3) := by decide +kernel
theorem d_Or_accept_89 : decode b_Or_accept 89 = .ok (.iload_n 1, 1) := by decide +kernel
theorem d_Or_accept_90 : decode b_Or_accept 90 = .ok (.laload, 1) := by decide +kernel
theorem d_Or_accept_91 : decode b_Or_accept 91 = .ok (.ladd, 1) := by decide +kernel
theorem d_Or_accept_92 : decode b_Or_accept 92 = .ok (.lstore_n 3, 1) := by decide +kernel
theorem d_Or_accept_93 : decode b_Or_accept 93 = .ok (.lload_n 3, 1) := by decide +kernel
theorem d_Or_accept_94 : decode b_Or_accept 94 = .ok (.aload_n 0, 1) := by decide +kernel
theorem d_Or_accept_95 : decode b_Or_accept 95 = .ok (.getfield 54, 3) := by decide +kernel
theorem d_Or_accept_98 : decode b_Or_accept 98 = .ok (.getfield 198, 3) := by decide +kernel
theorem d_Or_accept_101 : decode b_Or_accept 101 = .ok (.iload_n 2, 1) := by decide +kernel
theorem d_Or_accept_102 : decode b_Or_accept 102 = .ok (.iaload, 1) := by decide +kernel
theorem d_Or_accept_103 : decode b_Or_accept 103 = .ok (.i2l, 1) := by decide +kernel
theorem d_Or_accept_104 : decode b_Or_accept 104 = .ok (.lcmp, 1) := by decide +kernel
theorem d_Or_accept_105 : decode b_Or_accept 105 = .ok (.ifCond .gt 7, 3) := by decide +kernel
theorem d_Or_accept_108 : decode b_Or_accept 108 = .ok (.iconst 1, 1) := by decide +kernel
theorem d_Or_accept_109 : decode b_Or_accept 109 = .ok (.goto 4, 3) := by decide +kernel
theorem d_Or_accept_112 : decode b_Or_accept 112 = .ok (.iconst 0, 1) := by decide +kernel
theorem d_Or_accept_113 : decode b_Or_accept 113 = .ok (.invokestatic 87, 3) := by decide +kernel
theorem d_Or_accept_116 : decode b_Or_accept 116 = .ok (.aload_n 0, 1) := by decide +kernel
theorem d_Or_accept_117 : decode b_Or_accept 117 = .ok (.getfield 47, 3) := by decide +kernel
theorem d_Or_accept_120 : decode b_Or_accept 120 = .ok (.getfield 201, 3) := by decide +kernel
theorem d_Or_accept_123 : decode b_Or_accept 123 = .ok (.iload_n 1, 1) := by decide +kernel
theorem d_Or_accept_124 : decode b_Or_accept 124 = .ok (.iconst 1, 1) := by decide +kernel
theorem d_Or_accept_125 : decode b_Or_accept 125 = .ok (.bastore, 1) := by decide +kernel
theorem d_Or_accept_126 : decode b_Or_accept 126 = .ok (.aload_n 0, 1) := by decide +kernel
theorem d_Or_accept_127 : decode b_Or_accept 127 = .ok (.getfield 54, 3) := by decide +kernel
theorem d_Or_accept_130 : decode b_Or_accept 130 = .ok (.getfield 217, 3) := by decide +kernel
theorem d_Or_accept_133 : decode b_Or_accept 133 = .ok (.iload_n 2, 1) := by decide +kernel
theorem d_Or_accept_134 : decode b_Or_accept 134 = .ok (.lload_n 3, 1) := by decide +kernel
theorem d_Or_accept_135 : decode b_Or_accept 135 = .ok (.lastore, 1) := by decide +kernel
theorem d_Or_accept_136 : decode b_Or_accept 136 = .ok (.lload_n 3, 1) := by decide +kernel
theorem d_Or_accept_137 : decode b_Or_accept 137 = .ok (.lreturn, 1) := by decide +kernel
theorem d_Or_capacity_0 : decode b_Or_capacity 0 = .ok (.iload_n 1, 1) := by decide +kernel
theorem d_Or_capacity_1 : decode b_Or_capacity 1 = .ok (.iconst 0, 1) := by decide +kernel
theorem d_Or_capacity_2 : decode b_Or_capacity 2 = .ok (.ldc 220, 2) := by decide +kernel
theorem d_Or_capacity_4 : decode b_Or_capacity 4 = .ok (.invokestatic 69, 3) := by decide +kernel
theorem d_Or_capacity_7 : decode b_Or_capacity 7 = .ok (.invokestatic 81, 3) := by decide +kernel
theorem d_Or_capacity_10 : decode b_Or_capacity 10 = .ok (.aload_n 0, 1) := by decide +kernel
theorem d_Or_capacity_11 : decode b_Or_capacity 11 = .ok (.getfield 61, 3) := by decide +kernel
theorem d_Or_capacity_14 : decode b_Or_capacity 14 = .ok (.iload_n 1, 1) := by decide +kernel
theorem d_Or_capacity_15 : decode b_Or_capacity 15 = .ok (.invokevirtual 221, 3) := by decide +kernel
theorem d_Or_capacity_18 : decode b_Or_capacity 18 = .ok (.invokestatic 87, 3) := by decide +kernel
theorem d_Or_capacity_21 : decode b_Or_capacity 21 = .ok (.aload_n 0, 1) := by decide +kernel
theorem d_Or_capacity_22 : decode b_Or_capacity 22 = .ok (.getfield 61, 3) := by decide +kernel
theorem d_Or_capacity_25 : decode b_Or_capacity 25 = .ok (.iload_n 1, 1) := by decide +kernel
theorem d_Or_capacity_26 : decode b_Or_capacity 26 = .ok (.putfield 224, 3) := by decide +kernel
theorem d_Or_capacity_29 : decode b_Or_capacity 29 = .ok (.return_, 1) := by decide +kernel
theorem d_Or_reserve_0 : decode b_Or_reserve 0 = .ok (.aload_n 0, 1) := by decide +kernel
theorem d_Or_reserve_1 : decode b_Or_reserve 1 = .ok (.getfield 19, 3) := by decide +kernel
theorem d_Or_reserve_4 : decode b_Or_reserve 4 = .ok (.iload_n 1, 1) := by decide +kernel
theorem d_Or_reserve_5 : decode b_Or_reserve 5 = .ok (.invokevirtual 112, 3) := by decide +kernel
theorem d_Or_reserve_8 : decode b_Or_reserve 8 = .ok (.invokestatic 73, 3) := by decide +kernel
theorem d_Or_reserve_11 : decode b_Or_reserve 11 = .ok (.aload_n 0, 1) := by decide +kernel
theorem d_Or_reserve_12 : decode b_Or_reserve 12 = .ok (.getfield 61, 3) := by decide +kernel
theorem d_Or_reserve_15 : decode b_Or_reserve 15 = .ok (.getfield 227, 3) := by decide +kernel
theorem d_Or_reserve_18 : decode b_Or_reserve 18 = .ok (.iload_n 1, 1) := by decide +kernel
theorem d_Or_reserve_19 : decode b_Or_reserve 19 = .ok (.baload, 1) := by decide +kernel
theorem d_Or_reserve_20 : decode b_Or_reserve 20 = .ok (.ifCond .ne 7, 3) := by decide +kernel
theorem d_Or_reserve_23 : decode b_Or_reserve 23 = .ok (.iconst 1, 1) := by decide +kernel
theorem d_Or_reserve_24 : decode b_Or_reserve 24 = .ok (.goto 4, 3) := by decide +kernel
theorem d_Or_reserve_27 : decode b_Or_reserve 27 = .ok (.iconst 0, 1) := by decide +kernel
theorem d_Or_reserve_28 : decode b_Or_reserve 28 = .ok (.invokestatic 135, 3) := by decide +kernel
theorem d_Or_reserve_31 : decode b_Or_reserve 31 = .ok (.aload_n 0, 1) := by decide +kernel
theorem d_Or_reserve_32 : decode b_Or_reserve 32 = .ok (.iload_n 1, 1) := by decide +kernel
theorem d_Or_reserve_33 : decode b_Or_reserve 33 = .ok (.iconst 4, 1) := by decide +kernel
theorem d_Or_reserve_34 : decode b_Or_reserve 34 = .ok (.aload_n 0, 1) := by decide +kernel
theorem d_Or_reserve_35 : decode b_Or_reserve 35 = .ok (.getfield 65, 3) := by decide +kernel
theorem d_Or_reserve_38 : decode b_Or_reserve 38 = .ok (.invokevirtual 148, 3) := by decide +kernel
theorem d_Or_reserve_41 : decode b_Or_reserve 41 = .ok (.istore_n 2, 1) := by decide +kernel
theorem d_Or_reserve_42 : decode b_Or_reserve 42 = .ok (.aload_n 0, 1) := by decide +kernel
theorem d_Or_reserve_43 : decode b_Or_reserve 43 = .ok (.getfield 61, 3) := by decide +kernel
theorem d_Or_reserve_46 : decode b_Or_reserve 46 = .ok (.iload_n 2, 1) := by decide +kernel
theorem d_Or_reserve_47 : decode b_Or_reserve 47 = .ok (.aload_n 0, 1) := by decide +kernel
theorem d_Or_reserve_48 : decode b_Or_reserve 48 = .ok (.getfield 65, 3) := by decide +kernel
theorem d_Or_reserve_51 : decode b_Or_reserve 51 = .ok (.aload_n 0, 1) := by decide +kernel
theorem d_Or_reserve_52 : decode b_Or_reserve 52 = .ok (.iload_n 1, 1) := by decide +kernel
theorem d_Or_reserve_53 : decode b_Or_reserve 53 = .ok (.iconst 5, 1) := by decide +kernel
theorem d_Or_reserve_54 : decode b_Or_reserve 54 = .ok (.aload_n 0, 1) := by decide +kernel
theorem d_Or_reserve_55 : decode b_Or_reserve 55 = .ok (.getfield 65, 3) := by decide +kernel
theorem d_Or_reserve_58 : decode b_Or_reserve 58 = .ok (.invokevirtual 148, 3) := by decide +kernel
theorem d_Or_reserve_61 : decode b_Or_reserve 61 = .ok (.invokevirtual 230, 3) := by decide +kernel
theorem d_Or_reserve_64 : decode b_Or_reserve 64 = .ok (.istore_n 3, 1) := by decide +kernel
theorem d_Or_reserve_65 : decode b_Or_reserve 65 = .ok (.iload_n 3, 1) := by decide +kernel
theorem d_Or_reserve_66 : decode b_Or_reserve 66 = .ok (.aload_n 0, 1) := by decide +kernel
theorem d_Or_reserve_67 : decode b_Or_reserve 67 = .ok (.getfield 65, 3) := by decide +kernel
theorem d_Or_reserve_70 : decode b_Or_reserve 70 = .ok (.if_icmp .lt 7, 3) := by decide +kernel
theorem d_Or_reserve_73 : decode b_Or_reserve 73 = .ok (.iconst 1, 1) := by decide +kernel
theorem d_Or_reserve_74 : decode b_Or_reserve 74 = .ok (.goto 4, 3) := by decide +kernel
theorem d_Or_reserve_77 : decode b_Or_reserve 77 = .ok (.iconst 0, 1) := by decide +kernel
theorem d_Or_reserve_78 : decode b_Or_reserve 78 = .ok (.invokestatic 87, 3) := by decide +kernel
theorem d_Or_reserve_81 : decode b_Or_reserve 81 = .ok (.aload_n 0, 1) := by decide +kernel
theorem d_Or_reserve_82 : decode b_Or_reserve 82 = .ok (.getfield 61, 3) := by decide +kernel
theorem d_Or_reserve_85 : decode b_Or_reserve 85 = .ok (.iload_n 1, 1) := by decide +kernel
theorem d_Or_reserve_86 : decode b_Or_reserve 86 = .ok (.iload_n 3, 1) := by decide +kernel
theorem d_Or_reserve_87 : decode b_Or_reserve 87 = .ok (.iload_n 2, 1) := by decide +kernel
theorem d_Or_reserve_88 : decode b_Or_reserve 88 = .ok (.invokevirtual 233, 3) := by decide +kernel
theorem d_Or_reserve_91 : decode b_Or_reserve 91 = .ok (.iload_n 3, 1) := by decide +kernel
theorem d_Or_reserve_92 : decode b_Or_reserve 92 = .ok (.ireturn, 1) := by decide +kernel
theorem d_Or_join_0 : decode b_Or_join 0 = .ok (.aload_n 0, 1) := by decide +kernel
theorem d_Or_join_1 : decode b_Or_join 1 = .ok (.getfield 10, 3) := by decide +kernel
theorem d_Or_join_4 : decode b_Or_join 4 = .ok (.iload_n 1, 1) := by decide +kernel
theorem d_Or_join_5 : decode b_Or_join 5 = .ok (.invokevirtual 94, 3) := by decide +kernel
theorem d_Or_join_8 : decode b_Or_join 8 = .ok (.ifCond .eq 23, 3) := by decide +kernel
theorem d_Or_join_11 : decode b_Or_join 11 = .ok (.aload_n 0, 1) := by decide +kernel
theorem d_Or_join_12 : decode b_Or_join 12 = .ok (.getfield 10, 3) := by decide +kernel
theorem d_Or_join_15 : decode b_Or_join 15 = .ok (.iload_n 2, 1) := by decide +kernel
theorem d_Or_join_16 : decode b_Or_join 16 = .ok (.invokevirtual 94, 3) := by decide +kernel
theorem d_Or_join_19 : decode b_Or_join 19 = .ok (.ifCond .eq 12, 3) := by decide +kernel
theorem d_Or_join_22 : decode b_Or_join 22 = .ok (.iload_n 1, 1) := by decide +kernel
theorem d_Or_join_23 : decode b_Or_join 23 = .ok (.iload_n 2, 1) := by decide +kernel
theorem d_Or_join_24 : decode b_Or_join 24 = .ok (.if_icmp .eq 7, 3) := by decide +kernel
theorem d_Or_join_27 : decode b_Or_join 27 = .ok (.iconst 1, 1) := by decide +kernel
theorem d_Or_join_28 : decode b_Or_join 28 = .ok (.goto 4, 3) := by decide +kernel
theorem d_Or_join_31 : decode b_Or_join 31 = .ok (.iconst 0, 1) := by decide +kernel
theorem d_Or_join_32 : decode b_Or_join 32 = .ok (.invokestatic 73, 3) := by decide +kernel
theorem d_Or_join_35 : decode b_Or_join 35 = .ok (.aload_n 0, 1) := by decide +kernel
theorem d_Or_join_36 : decode b_Or_join 36 = .ok (.getfield 10, 3) := by decide +kernel
theorem d_Or_join_39 : decode b_Or_join 39 = .ok (.iload_n 1, 1) := by decide +kernel
theorem d_Or_join_40 : decode b_Or_join 40 = .ok (.iload_n 2, 1) := by decide +kernel
theorem d_Or_join_41 : decode b_Or_join 41 = .ok (.invokevirtual 236, 3) := by decide +kernel
theorem d_Or_join_44 : decode b_Or_join 44 = .ok (.aload_n 0, 1) := by decide +kernel
theorem d_Or_join_45 : decode b_Or_join 45 = .ok (.getfield 10, 3) := by decide +kernel
theorem d_Or_join_48 : decode b_Or_join 48 = .ok (.iload_n 1, 1) := by decide +kernel
theorem d_Or_join_49 : decode b_Or_join 49 = .ok (.invokevirtual 240, 3) := by decide +kernel
theorem d_Or_join_52 : decode b_Or_join 52 = .ok (.ireturn, 1) := by decide +kernel
theorem d_Or_ready_0 : decode b_Or_ready 0 = .ok (.aload_n 0, 1) := by decide +kernel
theorem d_Or_ready_1 : decode b_Or_ready 1 = .ok (.getfield 10, 3) := by decide +kernel
theorem d_Or_ready_4 : decode b_Or_ready 4 = .ok (.iload_n 1, 1) := by decide +kernel
theorem d_Or_ready_5 : decode b_Or_ready 5 = .ok (.invokevirtual 94, 3) := by decide +kernel
theorem d_Or_ready_8 : decode b_Or_ready 8 = .ok (.invokestatic 73, 3) := by decide +kernel
theorem d_Or_ready_11 : decode b_Or_ready 11 = .ok (.iconst 0, 1) := by decide +kernel
theorem d_Or_ready_12 : decode b_Or_ready 12 = .ok (.istore_n 2, 1) := by decide +kernel
theorem d_Or_ready_13 : decode b_Or_ready 13 = .ok (.iload_n 2, 1) := by decide +kernel
theorem d_Or_ready_14 : decode b_Or_ready 14 = .ok (.aload_n 0, 1) := by decide +kernel
theorem d_Or_ready_15 : decode b_Or_ready 15 = .ok (.getfield 19, 3) := by decide +kernel
theorem d_Or_ready_18 : decode b_Or_ready 18 = .ok (.getfield 100, 3) := by decide +kernel
theorem d_Or_ready_21 : decode b_Or_ready 21 = .ok (.if_icmp .ge 44, 3) := by decide +kernel
theorem d_Or_ready_24 : decode b_Or_ready 24 = .ok (.aload_n 0, 1) := by decide +kernel
theorem d_Or_ready_25 : decode b_Or_ready 25 = .ok (.getfield 10, 3) := by decide +kernel
theorem d_Or_ready_28 : decode b_Or_ready 28 = .ok (.iload_n 1, 1) := by decide +kernel
theorem d_Or_ready_29 : decode b_Or_ready 29 = .ok (.aload_n 0, 1) := by decide +kernel
theorem d_Or_ready_30 : decode b_Or_ready 30 = .ok (.getfield 19, 3) := by decide +kernel
theorem d_Or_ready_33 : decode b_Or_ready 33 = .ok (.getfield 211, 3) := by decide +kernel
theorem d_Or_ready_36 : decode b_Or_ready 36 = .ok (.iload_n 2, 1) := by decide +kernel
theorem d_Or_ready_37 : decode b_Or_ready 37 = .ok (.iaload, 1) := by decide +kernel
theorem d_Or_ready_38 : decode b_Or_ready 38 = .ok (.invokevirtual 243, 3) := by decide +kernel
theorem d_Or_ready_41 : decode b_Or_ready 41 = .ok (.ifCond .eq 18, 3) := by decide +kernel
theorem d_Or_ready_44 : decode b_Or_ready 44 = .ok (.aload_n 0, 1) := by decide +kernel
theorem d_Or_ready_45 : decode b_Or_ready 45 = .ok (.iload_n 2, 1) := by decide +kernel
theorem d_Or_ready_46 : decode b_Or_ready 46 = .ok (.aload_n 0, 1) := by decide +kernel
theorem d_Or_ready_47 : decode b_Or_ready 47 = .ok (.getfield 65, 3) := by decide +kernel
theorem d_Or_ready_50 : decode b_Or_ready 50 = .ok (.invokevirtual 170, 3) := by decide +kernel
theorem d_Or_ready_53 : decode b_Or_ready 53 = .ok (.iconst 2, 1) := by decide +kernel
theorem d_Or_ready_54 : decode b_Or_ready 54 = .ok (.if_icmp .ge 5, 3) := by decide +kernel
theorem d_Or_ready_57 : decode b_Or_ready 57 = .ok (.iconst 0, 1) := by decide +kernel
theorem d_Or_ready_58 : decode b_Or_ready 58 = .ok (.ireturn, 1) := by decide +kernel
theorem d_Or_ready_59 : decode b_Or_ready 59 = .ok (.iinc 2 1, 3) := by decide +kernel
theorem d_Or_ready_62 : decode b_Or_ready 62 = .ok (.goto (-49), 3) := by decide +kernel
theorem d_Or_ready_65 : decode b_Or_ready 65 = .ok (.iconst 1, 1) := by decide +kernel
theorem d_Or_ready_66 : decode b_Or_ready 66 = .ok (.ireturn, 1) := by decide +kernel
theorem d_Or_late_0 : decode b_Or_late 0 = .ok (.iload_n 1, 1) := by decide +kernel
theorem d_Or_late_1 : decode b_Or_late 1 = .ok (.ifCond .lt 7, 3) := by decide +kernel
theorem d_Or_late_4 : decode b_Or_late 4 = .ok (.iconst 1, 1) := by decide +kernel
theorem d_Or_late_5 : decode b_Or_late 5 = .ok (.goto 4, 3) := by decide +kernel
theorem d_Or_late_8 : decode b_Or_late 8 = .ok (.iconst 0, 1) := by decide +kernel
theorem d_Or_late_9 : decode b_Or_late 9 = .ok (.invokestatic 73, 3) := by decide +kernel
theorem d_Or_late_12 : decode b_Or_late 12 = .ok (.iconst 0, 1) := by decide +kernel
theorem d_Or_late_13 : decode b_Or_late 13 = .ok (.istore_n 2, 1) := by decide +kernel
theorem d_Or_late_14 : decode b_Or_late 14 = .ok (.iconst 0, 1) := by decide +kernel
theorem d_Or_late_15 : decode b_Or_late 15 = .ok (.istore_n 3, 1) := by decide +kernel
theorem d_Or_late_16 : decode b_Or_late 16 = .ok (.iload_n 3, 1) := by decide +kernel
theorem d_Or_late_17 : decode b_Or_late 17 = .ok (.aload_n 0, 1) := by decide +kernel
theorem d_Or_late_18 : decode b_Or_late 18 = .ok (.getfield 19, 3) := by decide +kernel
theorem d_Or_late_21 : decode b_Or_late 21 = .ok (.getfield 100, 3) := by decide +kernel
theorem d_Or_late_24 : decode b_Or_late 24 = .ok (.if_icmp .ge 32, 3) := by decide +kernel
theorem d_Or_late_27 : decode b_Or_late 27 = .ok (.aload_n 0, 1) := by decide +kernel
theorem d_Or_late_28 : decode b_Or_late 28 = .ok (.iload_n 3, 1) := by decide +kernel
theorem d_Or_late_29 : decode b_Or_late 29 = .ok (.aload_n 0, 1) := by decide +kernel
theorem d_Or_late_30 : decode b_Or_late 30 = .ok (.getfield 65, 3) := by decide +kernel
theorem d_Or_late_33 : decode b_Or_late 33 = .ok (.invokevirtual 170, 3) := by decide +kernel
theorem d_Or_late_36 : decode b_Or_late 36 = .ok (.iconst 1, 1) := by decide +kernel
theorem d_Or_late_37 : decode b_Or_late 37 = .ok (.if_icmp .ne 13, 3) := by decide +kernel
theorem d_Or_late_40 : decode b_Or_late 40 = .ok (.iload_n 2, 1) := by decide +kernel
theorem d_Or_late_41 : decode b_Or_late 41 = .ok (.iload_n 1, 1) := by decide +kernel
theorem d_Or_late_42 : decode b_Or_late 42 = .ok (.if_icmp .ne 5, 3) := by decide +kernel
theorem d_Or_late_45 : decode b_Or_late 45 = .ok (.iload_n 3, 1) := by decide +kernel
theorem d_Or_late_46 : decode b_Or_late 46 = .ok (.ireturn, 1) := by decide +kernel
theorem d_Or_late_47 : decode b_Or_late 47 = .ok (.iinc 2 1, 3) := by decide +kernel
theorem d_Or_late_50 : decode b_Or_late 50 = .ok (.iinc 3 1, 3) := by decide +kernel
theorem d_Or_late_53 : decode b_Or_late 53 = .ok (.goto (-37), 3) := by decide +kernel
theorem d_Or_late_56 : decode b_Or_late 56 = .ok (.iconst (-1), 1) := by decide +kernel
theorem d_Or_late_57 : decode b_Or_late 57 = .ok (.ireturn, 1) := by decide +kernel
theorem d_Or_tick_0 : decode b_Or_tick 0 = .ok (.iload_n 1, 1) := by decide +kernel
theorem d_Or_tick_1 : decode b_Or_tick 1 = .ok (.iconst 1, 1) := by decide +kernel
theorem d_Or_tick_2 : decode b_Or_tick 2 = .ok (.sipush 1000, 3) := by decide +kernel
theorem d_Or_tick_5 : decode b_Or_tick 5 = .ok (.invokestatic 69, 3) := by decide +kernel
theorem d_Or_tick_8 : decode b_Or_tick 8 = .ok (.ifCond .eq 19, 3) := by decide +kernel
theorem d_Or_tick_11 : decode b_Or_tick 11 = .ok (.iload_n 1, 1) := by decide +kernel
theorem d_Or_tick_12 : decode b_Or_tick 12 = .ok (.sipush 9999, 3) := by decide +kernel
theorem d_Or_tick_15 : decode b_Or_tick 15 = .ok (.aload_n 0, 1) := by decide +kernel
theorem d_Or_tick_16 : decode b_Or_tick 16 = .ok (.getfield 65, 3) := by decide +kernel
theorem d_Or_tick_19 : decode b_Or_tick 19 = .ok (.isub, 1) := by decide +kernel
theorem d_Or_tick_20 : decode b_Or_tick 20 = .ok (.if_icmp .gt 7, 3) := by decide +kernel
theorem d_Or_tick_23 : decode b_Or_tick 23 = .ok (.iconst 1, 1) := by decide +kernel
theorem d_Or_tick_24 : decode b_Or_tick 24 = .ok (.goto 4, 3) := by decide +kernel
theorem d_Or_tick_27 : decode b_Or_tick 27 = .ok (.iconst 0, 1) := by decide +kernel
theorem d_Or_tick_28 : decode b_Or_tick 28 = .ok (.invokestatic 81, 3) := by decide +kernel
theorem d_Or_tick_31 : decode b_Or_tick 31 = .ok (.aload_n 0, 1) := by decide +kernel
theorem d_Or_tick_32 : decode b_Or_tick 32 = .ok (.dup, 1) := by decide +kernel
theorem d_Or_tick_33 : decode b_Or_tick 33 = .ok (.getfield 65, 3) := by decide +kernel
theorem d_Or_tick_36 : decode b_Or_tick 36 = .ok (.iload_n 1, 1) := by decide +kernel
theorem d_Or_tick_37 : decode b_Or_tick 37 = .ok (.iadd, 1) := by decide +kernel
theorem d_Or_tick_38 : decode b_Or_tick 38 = .ok (.putfield 65, 3) := by decide +kernel
theorem d_Or_tick_41 : decode b_Or_tick 41 = .ok (.aload_n 0, 1) := by decide +kernel
theorem d_Or_tick_42 : decode b_Or_tick 42 = .ok (.getfield 65, 3) := by decide +kernel
theorem d_Or_tick_45 : decode b_Or_tick 45 = .ok (.ireturn, 1) := by decide +kernel
theorem d_Mo_thrown_0 : decode b_Mo_thrown 0 = .ok (.aload_n 0, 1) := by decide +kernel
theorem d_Mo_thrown_1 : decode b_Mo_thrown 1 = .ok (.getfield 75, 3) := by decide +kernel
theorem d_Mo_thrown_4 : decode b_Mo_thrown 4 = .ok (.ireturn, 1) := by decide +kernel
theorem d_Mo_in_0 : decode b_Mo_in 0 = .ok (.iload_n 0, 1) := by decide +kernel
theorem d_Mo_in_1 : decode b_Mo_in 1 = .ok (.iload_n 1, 1) := by decide +kernel
theorem d_Mo_in_2 : decode b_Mo_in 2 = .ok (.if_icmp .lt 12, 3) := by decide +kernel
theorem d_Mo_in_5 : decode b_Mo_in 5 = .ok (.iload_n 0, 1) := by decide +kernel
theorem d_Mo_in_6 : decode b_Mo_in 6 = .ok (.iload_n 2, 1) := by decide +kernel
theorem d_Mo_in_7 : decode b_Mo_in 7 = .ok (.if_icmp .gt 7, 3) := by decide +kernel
theorem d_Mo_in_10 : decode b_Mo_in 10 = .ok (.iconst 1, 1) := by decide +kernel
theorem d_Mo_in_11 : decode b_Mo_in 11 = .ok (.goto 4, 3) := by decide +kernel
theorem d_Mo_in_14 : decode b_Mo_in 14 = .ok (.iconst 0, 1) := by decide +kernel
theorem d_Mo_in_15 : decode b_Mo_in 15 = .ok (.ireturn, 1) := by decide +kernel
theorem d_Mo_goes_0 : decode b_Mo_goes 0 = .ok (.aload_n 0, 1) := by decide +kernel
theorem d_Mo_goes_1 : decode b_Mo_goes 1 = .ok (.iload_n 1, 1) := by decide +kernel
theorem d_Mo_goes_2 : decode b_Mo_goes 2 = .ok (.ifCond .ne 7, 3) := by decide +kernel
theorem d_Mo_goes_5 : decode b_Mo_goes 5 = .ok (.iconst 1, 1) := by decide +kernel
theorem d_Mo_goes_6 : decode b_Mo_goes 6 = .ok (.goto 29, 3) := by decide +kernel
theorem d_Mo_goes_9 : decode b_Mo_goes 9 = .ok (.iload_n 2, 1) := by decide +kernel
theorem d_Mo_goes_10 : decode b_Mo_goes 10 = .ok (.ifCond .ne 7, 3) := by decide +kernel
theorem d_Mo_goes_13 : decode b_Mo_goes 13 = .ok (.iconst 2, 1) := by decide +kernel
theorem d_Mo_goes_14 : decode b_Mo_goes 14 = .ok (.goto 21, 3) := by decide +kernel
theorem d_Mo_goes_17 : decode b_Mo_goes 17 = .ok (.iload_n 3, 1) := by decide +kernel
theorem d_Mo_goes_18 : decode b_Mo_goes 18 = .ok (.ifCond .ne 7, 3) := by decide +kernel
theorem d_Mo_goes_21 : decode b_Mo_goes 21 = .ok (.iconst 3, 1) := by decide +kernel
theorem d_Mo_goes_22 : decode b_Mo_goes 22 = .ok (.goto 13, 3) := by decide +kernel
theorem d_Mo_goes_25 : decode b_Mo_goes 25 = .ok (.iload 4, 2) := by decide +kernel
theorem d_Mo_goes_27 : decode b_Mo_goes 27 = .ok (.ifCond .ne 7, 3) := by decide +kernel
theorem d_Mo_goes_30 : decode b_Mo_goes 30 = .ok (.iconst 4, 1) := by decide +kernel
theorem d_Mo_goes_31 : decode b_Mo_goes 31 = .ok (.goto 4, 3) := by decide +kernel
theorem d_Mo_goes_34 : decode b_Mo_goes 34 = .ok (.iconst 0, 1) := by decide +kernel
theorem d_Mo_goes_35 : decode b_Mo_goes 35 = .ok (.putfield 75, 3) := by decide +kernel
theorem d_Mo_goes_38 : decode b_Mo_goes 38 = .ok (.aload_n 0, 1) := by decide +kernel
theorem d_Mo_goes_39 : decode b_Mo_goes 39 = .ok (.getfield 75, 3) := by decide +kernel
theorem d_Mo_goes_42 : decode b_Mo_goes 42 = .ok (.ifCond .ne 7, 3) := by decide +kernel
theorem d_Mo_goes_45 : decode b_Mo_goes 45 = .ok (.iconst 1, 1) := by decide +kernel
theorem d_Mo_goes_46 : decode b_Mo_goes 46 = .ok (.goto 4, 3) := by decide +kernel
theorem d_Mo_goes_49 : decode b_Mo_goes 49 = .ok (.iconst 0, 1) := by decide +kernel
theorem d_Mo_goes_50 : decode b_Mo_goes 50 = .ok (.ireturn, 1) := by decide +kernel
theorem d_Mo_isOrder_0 : decode b_Mo_isOrder 0 = .ok (.iload_n 1, 1) := by decide +kernel
theorem d_Mo_isOrder_1 : decode b_Mo_isOrder 1 = .ok (.iconst 0, 1) := by decide +kernel
theorem d_Mo_isOrder_2 : decode b_Mo_isOrder 2 = .ok (.aload_n 0, 1) := by decide +kernel
theorem d_Mo_isOrder_3 : decode b_Mo_isOrder 3 = .ok (.getfield 79, 3) := by decide +kernel
theorem d_Mo_isOrder_6 : decode b_Mo_isOrder 6 = .ok (.iconst 1, 1) := by decide +kernel
theorem d_Mo_isOrder_7 : decode b_Mo_isOrder 7 = .ok (.isub, 1) := by decide +kernel
theorem d_Mo_isOrder_8 : decode b_Mo_isOrder 8 = .ok (.invokestatic 82, 3) := by decide +kernel
theorem d_Mo_isOrder_11 : decode b_Mo_isOrder 11 = .ok (.ireturn, 1) := by decide +kernel
theorem d_Mo_isItem_0 : decode b_Mo_isItem 0 = .ok (.iload_n 1, 1) := by decide +kernel
theorem d_Mo_isItem_1 : decode b_Mo_isItem 1 = .ok (.iconst 0, 1) := by decide +kernel
theorem d_Mo_isItem_2 : decode b_Mo_isItem 2 = .ok (.aload_n 0, 1) := by decide +kernel
theorem d_Mo_isItem_3 : decode b_Mo_isItem 3 = .ok (.getfield 86, 3) := by decide +kernel
theorem d_Mo_isItem_6 : decode b_Mo_isItem 6 = .ok (.iconst 1, 1) := by decide +kernel
theorem d_Mo_isItem_7 : decode b_Mo_isItem 7 = .ok (.isub, 1) := by decide +kernel
theorem d_Mo_isItem_8 : decode b_Mo_isItem 8 = .ok (.invokestatic 82, 3) := by decide +kernel
theorem d_Mo_isItem_11 : decode b_Mo_isItem 11 = .ok (.ireturn, 1) := by decide +kernel
theorem d_Mo_isDay_0 : decode b_Mo_isDay 0 = .ok (.iload_n 0, 1) := by decide +kernel
theorem d_Mo_isDay_1 : decode b_Mo_isDay 1 = .ok (.iconst 0, 1) := by decide +kernel
theorem d_Mo_isDay_2 : decode b_Mo_isDay 2 = .ok (.sipush 9999, 3) := by decide +kernel
theorem d_Mo_isDay_5 : decode b_Mo_isDay 5 = .ok (.invokestatic 82, 3) := by decide +kernel
theorem d_Mo_isDay_8 : decode b_Mo_isDay 8 = .ok (.ireturn, 1) := by decide +kernel
theorem d_Mo_isSize_0 : decode b_Mo_isSize 0 = .ok (.iload_n 0, 1) := by decide +kernel
theorem d_Mo_isSize_1 : decode b_Mo_isSize 1 = .ok (.iconst 1, 1) := by decide +kernel
theorem d_Mo_isSize_2 : decode b_Mo_isSize 2 = .ok (.ldc 89, 2) := by decide +kernel
theorem d_Mo_isSize_4 : decode b_Mo_isSize 4 = .ok (.invokestatic 82, 3) := by decide +kernel
theorem d_Mo_isSize_7 : decode b_Mo_isSize 7 = .ok (.ireturn, 1) := by decide +kernel
theorem d_Mo_isWeight_0 : decode b_Mo_isWeight 0 = .ok (.iload_n 0, 1) := by decide +kernel
theorem d_Mo_isWeight_1 : decode b_Mo_isWeight 1 = .ok (.iconst 0, 1) := by decide +kernel
theorem d_Mo_isWeight_2 : decode b_Mo_isWeight 2 = .ok (.ldc 90, 2) := by decide +kernel
theorem d_Mo_isWeight_4 : decode b_Mo_isWeight 4 = .ok (.invokestatic 82, 3) := by decide +kernel
theorem d_Mo_isWeight_7 : decode b_Mo_isWeight 7 = .ok (.ireturn, 1) := by decide +kernel
theorem d_Mo_order_0 : decode b_Mo_order 0 = .ok (.aload_n 0, 1) := by decide +kernel
theorem d_Mo_order_1 : decode b_Mo_order 1 = .ok (.iload_n 1, 1) := by decide +kernel
theorem d_Mo_order_2 : decode b_Mo_order 2 = .ok (.iconst 0, 1) := by decide +kernel
theorem d_Mo_order_3 : decode b_Mo_order 3 = .ok (.bipush 9, 2) := by decide +kernel
theorem d_Mo_order_5 : decode b_Mo_order 5 = .ok (.invokestatic 82, 3) := by decide +kernel
theorem d_Mo_order_8 : decode b_Mo_order 8 = .ok (.iload_n 2, 1) := by decide +kernel
theorem d_Mo_order_9 : decode b_Mo_order 9 = .ok (.aload_n 0, 1) := by decide +kernel
theorem d_Mo_order_10 : decode b_Mo_order 10 = .ok (.getfield 91, 3) := by decide +kernel
theorem d_Mo_order_13 : decode b_Mo_order 13 = .ok (.sipush 9999, 3) := by decide +kernel
theorem d_Mo_order_16 : decode b_Mo_order 16 = .ok (.invokestatic 82, 3) := by decide +kernel
theorem d_Mo_order_19 : decode b_Mo_order 19 = .ok (.aload_n 0, 1) := by decide +kernel
theorem d_Mo_order_20 : decode b_Mo_order 20 = .ok (.getfield 79, 3) := by decide +kernel
theorem d_Mo_order_23 : decode b_Mo_order 23 = .ok (.bipush 30, 2) := by decide +kernel
theorem d_Mo_order_25 : decode b_Mo_order 25 = .ok (.if_icmp .ge 7, 3) := by decide +kernel
theorem d_Mo_order_28 : decode b_Mo_order 28 = .ok (.iconst 1, 1) := by decide +kernel
theorem d_Mo_order_29 : decode b_Mo_order 29 = .ok (.goto 4, 3) := by decide +kernel
theorem d_Mo_order_32 : decode b_Mo_order 32 = .ok (.iconst 0, 1) := by decide +kernel
theorem d_Mo_order_33 : decode b_Mo_order 33 = .ok (.iconst 1, 1) := by decide +kernel
theorem d_Mo_order_34 : decode b_Mo_order 34 = .ok (.invokevirtual 94, 3) := by decide +kernel
theorem d_Mo_order_37 : decode b_Mo_order 37 = .ok (.ifCond .ne 5, 3) := by decide +kernel
theorem d_Mo_order_40 : decode b_Mo_order 40 = .ok (.iconst 0, 1) := by decide +kernel
theorem d_Mo_order_41 : decode b_Mo_order 41 = .ok (.ireturn, 1) := by decide +kernel
theorem d_Mo_order_42 : decode b_Mo_order 42 = .ok (.aload_n 0, 1) := by decide +kernel
theorem d_Mo_order_43 : decode b_Mo_order 43 = .ok (.getfield 13, 3) := by decide +kernel
theorem d_Mo_order_46 : decode b_Mo_order 46 = .ok (.aload_n 0, 1) := by decide +kernel
theorem d_Mo_order_47 : decode b_Mo_order 47 = .ok (.getfield 79, 3) := by decide +kernel
theorem d_Mo_order_50 : decode b_Mo_order 50 = .ok (.iload_n 1, 1) := by decide +kernel
theorem d_Mo_order_51 : decode b_Mo_order 51 = .ok (.iastore, 1) := by decide +kernel
theorem d_Mo_order_52 : decode b_Mo_order 52 = .ok (.aload_n 0, 1) := by decide +kernel
theorem d_Mo_order_53 : decode b_Mo_order 53 = .ok (.getfield 16, 3) := by decide +kernel
theorem d_Mo_order_56 : decode b_Mo_order 56 = .ok (.aload_n 0, 1) := by decide +kernel
theorem d_Mo_order_57 : decode b_Mo_order 57 = .ok (.getfield 79, 3) := by decide +kernel
theorem d_Mo_order_60 : decode b_Mo_order 60 = .ok (.iload_n 2, 1) := by decide +kernel
theorem d_Mo_order_61 : decode b_Mo_order 61 = .ok (.iastore, 1) := by decide +kernel
theorem d_Mo_order_62 : decode b_Mo_order 62 = .ok (.aload_n 0, 1) := by decide +kernel
theorem d_Mo_order_63 : decode b_Mo_order 63 = .ok (.getfield 19, 3) := by decide +kernel
theorem d_Mo_order_66 : decode b_Mo_order 66 = .ok (.aload_n 0, 1) := by decide +kernel
theorem d_Mo_order_67 : decode b_Mo_order 67 = .ok (.getfield 79, 3) := by decide +kernel
theorem d_Mo_order_70 : decode b_Mo_order 70 = .ok (.aload_n 0, 1) := by decide +kernel
theorem d_Mo_order_71 : decode b_Mo_order 71 = .ok (.getfield 79, 3) := by decide +kernel
theorem d_Mo_order_74 : decode b_Mo_order 74 = .ok (.iastore, 1) := by decide +kernel
theorem d_Mo_order_75 : decode b_Mo_order 75 = .ok (.aload_n 0, 1) := by decide +kernel
theorem d_Mo_order_76 : decode b_Mo_order 76 = .ok (.dup, 1) := by decide +kernel
theorem d_Mo_order_77 : decode b_Mo_order 77 = .ok (.getfield 79, 3) := by decide +kernel
theorem d_Mo_order_80 : decode b_Mo_order 80 = .ok (.iconst 1, 1) := by decide +kernel
theorem d_Mo_order_81 : decode b_Mo_order 81 = .ok (.iadd, 1) := by decide +kernel
theorem d_Mo_order_82 : decode b_Mo_order 82 = .ok (.putfield 79, 3) := by decide +kernel
theorem d_Mo_order_85 : decode b_Mo_order 85 = .ok (.aload_n 0, 1) := by decide +kernel
theorem d_Mo_order_86 : decode b_Mo_order 86 = .ok (.getfield 79, 3) := by decide +kernel
theorem d_Mo_order_89 : decode b_Mo_order 89 = .ok (.iconst 1, 1) := by decide +kernel
theorem d_Mo_order_90 : decode b_Mo_order 90 = .ok (.isub, 1) := by decide +kernel
theorem d_Mo_order_91 : decode b_Mo_order 91 = .ok (.ireturn, 1) := by decide +kernel
theorem d_Mo_makes_0 : decode b_Mo_makes 0 = .ok (.aload_n 0, 1) := by decide +kernel
theorem d_Mo_makes_1 : decode b_Mo_makes 1 = .ok (.getfield 22, 3) := by decide +kernel
theorem d_Mo_makes_4 : decode b_Mo_makes 4 = .ok (.aload_n 0, 1) := by decide +kernel
theorem d_Mo_makes_5 : decode b_Mo_makes 5 = .ok (.getfield 86, 3) := by decide +kernel
theorem d_Mo_makes_8 : decode b_Mo_makes 8 = .ok (.iload_n 1, 1) := by decide +kernel
theorem d_Mo_makes_9 : decode b_Mo_makes 9 = .ok (.iastore, 1) := by decide +kernel
theorem d_Mo_makes_10 : decode b_Mo_makes 10 = .ok (.aload_n 0, 1) := by decide +kernel
theorem d_Mo_makes_11 : decode b_Mo_makes 11 = .ok (.getfield 25, 3) := by decide +kernel
theorem d_Mo_makes_14 : decode b_Mo_makes 14 = .ok (.bipush 6, 2) := by decide +kernel
theorem d_Mo_makes_16 : decode b_Mo_makes 16 = .ok (.aload_n 0, 1) := by decide +kernel
theorem d_Mo_makes_17 : decode b_Mo_makes 17 = .ok (.getfield 86, 3) := by decide +kernel
theorem d_Mo_makes_20 : decode b_Mo_makes 20 = .ok (.imul, 1) := by decide +kernel
theorem d_Mo_makes_21 : decode b_Mo_makes 21 = .ok (.iload_n 2, 1) := by decide +kernel
theorem d_Mo_makes_22 : decode b_Mo_makes 22 = .ok (.iastore, 1) := by decide +kernel
theorem d_Mo_makes_23 : decode b_Mo_makes 23 = .ok (.aload_n 0, 1) := by decide +kernel
theorem d_Mo_makes_24 : decode b_Mo_makes 24 = .ok (.getfield 25, 3) := by decide +kernel
theorem d_Mo_makes_27 : decode b_Mo_makes 27 = .ok (.bipush 6, 2) := by decide +kernel
theorem d_Mo_makes_29 : decode b_Mo_makes 29 = .ok (.aload_n 0, 1) := by decide +kernel
theorem d_Mo_makes_30 : decode b_Mo_makes 30 = .ok (.getfield 86, 3) := by decide +kernel
theorem d_Mo_makes_33 : decode b_Mo_makes 33 = .ok (.imul, 1) := by decide +kernel
theorem d_Mo_makes_34 : decode b_Mo_makes 34 = .ok (.iconst 1, 1) := by decide +kernel
theorem d_Mo_makes_35 : decode b_Mo_makes 35 = .ok (.iadd, 1) := by decide +kernel
theorem d_Mo_makes_36 : decode b_Mo_makes 36 = .ok (.iload_n 3, 1) := by decide +kernel
theorem d_Mo_makes_37 : decode b_Mo_makes 37 = .ok (.iastore, 1) := by decide +kernel
theorem d_Mo_makes_38 : decode b_Mo_makes 38 = .ok (.aload_n 0, 1) := by decide +kernel
theorem d_Mo_makes_39 : decode b_Mo_makes 39 = .ok (.getfield 25, 3) := by decide +kernel
theorem d_Mo_makes_42 : decode b_Mo_makes 42 = .ok (.bipush 6, 2) := by decide +kernel
theorem d_Mo_makes_44 : decode b_Mo_makes 44 = .ok (.aload_n 0, 1) := by decide +kernel
theorem d_Mo_makes_45 : decode b_Mo_makes 45 = .ok (.getfield 86, 3) := by decide +kernel
theorem d_Mo_makes_48 : decode b_Mo_makes 48 = .ok (.imul, 1) := by decide +kernel
theorem d_Mo_makes_49 : decode b_Mo_makes 49 = .ok (.iconst 2, 1) := by decide +kernel
theorem d_Mo_makes_50 : decode b_Mo_makes 50 = .ok (.iadd, 1) := by decide +kernel
theorem d_Mo_makes_51 : decode b_Mo_makes 51 = .ok (.iload 4, 2) := by decide +kernel
theorem d_Mo_makes_53 : decode b_Mo_makes 53 = .ok (.iastore, 1) := by decide +kernel
theorem d_Mo_makes_54 : decode b_Mo_makes 54 = .ok (.aload_n 0, 1) := by decide +kernel
theorem d_Mo_makes_55 : decode b_Mo_makes 55 = .ok (.getfield 25, 3) := by decide +kernel
theorem d_Mo_makes_58 : decode b_Mo_makes 58 = .ok (.bipush 6, 2) := by decide +kernel
theorem d_Mo_makes_60 : decode b_Mo_makes 60 = .ok (.aload_n 0, 1) := by decide +kernel
theorem d_Mo_makes_61 : decode b_Mo_makes 61 = .ok (.getfield 86, 3) := by decide +kernel
theorem d_Mo_makes_64 : decode b_Mo_makes 64 = .ok (.imul, 1) := by decide +kernel
theorem d_Mo_makes_65 : decode b_Mo_makes 65 = .ok (.iconst 3, 1) := by decide +kernel
theorem d_Mo_makes_66 : decode b_Mo_makes 66 = .ok (.iadd, 1) := by decide +kernel
theorem d_Mo_makes_67 : decode b_Mo_makes 67 = .ok (.iload 5, 2) := by decide +kernel
theorem d_Mo_makes_69 : decode b_Mo_makes 69 = .ok (.iastore, 1) := by decide +kernel
theorem d_Mo_makes_70 : decode b_Mo_makes 70 = .ok (.aload_n 0, 1) := by decide +kernel
theorem d_Mo_makes_71 : decode b_Mo_makes 71 = .ok (.getfield 25, 3) := by decide +kernel
theorem d_Mo_makes_74 : decode b_Mo_makes 74 = .ok (.bipush 6, 2) := by decide +kernel
theorem d_Mo_makes_76 : decode b_Mo_makes 76 = .ok (.aload_n 0, 1) := by decide +kernel
theorem d_Mo_makes_77 : decode b_Mo_makes 77 = .ok (.getfield 86, 3) := by decide +kernel
theorem d_Mo_makes_80 : decode b_Mo_makes 80 = .ok (.imul, 1) := by decide +kernel
theorem d_Mo_makes_81 : decode b_Mo_makes 81 = .ok (.iconst 4, 1) := by decide +kernel
theorem d_Mo_makes_82 : decode b_Mo_makes 82 = .ok (.iadd, 1) := by decide +kernel
theorem d_Mo_makes_83 : decode b_Mo_makes 83 = .ok (.iload 6, 2) := by decide +kernel
theorem d_Mo_makes_85 : decode b_Mo_makes 85 = .ok (.iastore, 1) := by decide +kernel
theorem d_Mo_makes_86 : decode b_Mo_makes 86 = .ok (.aload_n 0, 1) := by decide +kernel
theorem d_Mo_makes_87 : decode b_Mo_makes 87 = .ok (.getfield 25, 3) := by decide +kernel
theorem d_Mo_makes_90 : decode b_Mo_makes 90 = .ok (.bipush 6, 2) := by decide +kernel
theorem d_Mo_makes_92 : decode b_Mo_makes 92 = .ok (.aload_n 0, 1) := by decide +kernel
theorem d_Mo_makes_93 : decode b_Mo_makes 93 = .ok (.getfield 86, 3) := by decide +kernel
theorem d_Mo_makes_96 : decode b_Mo_makes 96 = .ok (.imul, 1) := by decide +kernel
theorem d_Mo_makes_97 : decode b_Mo_makes 97 = .ok (.iconst 5, 1) := by decide +kernel
theorem d_Mo_makes_98 : decode b_Mo_makes 98 = .ok (.iadd, 1) := by decide +kernel
theorem d_Mo_makes_99 : decode b_Mo_makes 99 = .ok (.iload 7, 2) := by decide +kernel
theorem d_Mo_makes_101 : decode b_Mo_makes 101 = .ok (.iastore, 1) := by decide +kernel
theorem d_Mo_makes_102 : decode b_Mo_makes 102 = .ok (.aload_n 0, 1) := by decide +kernel
theorem d_Mo_makes_103 : decode b_Mo_makes 103 = .ok (.dup, 1) := by decide +kernel
theorem d_Mo_makes_104 : decode b_Mo_makes 104 = .ok (.getfield 86, 3) := by decide +kernel
theorem d_Mo_makes_107 : decode b_Mo_makes 107 = .ok (.iconst 1, 1) := by decide +kernel
theorem d_Mo_makes_108 : decode b_Mo_makes 108 = .ok (.iadd, 1) := by decide +kernel
theorem d_Mo_makes_109 : decode b_Mo_makes 109 = .ok (.putfield 86, 3) := by decide +kernel
theorem d_Mo_makes_112 : decode b_Mo_makes 112 = .ok (.aload_n 0, 1) := by decide +kernel
theorem d_Mo_makes_113 : decode b_Mo_makes 113 = .ok (.getfield 86, 3) := by decide +kernel
theorem d_Mo_makes_116 : decode b_Mo_makes 116 = .ok (.iconst 1, 1) := by decide +kernel
theorem d_Mo_makes_117 : decode b_Mo_makes 117 = .ok (.isub, 1) := by decide +kernel
theorem d_Mo_makes_118 : decode b_Mo_makes 118 = .ok (.ireturn, 1) := by decide +kernel
theorem d_Mo_item_0 : decode b_Mo_item 0 = .ok (.aload_n 0, 1) := by decide +kernel
theorem d_Mo_item_1 : decode b_Mo_item 1 = .ok (.aload_n 0, 1) := by decide +kernel
theorem d_Mo_item_2 : decode b_Mo_item 2 = .ok (.iload_n 1, 1) := by decide +kernel
theorem d_Mo_item_3 : decode b_Mo_item 3 = .ok (.invokevirtual 98, 3) := by decide +kernel
theorem d_Mo_item_6 : decode b_Mo_item 6 = .ok (.iload_n 2, 1) := by decide +kernel
theorem d_Mo_item_7 : decode b_Mo_item 7 = .ok (.invokestatic 102, 3) := by decide +kernel
theorem d_Mo_item_10 : decode b_Mo_item 10 = .ok (.ifCond .eq 22, 3) := by decide +kernel
theorem d_Mo_item_13 : decode b_Mo_item 13 = .ok (.iload_n 3, 1) := by decide +kernel
theorem d_Mo_item_14 : decode b_Mo_item 14 = .ok (.invokestatic 102, 3) := by decide +kernel
theorem d_Mo_item_17 : decode b_Mo_item 17 = .ok (.ifCond .eq 15, 3) := by decide +kernel
theorem d_Mo_item_20 : decode b_Mo_item 20 = .ok (.iload 4, 2) := by decide +kernel
theorem d_Mo_item_22 : decode b_Mo_item 22 = .ok (.invokestatic 102, 3) := by decide +kernel
theorem d_Mo_item_25 : decode b_Mo_item 25 = .ok (.ifCond .eq 7, 3) := by decide +kernel
theorem d_Mo_item_28 : decode b_Mo_item 28 = .ok (.iconst 1, 1) := by decide +kernel
theorem d_Mo_item_29 : decode b_Mo_item 29 = .ok (.goto 4, 3) := by decide +kernel
theorem d_Mo_item_32 : decode b_Mo_item 32 = .ok (.iconst 0, 1) := by decide +kernel
theorem d_Mo_item_33 : decode b_Mo_item 33 = .ok (.aload_n 0, 1) := by decide +kernel
theorem d_Mo_item_34 : decode b_Mo_item 34 = .ok (.getfield 86, 3) := by decide +kernel
theorem d_Mo_item_37 : decode b_Mo_item 37 = .ok (.bipush 60, 2) := by decide +kernel
theorem d_Mo_item_39 : decode b_Mo_item 39 = .ok (.if_icmp .ge 7, 3) := by decide +kernel
theorem d_Mo_item_42 : decode b_Mo_item 42 = .ok (.iconst 1, 1) := by decide +kernel
theorem d_Mo_item_43 : decode b_Mo_item 43 = .ok (.goto 4, 3) := by decide +kernel
theorem d_Mo_item_46 : decode b_Mo_item 46 = .ok (.iconst 0, 1) := by decide +kernel
theorem d_Mo_item_47 : decode b_Mo_item 47 = .ok (.iconst 1, 1) := by decide +kernel
theorem d_Mo_item_48 : decode b_Mo_item 48 = .ok (.invokevirtual 94, 3) := by decide +kernel
theorem d_Mo_item_51 : decode b_Mo_item 51 = .ok (.ifCond .ne 5, 3) := by decide +kernel
theorem d_Mo_item_54 : decode b_Mo_item 54 = .ok (.iconst 0, 1) := by decide +kernel
theorem d_Mo_item_55 : decode b_Mo_item 55 = .ok (.ireturn, 1) := by decide +kernel
theorem d_Mo_item_56 : decode b_Mo_item 56 = .ok (.aload_n 0, 1) := by decide +kernel
theorem d_Mo_item_57 : decode b_Mo_item 57 = .ok (.iload_n 1, 1) := by decide +kernel
theorem d_Mo_item_58 : decode b_Mo_item 58 = .ok (.iload_n 2, 1) := by decide +kernel
theorem d_Mo_item_59 : decode b_Mo_item 59 = .ok (.iload_n 3, 1) := by decide +kernel
theorem d_Mo_item_60 : decode b_Mo_item 60 = .ok (.iload 4, 2) := by decide +kernel
theorem d_Mo_item_62 : decode b_Mo_item 62 = .ok (.iconst 0, 1) := by decide +kernel
theorem d_Mo_item_63 : decode b_Mo_item 63 = .ok (.iconst 0, 1) := by decide +kernel
theorem d_Mo_item_64 : decode b_Mo_item 64 = .ok (.aload_n 0, 1) := by decide +kernel
theorem d_Mo_item_65 : decode b_Mo_item 65 = .ok (.getfield 16, 3) := by decide +kernel
theorem d_Mo_item_68 : decode b_Mo_item 68 = .ok (.iload_n 1, 1) := by decide +kernel
theorem d_Mo_item_69 : decode b_Mo_item 69 = .ok (.iaload, 1) := by decide +kernel
theorem d_Mo_item_70 : decode b_Mo_item 70 = .ok (.invokevirtual 105, 3) := by decide +kernel
theorem d_Mo_item_73 : decode b_Mo_item 73 = .ok (.ireturn, 1) := by decide +kernel
theorem d_Mo_tells_0 : decode b_Mo_tells 0 = .ok (.bipush 20, 2) := by decide +kernel
theorem d_Mo_tells_2 : decode b_Mo_tells 2 = .ok (.iload_n 1, 1) := by decide +kernel
theorem d_Mo_tells_3 : decode b_Mo_tells 3 = .ok (.imul, 1) := by decide +kernel
theorem d_Mo_tells_4 : decode b_Mo_tells 4 = .ok (.aload_n 0, 1) := by decide +kernel
theorem d_Mo_tells_5 : decode b_Mo_tells 5 = .ok (.getfield 35, 3) := by decide +kernel
theorem d_Mo_tells_8 : decode b_Mo_tells 8 = .ok (.iload_n 1, 1) := by decide +kernel
theorem d_Mo_tells_9 : decode b_Mo_tells 9 = .ok (.iaload, 1) := by decide +kernel
theorem d_Mo_tells_10 : decode b_Mo_tells 10 = .ok (.iadd, 1) := by decide +kernel
theorem d_Mo_tells_11 : decode b_Mo_tells 11 = .ok (.istore 5, 2) := by decide +kernel
theorem d_Mo_tells_13 : decode b_Mo_tells 13 = .ok (.aload_n 0, 1) := by decide +kernel
theorem d_Mo_tells_14 : decode b_Mo_tells 14 = .ok (.getfield 38, 3) := by decide +kernel
theorem d_Mo_tells_17 : decode b_Mo_tells 17 = .ok (.iload 5, 2) := by decide +kernel
theorem d_Mo_tells_19 : decode b_Mo_tells 19 = .ok (.iload_n 2, 1) := by decide +kernel
theorem d_Mo_tells_20 : decode b_Mo_tells 20 = .ok (.iastore, 1) := by decide +kernel
theorem d_Mo_tells_21 : decode b_Mo_tells 21 = .ok (.aload_n 0, 1) := by decide +kernel
theorem d_Mo_tells_22 : decode b_Mo_tells 22 = .ok (.getfield 41, 3) := by decide +kernel
theorem d_Mo_tells_25 : decode b_Mo_tells 25 = .ok (.iload 5, 2) := by decide +kernel
theorem d_Mo_tells_27 : decode b_Mo_tells 27 = .ok (.iload_n 3, 1) := by decide +kernel
theorem d_Mo_tells_28 : decode b_Mo_tells 28 = .ok (.iastore, 1) := by decide +kernel
theorem d_Mo_tells_29 : decode b_Mo_tells 29 = .ok (.aload_n 0, 1) := by decide +kernel
theorem d_Mo_tells_30 : decode b_Mo_tells 30 = .ok (.getfield 44, 3) := by decide +kernel
theorem d_Mo_tells_33 : decode b_Mo_tells 33 = .ok (.iload 5, 2) := by decide +kernel
theorem d_Mo_tells_35 : decode b_Mo_tells 35 = .ok (.iload 4, 2) := by decide +kernel
theorem d_Mo_tells_37 : decode b_Mo_tells 37 = .ok (.iastore, 1) := by decide +kernel
theorem d_Mo_tells_38 : decode b_Mo_tells 38 = .ok (.aload_n 0, 1) := by decide +kernel
theorem d_Mo_tells_39 : decode b_Mo_tells 39 = .ok (.getfield 47, 3) := by decide +kernel
theorem d_Mo_tells_42 : decode b_Mo_tells 42 = .ok (.iload 5, 2) := by decide +kernel
theorem d_Mo_tells_44 : decode b_Mo_tells 44 = .ok (.aload_n 0, 1) := by decide +kernel
theorem d_Mo_tells_45 : decode b_Mo_tells 45 = .ok (.getfield 91, 3) := by decide +kernel
theorem d_Mo_tells_48 : decode b_Mo_tells 48 = .ok (.iastore, 1) := by decide +kernel
theorem d_Mo_tells_49 : decode b_Mo_tells 49 = .ok (.aload_n 0, 1) := by decide +kernel
theorem d_Mo_tells_50 : decode b_Mo_tells 50 = .ok (.getfield 35, 3) := by decide +kernel
theorem d_Mo_tells_53 : decode b_Mo_tells 53 = .ok (.iload_n 1, 1) := by decide +kernel
theorem d_Mo_tells_54 : decode b_Mo_tells 54 = .ok (.dup2, 1) := by decide +kernel
theorem d_Mo_tells_55 : decode b_Mo_tells 55 = .ok (.iaload, 1) := by decide +kernel
theorem d_Mo_tells_56 : decode b_Mo_tells 56 = .ok (.iconst 1, 1) := by decide +kernel
theorem d_Mo_tells_57 : decode b_Mo_tells 57 = .ok (.iadd, 1) := by decide +kernel
theorem d_Mo_tells_58 : decode b_Mo_tells 58 = .ok (.iastore, 1) := by decide +kernel
theorem d_Mo_tells_59 : decode b_Mo_tells 59 = .ok (.return_, 1) := by decide +kernel
theorem d_Mo_on_0 : decode b_Mo_on 0 = .ok (.iconst (-1), 1) := by decide +kernel
theorem d_Mo_on_1 : decode b_Mo_on 1 = .ok (.istore 4, 2) := by decide +kernel
theorem d_Mo_on_3 : decode b_Mo_on 3 = .ok (.bipush 20, 2) := by decide +kernel
theorem d_Mo_on_5 : decode b_Mo_on 5 = .ok (.iload_n 1, 1) := by decide +kernel
theorem d_Mo_on_6 : decode b_Mo_on 6 = .ok (.imul, 1) := by decide +kernel
theorem d_Mo_on_7 : decode b_Mo_on 7 = .ok (.istore 5, 2) := by decide +kernel
theorem d_Mo_on_9 : decode b_Mo_on 9 = .ok (.iload 5, 2) := by decide +kernel
theorem d_Mo_on_11 : decode b_Mo_on 11 = .ok (.bipush 20, 2) := by decide +kernel
theorem d_Mo_on_13 : decode b_Mo_on 13 = .ok (.iload_n 1, 1) := by decide +kernel
theorem d_Mo_on_14 : decode b_Mo_on 14 = .ok (.imul, 1) := by decide +kernel
theorem d_Mo_on_15 : decode b_Mo_on 15 = .ok (.aload_n 0, 1) := by decide +kernel
theorem d_Mo_on_16 : decode b_Mo_on 16 = .ok (.getfield 35, 3) := by decide +kernel
theorem d_Mo_on_19 : decode b_Mo_on 19 = .ok (.iload_n 1, 1) := by decide +kernel
theorem d_Mo_on_20 : decode b_Mo_on 20 = .ok (.iaload, 1) := by decide +kernel
theorem d_Mo_on_21 : decode b_Mo_on 21 = .ok (.iadd, 1) := by decide +kernel
theorem d_Mo_on_22 : decode b_Mo_on 22 = .ok (.if_icmp .ge 60, 3) := by decide +kernel
theorem d_Mo_on_25 : decode b_Mo_on 25 = .ok (.aload_n 0, 1) := by decide +kernel
theorem d_Mo_on_26 : decode b_Mo_on 26 = .ok (.getfield 38, 3) := by decide +kernel
theorem d_Mo_on_29 : decode b_Mo_on 29 = .ok (.iload 5, 2) := by decide +kernel
theorem d_Mo_on_31 : decode b_Mo_on 31 = .ok (.iaload, 1) := by decide +kernel
theorem d_Mo_on_32 : decode b_Mo_on 32 = .ok (.iload_n 2, 1) := by decide +kernel
theorem d_Mo_on_33 : decode b_Mo_on 33 = .ok (.if_icmp .ne 43, 3) := by decide +kernel
theorem d_Mo_on_36 : decode b_Mo_on 36 = .ok (.aload_n 0, 1) := by decide +kernel
theorem d_Mo_on_37 : decode b_Mo_on 37 = .ok (.getfield 44, 3) := by decide +kernel
theorem d_Mo_on_40 : decode b_Mo_on 40 = .ok (.iload 5, 2) := by decide +kernel
theorem d_Mo_on_42 : decode b_Mo_on 42 = .ok (.iaload, 1) := by decide +kernel
theorem d_Mo_on_43 : decode b_Mo_on 43 = .ok (.iload_n 3, 1) := by decide +kernel
theorem d_Mo_on_44 : decode b_Mo_on 44 = .ok (.if_icmp .le 6, 3) := by decide +kernel
theorem d_Mo_on_47 : decode b_Mo_on 47 = .ok (.goto 29, 3) := by decide +kernel
theorem d_Mo_on_50 : decode b_Mo_on 50 = .ok (.iload 4, 2) := by decide +kernel
theorem d_Mo_on_52 : decode b_Mo_on 52 = .ok (.ifCond .lt 20, 3) := by decide +kernel
theorem d_Mo_on_55 : decode b_Mo_on 55 = .ok (.aload_n 0, 1) := by decide +kernel
theorem d_Mo_on_56 : decode b_Mo_on 56 = .ok (.getfield 44, 3) := by decide +kernel
theorem d_Mo_on_59 : decode b_Mo_on 59 = .ok (.iload 5, 2) := by decide +kernel
theorem d_Mo_on_61 : decode b_Mo_on 61 = .ok (.iaload, 1) := by decide +kernel
theorem d_Mo_on_62 : decode b_Mo_on 62 = .ok (.aload_n 0, 1) := by decide +kernel
theorem d_Mo_on_63 : decode b_Mo_on 63 = .ok (.getfield 44, 3) := by decide +kernel
theorem d_Mo_on_66 : decode b_Mo_on 66 = .ok (.iload 4, 2) := by decide +kernel
theorem d_Mo_on_68 : decode b_Mo_on 68 = .ok (.iaload, 1) := by decide +kernel
theorem d_Mo_on_69 : decode b_Mo_on 69 = .ok (.if_icmp .lt 7, 3) := by decide +kernel
theorem d_Mo_on_72 : decode b_Mo_on 72 = .ok (.iload 5, 2) := by decide +kernel
theorem d_Mo_on_74 : decode b_Mo_on 74 = .ok (.istore 4, 2) := by decide +kernel
theorem d_Mo_on_76 : decode b_Mo_on 76 = .ok (.iinc 5 1, 3) := by decide +kernel
theorem d_Mo_on_79 : decode b_Mo_on 79 = .ok (.goto (-70), 3) := by decide +kernel
theorem d_Mo_on_82 : decode b_Mo_on 82 = .ok (.iload 4, 2) := by decide +kernel
theorem d_Mo_on_84 : decode b_Mo_on 84 = .ok (.ifCond .ge 17, 3) := by decide +kernel
theorem d_Mo_on_87 : decode b_Mo_on 87 = .ok (.aload_n 0, 1) := by decide +kernel
theorem d_Mo_on_88 : decode b_Mo_on 88 = .ok (.getfield 25, 3) := by decide +kernel
theorem d_Mo_on_91 : decode b_Mo_on 91 = .ok (.bipush 6, 2) := by decide +kernel
theorem d_Mo_on_93 : decode b_Mo_on 93 = .ok (.iload_n 1, 1) := by decide +kernel
theorem d_Mo_on_94 : decode b_Mo_on 94 = .ok (.imul, 1) := by decide +kernel
theorem d_Mo_on_95 : decode b_Mo_on 95 = .ok (.iload_n 2, 1) := by decide +kernel
theorem d_Mo_on_96 : decode b_Mo_on 96 = .ok (.iadd, 1) := by decide +kernel
theorem d_Mo_on_97 : decode b_Mo_on 97 = .ok (.iaload, 1) := by decide +kernel
theorem d_Mo_on_98 : decode b_Mo_on 98 = .ok (.goto 10, 3) := by decide +kernel
theorem d_Mo_on_101 : decode b_Mo_on 101 = .ok (.aload_n 0, 1) := by decide +kernel
theorem d_Mo_on_102 : decode b_Mo_on 102 = .ok (.getfield 41, 3) := by decide +kernel
theorem d_Mo_on_105 : decode b_Mo_on 105 = .ok (.iload 4, 2) := by decide +kernel
theorem d_Mo_on_107 : decode b_Mo_on 107 = .ok (.iaload, 1) := by decide +kernel
theorem d_Mo_on_108 : decode b_Mo_on 108 = .ok (.ireturn, 1) := by decide +kernel
theorem d_Mo_weights_0 : decode b_Mo_weights 0 = .ok (.aload_n 0, 1) := by decide +kernel
theorem d_Mo_weights_1 : decode b_Mo_weights 1 = .ok (.aload_n 0, 1) := by decide +kernel
theorem d_Mo_weights_2 : decode b_Mo_weights 2 = .ok (.iload_n 1, 1) := by decide +kernel
theorem d_Mo_weights_3 : decode b_Mo_weights 3 = .ok (.invokevirtual 109, 3) := by decide +kernel
theorem d_Mo_weights_6 : decode b_Mo_weights 6 = .ok (.iload_n 2, 1) := by decide +kernel
theorem d_Mo_weights_7 : decode b_Mo_weights 7 = .ok (.invokestatic 112, 3) := by decide +kernel
theorem d_Mo_weights_10 : decode b_Mo_weights 10 = .ok (.ifCond .eq 19, 3) := by decide +kernel
theorem d_Mo_weights_13 : decode b_Mo_weights 13 = .ok (.iload_n 3, 1) := by decide +kernel
theorem d_Mo_weights_14 : decode b_Mo_weights 14 = .ok (.invokestatic 112, 3) := by decide +kernel
theorem d_Mo_weights_17 : decode b_Mo_weights 17 = .ok (.ifCond .eq 12, 3) := by decide +kernel
theorem d_Mo_weights_20 : decode b_Mo_weights 20 = .ok (.iload_n 2, 1) := by decide +kernel
theorem d_Mo_weights_21 : decode b_Mo_weights 21 = .ok (.iload_n 3, 1) := by decide +kernel
theorem d_Mo_weights_22 : decode b_Mo_weights 22 = .ok (.if_icmp .gt 7, 3) := by decide +kernel
theorem d_Mo_weights_25 : decode b_Mo_weights 25 = .ok (.iconst 1, 1) := by decide +kernel
theorem d_Mo_weights_26 : decode b_Mo_weights 26 = .ok (.goto 4, 3) := by decide +kernel
theorem d_Mo_weights_29 : decode b_Mo_weights 29 = .ok (.iconst 0, 1) := by decide +kernel
theorem d_Mo_weights_30 : decode b_Mo_weights 30 = .ok (.aload_n 0, 1) := by decide +kernel
theorem d_Mo_weights_31 : decode b_Mo_weights 31 = .ok (.iload_n 1, 1) := by decide +kernel
theorem d_Mo_weights_32 : decode b_Mo_weights 32 = .ok (.invokevirtual 109, 3) := by decide +kernel
theorem d_Mo_weights_35 : decode b_Mo_weights 35 = .ok (.ifCond .eq 18, 3) := by decide +kernel
theorem d_Mo_weights_38 : decode b_Mo_weights 38 = .ok (.aload_n 0, 1) := by decide +kernel
theorem d_Mo_weights_39 : decode b_Mo_weights 39 = .ok (.getfield 35, 3) := by decide +kernel
theorem d_Mo_weights_42 : decode b_Mo_weights 42 = .ok (.iload_n 1, 1) := by decide +kernel
theorem d_Mo_weights_43 : decode b_Mo_weights 43 = .ok (.iaload, 1) := by decide +kernel
theorem d_Mo_weights_44 : decode b_Mo_weights 44 = .ok (.bipush 18, 2) := by decide +kernel
theorem d_Mo_weights_46 : decode b_Mo_weights 46 = .ok (.if_icmp .gt 7, 3) := by decide +kernel
theorem d_Mo_weights_49 : decode b_Mo_weights 49 = .ok (.iconst 1, 1) := by decide +kernel
theorem d_Mo_weights_50 : decode b_Mo_weights 50 = .ok (.goto 4, 3) := by decide +kernel
theorem d_Mo_weights_53 : decode b_Mo_weights 53 = .ok (.iconst 0, 1) := by decide +kernel
theorem d_Mo_weights_54 : decode b_Mo_weights 54 = .ok (.iconst 1, 1) := by decide +kernel
theorem d_Mo_weights_55 : decode b_Mo_weights 55 = .ok (.invokevirtual 94, 3) := by decide +kernel
theorem d_Mo_weights_58 : decode b_Mo_weights 58 = .ok (.ifCond .ne 4, 3) := by decide +kernel
theorem d_Mo_weights_61 : decode b_Mo_weights 61 = .ok (.return_, 1) := by decide +kernel
theorem d_Mo_weights_62 : decode b_Mo_weights 62 = .ok (.aload_n 0, 1) := by decide +kernel
theorem d_Mo_weights_63 : decode b_Mo_weights 63 = .ok (.iload_n 1, 1) := by decide +kernel
theorem d_Mo_weights_64 : decode b_Mo_weights 64 = .ok (.iconst 3, 1) := by decide +kernel
theorem d_Mo_weights_65 : decode b_Mo_weights 65 = .ok (.iload_n 2, 1) := by decide +kernel
theorem d_Mo_weights_66 : decode b_Mo_weights 66 = .ok (.aload_n 0, 1) := by decide +kernel
theorem d_Mo_weights_67 : decode b_Mo_weights 67 = .ok (.getfield 91, 3) := by decide +kernel
theorem d_Mo_weights_70 : decode b_Mo_weights 70 = .ok (.invokevirtual 115, 3) := by decide +kernel
theorem d_Mo_weights_73 : decode b_Mo_weights 73 = .ok (.aload_n 0, 1) := by decide +kernel
theorem d_Mo_weights_74 : decode b_Mo_weights 74 = .ok (.iload_n 1, 1) := by decide +kernel
theorem d_Mo_weights_75 : decode b_Mo_weights 75 = .ok (.iconst 4, 1) := by decide +kernel
theorem d_Mo_weights_76 : decode b_Mo_weights 76 = .ok (.iload_n 3, 1) := by decide +kernel
theorem d_Mo_weights_77 : decode b_Mo_weights 77 = .ok (.aload_n 0, 1) := by decide +kernel
theorem d_Mo_weights_78 : decode b_Mo_weights 78 = .ok (.getfield 91, 3) := by decide +kernel
theorem d_Mo_weights_81 : decode b_Mo_weights 81 = .ok (.invokevirtual 115, 3) := by decide +kernel
theorem d_Mo_weights_84 : decode b_Mo_weights 84 = .ok (.return_, 1) := by decide +kernel
theorem d_Mo_agree_0 : decode b_Mo_agree 0 = .ok (.aload_n 0, 1) := by decide +kernel
theorem d_Mo_agree_1 : decode b_Mo_agree 1 = .ok (.aload_n 0, 1) := by decide +kernel
theorem d_Mo_agree_2 : decode b_Mo_agree 2 = .ok (.iload_n 1, 1) := by decide +kernel
theorem d_Mo_agree_3 : decode b_Mo_agree 3 = .ok (.invokevirtual 109, 3) := by decide +kernel
theorem d_Mo_agree_6 : decode b_Mo_agree 6 = .ok (.iload_n 2, 1) := by decide +kernel
theorem d_Mo_agree_7 : decode b_Mo_agree 7 = .ok (.iconst 1, 1) := by decide +kernel
theorem d_Mo_agree_8 : decode b_Mo_agree 8 = .ok (.bipush 99, 2) := by decide +kernel
theorem d_Mo_agree_10 : decode b_Mo_agree 10 = .ok (.invokestatic 82, 3) := by decide +kernel
theorem d_Mo_agree_13 : decode b_Mo_agree 13 = .ok (.iconst 1, 1) := by decide +kernel
theorem d_Mo_agree_14 : decode b_Mo_agree 14 = .ok (.iconst 1, 1) := by decide +kernel
theorem d_Mo_agree_15 : decode b_Mo_agree 15 = .ok (.invokevirtual 94, 3) := by decide +kernel
theorem d_Mo_agree_18 : decode b_Mo_agree 18 = .ok (.ifCond .eq 10, 3) := by decide +kernel
theorem d_Mo_agree_21 : decode b_Mo_agree 21 = .ok (.aload_n 0, 1) := by decide +kernel
theorem d_Mo_agree_22 : decode b_Mo_agree 22 = .ok (.getfield 28, 3) := by decide +kernel
theorem d_Mo_agree_25 : decode b_Mo_agree 25 = .ok (.iload_n 1, 1) := by decide +kernel
theorem d_Mo_agree_26 : decode b_Mo_agree 26 = .ok (.iload_n 2, 1) := by decide +kernel
theorem d_Mo_agree_27 : decode b_Mo_agree 27 = .ok (.iastore, 1) := by decide +kernel
theorem d_Mo_agree_28 : decode b_Mo_agree 28 = .ok (.return_, 1) := by decide +kernel
theorem d_Mo_isMade_0 : decode b_Mo_isMade 0 = .ok (.iconst 0, 1) := by decide +kernel
theorem d_Mo_isMade_1 : decode b_Mo_isMade 1 = .ok (.istore_n 2, 1) := by decide +kernel
theorem d_Mo_isMade_2 : decode b_Mo_isMade 2 = .ok (.iload_n 2, 1) := by decide +kernel
theorem d_Mo_isMade_3 : decode b_Mo_isMade 3 = .ok (.aload_n 0, 1) := by decide +kernel
theorem d_Mo_isMade_4 : decode b_Mo_isMade 4 = .ok (.getfield 119, 3) := by decide +kernel
theorem d_Mo_isMade_7 : decode b_Mo_isMade 7 = .ok (.if_icmp .ge 21, 3) := by decide +kernel
theorem d_Mo_isMade_10 : decode b_Mo_isMade 10 = .ok (.aload_n 0, 1) := by decide +kernel
theorem d_Mo_isMade_11 : decode b_Mo_isMade 11 = .ok (.getfield 50, 3) := by decide +kernel
theorem d_Mo_isMade_14 : decode b_Mo_isMade 14 = .ok (.iload_n 2, 1) := by decide +kernel
theorem d_Mo_isMade_15 : decode b_Mo_isMade 15 = .ok (.iaload, 1) := by decide +kernel
theorem d_Mo_isMade_16 : decode b_Mo_isMade 16 = .ok (.iload_n 1, 1) := by decide +kernel
theorem d_Mo_isMade_17 : decode b_Mo_isMade 17 = .ok (.if_icmp .ne 5, 3) := by decide +kernel
theorem d_Mo_isMade_20 : decode b_Mo_isMade 20 = .ok (.iconst 1, 1) := by decide +kernel
theorem d_Mo_isMade_21 : decode b_Mo_isMade 21 = .ok (.ireturn, 1) := by decide +kernel
theorem d_Mo_isMade_22 : decode b_Mo_isMade 22 = .ok (.iinc 2 1, 3) := by decide +kernel
theorem d_Mo_isMade_25 : decode b_Mo_isMade 25 = .ok (.goto (-23), 3) := by decide +kernel
theorem d_Mo_isMade_28 : decode b_Mo_isMade 28 = .ok (.iconst 0, 1) := by decide +kernel
theorem d_Mo_isMade_29 : decode b_Mo_isMade 29 = .ok (.ireturn, 1) := by decide +kernel
theorem d_Mo_isValue_0 : decode b_Mo_isValue 0 = .ok (.iload_n 1, 1) := by decide +kernel
theorem d_Mo_isValue_1 : decode b_Mo_isValue 1 = .ok (.iconst 3, 1) := by decide +kernel
theorem d_Mo_isValue_2 : decode b_Mo_isValue 2 = .ok (.if_icmp .ge 10, 3) := by decide +kernel
theorem d_Mo_isValue_5 : decode b_Mo_isValue 5 = .ok (.iload_n 2, 1) := by decide +kernel
theorem d_Mo_isValue_6 : decode b_Mo_isValue 6 = .ok (.invokestatic 102, 3) := by decide +kernel
theorem d_Mo_isValue_9 : decode b_Mo_isValue 9 = .ok (.goto 26, 3) := by decide +kernel
theorem d_Mo_isValue_12 : decode b_Mo_isValue 12 = .ok (.iload_n 1, 1) := by decide +kernel
theorem d_Mo_isValue_13 : decode b_Mo_isValue 13 = .ok (.iconst 5, 1) := by decide +kernel
theorem d_Mo_isValue_14 : decode b_Mo_isValue 14 = .ok (.if_icmp .ge 10, 3) := by decide +kernel
theorem d_Mo_isValue_17 : decode b_Mo_isValue 17 = .ok (.iload_n 2, 1) := by decide +kernel
theorem d_Mo_isValue_18 : decode b_Mo_isValue 18 = .ok (.invokestatic 112, 3) := by decide +kernel
theorem d_Mo_isValue_21 : decode b_Mo_isValue 21 = .ok (.goto 14, 3) := by decide +kernel
theorem d_Mo_isValue_24 : decode b_Mo_isValue 24 = .ok (.iload_n 2, 1) := by decide +kernel
theorem d_Mo_isValue_25 : decode b_Mo_isValue 25 = .ok (.aload_n 0, 1) := by decide +kernel
theorem d_Mo_isValue_26 : decode b_Mo_isValue 26 = .ok (.getfield 91, 3) := by decide +kernel
theorem d_Mo_isValue_29 : decode b_Mo_isValue 29 = .ok (.sipush 9999, 3) := by decide +kernel
theorem d_Mo_isValue_32 : decode b_Mo_isValue 32 = .ok (.invokestatic 82, 3) := by decide +kernel
theorem d_Mo_isValue_35 : decode b_Mo_isValue 35 = .ok (.ireturn, 1) := by decide +kernel
theorem d_Mo_change_0 : decode b_Mo_change 0 = .ok (.aload_n 0, 1) := by decide +kernel
theorem d_Mo_change_1 : decode b_Mo_change 1 = .ok (.iload_n 1, 1) := by decide +kernel
theorem d_Mo_change_2 : decode b_Mo_change 2 = .ok (.invokevirtual 109, 3) := by decide +kernel
theorem d_Mo_change_5 : decode b_Mo_change 5 = .ok (.ifCond .eq 16, 3) := by decide +kernel
theorem d_Mo_change_8 : decode b_Mo_change 8 = .ok (.iload_n 2, 1) := by decide +kernel
theorem d_Mo_change_9 : decode b_Mo_change 9 = .ok (.iconst 0, 1) := by decide +kernel
theorem d_Mo_change_10 : decode b_Mo_change 10 = .ok (.iconst 5, 1) := by decide +kernel
theorem d_Mo_change_11 : decode b_Mo_change 11 = .ok (.invokestatic 82, 3) := by decide +kernel
theorem d_Mo_change_14 : decode b_Mo_change 14 = .ok (.ifCond .eq 7, 3) := by decide +kernel
theorem d_Mo_change_17 : decode b_Mo_change 17 = .ok (.iconst 1, 1) := by decide +kernel
theorem d_Mo_change_18 : decode b_Mo_change 18 = .ok (.goto 4, 3) := by decide +kernel
theorem d_Mo_change_21 : decode b_Mo_change 21 = .ok (.iconst 0, 1) := by decide +kernel
theorem d_Mo_change_22 : decode b_Mo_change 22 = .ok (.istore 6, 2) := by decide +kernel
theorem d_Mo_change_24 : decode b_Mo_change 24 = .ok (.iload 6, 2) := by decide +kernel
theorem d_Mo_change_26 : decode b_Mo_change 26 = .ok (.ifCond .eq 40, 3) := by decide +kernel
theorem d_Mo_change_29 : decode b_Mo_change 29 = .ok (.iload_n 2, 1) := by decide +kernel
theorem d_Mo_change_30 : decode b_Mo_change 30 = .ok (.iconst 2, 1) := by decide +kernel
theorem d_Mo_change_31 : decode b_Mo_change 31 = .ok (.if_icmp .gt 31, 3) := by decide +kernel
theorem d_Mo_change_34 : decode b_Mo_change 34 = .ok (.aload_n 0, 1) := by decide +kernel
theorem d_Mo_change_35 : decode b_Mo_change 35 = .ok (.iload_n 1, 1) := by decide +kernel
theorem d_Mo_change_36 : decode b_Mo_change 36 = .ok (.invokevirtual 122, 3) := by decide +kernel
theorem d_Mo_change_39 : decode b_Mo_change 39 = .ok (.ifCond .eq 23, 3) := by decide +kernel
theorem d_Mo_change_42 : decode b_Mo_change 42 = .ok (.aload_n 0, 1) := by decide +kernel
theorem d_Mo_change_43 : decode b_Mo_change 43 = .ok (.getfield 28, 3) := by decide +kernel
theorem d_Mo_change_46 : decode b_Mo_change 46 = .ok (.iload_n 1, 1) := by decide +kernel
theorem d_Mo_change_47 : decode b_Mo_change 47 = .ok (.iaload, 1) := by decide +kernel
theorem d_Mo_change_48 : decode b_Mo_change 48 = .ok (.ifCond .le 18, 3) := by decide +kernel
theorem d_Mo_change_51 : decode b_Mo_change 51 = .ok (.aload_n 0, 1) := by decide +kernel
theorem d_Mo_change_52 : decode b_Mo_change 52 = .ok (.getfield 28, 3) := by decide +kernel
theorem d_Mo_change_55 : decode b_Mo_change 55 = .ok (.iload_n 1, 1) := by decide +kernel
theorem d_Mo_change_56 : decode b_Mo_change 56 = .ok (.iaload, 1) := by decide +kernel
theorem d_Mo_change_57 : decode b_Mo_change 57 = .ok (.iload 5, 2) := by decide +kernel
theorem d_Mo_change_59 : decode b_Mo_change 59 = .ok (.if_icmp .ne 7, 3) := by decide +kernel
theorem d_Mo_change_62 : decode b_Mo_change 62 = .ok (.iconst 1, 1) := by decide +kernel
theorem d_Mo_change_63 : decode b_Mo_change 63 = .ok (.goto 4, 3) := by decide +kernel
theorem d_Mo_change_66 : decode b_Mo_change 66 = .ok (.iconst 0, 1) := by decide +kernel
theorem d_Mo_change_67 : decode b_Mo_change 67 = .ok (.istore 7, 2) := by decide +kernel
theorem d_Mo_change_69 : decode b_Mo_change 69 = .ok (.iload 6, 2) := by decide +kernel
theorem d_Mo_change_71 : decode b_Mo_change 71 = .ok (.ifCond .eq 24, 3) := by decide +kernel
theorem d_Mo_change_74 : decode b_Mo_change 74 = .ok (.aload_n 0, 1) := by decide +kernel
theorem d_Mo_change_75 : decode b_Mo_change 75 = .ok (.iload_n 2, 1) := by decide +kernel
theorem d_Mo_change_76 : decode b_Mo_change 76 = .ok (.iload_n 3, 1) := by decide +kernel
theorem d_Mo_change_77 : decode b_Mo_change 77 = .ok (.invokevirtual 125, 3) := by decide +kernel
theorem d_Mo_change_80 : decode b_Mo_change 80 = .ok (.ifCond .eq 15, 3) := by decide +kernel
theorem d_Mo_change_83 : decode b_Mo_change 83 = .ok (.iload 4, 2) := by decide +kernel
theorem d_Mo_change_85 : decode b_Mo_change 85 = .ok (.invokestatic 129, 3) := by decide +kernel
theorem d_Mo_change_88 : decode b_Mo_change 88 = .ok (.ifCond .eq 7, 3) := by decide +kernel
theorem d_Mo_change_91 : decode b_Mo_change 91 = .ok (.iconst 1, 1) := by decide +kernel
theorem d_Mo_change_92 : decode b_Mo_change 92 = .ok (.goto 4, 3) := by decide +kernel
theorem d_Mo_change_95 : decode b_Mo_change 95 = .ok (.iconst 0, 1) := by decide +kernel
theorem d_Mo_change_96 : decode b_Mo_change 96 = .ok (.istore 8, 2) := by decide +kernel
theorem d_Mo_change_98 : decode b_Mo_change 98 = .ok (.iload_n 2, 1) := by decide +kernel
theorem d_Mo_change_99 : decode b_Mo_change 99 = .ok (.iconst 3, 1) := by decide +kernel
theorem d_Mo_change_100 : decode b_Mo_change 100 = .ok (.if_icmp .eq 12, 3) := by decide +kernel
theorem d_Mo_change_103 : decode b_Mo_change 103 = .ok (.iload_n 2, 1) := by decide +kernel
theorem d_Mo_change_104 : decode b_Mo_change 104 = .ok (.iconst 4, 1) := by decide +kernel
theorem d_Mo_change_105 : decode b_Mo_change 105 = .ok (.if_icmp .eq 7, 3) := by decide +kernel
theorem d_Mo_change_108 : decode b_Mo_change 108 = .ok (.iconst 1, 1) := by decide +kernel
theorem d_Mo_change_109 : decode b_Mo_change 109 = .ok (.goto 4, 3) := by decide +kernel
theorem d_Mo_change_112 : decode b_Mo_change 112 = .ok (.iconst 0, 1) := by decide +kernel
theorem d_Mo_change_113 : decode b_Mo_change 113 = .ok (.istore 9, 2) := by decide +kernel
theorem d_Mo_change_115 : decode b_Mo_change 115 = .ok (.iload 8, 2) := by decide +kernel
theorem d_Mo_change_117 : decode b_Mo_change 117 = .ok (.ifCond .eq 60, 3) := by decide +kernel
theorem d_Mo_change_120 : decode b_Mo_change 120 = .ok (.aload_n 0, 1) := by decide +kernel
theorem d_Mo_change_121 : decode b_Mo_change 121 = .ok (.getfield 35, 3) := by decide +kernel
theorem d_Mo_change_124 : decode b_Mo_change 124 = .ok (.iload_n 1, 1) := by decide +kernel
theorem d_Mo_change_125 : decode b_Mo_change 125 = .ok (.iaload, 1) := by decide +kernel
theorem d_Mo_change_126 : decode b_Mo_change 126 = .ok (.bipush 20, 2) := by decide +kernel
theorem d_Mo_change_128 : decode b_Mo_change 128 = .ok (.if_icmp .ge 49, 3) := by decide +kernel
theorem d_Mo_change_131 : decode b_Mo_change 131 = .ok (.iload 9, 2) := by decide +kernel
theorem d_Mo_change_133 : decode b_Mo_change 133 = .ok (.ifCond .ne 40, 3) := by decide +kernel
theorem d_Mo_change_136 : decode b_Mo_change 136 = .ok (.iload_n 2, 1) := by decide +kernel
theorem d_Mo_change_137 : decode b_Mo_change 137 = .ok (.iconst 3, 1) := by decide +kernel
theorem d_Mo_change_138 : decode b_Mo_change 138 = .ok (.if_icmp .ne 7, 3) := by decide +kernel
theorem d_Mo_change_141 : decode b_Mo_change 141 = .ok (.iload_n 3, 1) := by decide +kernel
theorem d_Mo_change_142 : decode b_Mo_change 142 = .ok (.goto 11, 3) := by decide +kernel
theorem d_Mo_change_145 : decode b_Mo_change 145 = .ok (.aload_n 0, 1) := by decide +kernel
theorem d_Mo_change_146 : decode b_Mo_change 146 = .ok (.iload_n 1, 1) := by decide +kernel
theorem d_Mo_change_147 : decode b_Mo_change 147 = .ok (.iconst 3, 1) := by decide +kernel
theorem d_Mo_change_148 : decode b_Mo_change 148 = .ok (.iload 4, 2) := by decide +kernel
theorem d_Mo_change_150 : decode b_Mo_change 150 = .ok (.invokevirtual 132, 3) := by decide +kernel
theorem d_Mo_change_153 : decode b_Mo_change 153 = .ok (.iload_n 2, 1) := by decide +kernel
theorem d_Mo_change_154 : decode b_Mo_change 154 = .ok (.iconst 4, 1) := by decide +kernel
theorem d_Mo_change_155 : decode b_Mo_change 155 = .ok (.if_icmp .ne 7, 3) := by decide +kernel
theorem d_Mo_change_158 : decode b_Mo_change 158 = .ok (.iload_n 3, 1) := by decide +kernel
theorem d_Mo_change_159 : decode b_Mo_change 159 = .ok (.goto 11, 3) := by decide +kernel
theorem d_Mo_change_162 : decode b_Mo_change 162 = .ok (.aload_n 0, 1) := by decide +kernel
theorem d_Mo_change_163 : decode b_Mo_change 163 = .ok (.iload_n 1, 1) := by decide +kernel
theorem d_Mo_change_164 : decode b_Mo_change 164 = .ok (.iconst 4, 1) := by decide +kernel
theorem d_Mo_change_165 : decode b_Mo_change 165 = .ok (.iload 4, 2) := by decide +kernel
theorem d_Mo_change_167 : decode b_Mo_change 167 = .ok (.invokevirtual 132, 3) := by decide +kernel
theorem d_Mo_change_170 : decode b_Mo_change 170 = .ok (.if_icmp .gt 7, 3) := by decide +kernel
theorem d_Mo_change_173 : decode b_Mo_change 173 = .ok (.iconst 1, 1) := by decide +kernel
theorem d_Mo_change_174 : decode b_Mo_change 174 = .ok (.goto 4, 3) := by decide +kernel
theorem d_Mo_change_177 : decode b_Mo_change 177 = .ok (.iconst 0, 1) := by decide +kernel
theorem d_Mo_change_178 : decode b_Mo_change 178 = .ok (.istore 10, 2) := by decide +kernel
theorem d_Mo_change_180 : decode b_Mo_change 180 = .ok (.aload_n 0, 1) := by decide +kernel
theorem d_Mo_change_181 : decode b_Mo_change 181 = .ok (.iload 6, 2) := by decide +kernel
theorem d_Mo_change_183 : decode b_Mo_change 183 = .ok (.iload 7, 2) := by decide +kernel
theorem d_Mo_change_185 : decode b_Mo_change 185 = .ok (.iload 8, 2) := by decide +kernel
theorem d_Mo_change_187 : decode b_Mo_change 187 = .ok (.iload 10, 2) := by decide +kernel
theorem d_Mo_change_189 : decode b_Mo_change 189 = .ok (.invokevirtual 94, 3) := by decide +kernel
theorem d_Mo_change_192 : decode b_Mo_change 192 = .ok (.ifCond .eq 12, 3) := by decide +kernel
theorem d_Mo_change_195 : decode b_Mo_change 195 = .ok (.aload_n 0, 1) := by decide +kernel
theorem d_Mo_change_196 : decode b_Mo_change 196 = .ok (.iload_n 1, 1) := by decide +kernel
theorem d_Mo_change_197 : decode b_Mo_change 197 = .ok (.iload_n 2, 1) := by decide +kernel
theorem d_Mo_change_198 : decode b_Mo_change 198 = .ok (.iload_n 3, 1) := by decide +kernel
theorem d_Mo_change_199 : decode b_Mo_change 199 = .ok (.iload 4, 2) := by decide +kernel
theorem d_Mo_change_201 : decode b_Mo_change 201 = .ok (.invokevirtual 115, 3) := by decide +kernel
theorem d_Mo_change_204 : decode b_Mo_change 204 = .ok (.return_, 1) := by decide +kernel
theorem d_Mo_field_0 : decode b_Mo_field 0 = .ok (.aload_n 0, 1) := by decide +kernel
theorem d_Mo_field_1 : decode b_Mo_field 1 = .ok (.aload_n 0, 1) := by decide +kernel
theorem d_Mo_field_2 : decode b_Mo_field 2 = .ok (.iload_n 1, 1) := by decide +kernel
theorem d_Mo_field_3 : decode b_Mo_field 3 = .ok (.invokevirtual 109, 3) := by decide +kernel
theorem d_Mo_field_6 : decode b_Mo_field 6 = .ok (.ifCond .eq 16, 3) := by decide +kernel
theorem d_Mo_field_9 : decode b_Mo_field 9 = .ok (.iload_n 2, 1) := by decide +kernel
theorem d_Mo_field_10 : decode b_Mo_field 10 = .ok (.iconst 0, 1) := by decide +kernel
theorem d_Mo_field_11 : decode b_Mo_field 11 = .ok (.iconst 5, 1) := by decide +kernel
theorem d_Mo_field_12 : decode b_Mo_field 12 = .ok (.invokestatic 82, 3) := by decide +kernel
theorem d_Mo_field_15 : decode b_Mo_field 15 = .ok (.ifCond .eq 7, 3) := by decide +kernel
theorem d_Mo_field_18 : decode b_Mo_field 18 = .ok (.iconst 1, 1) := by decide +kernel
theorem d_Mo_field_19 : decode b_Mo_field 19 = .ok (.goto 4, 3) := by decide +kernel
theorem d_Mo_field_22 : decode b_Mo_field 22 = .ok (.iconst 0, 1) := by decide +kernel
theorem d_Mo_field_23 : decode b_Mo_field 23 = .ok (.iload_n 3, 1) := by decide +kernel
theorem d_Mo_field_24 : decode b_Mo_field 24 = .ok (.invokestatic 129, 3) := by decide +kernel
theorem d_Mo_field_27 : decode b_Mo_field 27 = .ok (.iconst 1, 1) := by decide +kernel
theorem d_Mo_field_28 : decode b_Mo_field 28 = .ok (.iconst 1, 1) := by decide +kernel
theorem d_Mo_field_29 : decode b_Mo_field 29 = .ok (.invokevirtual 94, 3) := by decide +kernel
theorem d_Mo_field_32 : decode b_Mo_field 32 = .ok (.ifCond .ne 5, 3) := by decide +kernel
theorem d_Mo_field_35 : decode b_Mo_field 35 = .ok (.iconst 0, 1) := by decide +kernel
theorem d_Mo_field_36 : decode b_Mo_field 36 = .ok (.ireturn, 1) := by decide +kernel
theorem d_Mo_field_37 : decode b_Mo_field 37 = .ok (.aload_n 0, 1) := by decide +kernel
theorem d_Mo_field_38 : decode b_Mo_field 38 = .ok (.iload_n 1, 1) := by decide +kernel
theorem d_Mo_field_39 : decode b_Mo_field 39 = .ok (.iload_n 2, 1) := by decide +kernel
theorem d_Mo_field_40 : decode b_Mo_field 40 = .ok (.iload_n 3, 1) := by decide +kernel
theorem d_Mo_field_41 : decode b_Mo_field 41 = .ok (.invokevirtual 132, 3) := by decide +kernel
theorem d_Mo_field_44 : decode b_Mo_field 44 = .ok (.ireturn, 1) := by decide +kernel
theorem d_Mo_history_0 : decode b_Mo_history 0 = .ok (.aload_n 0, 1) := by decide +kernel
theorem d_Mo_history_1 : decode b_Mo_history 1 = .ok (.aload_n 0, 1) := by decide +kernel
theorem d_Mo_history_2 : decode b_Mo_history 2 = .ok (.iload_n 1, 1) := by decide +kernel
theorem d_Mo_history_3 : decode b_Mo_history 3 = .ok (.invokevirtual 109, 3) := by decide +kernel
theorem d_Mo_history_6 : decode b_Mo_history 6 = .ok (.ifCond .eq 44, 3) := by decide +kernel
theorem d_Mo_history_9 : decode b_Mo_history 9 = .ok (.iload_n 2, 1) := by decide +kernel
theorem d_Mo_history_10 : decode b_Mo_history 10 = .ok (.iconst 0, 1) := by decide +kernel
theorem d_Mo_history_11 : decode b_Mo_history 11 = .ok (.aload_n 0, 1) := by decide +kernel
theorem d_Mo_history_12 : decode b_Mo_history 12 = .ok (.iload_n 1, 1) := by decide +kernel
theorem d_Mo_history_13 : decode b_Mo_history 13 = .ok (.invokevirtual 109, 3) := by decide +kernel
theorem d_Mo_history_16 : decode b_Mo_history 16 = .ok (.ifCond .eq 12, 3) := by decide +kernel
theorem d_Mo_history_19 : decode b_Mo_history 19 = .ok (.aload_n 0, 1) := by decide +kernel
theorem d_Mo_history_20 : decode b_Mo_history 20 = .ok (.getfield 35, 3) := by decide +kernel
theorem d_Mo_history_23 : decode b_Mo_history 23 = .ok (.iload_n 1, 1) := by decide +kernel
theorem d_Mo_history_24 : decode b_Mo_history 24 = .ok (.iaload, 1) := by decide +kernel
theorem d_Mo_history_25 : decode b_Mo_history 25 = .ok (.goto 4, 3) := by decide +kernel
theorem d_Mo_history_28 : decode b_Mo_history 28 = .ok (.iconst 0, 1) := by decide +kernel
theorem d_Mo_history_29 : decode b_Mo_history 29 = .ok (.iconst 1, 1) := by decide +kernel
theorem d_Mo_history_30 : decode b_Mo_history 30 = .ok (.isub, 1) := by decide +kernel
theorem d_Mo_history_31 : decode b_Mo_history 31 = .ok (.invokestatic 82, 3) := by decide +kernel
theorem d_Mo_history_34 : decode b_Mo_history 34 = .ok (.ifCond .eq 16, 3) := by decide +kernel
theorem d_Mo_history_37 : decode b_Mo_history 37 = .ok (.iload_n 3, 1) := by decide +kernel
theorem d_Mo_history_38 : decode b_Mo_history 38 = .ok (.iconst 0, 1) := by decide +kernel
theorem d_Mo_history_39 : decode b_Mo_history 39 = .ok (.iconst 3, 1) := by decide +kernel
theorem d_Mo_history_40 : decode b_Mo_history 40 = .ok (.invokestatic 82, 3) := by decide +kernel
theorem d_Mo_history_43 : decode b_Mo_history 43 = .ok (.ifCond .eq 7, 3) := by decide +kernel
theorem d_Mo_history_46 : decode b_Mo_history 46 = .ok (.iconst 1, 1) := by decide +kernel
theorem d_Mo_history_47 : decode b_Mo_history 47 = .ok (.goto 4, 3) := by decide +kernel
theorem d_Mo_history_50 : decode b_Mo_history 50 = .ok (.iconst 0, 1) := by decide +kernel
theorem d_Mo_history_51 : decode b_Mo_history 51 = .ok (.iconst 1, 1) := by decide +kernel
theorem d_Mo_history_52 : decode b_Mo_history 52 = .ok (.iconst 1, 1) := by decide +kernel
theorem d_Mo_history_53 : decode b_Mo_history 53 = .ok (.iconst 1, 1) := by decide +kernel
theorem d_Mo_history_54 : decode b_Mo_history 54 = .ok (.invokevirtual 94, 3) := by decide +kernel
theorem d_Mo_history_57 : decode b_Mo_history 57 = .ok (.ifCond .ne 5, 3) := by decide +kernel
theorem d_Mo_history_60 : decode b_Mo_history 60 = .ok (.iconst 0, 1) := by decide +kernel
theorem d_Mo_history_61 : decode b_Mo_history 61 = .ok (.ireturn, 1) := by decide +kernel
theorem d_Mo_history_62 : decode b_Mo_history 62 = .ok (.bipush 20, 2) := by decide +kernel
theorem d_Mo_history_64 : decode b_Mo_history 64 = .ok (.iload_n 1, 1) := by decide +kernel
theorem d_Mo_history_65 : decode b_Mo_history 65 = .ok (.imul, 1) := by decide +kernel
theorem d_Mo_history_66 : decode b_Mo_history 66 = .ok (.iload_n 2, 1) := by decide +kernel
theorem d_Mo_history_67 : decode b_Mo_history 67 = .ok (.iadd, 1) := by decide +kernel
theorem d_Mo_history_68 : decode b_Mo_history 68 = .ok (.istore 4, 2) := by decide +kernel
theorem d_Mo_history_70 : decode b_Mo_history 70 = .ok (.iload_n 3, 1) := by decide +kernel
theorem d_Mo_history_71 : decode b_Mo_history 71 = .ok (.ifCond .ne 13, 3) := by decide +kernel
theorem d_Mo_history_74 : decode b_Mo_history 74 = .ok (.aload_n 0, 1) := by decide +kernel
theorem d_Mo_history_75 : decode b_Mo_history 75 = .ok (.getfield 38, 3) := by decide +kernel
theorem d_Mo_history_78 : decode b_Mo_history 78 = .ok (.iload 4, 2) := by decide +kernel
theorem d_Mo_history_80 : decode b_Mo_history 80 = .ok (.iaload, 1) := by decide +kernel
theorem d_Mo_history_81 : decode b_Mo_history 81 = .ok (.goto 40, 3) := by decide +kernel
theorem d_Mo_history_84 : decode b_Mo_history 84 = .ok (.iload_n 3, 1) := by decide +kernel
theorem d_Mo_history_85 : decode b_Mo_history 85 = .ok (.iconst 1, 1) := by decide +kernel
theorem d_Mo_history_86 : decode b_Mo_history 86 = .ok (.if_icmp .ne 13, 3) := by decide +kernel
theorem d_Mo_history_89 : decode b_Mo_history 89 = .ok (.aload_n 0, 1) := by decide +kernel
theorem d_Mo_history_90 : decode b_Mo_history 90 = .ok (.getfield 41, 3) := by decide +kernel
theorem d_Mo_history_93 : decode b_Mo_history 93 = .ok (.iload 4, 2) := by decide +kernel
theorem d_Mo_history_95 : decode b_Mo_history 95 = .ok (.iaload, 1) := by decide +kernel
theorem d_Mo_history_96 : decode b_Mo_history 96 = .ok (.goto 25, 3) := by decide +kernel
theorem d_Mo_history_99 : decode b_Mo_history 99 = .ok (.iload_n 3, 1) := by decide +kernel
theorem d_Mo_history_100 : decode b_Mo_history 100 = .ok (.iconst 2, 1) := by decide +kernel
theorem d_Mo_history_101 : decode b_Mo_history 101 = .ok (.if_icmp .ne 13, 3) := by decide +kernel
theorem d_Mo_history_104 : decode b_Mo_history 104 = .ok (.aload_n 0, 1) := by decide +kernel
theorem d_Mo_history_105 : decode b_Mo_history 105 = .ok (.getfield 44, 3) := by decide +kernel
theorem d_Mo_history_108 : decode b_Mo_history 108 = .ok (.iload 4, 2) := by decide +kernel
theorem d_Mo_history_110 : decode b_Mo_history 110 = .ok (.iaload, 1) := by decide +kernel
theorem d_Mo_history_111 : decode b_Mo_history 111 = .ok (.goto 10, 3) := by decide +kernel
theorem d_Mo_history_114 : decode b_Mo_history 114 = .ok (.aload_n 0, 1) := by decide +kernel
theorem d_Mo_history_115 : decode b_Mo_history 115 = .ok (.getfield 47, 3) := by decide +kernel
theorem d_Mo_history_118 : decode b_Mo_history 118 = .ok (.iload 4, 2) := by decide +kernel
theorem d_Mo_history_120 : decode b_Mo_history 120 = .ok (.iaload, 1) := by decide +kernel
theorem d_Mo_history_121 : decode b_Mo_history 121 = .ok (.ireturn, 1) := by decide +kernel
theorem d_Mo_split_0 : decode b_Mo_split 0 = .ok (.aload_n 0, 1) := by decide +kernel
theorem d_Mo_split_1 : decode b_Mo_split 1 = .ok (.iload_n 1, 1) := by decide +kernel
theorem d_Mo_split_2 : decode b_Mo_split 2 = .ok (.invokevirtual 109, 3) := by decide +kernel
theorem d_Mo_split_5 : decode b_Mo_split 5 = .ok (.istore_n 3, 1) := by decide +kernel
theorem d_Mo_split_6 : decode b_Mo_split 6 = .ok (.aload_n 0, 1) := by decide +kernel
theorem d_Mo_split_7 : decode b_Mo_split 7 = .ok (.iload_n 3, 1) := by decide +kernel
theorem d_Mo_split_8 : decode b_Mo_split 8 = .ok (.iload_n 3, 1) := by decide +kernel
theorem d_Mo_split_9 : decode b_Mo_split 9 = .ok (.ifCond .eq 15, 3) := by decide +kernel
theorem d_Mo_split_12 : decode b_Mo_split 12 = .ok (.aload_n 0, 1) := by decide +kernel
theorem d_Mo_split_13 : decode b_Mo_split 13 = .ok (.iload_n 1, 1) := by decide +kernel
theorem d_Mo_split_14 : decode b_Mo_split 14 = .ok (.invokevirtual 122, 3) := by decide +kernel
theorem d_Mo_split_17 : decode b_Mo_split 17 = .ok (.ifCond .ne 7, 3) := by decide +kernel
theorem d_Mo_split_20 : decode b_Mo_split 20 = .ok (.iconst 1, 1) := by decide +kernel
theorem d_Mo_split_21 : decode b_Mo_split 21 = .ok (.goto 4, 3) := by decide +kernel
theorem d_Mo_split_24 : decode b_Mo_split 24 = .ok (.iconst 0, 1) := by decide +kernel
theorem d_Mo_split_25 : decode b_Mo_split 25 = .ok (.iload_n 3, 1) := by decide +kernel
theorem d_Mo_split_26 : decode b_Mo_split 26 = .ok (.ifCond .eq 25, 3) := by decide +kernel
theorem d_Mo_split_29 : decode b_Mo_split 29 = .ok (.iload_n 2, 1) := by decide +kernel
theorem d_Mo_split_30 : decode b_Mo_split 30 = .ok (.iconst 1, 1) := by decide +kernel
theorem d_Mo_split_31 : decode b_Mo_split 31 = .ok (.aload_n 0, 1) := by decide +kernel
theorem d_Mo_split_32 : decode b_Mo_split 32 = .ok (.iload_n 1, 1) := by decide +kernel
theorem d_Mo_split_33 : decode b_Mo_split 33 = .ok (.iconst 4, 1) := by decide +kernel
theorem d_Mo_split_34 : decode b_Mo_split 34 = .ok (.aload_n 0, 1) := by decide +kernel
theorem d_Mo_split_35 : decode b_Mo_split 35 = .ok (.getfield 91, 3) := by decide +kernel
theorem d_Mo_split_38 : decode b_Mo_split 38 = .ok (.invokevirtual 132, 3) := by decide +kernel
theorem d_Mo_split_41 : decode b_Mo_split 41 = .ok (.invokestatic 82, 3) := by decide +kernel
theorem d_Mo_split_44 : decode b_Mo_split 44 = .ok (.ifCond .eq 7, 3) := by decide +kernel
theorem d_Mo_split_47 : decode b_Mo_split 47 = .ok (.iconst 1, 1) := by decide +kernel
theorem d_Mo_split_48 : decode b_Mo_split 48 = .ok (.goto 4, 3) := by decide +kernel
theorem d_Mo_split_51 : decode b_Mo_split 51 = .ok (.iconst 0, 1) := by decide +kernel
theorem d_Mo_split_52 : decode b_Mo_split 52 = .ok (.iload_n 3, 1) := by decide +kernel
theorem d_Mo_split_53 : decode b_Mo_split 53 = .ok (.ifCond .eq 27, 3) := by decide +kernel
theorem d_Mo_split_56 : decode b_Mo_split 56 = .ok (.aload_n 0, 1) := by decide +kernel
theorem d_Mo_split_57 : decode b_Mo_split 57 = .ok (.getfield 86, 3) := by decide +kernel
theorem d_Mo_split_60 : decode b_Mo_split 60 = .ok (.bipush 60, 2) := by decide +kernel
theorem d_Mo_split_62 : decode b_Mo_split 62 = .ok (.if_icmp .ge 18, 3) := by decide +kernel
theorem d_Mo_split_65 : decode b_Mo_split 65 = .ok (.aload_n 0, 1) := by decide +kernel
theorem d_Mo_split_66 : decode b_Mo_split 66 = .ok (.getfield 35, 3) := by decide +kernel
theorem d_Mo_split_69 : decode b_Mo_split 69 = .ok (.iload_n 1, 1) := by decide +kernel
theorem d_Mo_split_70 : decode b_Mo_split 70 = .ok (.iaload, 1) := by decide +kernel
theorem d_Mo_split_71 : decode b_Mo_split 71 = .ok (.bipush 18, 2) := by decide +kernel
theorem d_Mo_split_73 : decode b_Mo_split 73 = .ok (.if_icmp .gt 7, 3) := by decide +kernel
theorem d_Mo_split_76 : decode b_Mo_split 76 = .ok (.iconst 1, 1) := by decide +kernel
theorem d_Mo_split_77 : decode b_Mo_split 77 = .ok (.goto 4, 3) := by decide +kernel
theorem d_Mo_split_80 : decode b_Mo_split 80 = .ok (.iconst 0, 1) := by decide +kernel
theorem d_Mo_split_81 : decode b_Mo_split 81 = .ok (.invokevirtual 94, 3) := by decide +kernel
theorem d_Mo_split_84 : decode b_Mo_split 84 = .ok (.ifCond .ne 5, 3) := by decide +kernel
theorem d_Mo_split_87 : decode b_Mo_split 87 = .ok (.iconst 0, 1) := by decide +kernel
theorem d_Mo_split_88 : decode b_Mo_split 88 = .ok (.ireturn, 1) := by decide +kernel
theorem d_Mo_split_89 : decode b_Mo_split 89 = .ok (.aload_n 0, 1) := by decide +kernel
theorem d_Mo_split_90 : decode b_Mo_split 90 = .ok (.iload_n 1, 1) := by decide +kernel
theorem d_Mo_split_91 : decode b_Mo_split 91 = .ok (.iconst 3, 1) := by decide +kernel
theorem d_Mo_split_92 : decode b_Mo_split 92 = .ok (.aload_n 0, 1) := by decide +kernel
theorem d_Mo_split_93 : decode b_Mo_split 93 = .ok (.getfield 91, 3) := by decide +kernel
theorem d_Mo_split_96 : decode b_Mo_split 96 = .ok (.invokevirtual 132, 3) := by decide +kernel
theorem d_Mo_split_99 : decode b_Mo_split 99 = .ok (.istore 4, 2) := by decide +kernel
theorem d_Mo_split_101 : decode b_Mo_split 101 = .ok (.iload 4, 2) := by decide +kernel
theorem d_Mo_split_103 : decode b_Mo_split 103 = .ok (.iload_n 2, 1) := by decide +kernel
theorem d_Mo_split_104 : decode b_Mo_split 104 = .ok (.if_icmp .ge 8, 3) := by decide +kernel
theorem d_Mo_split_107 : decode b_Mo_split 107 = .ok (.iload 4, 2) := by decide +kernel
theorem d_Mo_split_109 : decode b_Mo_split 109 = .ok (.goto 4, 3) := by decide +kernel
theorem d_Mo_split_112 : decode b_Mo_split 112 = .ok (.iload_n 2, 1) := by decide +kernel
theorem d_Mo_split_113 : decode b_Mo_split 113 = .ok (.istore 5, 2) := by decide +kernel
theorem d_Mo_split_115 : decode b_Mo_split 115 = .ok (.aload_n 0, 1) := by decide +kernel
theorem d_Mo_split_116 : decode b_Mo_split 116 = .ok (.aload_n 0, 1) := by decide +kernel
theorem d_Mo_split_117 : decode b_Mo_split 117 = .ok (.getfield 22, 3) := by decide +kernel
theorem d_Mo_split_120 : decode b_Mo_split 120 = .ok (.iload_n 1, 1) := by decide +kernel
theorem d_Mo_split_121 : decode b_Mo_split 121 = .ok (.iaload, 1) := by decide +kernel
theorem d_Mo_split_122 : decode b_Mo_split 122 = .ok (.aload_n 0, 1) := by decide +kernel
theorem d_Mo_split_123 : decode b_Mo_split 123 = .ok (.iload_n 1, 1) := by decide +kernel
theorem d_Mo_split_124 : decode b_Mo_split 124 = .ok (.iconst 0, 1) := by decide +kernel
theorem d_Mo_split_125 : decode b_Mo_split 125 = .ok (.aload_n 0, 1) := by decide +kernel
theorem d_Mo_split_126 : decode b_Mo_split 126 = .ok (.getfield 91, 3) := by decide +kernel
theorem d_Mo_split_129 : decode b_Mo_split 129 = .ok (.invokevirtual 132, 3) := by decide +kernel
theorem d_Mo_split_132 : decode b_Mo_split 132 = .ok (.aload_n 0, 1) := by decide +kernel
theorem d_Mo_split_133 : decode b_Mo_split 133 = .ok (.iload_n 1, 1) := by decide +kernel
theorem d_Mo_split_134 : decode b_Mo_split 134 = .ok (.iconst 1, 1) := by decide +kernel
theorem d_Mo_split_135 : decode b_Mo_split 135 = .ok (.aload_n 0, 1) := by decide +kernel
theorem d_Mo_split_136 : decode b_Mo_split 136 = .ok (.getfield 91, 3) := by decide +kernel
theorem d_Mo_split_139 : decode b_Mo_split 139 = .ok (.invokevirtual 132, 3) := by decide +kernel
theorem d_Mo_split_142 : decode b_Mo_split 142 = .ok (.aload_n 0, 1) := by decide +kernel
theorem d_Mo_split_143 : decode b_Mo_split 143 = .ok (.iload_n 1, 1) := by decide +kernel
theorem d_Mo_split_144 : decode b_Mo_split 144 = .ok (.iconst 2, 1) := by decide +kernel
theorem d_Mo_split_145 : decode b_Mo_split 145 = .ok (.aload_n 0, 1) := by decide +kernel
theorem d_Mo_split_146 : decode b_Mo_split 146 = .ok (.getfield 91, 3) := by decide +kernel
theorem d_Mo_split_149 : decode b_Mo_split 149 = .ok (.invokevirtual 132, 3) := by decide +kernel
theorem d_Mo_split_152 : decode b_Mo_split 152 = .ok (.iload 5, 2) := by decide +kernel
theorem d_Mo_split_154 : decode b_Mo_split 154 = .ok (.iload_n 2, 1) := by decide +kernel
theorem d_Mo_split_155 : decode b_Mo_split 155 = .ok (.aload_n 0, 1) := by decide +kernel
theorem d_Mo_split_156 : decode b_Mo_split 156 = .ok (.iload_n 1, 1) := by decide +kernel
theorem d_Mo_split_157 : decode b_Mo_split 157 = .ok (.iconst 5, 1) := by decide +kernel
theorem d_Mo_split_158 : decode b_Mo_split 158 = .ok (.aload_n 0, 1) := by decide +kernel
theorem d_Mo_split_159 : decode b_Mo_split 159 = .ok (.getfield 91, 3) := by decide +kernel
theorem d_Mo_split_162 : decode b_Mo_split 162 = .ok (.invokevirtual 132, 3) := by decide +kernel
theorem d_Mo_split_165 : decode b_Mo_split 165 = .ok (.invokevirtual 105, 3) := by decide +kernel
theorem d_Mo_split_168 : decode b_Mo_split 168 = .ok (.istore 6, 2) := by decide +kernel
theorem d_Mo_split_170 : decode b_Mo_split 170 = .ok (.aload_n 0, 1) := by decide +kernel
theorem d_Mo_split_171 : decode b_Mo_split 171 = .ok (.iload_n 1, 1) := by decide +kernel
theorem d_Mo_split_172 : decode b_Mo_split 172 = .ok (.iconst 4, 1) := by decide +kernel
theorem d_Mo_split_173 : decode b_Mo_split 173 = .ok (.aload_n 0, 1) := by decide +kernel
theorem d_Mo_split_174 : decode b_Mo_split 174 = .ok (.getfield 91, 3) := by decide +kernel
theorem d_Mo_split_177 : decode b_Mo_split 177 = .ok (.invokevirtual 132, 3) := by decide +kernel
theorem d_Mo_split_180 : decode b_Mo_split 180 = .ok (.istore 7, 2) := by decide +kernel
theorem d_Mo_split_182 : decode b_Mo_split 182 = .ok (.aload_n 0, 1) := by decide +kernel
theorem d_Mo_split_183 : decode b_Mo_split 183 = .ok (.iload_n 1, 1) := by decide +kernel
theorem d_Mo_split_184 : decode b_Mo_split 184 = .ok (.iconst 3, 1) := by decide +kernel
theorem d_Mo_split_185 : decode b_Mo_split 185 = .ok (.iload 4, 2) := by decide +kernel
theorem d_Mo_split_187 : decode b_Mo_split 187 = .ok (.iload 5, 2) := by decide +kernel
theorem d_Mo_split_189 : decode b_Mo_split 189 = .ok (.isub, 1) := by decide +kernel
theorem d_Mo_split_190 : decode b_Mo_split 190 = .ok (.aload_n 0, 1) := by decide +kernel
theorem d_Mo_split_191 : decode b_Mo_split 191 = .ok (.getfield 91, 3) := by decide +kernel
theorem d_Mo_split_194 : decode b_Mo_split 194 = .ok (.invokevirtual 115, 3) := by decide +kernel
theorem d_Mo_split_197 : decode b_Mo_split 197 = .ok (.aload_n 0, 1) := by decide +kernel
theorem d_Mo_split_198 : decode b_Mo_split 198 = .ok (.iload_n 1, 1) := by decide +kernel
theorem d_Mo_split_199 : decode b_Mo_split 199 = .ok (.iconst 4, 1) := by decide +kernel
theorem d_Mo_split_200 : decode b_Mo_split 200 = .ok (.iload 7, 2) := by decide +kernel
theorem d_Mo_split_202 : decode b_Mo_split 202 = .ok (.iload_n 2, 1) := by decide +kernel
theorem d_Mo_split_203 : decode b_Mo_split 203 = .ok (.isub, 1) := by decide +kernel
theorem d_Mo_split_204 : decode b_Mo_split 204 = .ok (.aload_n 0, 1) := by decide +kernel
theorem d_Mo_split_205 : decode b_Mo_split 205 = .ok (.getfield 91, 3) := by decide +kernel
theorem d_Mo_split_208 : decode b_Mo_split 208 = .ok (.invokevirtual 115, 3) := by decide +kernel
theorem d_Mo_split_211 : decode b_Mo_split 211 = .ok (.iload 6, 2) := by decide +kernel
theorem d_Mo_split_213 : decode b_Mo_split 213 = .ok (.ireturn, 1) := by decide +kernel
theorem d_Mo_sum_0 : decode b_Mo_sum 0 = .ok (.iconst 0, 1) := by decide +kernel
theorem d_Mo_sum_1 : decode b_Mo_sum 1 = .ok (.istore_n 3, 1) := by decide +kernel
theorem d_Mo_sum_2 : decode b_Mo_sum 2 = .ok (.iconst 0, 1) := by decide +kernel
theorem d_Mo_sum_3 : decode b_Mo_sum 3 = .ok (.istore 4, 2) := by decide +kernel
theorem d_Mo_sum_5 : decode b_Mo_sum 5 = .ok (.iload 4, 2) := by decide +kernel
theorem d_Mo_sum_7 : decode b_Mo_sum 7 = .ok (.aload_n 0, 1) := by decide +kernel
theorem d_Mo_sum_8 : decode b_Mo_sum 8 = .ok (.getfield 119, 3) := by decide +kernel
theorem d_Mo_sum_11 : decode b_Mo_sum 11 = .ok (.if_icmp .ge 41, 3) := by decide +kernel
theorem d_Mo_sum_14 : decode b_Mo_sum 14 = .ok (.aload_n 0, 1) := by decide +kernel
theorem d_Mo_sum_15 : decode b_Mo_sum 15 = .ok (.getfield 50, 3) := by decide +kernel
theorem d_Mo_sum_18 : decode b_Mo_sum 18 = .ok (.iload 4, 2) := by decide +kernel
theorem d_Mo_sum_20 : decode b_Mo_sum 20 = .ok (.iaload, 1) := by decide +kernel
theorem d_Mo_sum_21 : decode b_Mo_sum 21 = .ok (.iload_n 1, 1) := by decide +kernel
theorem d_Mo_sum_22 : decode b_Mo_sum 22 = .ok (.if_icmp .ne 24, 3) := by decide +kernel
theorem d_Mo_sum_25 : decode b_Mo_sum 25 = .ok (.aload_n 0, 1) := by decide +kernel
theorem d_Mo_sum_26 : decode b_Mo_sum 26 = .ok (.getfield 53, 3) := by decide +kernel
theorem d_Mo_sum_29 : decode b_Mo_sum 29 = .ok (.iload 4, 2) := by decide +kernel
theorem d_Mo_sum_31 : decode b_Mo_sum 31 = .ok (.iaload, 1) := by decide +kernel
theorem d_Mo_sum_32 : decode b_Mo_sum 32 = .ok (.iload_n 2, 1) := by decide +kernel
theorem d_Mo_sum_33 : decode b_Mo_sum 33 = .ok (.if_icmp .gt 13, 3) := by decide +kernel
theorem d_Mo_sum_36 : decode b_Mo_sum 36 = .ok (.iload_n 3, 1) := by decide +kernel
theorem d_Mo_sum_37 : decode b_Mo_sum 37 = .ok (.aload_n 0, 1) := by decide +kernel
theorem d_Mo_sum_38 : decode b_Mo_sum 38 = .ok (.getfield 56, 3) := by decide +kernel
theorem d_Mo_sum_41 : decode b_Mo_sum 41 = .ok (.iload 4, 2) := by decide +kernel
theorem d_Mo_sum_43 : decode b_Mo_sum 43 = .ok (.iaload, 1) := by decide +kernel
theorem d_Mo_sum_44 : decode b_Mo_sum 44 = .ok (.iadd, 1) := by decide +kernel
theorem d_Mo_sum_45 : decode b_Mo_sum 45 = .ok (.istore_n 3, 1) := by decide +kernel
theorem d_Mo_sum_46 : decode b_Mo_sum 46 = .ok (.iinc 4 1, 3) := by decide +kernel
theorem d_Mo_sum_49 : decode b_Mo_sum 49 = .ok (.goto (-44), 3) := by decide +kernel
theorem d_Mo_sum_52 : decode b_Mo_sum 52 = .ok (.iload_n 3, 1) := by decide +kernel
theorem d_Mo_sum_53 : decode b_Mo_sum 53 = .ok (.ireturn, 1) := by decide +kernel
theorem d_Mo_made_0 : decode b_Mo_made 0 = .ok (.aload_n 0, 1) := by decide +kernel
theorem d_Mo_made_1 : decode b_Mo_made 1 = .ok (.iload_n 1, 1) := by decide +kernel
theorem d_Mo_made_2 : decode b_Mo_made 2 = .ok (.invokevirtual 109, 3) := by decide +kernel
theorem d_Mo_made_5 : decode b_Mo_made 5 = .ok (.istore_n 3, 1) := by decide +kernel
theorem d_Mo_made_6 : decode b_Mo_made 6 = .ok (.iload_n 2, 1) := by decide +kernel
theorem d_Mo_made_7 : decode b_Mo_made 7 = .ok (.iconst 1, 1) := by decide +kernel
theorem d_Mo_made_8 : decode b_Mo_made 8 = .ok (.ldc 90, 2) := by decide +kernel
theorem d_Mo_made_10 : decode b_Mo_made 10 = .ok (.invokestatic 82, 3) := by decide +kernel
theorem d_Mo_made_13 : decode b_Mo_made 13 = .ok (.istore 4, 2) := by decide +kernel
theorem d_Mo_made_15 : decode b_Mo_made 15 = .ok (.aload_n 0, 1) := by decide +kernel
theorem d_Mo_made_16 : decode b_Mo_made 16 = .ok (.iload_n 3, 1) := by decide +kernel
theorem d_Mo_made_17 : decode b_Mo_made 17 = .ok (.iload 4, 2) := by decide +kernel
theorem d_Mo_made_19 : decode b_Mo_made 19 = .ok (.iload_n 3, 1) := by decide +kernel
theorem d_Mo_made_20 : decode b_Mo_made 20 = .ok (.ifCond .eq 37, 3) := by decide +kernel
theorem d_Mo_made_23 : decode b_Mo_made 23 = .ok (.iload 4, 2) := by decide +kernel
theorem d_Mo_made_25 : decode b_Mo_made 25 = .ok (.ifCond .eq 32, 3) := by decide +kernel
theorem d_Mo_made_28 : decode b_Mo_made 28 = .ok (.aload_n 0, 1) := by decide +kernel
theorem d_Mo_made_29 : decode b_Mo_made 29 = .ok (.getfield 119, 3) := by decide +kernel
theorem d_Mo_made_32 : decode b_Mo_made 32 = .ok (.sipush 200, 3) := by decide +kernel
theorem d_Mo_made_35 : decode b_Mo_made 35 = .ok (.if_icmp .ge 22, 3) := by decide +kernel
theorem d_Mo_made_38 : decode b_Mo_made 38 = .ok (.aload_n 0, 1) := by decide +kernel
theorem d_Mo_made_39 : decode b_Mo_made 39 = .ok (.iload_n 1, 1) := by decide +kernel
theorem d_Mo_made_40 : decode b_Mo_made 40 = .ok (.sipush 9999, 3) := by decide +kernel
theorem d_Mo_made_43 : decode b_Mo_made 43 = .ok (.invokevirtual 136, 3) := by decide +kernel
theorem d_Mo_made_46 : decode b_Mo_made 46 = .ok (.iload_n 2, 1) := by decide +kernel
theorem d_Mo_made_47 : decode b_Mo_made 47 = .ok (.iadd, 1) := by decide +kernel
theorem d_Mo_made_48 : decode b_Mo_made 48 = .ok (.ldc 140, 2) := by decide +kernel
theorem d_Mo_made_50 : decode b_Mo_made 50 = .ok (.if_icmp .gt 7, 3) := by decide +kernel
theorem d_Mo_made_53 : decode b_Mo_made 53 = .ok (.iconst 1, 1) := by decide +kernel
theorem d_Mo_made_54 : decode b_Mo_made 54 = .ok (.goto 4, 3) := by decide +kernel
theorem d_Mo_made_57 : decode b_Mo_made 57 = .ok (.iconst 0, 1) := by decide +kernel
theorem d_Mo_made_58 : decode b_Mo_made 58 = .ok (.iconst 1, 1) := by decide +kernel
theorem d_Mo_made_59 : decode b_Mo_made 59 = .ok (.invokevirtual 94, 3) := by decide +kernel
theorem d_Mo_made_62 : decode b_Mo_made 62 = .ok (.ifCond .ne 5, 3) := by decide +kernel
theorem d_Mo_made_65 : decode b_Mo_made 65 = .ok (.iconst 0, 1) := by decide +kernel
theorem d_Mo_made_66 : decode b_Mo_made 66 = .ok (.ireturn, 1) := by decide +kernel
theorem d_Mo_made_67 : decode b_Mo_made 67 = .ok (.aload_n 0, 1) := by decide +kernel
theorem d_Mo_made_68 : decode b_Mo_made 68 = .ok (.getfield 50, 3) := by decide +kernel
theorem d_Mo_made_71 : decode b_Mo_made 71 = .ok (.aload_n 0, 1) := by decide +kernel
theorem d_Mo_made_72 : decode b_Mo_made 72 = .ok (.getfield 119, 3) := by decide +kernel
theorem d_Mo_made_75 : decode b_Mo_made 75 = .ok (.iload_n 1, 1) := by decide +kernel
theorem d_Mo_made_76 : decode b_Mo_made 76 = .ok (.iastore, 1) := by decide +kernel
theorem d_Mo_made_77 : decode b_Mo_made 77 = .ok (.aload_n 0, 1) := by decide +kernel
theorem d_Mo_made_78 : decode b_Mo_made 78 = .ok (.getfield 53, 3) := by decide +kernel
theorem d_Mo_made_81 : decode b_Mo_made 81 = .ok (.aload_n 0, 1) := by decide +kernel
theorem d_Mo_made_82 : decode b_Mo_made 82 = .ok (.getfield 119, 3) := by decide +kernel
theorem d_Mo_made_85 : decode b_Mo_made 85 = .ok (.aload_n 0, 1) := by decide +kernel
theorem d_Mo_made_86 : decode b_Mo_made 86 = .ok (.getfield 91, 3) := by decide +kernel
theorem d_Mo_made_89 : decode b_Mo_made 89 = .ok (.iastore, 1) := by decide +kernel
theorem d_Mo_made_90 : decode b_Mo_made 90 = .ok (.aload_n 0, 1) := by decide +kernel
theorem d_Mo_made_91 : decode b_Mo_made 91 = .ok (.getfield 56, 3) := by decide +kernel
theorem d_Mo_made_94 : decode b_Mo_made 94 = .ok (.aload_n 0, 1) := by decide +kernel
theorem d_Mo_made_95 : decode b_Mo_made 95 = .ok (.getfield 119, 3) := by decide +kernel
theorem d_Mo_made_98 : decode b_Mo_made 98 = .ok (.iload_n 2, 1) := by decide +kernel
theorem d_Mo_made_99 : decode b_Mo_made 99 = .ok (.iastore, 1) := by decide +kernel
theorem d_Mo_made_100 : decode b_Mo_made 100 = .ok (.aload_n 0, 1) := by decide +kernel
theorem d_Mo_made_101 : decode b_Mo_made 101 = .ok (.dup, 1) := by decide +kernel
theorem d_Mo_made_102 : decode b_Mo_made 102 = .ok (.getfield 119, 3) := by decide +kernel
theorem d_Mo_made_105 : decode b_Mo_made 105 = .ok (.iconst 1, 1) := by decide +kernel
theorem d_Mo_made_106 : decode b_Mo_made 106 = .ok (.iadd, 1) := by decide +kernel
theorem d_Mo_made_107 : decode b_Mo_made 107 = .ok (.putfield 119, 3) := by decide +kernel
theorem d_Mo_made_110 : decode b_Mo_made 110 = .ok (.aload_n 0, 1) := by decide +kernel
theorem d_Mo_made_111 : decode b_Mo_made 111 = .ok (.iload_n 1, 1) := by decide +kernel
theorem d_Mo_made_112 : decode b_Mo_made 112 = .ok (.sipush 9999, 3) := by decide +kernel
theorem d_Mo_made_115 : decode b_Mo_made 115 = .ok (.invokevirtual 136, 3) := by decide +kernel
theorem d_Mo_made_118 : decode b_Mo_made 118 = .ok (.ireturn, 1) := by decide +kernel
theorem d_Mo_stateOn_0 : decode b_Mo_stateOn 0 = .ok (.aload_n 0, 1) := by decide +kernel
theorem d_Mo_stateOn_1 : decode b_Mo_stateOn 1 = .ok (.iload_n 1, 1) := by decide +kernel
theorem d_Mo_stateOn_2 : decode b_Mo_stateOn 2 = .ok (.iload_n 2, 1) := by decide +kernel
theorem d_Mo_stateOn_3 : decode b_Mo_stateOn 3 = .ok (.invokevirtual 136, 3) := by decide +kernel
theorem d_Mo_stateOn_6 : decode b_Mo_stateOn 6 = .ok (.istore_n 3, 1) := by decide +kernel
theorem d_Mo_stateOn_7 : decode b_Mo_stateOn 7 = .ok (.iload_n 3, 1) := by decide +kernel
theorem d_Mo_stateOn_8 : decode b_Mo_stateOn 8 = .ok (.aload_n 0, 1) := by decide +kernel
theorem d_Mo_stateOn_9 : decode b_Mo_stateOn 9 = .ok (.iload_n 1, 1) := by decide +kernel
theorem d_Mo_stateOn_10 : decode b_Mo_stateOn 10 = .ok (.iconst 4, 1) := by decide +kernel
theorem d_Mo_stateOn_11 : decode b_Mo_stateOn 11 = .ok (.iload_n 2, 1) := by decide +kernel
theorem d_Mo_stateOn_12 : decode b_Mo_stateOn 12 = .ok (.invokevirtual 132, 3) := by decide +kernel
theorem d_Mo_stateOn_15 : decode b_Mo_stateOn 15 = .ok (.if_icmp .le 5, 3) := by decide +kernel
theorem d_Mo_stateOn_18 : decode b_Mo_stateOn 18 = .ok (.iconst 3, 1) := by decide +kernel
theorem d_Mo_stateOn_19 : decode b_Mo_stateOn 19 = .ok (.ireturn, 1) := by decide +kernel
theorem d_Mo_stateOn_20 : decode b_Mo_stateOn 20 = .ok (.iload_n 3, 1) := by decide +kernel
theorem d_Mo_stateOn_21 : decode b_Mo_stateOn 21 = .ok (.aload_n 0, 1) := by decide +kernel
theorem d_Mo_stateOn_22 : decode b_Mo_stateOn 22 = .ok (.iload_n 1, 1) := by decide +kernel
theorem d_Mo_stateOn_23 : decode b_Mo_stateOn 23 = .ok (.iconst 3, 1) := by decide +kernel
theorem d_Mo_stateOn_24 : decode b_Mo_stateOn 24 = .ok (.iload_n 2, 1) := by decide +kernel
theorem d_Mo_stateOn_25 : decode b_Mo_stateOn 25 = .ok (.invokevirtual 132, 3) := by decide +kernel
theorem d_Mo_stateOn_28 : decode b_Mo_stateOn 28 = .ok (.if_icmp .lt 5, 3) := by decide +kernel
theorem d_Mo_stateOn_31 : decode b_Mo_stateOn 31 = .ok (.iconst 2, 1) := by decide +kernel
theorem d_Mo_stateOn_32 : decode b_Mo_stateOn 32 = .ok (.ireturn, 1) := by decide +kernel
theorem d_Mo_stateOn_33 : decode b_Mo_stateOn 33 = .ok (.iload_n 2, 1) := by decide +kernel
theorem d_Mo_stateOn_34 : decode b_Mo_stateOn 34 = .ok (.aload_n 0, 1) := by decide +kernel
theorem d_Mo_stateOn_35 : decode b_Mo_stateOn 35 = .ok (.iload_n 1, 1) := by decide +kernel
theorem d_Mo_stateOn_36 : decode b_Mo_stateOn 36 = .ok (.iconst 5, 1) := by decide +kernel
theorem d_Mo_stateOn_37 : decode b_Mo_stateOn 37 = .ok (.iload_n 2, 1) := by decide +kernel
theorem d_Mo_stateOn_38 : decode b_Mo_stateOn 38 = .ok (.invokevirtual 132, 3) := by decide +kernel
theorem d_Mo_stateOn_41 : decode b_Mo_stateOn 41 = .ok (.if_icmp .gt 7, 3) := by decide +kernel
theorem d_Mo_stateOn_44 : decode b_Mo_stateOn 44 = .ok (.iconst 0, 1) := by decide +kernel
theorem d_Mo_stateOn_45 : decode b_Mo_stateOn 45 = .ok (.goto 4, 3) := by decide +kernel
theorem d_Mo_stateOn_48 : decode b_Mo_stateOn 48 = .ok (.iconst 1, 1) := by decide +kernel
theorem d_Mo_stateOn_49 : decode b_Mo_stateOn 49 = .ok (.ireturn, 1) := by decide +kernel
theorem d_Mo_state_0 : decode b_Mo_state 0 = .ok (.aload_n 0, 1) := by decide +kernel
theorem d_Mo_state_1 : decode b_Mo_state 1 = .ok (.aload_n 0, 1) := by decide +kernel
theorem d_Mo_state_2 : decode b_Mo_state 2 = .ok (.iload_n 1, 1) := by decide +kernel
theorem d_Mo_state_3 : decode b_Mo_state 3 = .ok (.invokevirtual 109, 3) := by decide +kernel
theorem d_Mo_state_6 : decode b_Mo_state 6 = .ok (.iload_n 2, 1) := by decide +kernel
theorem d_Mo_state_7 : decode b_Mo_state 7 = .ok (.invokestatic 129, 3) := by decide +kernel
theorem d_Mo_state_10 : decode b_Mo_state 10 = .ok (.iconst 1, 1) := by decide +kernel
theorem d_Mo_state_11 : decode b_Mo_state 11 = .ok (.iconst 1, 1) := by decide +kernel
theorem d_Mo_state_12 : decode b_Mo_state 12 = .ok (.invokevirtual 94, 3) := by decide +kernel
theorem d_Mo_state_15 : decode b_Mo_state 15 = .ok (.ifCond .ne 5, 3) := by decide +kernel
theorem d_Mo_state_18 : decode b_Mo_state 18 = .ok (.iconst 0, 1) := by decide +kernel
theorem d_Mo_state_19 : decode b_Mo_state 19 = .ok (.ireturn, 1) := by decide +kernel
theorem d_Mo_state_20 : decode b_Mo_state 20 = .ok (.aload_n 0, 1) := by decide +kernel
theorem d_Mo_state_21 : decode b_Mo_state 21 = .ok (.iload_n 1, 1) := by decide +kernel
theorem d_Mo_state_22 : decode b_Mo_state 22 = .ok (.iload_n 2, 1) := by decide +kernel
theorem d_Mo_state_23 : decode b_Mo_state 23 = .ok (.invokevirtual 141, 3) := by decide +kernel
theorem d_Mo_state_26 : decode b_Mo_state 26 = .ok (.ireturn, 1) := by decide +kernel
theorem d_Mo_rest_0 : decode b_Mo_rest 0 = .ok (.aload_n 0, 1) := by decide +kernel
theorem d_Mo_rest_1 : decode b_Mo_rest 1 = .ok (.aload_n 0, 1) := by decide +kernel
theorem d_Mo_rest_2 : decode b_Mo_rest 2 = .ok (.iload_n 1, 1) := by decide +kernel
theorem d_Mo_rest_3 : decode b_Mo_rest 3 = .ok (.invokevirtual 109, 3) := by decide +kernel
theorem d_Mo_rest_6 : decode b_Mo_rest 6 = .ok (.iconst 1, 1) := by decide +kernel
theorem d_Mo_rest_7 : decode b_Mo_rest 7 = .ok (.iconst 1, 1) := by decide +kernel
theorem d_Mo_rest_8 : decode b_Mo_rest 8 = .ok (.iconst 1, 1) := by decide +kernel
theorem d_Mo_rest_9 : decode b_Mo_rest 9 = .ok (.invokevirtual 94, 3) := by decide +kernel
theorem d_Mo_rest_12 : decode b_Mo_rest 12 = .ok (.ifCond .ne 5, 3) := by decide +kernel
theorem d_Mo_rest_15 : decode b_Mo_rest 15 = .ok (.iconst 0, 1) := by decide +kernel
theorem d_Mo_rest_16 : decode b_Mo_rest 16 = .ok (.ireturn, 1) := by decide +kernel
theorem d_Mo_rest_17 : decode b_Mo_rest 17 = .ok (.aload_n 0, 1) := by decide +kernel
theorem d_Mo_rest_18 : decode b_Mo_rest 18 = .ok (.iload_n 1, 1) := by decide +kernel
theorem d_Mo_rest_19 : decode b_Mo_rest 19 = .ok (.iconst 3, 1) := by decide +kernel
theorem d_Mo_rest_20 : decode b_Mo_rest 20 = .ok (.aload_n 0, 1) := by decide +kernel
theorem d_Mo_rest_21 : decode b_Mo_rest 21 = .ok (.getfield 91, 3) := by decide +kernel
theorem d_Mo_rest_24 : decode b_Mo_rest 24 = .ok (.invokevirtual 132, 3) := by decide +kernel
theorem d_Mo_rest_27 : decode b_Mo_rest 27 = .ok (.aload_n 0, 1) := by decide +kernel
theorem d_Mo_rest_28 : decode b_Mo_rest 28 = .ok (.iload_n 1, 1) := by decide +kernel
theorem d_Mo_rest_29 : decode b_Mo_rest 29 = .ok (.aload_n 0, 1) := by decide +kernel
theorem d_Mo_rest_30 : decode b_Mo_rest 30 = .ok (.getfield 91, 3) := by decide +kernel
theorem d_Mo_rest_33 : decode b_Mo_rest 33 = .ok (.invokevirtual 136, 3) := by decide +kernel
theorem d_Mo_rest_36 : decode b_Mo_rest 36 = .ok (.isub, 1) := by decide +kernel
theorem d_Mo_rest_37 : decode b_Mo_rest 37 = .ok (.istore_n 2, 1) := by decide +kernel
theorem d_Mo_rest_38 : decode b_Mo_rest 38 = .ok (.iload_n 2, 1) := by decide +kernel
theorem d_Mo_rest_39 : decode b_Mo_rest 39 = .ok (.ifCond .le 7, 3) := by decide +kernel
theorem d_Mo_rest_42 : decode b_Mo_rest 42 = .ok (.iload_n 2, 1) := by decide +kernel
theorem d_Mo_rest_43 : decode b_Mo_rest 43 = .ok (.goto 4, 3) := by decide +kernel
theorem d_Mo_rest_46 : decode b_Mo_rest 46 = .ok (.iconst 0, 1) := by decide +kernel
theorem d_Mo_rest_47 : decode b_Mo_rest 47 = .ok (.ireturn, 1) := by decide +kernel
theorem d_Mo_isCost_0 : decode b_Mo_isCost 0 = .ok (.iload_n 0, 1) := by decide +kernel
theorem d_Mo_isCost_1 : decode b_Mo_isCost 1 = .ok (.iconst 0, 1) := by decide +kernel
theorem d_Mo_isCost_2 : decode b_Mo_isCost 2 = .ok (.ldc 89, 2) := by decide +kernel
theorem d_Mo_isCost_4 : decode b_Mo_isCost 4 = .ok (.invokestatic 82, 3) := by decide +kernel
theorem d_Mo_isCost_7 : decode b_Mo_isCost 7 = .ok (.ireturn, 1) := by decide +kernel
theorem d_Mo_costs_0 : decode b_Mo_costs 0 = .ok (.aload_n 0, 1) := by decide +kernel
theorem d_Mo_costs_1 : decode b_Mo_costs 1 = .ok (.iload_n 1, 1) := by decide +kernel
theorem d_Mo_costs_2 : decode b_Mo_costs 2 = .ok (.invokestatic 144, 3) := by decide +kernel
theorem d_Mo_costs_5 : decode b_Mo_costs 5 = .ok (.ifCond .eq 21, 3) := by decide +kernel
theorem d_Mo_costs_8 : decode b_Mo_costs 8 = .ok (.iload_n 2, 1) := by decide +kernel
theorem d_Mo_costs_9 : decode b_Mo_costs 9 = .ok (.invokestatic 144, 3) := by decide +kernel
theorem d_Mo_costs_12 : decode b_Mo_costs 12 = .ok (.ifCond .eq 14, 3) := by decide +kernel
theorem d_Mo_costs_15 : decode b_Mo_costs 15 = .ok (.iload_n 3, 1) := by decide +kernel
theorem d_Mo_costs_16 : decode b_Mo_costs 16 = .ok (.invokestatic 144, 3) := by decide +kernel
theorem d_Mo_costs_19 : decode b_Mo_costs 19 = .ok (.ifCond .eq 7, 3) := by decide +kernel
theorem d_Mo_costs_22 : decode b_Mo_costs 22 = .ok (.iconst 1, 1) := by decide +kernel
theorem d_Mo_costs_23 : decode b_Mo_costs 23 = .ok (.goto 4, 3) := by decide +kernel
theorem d_Mo_costs_26 : decode b_Mo_costs 26 = .ok (.iconst 0, 1) := by decide +kernel
theorem d_Mo_costs_27 : decode b_Mo_costs 27 = .ok (.iconst 1, 1) := by decide +kernel
theorem d_Mo_costs_28 : decode b_Mo_costs 28 = .ok (.iconst 1, 1) := by decide +kernel
theorem d_Mo_costs_29 : decode b_Mo_costs 29 = .ok (.iconst 1, 1) := by decide +kernel
theorem d_Mo_costs_30 : decode b_Mo_costs 30 = .ok (.invokevirtual 94, 3) := by decide +kernel
theorem d_Mo_costs_33 : decode b_Mo_costs 33 = .ok (.ifCond .ne 4, 3) := by decide +kernel
theorem d_Mo_costs_36 : decode b_Mo_costs 36 = .ok (.return_, 1) := by decide +kernel
theorem d_Mo_costs_37 : decode b_Mo_costs 37 = .ok (.aload_n 0, 1) := by decide +kernel
theorem d_Mo_costs_38 : decode b_Mo_costs 38 = .ok (.iload_n 1, 1) := by decide +kernel
theorem d_Mo_costs_39 : decode b_Mo_costs 39 = .ok (.putfield 147, 3) := by decide +kernel
theorem d_Mo_costs_42 : decode b_Mo_costs 42 = .ok (.aload_n 0, 1) := by decide +kernel
theorem d_Mo_costs_43 : decode b_Mo_costs 43 = .ok (.iload_n 2, 1) := by decide +kernel
theorem d_Mo_costs_44 : decode b_Mo_costs 44 = .ok (.putfield 150, 3) := by decide +kernel
theorem d_Mo_costs_47 : decode b_Mo_costs 47 = .ok (.aload_n 0, 1) := by decide +kernel
theorem d_Mo_costs_48 : decode b_Mo_costs 48 = .ok (.iload_n 3, 1) := by decide +kernel
theorem d_Mo_costs_49 : decode b_Mo_costs 49 = .ok (.putfield 153, 3) := by decide +kernel
theorem d_Mo_costs_52 : decode b_Mo_costs 52 = .ok (.return_, 1) := by decide +kernel
theorem d_Mo_quote_0 : decode b_Mo_quote 0 = .ok (.aload_n 0, 1) := by decide +kernel
theorem d_Mo_quote_1 : decode b_Mo_quote 1 = .ok (.aload_n 0, 1) := by decide +kernel
theorem d_Mo_quote_2 : decode b_Mo_quote 2 = .ok (.iload_n 1, 1) := by decide +kernel
theorem d_Mo_quote_3 : decode b_Mo_quote 3 = .ok (.invokevirtual 109, 3) := by decide +kernel
theorem d_Mo_quote_6 : decode b_Mo_quote 6 = .ok (.iload_n 2, 1) := by decide +kernel
theorem d_Mo_quote_7 : decode b_Mo_quote 7 = .ok (.aload_n 0, 1) := by decide +kernel
theorem d_Mo_quote_8 : decode b_Mo_quote 8 = .ok (.getfield 91, 3) := by decide +kernel
theorem d_Mo_quote_11 : decode b_Mo_quote 11 = .ok (.sipush 9999, 3) := by decide +kernel
theorem d_Mo_quote_14 : decode b_Mo_quote 14 = .ok (.invokestatic 82, 3) := by decide +kernel
theorem d_Mo_quote_17 : decode b_Mo_quote 17 = .ok (.aload_n 0, 1) := by decide +kernel
theorem d_Mo_quote_18 : decode b_Mo_quote 18 = .ok (.getfield 156, 3) := by decide +kernel
theorem d_Mo_quote_21 : decode b_Mo_quote 21 = .ok (.bipush 60, 2) := by decide +kernel
theorem d_Mo_quote_23 : decode b_Mo_quote 23 = .ok (.if_icmp .ge 7, 3) := by decide +kernel
theorem d_Mo_quote_26 : decode b_Mo_quote 26 = .ok (.iconst 1, 1) := by decide +kernel
theorem d_Mo_quote_27 : decode b_Mo_quote 27 = .ok (.goto 4, 3) := by decide +kernel
theorem d_Mo_quote_30 : decode b_Mo_quote 30 = .ok (.iconst 0, 1) := by decide +kernel
theorem d_Mo_quote_31 : decode b_Mo_quote 31 = .ok (.iconst 1, 1) := by decide +kernel
theorem d_Mo_quote_32 : decode b_Mo_quote 32 = .ok (.invokevirtual 94, 3) := by decide +kernel
theorem d_Mo_quote_35 : decode b_Mo_quote 35 = .ok (.ifCond .ne 5, 3) := by decide +kernel
theorem d_Mo_quote_38 : decode b_Mo_quote 38 = .ok (.iconst 0, 1) := by decide +kernel
theorem d_Mo_quote_39 : decode b_Mo_quote 39 = .ok (.ireturn, 1) := by decide +kernel
theorem d_Mo_quote_40 : decode b_Mo_quote 40 = .ok (.aload_n 0, 1) := by decide +kernel
theorem d_Mo_quote_41 : decode b_Mo_quote 41 = .ok (.iload_n 1, 1) := by decide +kernel
theorem d_Mo_quote_42 : decode b_Mo_quote 42 = .ok (.iconst 4, 1) := by decide +kernel
theorem d_Mo_quote_43 : decode b_Mo_quote 43 = .ok (.aload_n 0, 1) := by decide +kernel
theorem d_Mo_quote_44 : decode b_Mo_quote 44 = .ok (.getfield 91, 3) := by decide +kernel
theorem d_Mo_quote_47 : decode b_Mo_quote 47 = .ok (.invokevirtual 132, 3) := by decide +kernel
theorem d_Mo_quote_50 : decode b_Mo_quote 50 = .ok (.sipush 999, 3) := by decide +kernel
theorem d_Mo_quote_53 : decode b_Mo_quote 53 = .ok (.iadd, 1) := by decide +kernel
theorem d_Mo_quote_54 : decode b_Mo_quote 54 = .ok (.sipush 1000, 3) := by decide +kernel
theorem d_Mo_quote_57 : decode b_Mo_quote 57 = .ok (.idiv, 1) := by decide +kernel
theorem d_Mo_quote_58 : decode b_Mo_quote 58 = .ok (.i2l, 1) := by decide +kernel
theorem d_Mo_quote_59 : decode b_Mo_quote 59 = .ok (.lstore_n 3, 1) := by decide +kernel
theorem d_Mo_quote_60 : decode b_Mo_quote 60 = .ok (.aload_n 0, 1) := by decide +kernel
theorem d_Mo_quote_61 : decode b_Mo_quote 61 = .ok (.getfield 59, 3) := by decide +kernel
theorem d_Mo_quote_64 : decode b_Mo_quote 64 = .ok (.aload_n 0, 1) := by decide +kernel
theorem d_Mo_quote_65 : decode b_Mo_quote 65 = .ok (.getfield 156, 3) := by decide +kernel
theorem d_Mo_quote_68 : decode b_Mo_quote 68 = .ok (.iload_n 1, 1) := by decide +kernel
theorem d_Mo_quote_69 : decode b_Mo_quote 69 = .ok (.iastore, 1) := by decide +kernel
theorem d_Mo_quote_70 : decode b_Mo_quote 70 = .ok (.aload_n 0, 1) := by decide +kernel
theorem d_Mo_quote_71 : decode b_Mo_quote 71 = .ok (.getfield 62, 3) := by decide +kernel
theorem d_Mo_quote_74 : decode b_Mo_quote 74 = .ok (.aload_n 0, 1) := by decide +kernel
theorem d_Mo_quote_75 : decode b_Mo_quote 75 = .ok (.getfield 156, 3) := by decide +kernel
theorem d_Mo_quote_78 : decode b_Mo_quote 78 = .ok (.iload_n 2, 1) := by decide +kernel
theorem d_Mo_quote_79 : decode b_Mo_quote 79 = .ok (.iastore, 1) := by decide +kernel
theorem d_Mo_quote_80 : decode b_Mo_quote 80 = .ok (.aload_n 0, 1) := by decide +kernel
theorem d_Mo_quote_81 : decode b_Mo_quote 81 = .ok (.getfield 65, 3) := by decide +kernel
theorem d_Mo_quote_84 : decode b_Mo_quote 84 = .ok (.aload_n 0, 1) := by decide +kernel
theorem d_Mo_quote_85 : decode b_Mo_quote 85 = .ok (.getfield 156, 3) := by decide +kernel
theorem d_Mo_quote_88 : decode b_Mo_quote 88 = .ok (.aload_n 0, 1) := by decide +kernel
theorem d_Mo_quote_89 : decode b_Mo_quote 89 = .ok (.getfield 147, 3) := by decide +kernel
theorem d_Mo_quote_92 : decode b_Mo_quote 92 = .ok (.i2l, 1) := by decide +kernel
theorem d_Mo_quote_93 : decode b_Mo_quote 93 = .ok (.lload_n 3, 1) := by decide +kernel
theorem d_Mo_quote_94 : decode b_Mo_quote 94 = .ok (.aload_n 0, 1) := by decide +kernel
theorem d_Mo_quote_95 : decode b_Mo_quote 95 = .ok (.getfield 150, 3) := by decide +kernel
theorem d_Mo_quote_98 : decode b_Mo_quote 98 = .ok (.i2l, 1) := by decide +kernel
theorem d_Mo_quote_99 : decode b_Mo_quote 99 = .ok (.lmul, 1) := by decide +kernel
theorem d_Mo_quote_100 : decode b_Mo_quote 100 = .ok (.ladd, 1) := by decide +kernel
theorem d_Mo_quote_101 : decode b_Mo_quote 101 = .ok (.aload_n 0, 1) := by decide +kernel
theorem d_Mo_quote_102 : decode b_Mo_quote 102 = .ok (.iload_n 1, 1) := by decide +kernel
theorem d_Mo_quote_103 : decode b_Mo_quote 103 = .ok (.iconst 1, 1) := by decide +kernel
theorem d_Mo_quote_104 : decode b_Mo_quote 104 = .ok (.aload_n 0, 1) := by decide +kernel
theorem d_Mo_quote_105 : decode b_Mo_quote 105 = .ok (.getfield 91, 3) := by decide +kernel
theorem d_Mo_quote_108 : decode b_Mo_quote 108 = .ok (.invokevirtual 132, 3) := by decide +kernel
theorem d_Mo_quote_111 : decode b_Mo_quote 111 = .ok (.i2l, 1) := by decide +kernel
theorem d_Mo_quote_112 : decode b_Mo_quote 112 = .ok (.aload_n 0, 1) := by decide +kernel
theorem d_Mo_quote_113 : decode b_Mo_quote 113 = .ok (.getfield 153, 3) := by decide +kernel
theorem d_Mo_quote_116 : decode b_Mo_quote 116 = .ok (.i2l, 1) := by decide +kernel
theorem d_Mo_quote_117 : decode b_Mo_quote 117 = .ok (.lmul, 1) := by decide +kernel
theorem d_Mo_quote_118 : decode b_Mo_quote 118 = .ok (.ladd, 1) := by decide +kernel
theorem d_Mo_quote_119 : decode b_Mo_quote 119 = .ok (.lastore, 1) := by decide +kernel
theorem d_Mo_quote_120 : decode b_Mo_quote 120 = .ok (.aload_n 0, 1) := by decide +kernel
theorem d_Mo_quote_121 : decode b_Mo_quote 121 = .ok (.dup, 1) := by decide +kernel
theorem d_Mo_quote_122 : decode b_Mo_quote 122 = .ok (.getfield 156, 3) := by decide +kernel
theorem d_Mo_quote_125 : decode b_Mo_quote 125 = .ok (.iconst 1, 1) := by decide +kernel
theorem d_Mo_quote_126 : decode b_Mo_quote 126 = .ok (.iadd, 1) := by decide +kernel
theorem d_Mo_quote_127 : decode b_Mo_quote 127 = .ok (.putfield 156, 3) := by decide +kernel
theorem d_Mo_quote_130 : decode b_Mo_quote 130 = .ok (.aload_n 0, 1) := by decide +kernel
theorem d_Mo_quote_131 : decode b_Mo_quote 131 = .ok (.getfield 156, 3) := by decide +kernel
theorem d_Mo_quote_134 : decode b_Mo_quote 134 = .ok (.iconst 1, 1) := by decide +kernel
theorem d_Mo_quote_135 : decode b_Mo_quote 135 = .ok (.isub, 1) := by decide +kernel
theorem d_Mo_quote_136 : decode b_Mo_quote 136 = .ok (.ireturn, 1) := by decide +kernel
theorem d_Mo_isQuote_0 : decode b_Mo_isQuote 0 = .ok (.iload_n 1, 1) := by decide +kernel
theorem d_Mo_isQuote_1 : decode b_Mo_isQuote 1 = .ok (.iconst 0, 1) := by decide +kernel
theorem d_Mo_isQuote_2 : decode b_Mo_isQuote 2 = .ok (.aload_n 0, 1) := by decide +kernel
theorem d_Mo_isQuote_3 : decode b_Mo_isQuote 3 = .ok (.getfield 156, 3) := by decide +kernel
theorem d_Mo_isQuote_6 : decode b_Mo_isQuote 6 = .ok (.iconst 1, 1) := by decide +kernel
theorem d_Mo_isQuote_7 : decode b_Mo_isQuote 7 = .ok (.isub, 1) := by decide +kernel
theorem d_Mo_isQuote_8 : decode b_Mo_isQuote 8 = .ok (.invokestatic 82, 3) := by decide +kernel
theorem d_Mo_isQuote_11 : decode b_Mo_isQuote 11 = .ok (.ireturn, 1) := by decide +kernel
theorem d_Mo_quoteAt_0 : decode b_Mo_quoteAt 0 = .ok (.aload_n 0, 1) := by decide +kernel
theorem d_Mo_quoteAt_1 : decode b_Mo_quoteAt 1 = .ok (.aload_n 0, 1) := by decide +kernel
theorem d_Mo_quoteAt_2 : decode b_Mo_quoteAt 2 = .ok (.iload_n 1, 1) := by decide +kernel
theorem d_Mo_quoteAt_3 : decode b_Mo_quoteAt 3 = .ok (.invokevirtual 159, 3) := by decide +kernel
theorem d_Mo_quoteAt_6 : decode b_Mo_quoteAt 6 = .ok (.ifCond .eq 16, 3) := by decide +kernel
theorem d_Mo_quoteAt_9 : decode b_Mo_quoteAt 9 = .ok (.iload_n 2, 1) := by decide +kernel
theorem d_Mo_quoteAt_10 : decode b_Mo_quoteAt 10 = .ok (.iconst 0, 1) := by decide +kernel
theorem d_Mo_quoteAt_11 : decode b_Mo_quoteAt 11 = .ok (.iconst 2, 1) := by decide +kernel
theorem d_Mo_quoteAt_12 : decode b_Mo_quoteAt 12 = .ok (.invokestatic 82, 3) := by decide +kernel
theorem d_Mo_quoteAt_15 : decode b_Mo_quoteAt 15 = .ok (.ifCond .eq 7, 3) := by decide +kernel
theorem d_Mo_quoteAt_18 : decode b_Mo_quoteAt 18 = .ok (.iconst 1, 1) := by decide +kernel
theorem d_Mo_quoteAt_19 : decode b_Mo_quoteAt 19 = .ok (.goto 4, 3) := by decide +kernel
theorem d_Mo_quoteAt_22 : decode b_Mo_quoteAt 22 = .ok (.iconst 0, 1) := by decide +kernel
theorem d_Mo_quoteAt_23 : decode b_Mo_quoteAt 23 = .ok (.iconst 1, 1) := by decide +kernel
theorem d_Mo_quoteAt_24 : decode b_Mo_quoteAt 24 = .ok (.iconst 1, 1) := by decide +kernel
theorem d_Mo_quoteAt_25 : decode b_Mo_quoteAt 25 = .ok (.iconst 1, 1) := by decide +kernel
theorem d_Mo_quoteAt_26 : decode b_Mo_quoteAt 26 = .ok (.invokevirtual 94, 3) := by decide +kernel
theorem d_Mo_quoteAt_29 : decode b_Mo_quoteAt 29 = .ok (.ifCond .ne 5, 3) := by decide +kernel
theorem d_Mo_quoteAt_32 : decode b_Mo_quoteAt 32 = .ok (.iconst 0, 1) := by decide +kernel
theorem d_Mo_quoteAt_33 : decode b_Mo_quoteAt 33 = .ok (.ireturn, 1) := by decide +kernel
theorem d_Mo_quoteAt_34 : decode b_Mo_quoteAt 34 = .ok (.iload_n 2, 1) := by decide +kernel
theorem d_Mo_quoteAt_35 : decode b_Mo_quoteAt 35 = .ok (.ifCond .ne 12, 3) := by decide +kernel
theorem d_Mo_quoteAt_38 : decode b_Mo_quoteAt 38 = .ok (.aload_n 0, 1) := by decide +kernel
theorem d_Mo_quoteAt_39 : decode b_Mo_quoteAt 39 = .ok (.getfield 59, 3) := by decide +kernel
theorem d_Mo_quoteAt_42 : decode b_Mo_quoteAt 42 = .ok (.iload_n 1, 1) := by decide +kernel
theorem d_Mo_quoteAt_43 : decode b_Mo_quoteAt 43 = .ok (.iaload, 1) := by decide +kernel
theorem d_Mo_quoteAt_44 : decode b_Mo_quoteAt 44 = .ok (.goto 31, 3) := by decide +kernel
theorem d_Mo_quoteAt_47 : decode b_Mo_quoteAt 47 = .ok (.iload_n 2, 1) := by decide +kernel
theorem d_Mo_quoteAt_48 : decode b_Mo_quoteAt 48 = .ok (.iconst 1, 1) := by decide +kernel
theorem d_Mo_quoteAt_49 : decode b_Mo_quoteAt 49 = .ok (.if_icmp .ne 12, 3) := by decide +kernel
theorem d_Mo_quoteAt_52 : decode b_Mo_quoteAt 52 = .ok (.aload_n 0, 1) := by decide +kernel
theorem d_Mo_quoteAt_53 : decode b_Mo_quoteAt 53 = .ok (.getfield 62, 3) := by decide +kernel
theorem d_Mo_quoteAt_56 : decode b_Mo_quoteAt 56 = .ok (.iload_n 1, 1) := by decide +kernel
theorem d_Mo_quoteAt_57 : decode b_Mo_quoteAt 57 = .ok (.iaload, 1) := by decide +kernel
theorem d_Mo_quoteAt_58 : decode b_Mo_quoteAt 58 = .ok (.goto 17, 3) := by decide +kernel
theorem d_Mo_quoteAt_61 : decode b_Mo_quoteAt 61 = .ok (.aload_n 0, 1) := by decide +kernel
theorem d_Mo_quoteAt_62 : decode b_Mo_quoteAt 62 = .ok (.getfield 69, 3) := by decide +kernel
theorem d_Mo_quoteAt_65 : decode b_Mo_quoteAt 65 = .ok (.iload_n 1, 1) := by decide +kernel
theorem d_Mo_quoteAt_66 : decode b_Mo_quoteAt 66 = .ok (.baload, 1) := by decide +kernel
theorem d_Mo_quoteAt_67 : decode b_Mo_quoteAt 67 = .ok (.ifCond .eq 7, 3) := by decide +kernel
theorem d_Mo_quoteAt_70 : decode b_Mo_quoteAt 70 = .ok (.iconst 1, 1) := by decide +kernel
theorem d_Mo_quoteAt_71 : decode b_Mo_quoteAt 71 = .ok (.goto 4, 3) := by decide +kernel
theorem d_Mo_quoteAt_74 : decode b_Mo_quoteAt 74 = .ok (.iconst 0, 1) := by decide +kernel
theorem d_Mo_quoteAt_75 : decode b_Mo_quoteAt 75 = .ok (.ireturn, 1) := by decide +kernel
theorem d_Mo_price_0 : decode b_Mo_price 0 = .ok (.aload_n 0, 1) := by decide +kernel
theorem d_Mo_price_1 : decode b_Mo_price 1 = .ok (.aload_n 0, 1) := by decide +kernel
theorem d_Mo_price_2 : decode b_Mo_price 2 = .ok (.iload_n 1, 1) := by decide +kernel
theorem d_Mo_price_3 : decode b_Mo_price 3 = .ok (.invokevirtual 159, 3) := by decide +kernel
theorem d_Mo_price_6 : decode b_Mo_price 6 = .ok (.iconst 1, 1) := by decide +kernel
theorem d_Mo_price_7 : decode b_Mo_price 7 = .ok (.iconst 1, 1) := by decide +kernel
theorem d_Mo_price_8 : decode b_Mo_price 8 = .ok (.iconst 1, 1) := by decide +kernel
theorem d_Mo_price_9 : decode b_Mo_price 9 = .ok (.invokevirtual 94, 3) := by decide +kernel
theorem d_Mo_price_12 : decode b_Mo_price 12 = .ok (.ifCond .ne 5, 3) := by decide +kernel
theorem d_Mo_price_15 : decode b_Mo_price 15 = .ok (.lconst 0, 1) := by decide +kernel
theorem d_Mo_price_16 : decode b_Mo_price 16 = .ok (.lreturn, 1) := by decide +kernel
theorem d_Mo_price_17 : decode b_Mo_price 17 = .ok (.aload_n 0, 1) := by decide +kernel
theorem d_Mo_price_18 : decode b_Mo_price 18 = .ok (.getfield 65, 3) := by decide +kernel
theorem d_Mo_price_21 : decode b_Mo_price 21 = .ok (.iload_n 1, 1) := by decide +kernel
theorem d_Mo_price_22 : decode b_Mo_price 22 = .ok (.laload, 1) := by decide +kernel
theorem d_Mo_price_23 : decode b_Mo_price 23 = .ok (.lreturn, 1) := by decide +kernel
theorem d_Mo_credit_0 : decode b_Mo_credit 0 = .ok (.aload_n 0, 1) := by decide +kernel
theorem d_Mo_credit_1 : decode b_Mo_credit 1 = .ok (.iload_n 1, 1) := by decide +kernel
theorem d_Mo_credit_2 : decode b_Mo_credit 2 = .ok (.iconst 0, 1) := by decide +kernel
theorem d_Mo_credit_3 : decode b_Mo_credit 3 = .ok (.bipush 9, 2) := by decide +kernel
theorem d_Mo_credit_5 : decode b_Mo_credit 5 = .ok (.invokestatic 82, 3) := by decide +kernel
theorem d_Mo_credit_8 : decode b_Mo_credit 8 = .ok (.iload_n 2, 1) := by decide +kernel
theorem d_Mo_credit_9 : decode b_Mo_credit 9 = .ok (.iconst 0, 1) := by decide +kernel
theorem d_Mo_credit_10 : decode b_Mo_credit 10 = .ok (.ldc 162, 2) := by decide +kernel
theorem d_Mo_credit_12 : decode b_Mo_credit 12 = .ok (.invokestatic 82, 3) := by decide +kernel
theorem d_Mo_credit_15 : decode b_Mo_credit 15 = .ok (.iconst 1, 1) := by decide +kernel
theorem d_Mo_credit_16 : decode b_Mo_credit 16 = .ok (.iconst 1, 1) := by decide +kernel
theorem d_Mo_credit_17 : decode b_Mo_credit 17 = .ok (.invokevirtual 94, 3) := by decide +kernel
theorem d_Mo_credit_20 : decode b_Mo_credit 20 = .ok (.ifCond .eq 10, 3) := by decide +kernel
theorem d_Mo_credit_23 : decode b_Mo_credit 23 = .ok (.aload_n 0, 1) := by decide +kernel
theorem d_Mo_credit_24 : decode b_Mo_credit 24 = .ok (.getfield 7, 3) := by decide +kernel
theorem d_Mo_credit_27 : decode b_Mo_credit 27 = .ok (.iload_n 1, 1) := by decide +kernel
theorem d_Mo_credit_28 : decode b_Mo_credit 28 = .ok (.iload_n 2, 1) := by decide +kernel
theorem d_Mo_credit_29 : decode b_Mo_credit 29 = .ok (.iastore, 1) := by decide +kernel
theorem d_Mo_credit_30 : decode b_Mo_credit 30 = .ok (.return_, 1) := by decide +kernel
theorem d_Mo_customerOf_0 : decode b_Mo_customerOf 0 = .ok (.aload_n 0, 1) := by decide +kernel
theorem d_Mo_customerOf_1 : decode b_Mo_customerOf 1 = .ok (.getfield 13, 3) := by decide +kernel
theorem d_Mo_customerOf_4 : decode b_Mo_customerOf 4 = .ok (.aload_n 0, 1) := by decide +kernel
theorem d_Mo_customerOf_5 : decode b_Mo_customerOf 5 = .ok (.getfield 22, 3) := by decide +kernel
theorem d_Mo_customerOf_8 : decode b_Mo_customerOf 8 = .ok (.aload_n 0, 1) := by decide +kernel
theorem d_Mo_customerOf_9 : decode b_Mo_customerOf 9 = .ok (.getfield 59, 3) := by decide +kernel
theorem d_Mo_customerOf_12 : decode b_Mo_customerOf 12 = .ok (.iload_n 1, 1) := by decide +kernel
theorem d_Mo_customerOf_13 : decode b_Mo_customerOf 13 = .ok (.iaload, 1) := by decide +kernel
theorem d_Mo_customerOf_14 : decode b_Mo_customerOf 14 = .ok (.iaload, 1) := by decide +kernel
theorem d_Mo_customerOf_15 : decode b_Mo_customerOf 15 = .ok (.iaload, 1) := by decide +kernel
theorem d_Mo_customerOf_16 : decode b_Mo_customerOf 16 = .ok (.ireturn, 1) := by decide +kernel
theorem d_Mo_accept_0 : decode b_Mo_accept 0 = .ok (.aload_n 0, 1) := by decide +kernel
theorem d_Mo_accept_1 : decode b_Mo_accept 1 = .ok (.iload_n 1, 1) := by decide +kernel
theorem d_Mo_accept_2 : decode b_Mo_accept 2 = .ok (.invokevirtual 159, 3) := by decide +kernel
theorem d_Mo_accept_5 : decode b_Mo_accept 5 = .ok (.istore_n 2, 1) := by decide +kernel
theorem d_Mo_accept_6 : decode b_Mo_accept 6 = .ok (.iload_n 2, 1) := by decide +kernel
theorem d_Mo_accept_7 : decode b_Mo_accept 7 = .ok (.ifCond .eq 12, 3) := by decide +kernel
theorem d_Mo_accept_10 : decode b_Mo_accept 10 = .ok (.aload_n 0, 1) := by decide +kernel
theorem d_Mo_accept_11 : decode b_Mo_accept 11 = .ok (.getfield 65, 3) := by decide +kernel
theorem d_Mo_accept_14 : decode b_Mo_accept 14 = .ok (.iload_n 1, 1) := by decide +kernel
theorem d_Mo_accept_15 : decode b_Mo_accept 15 = .ok (.laload, 1) := by decide +kernel
theorem d_Mo_accept_16 : decode b_Mo_accept 16 = .ok (.goto 4, 3) := by decide +kernel
theorem d_Mo_accept_19 : decode b_Mo_accept 19 = .ok (.lconst 0, 1) := by decide +kernel
theorem d_Mo_accept_20 : decode b_Mo_accept 20 = .ok (.lstore_n 3, 1) := by decide +kernel
theorem d_Mo_accept_21 : decode b_Mo_accept 21 = .ok (.iconst 0, 1) := by decide +kernel
theorem d_Mo_accept_22 : decode b_Mo_accept 22 = .ok (.istore 5, 2) := by decide +kernel
theorem d_Mo_accept_24 : decode b_Mo_accept 24 = .ok (.iload 5, 2) := by decide +kernel
theorem d_Mo_accept_26 : decode b_Mo_accept 26 = .ok (.aload_n 0, 1) := by decide +kernel
theorem d_Mo_accept_27 : decode b_Mo_accept 27 = .ok (.getfield 156, 3) := by decide +kernel
theorem d_Mo_accept_30 : decode b_Mo_accept 30 = .ok (.if_icmp .ge 47, 3) := by decide +kernel
theorem d_Mo_accept_33 : decode b_Mo_accept 33 = .ok (.iload_n 2, 1) := by decide +kernel
theorem d_Mo_accept_34 : decode b_Mo_accept 34 = .ok (.ifCond .eq 43, 3) := by decide +kernel
theorem d_Mo_accept_37 : decode b_Mo_accept 37 = .ok (.aload_n 0, 1) := by decide +kernel
theorem d_Mo_accept_38 : decode b_Mo_accept 38 = .ok (.getfield 69, 3) := by decide +kernel
theorem d_Mo_accept_41 : decode b_Mo_accept 41 = .ok (.iload 5, 2) := by decide +kernel
theorem d_Mo_accept_43 : decode b_Mo_accept 43 = .ok (.baload, 1) := by decide +kernel
theorem d_Mo_accept_44 : decode b_Mo_accept 44 = .ok (.ifCond .eq 27, 3) := by decide +kernel
theorem d_Mo_accept_47 : decode b_Mo_accept 47 = .ok (.aload_n 0, 1) := by decide +kernel
theorem d_Mo_accept_48 : decode b_Mo_accept 48 = .ok (.iload 5, 2) := by decide +kernel
theorem d_Mo_accept_50 : decode b_Mo_accept 50 = .ok (.invokevirtual 163, 3) := by decide +kernel
theorem d_Mo_accept_53 : decode b_Mo_accept 53 = .ok (.aload_n 0, 1) := by decide +kernel
theorem d_Mo_accept_54 : decode b_Mo_accept 54 = .ok (.iload_n 1, 1) := by decide +kernel
theorem d_Mo_accept_55 : decode b_Mo_accept 55 = .ok (.invokevirtual 163, 3) := by decide +kernel
theorem d_Mo_accept_58 : decode b_Mo_accept 58 = .ok (.if_icmp .ne 13, 3) := by decide +kernel
theorem d_Mo_accept_61 : decode b_Mo_accept 61 = .ok (.lload_n 3, 1) := by decide +kernel
theorem d_Mo_accept_62 : decode b_Mo_accept 62 = .ok (.aload_n 0, 1) := by decide +kernel
theorem d_Mo_accept_63 : decode b_Mo_accept 63 = .ok (.getfield 65, 3) := by decide +kernel
theorem d_Mo_accept_66 : decode b_Mo_accept 66 = .ok (.iload 5, 2) := by decide +kernel
theorem d_Mo_accept_68 : decode b_Mo_accept 68 = .ok (.laload, 1) := by decide +kernel
theorem d_Mo_accept_69 : decode b_Mo_accept 69 = .ok (.ladd, 1) := by decide +kernel
theorem d_Mo_accept_70 : decode b_Mo_accept 70 = .ok (.lstore_n 3, 1) := by decide +kernel
theorem d_Mo_accept_71 : decode b_Mo_accept 71 = .ok (.iinc 5 1, 3) := by decide +kernel
theorem d_Mo_accept_74 : decode b_Mo_accept 74 = .ok (.goto (-50), 3) := by decide +kernel
theorem d_Mo_accept_77 : decode b_Mo_accept 77 = .ok (.aload_n 0, 1) := by decide +kernel
theorem d_Mo_accept_78 : decode b_Mo_accept 78 = .ok (.iload_n 2, 1) := by decide +kernel
theorem d_Mo_accept_79 : decode b_Mo_accept 79 = .ok (.iload_n 2, 1) := by decide +kernel
theorem d_Mo_accept_80 : decode b_Mo_accept 80 = .ok (.ifCond .eq 29, 3) := by decide +kernel
theorem d_Mo_accept_83 : decode b_Mo_accept 83 = .ok (.aload_n 0, 1) := by decide +kernel
theorem d_Mo_accept_84 : decode b_Mo_accept 84 = .ok (.getfield 69, 3) := by decide +kernel
theorem d_Mo_accept_87 : decode b_Mo_accept 87 = .ok (.iload_n 1, 1) := by decide +kernel
theorem d_Mo_accept_88 : decode b_Mo_accept 88 = .ok (.baload, 1) := by decide +kernel
theorem d_Mo_accept_89 : decode b_Mo_accept 89 = .ok (.ifCond .ne 20, 3) := by decide +kernel
theorem d_Mo_accept_92 : decode b_Mo_accept 92 = .ok (.aload_n 0, 1) := by decide +kernel
theorem d_Mo_accept_93 : decode b_Mo_accept 93 = .ok (.getfield 62, 3) := by decide +kernel
theorem d_Mo_accept_96 : decode b_Mo_accept 96 = .ok (.iload_n 1, 1) := by decide +kernel
theorem d_Mo_accept_97 : decode b_Mo_accept 97 = .ok (.iaload, 1) := by decide +kernel
theorem d_Mo_accept_98 : decode b_Mo_accept 98 = .ok (.aload_n 0, 1) := by decide +kernel
theorem d_Mo_accept_99 : decode b_Mo_accept 99 = .ok (.getfield 91, 3) := by decide +kernel
theorem d_Mo_accept_102 : decode b_Mo_accept 102 = .ok (.if_icmp .lt 7, 3) := by decide +kernel
theorem d_Mo_accept_105 : decode b_Mo_accept 105 = .ok (.iconst 1, 1) := by decide +kernel
theorem d_Mo_accept_106 : decode b_Mo_accept 106 = .ok (.goto 4, 3) := by decide +kernel
theorem d_Mo_accept_109 : decode b_Mo_accept 109 = .ok (.iconst 0, 1) := by decide +kernel
theorem d_Mo_accept_110 : decode b_Mo_accept 110 = .ok (.iload_n 2, 1) := by decide +kernel
theorem d_Mo_accept_111 : decode b_Mo_accept 111 = .ok (.ifCond .eq 23, 3) := by decide +kernel
theorem d_Mo_accept_114 : decode b_Mo_accept 114 = .ok (.lload_n 3, 1) := by decide +kernel
theorem d_Mo_accept_115 : decode b_Mo_accept 115 = .ok (.aload_n 0, 1) := by decide +kernel
theorem d_Mo_accept_116 : decode b_Mo_accept 116 = .ok (.getfield 7, 3) := by decide +kernel
theorem d_Mo_accept_119 : decode b_Mo_accept 119 = .ok (.aload_n 0, 1) := by decide +kernel
theorem d_Mo_accept_120 : decode b_Mo_accept 120 = .ok (.iload_n 1, 1) := by decide +kernel
theorem d_Mo_accept_121 : decode b_Mo_accept 121 = .ok (.invokevirtual 163, 3) := by decide +kernel
theorem d_Mo_accept_124 : decode b_Mo_accept 124 = .ok (.iaload, 1) := by decide +kernel
theorem d_Mo_accept_125 : decode b_Mo_accept 125 = .ok (.i2l, 1) := by decide +kernel
theorem d_Mo_accept_126 : decode b_Mo_accept 126 = .ok (.lcmp, 1) := by decide +kernel
theorem d_Mo_accept_127 : decode b_Mo_accept 127 = .ok (.ifCond .gt 7, 3) := by decide +kernel
theorem d_Mo_accept_130 : decode b_Mo_accept 130 = .ok (.iconst 1, 1) := by decide +kernel
theorem d_Mo_accept_131 : decode b_Mo_accept 131 = .ok (.goto 4, 3) := by decide +kernel
theorem d_Mo_accept_134 : decode b_Mo_accept 134 = .ok (.iconst 0, 1) := by decide +kernel
theorem d_Mo_accept_135 : decode b_Mo_accept 135 = .ok (.iconst 1, 1) := by decide +kernel
theorem d_Mo_accept_136 : decode b_Mo_accept 136 = .ok (.invokevirtual 94, 3) := by decide +kernel
theorem d_Mo_accept_139 : decode b_Mo_accept 139 = .ok (.ifCond .ne 5, 3) := by decide +kernel
theorem d_Mo_accept_142 : decode b_Mo_accept 142 = .ok (.lconst 0, 1) := by decide +kernel
theorem d_Mo_accept_143 : decode b_Mo_accept 143 = .ok (.lreturn, 1) := by decide +kernel
theorem d_Mo_accept_144 : decode b_Mo_accept 144 = .ok (.aload_n 0, 1) := by decide +kernel
theorem d_Mo_accept_145 : decode b_Mo_accept 145 = .ok (.getfield 69, 3) := by decide +kernel
theorem d_Mo_accept_148 : decode b_Mo_accept 148 = .ok (.iload_n 1, 1) := by decide +kernel
theorem d_Mo_accept_149 : decode b_Mo_accept 149 = .ok (.iconst 1, 1) := by decide +kernel
theorem d_Mo_accept_150 : decode b_Mo_accept 150 = .ok (.bastore, 1) := by decide +kernel
theorem d_Mo_accept_151 : decode b_Mo_accept 151 = .ok (.lload_n 3, 1) := by decide +kernel
theorem d_Mo_accept_152 : decode b_Mo_accept 152 = .ok (.lreturn, 1) := by decide +kernel
theorem d_Mo_capacity_0 : decode b_Mo_capacity 0 = .ok (.iconst 1, 1) := by decide +kernel
theorem d_Mo_capacity_1 : decode b_Mo_capacity 1 = .ok (.istore_n 2, 1) := by decide +kernel
theorem d_Mo_capacity_2 : decode b_Mo_capacity 2 = .ok (.iconst 0, 1) := by decide +kernel
theorem d_Mo_capacity_3 : decode b_Mo_capacity 3 = .ok (.istore_n 3, 1) := by decide +kernel
theorem d_Mo_capacity_4 : decode b_Mo_capacity 4 = .ok (.iload_n 3, 1) := by decide +kernel
theorem d_Mo_capacity_5 : decode b_Mo_capacity 5 = .ok (.sipush 9999, 3) := by decide +kernel
theorem d_Mo_capacity_8 : decode b_Mo_capacity 8 = .ok (.if_icmp .gt 21, 3) := by decide +kernel
theorem d_Mo_capacity_11 : decode b_Mo_capacity 11 = .ok (.aload_n 0, 1) := by decide +kernel
theorem d_Mo_capacity_12 : decode b_Mo_capacity 12 = .ok (.getfield 72, 3) := by decide +kernel
theorem d_Mo_capacity_15 : decode b_Mo_capacity 15 = .ok (.iload_n 3, 1) := by decide +kernel
theorem d_Mo_capacity_16 : decode b_Mo_capacity 16 = .ok (.iaload, 1) := by decide +kernel
theorem d_Mo_capacity_17 : decode b_Mo_capacity 17 = .ok (.iload_n 1, 1) := by decide +kernel
theorem d_Mo_capacity_18 : decode b_Mo_capacity 18 = .ok (.if_icmp .le 5, 3) := by decide +kernel
theorem d_Mo_capacity_21 : decode b_Mo_capacity 21 = .ok (.iconst 0, 1) := by decide +kernel
theorem d_Mo_capacity_22 : decode b_Mo_capacity 22 = .ok (.istore_n 2, 1) := by decide +kernel
theorem d_Mo_capacity_23 : decode b_Mo_capacity 23 = .ok (.iinc 3 1, 3) := by decide +kernel
theorem d_Mo_capacity_26 : decode b_Mo_capacity 26 = .ok (.goto (-22), 3) := by decide +kernel
theorem d_Mo_capacity_29 : decode b_Mo_capacity 29 = .ok (.aload_n 0, 1) := by decide +kernel
theorem d_Mo_capacity_30 : decode b_Mo_capacity 30 = .ok (.iload_n 1, 1) := by decide +kernel
theorem d_Mo_capacity_31 : decode b_Mo_capacity 31 = .ok (.iconst 0, 1) := by decide +kernel
theorem d_Mo_capacity_32 : decode b_Mo_capacity 32 = .ok (.ldc 167, 2) := by decide +kernel
theorem d_Mo_capacity_34 : decode b_Mo_capacity 34 = .ok (.invokestatic 82, 3) := by decide +kernel
theorem d_Mo_capacity_37 : decode b_Mo_capacity 37 = .ok (.iload_n 2, 1) := by decide +kernel
theorem d_Mo_capacity_38 : decode b_Mo_capacity 38 = .ok (.iconst 1, 1) := by decide +kernel
theorem d_Mo_capacity_39 : decode b_Mo_capacity 39 = .ok (.iconst 1, 1) := by decide +kernel
theorem d_Mo_capacity_40 : decode b_Mo_capacity 40 = .ok (.invokevirtual 94, 3) := by decide +kernel
theorem d_Mo_capacity_43 : decode b_Mo_capacity 43 = .ok (.ifCond .eq 8, 3) := by decide +kernel
theorem d_Mo_capacity_46 : decode b_Mo_capacity 46 = .ok (.aload_n 0, 1) := by decide +kernel
theorem d_Mo_capacity_47 : decode b_Mo_capacity 47 = .ok (.iload_n 1, 1) := by decide +kernel
theorem d_Mo_capacity_48 : decode b_Mo_capacity 48 = .ok (.putfield 168, 3) := by decide +kernel
theorem d_Mo_capacity_51 : decode b_Mo_capacity 51 = .ok (.return_, 1) := by decide +kernel
theorem d_Mo_reserve_0 : decode b_Mo_reserve 0 = .ok (.aload_n 0, 1) := by decide +kernel
theorem d_Mo_reserve_1 : decode b_Mo_reserve 1 = .ok (.iload_n 1, 1) := by decide +kernel
theorem d_Mo_reserve_2 : decode b_Mo_reserve 2 = .ok (.invokevirtual 109, 3) := by decide +kernel
theorem d_Mo_reserve_5 : decode b_Mo_reserve 5 = .ok (.istore_n 2, 1) := by decide +kernel
theorem d_Mo_reserve_6 : decode b_Mo_reserve 6 = .ok (.iload_n 2, 1) := by decide +kernel
theorem d_Mo_reserve_7 : decode b_Mo_reserve 7 = .ok (.ifCond .eq 16, 3) := by decide +kernel
theorem d_Mo_reserve_10 : decode b_Mo_reserve 10 = .ok (.aload_n 0, 1) := by decide +kernel
theorem d_Mo_reserve_11 : decode b_Mo_reserve 11 = .ok (.iload_n 1, 1) := by decide +kernel
theorem d_Mo_reserve_12 : decode b_Mo_reserve 12 = .ok (.iconst 4, 1) := by decide +kernel
theorem d_Mo_reserve_13 : decode b_Mo_reserve 13 = .ok (.aload_n 0, 1) := by decide +kernel
theorem d_Mo_reserve_14 : decode b_Mo_reserve 14 = .ok (.getfield 91, 3) := by decide +kernel
theorem d_Mo_reserve_17 : decode b_Mo_reserve 17 = .ok (.invokevirtual 132, 3) := by decide +kernel
theorem d_Mo_reserve_20 : decode b_Mo_reserve 20 = .ok (.goto 4, 3) := by decide +kernel
theorem d_Mo_reserve_23 : decode b_Mo_reserve 23 = .ok (.iconst 0, 1) := by decide +kernel
theorem d_Mo_reserve_24 : decode b_Mo_reserve 24 = .ok (.istore_n 3, 1) := by decide +kernel
theorem d_Mo_reserve_25 : decode b_Mo_reserve 25 = .ok (.iload_n 2, 1) := by decide +kernel
theorem d_Mo_reserve_26 : decode b_Mo_reserve 26 = .ok (.ifCond .eq 16, 3) := by decide +kernel
theorem d_Mo_reserve_29 : decode b_Mo_reserve 29 = .ok (.aload_n 0, 1) := by decide +kernel
theorem d_Mo_reserve_30 : decode b_Mo_reserve 30 = .ok (.iload_n 1, 1) := by decide +kernel
theorem d_Mo_reserve_31 : decode b_Mo_reserve 31 = .ok (.iconst 5, 1) := by decide +kernel
theorem d_Mo_reserve_32 : decode b_Mo_reserve 32 = .ok (.aload_n 0, 1) := by decide +kernel
theorem d_Mo_reserve_33 : decode b_Mo_reserve 33 = .ok (.getfield 91, 3) := by decide +kernel
theorem d_Mo_reserve_36 : decode b_Mo_reserve 36 = .ok (.invokevirtual 132, 3) := by decide +kernel
theorem d_Mo_reserve_39 : decode b_Mo_reserve 39 = .ok (.goto 4, 3) := by decide +kernel
theorem d_Mo_reserve_42 : decode b_Mo_reserve 42 = .ok (.iconst (-1), 1) := by decide +kernel
theorem d_Mo_reserve_43 : decode b_Mo_reserve 43 = .ok (.istore 4, 2) := by decide +kernel
theorem d_Mo_reserve_45 : decode b_Mo_reserve 45 = .ok (.iload 4, 2) := by decide +kernel
theorem d_Mo_reserve_47 : decode b_Mo_reserve 47 = .ok (.aload_n 0, 1) := by decide +kernel
theorem d_Mo_reserve_48 : decode b_Mo_reserve 48 = .ok (.getfield 91, 3) := by decide +kernel
theorem d_Mo_reserve_51 : decode b_Mo_reserve 51 = .ok (.if_icmp .lt 25, 3) := by decide +kernel
theorem d_Mo_reserve_54 : decode b_Mo_reserve 54 = .ok (.aload_n 0, 1) := by decide +kernel
theorem d_Mo_reserve_55 : decode b_Mo_reserve 55 = .ok (.getfield 168, 3) := by decide +kernel
theorem d_Mo_reserve_58 : decode b_Mo_reserve 58 = .ok (.aload_n 0, 1) := by decide +kernel
theorem d_Mo_reserve_59 : decode b_Mo_reserve 59 = .ok (.getfield 72, 3) := by decide +kernel
theorem d_Mo_reserve_62 : decode b_Mo_reserve 62 = .ok (.iload 4, 2) := by decide +kernel
theorem d_Mo_reserve_64 : decode b_Mo_reserve 64 = .ok (.iaload, 1) := by decide +kernel
theorem d_Mo_reserve_65 : decode b_Mo_reserve 65 = .ok (.isub, 1) := by decide +kernel
theorem d_Mo_reserve_66 : decode b_Mo_reserve 66 = .ok (.iload_n 3, 1) := by decide +kernel
theorem d_Mo_reserve_67 : decode b_Mo_reserve 67 = .ok (.if_icmp .ge 9, 3) := by decide +kernel
theorem d_Mo_reserve_70 : decode b_Mo_reserve 70 = .ok (.iinc 4 (-1), 3) := by decide +kernel
theorem d_Mo_reserve_73 : decode b_Mo_reserve 73 = .ok (.goto (-28), 3) := by decide +kernel
theorem d_Mo_reserve_76 : decode b_Mo_reserve 76 = .ok (.aload_n 0, 1) := by decide +kernel
theorem d_Mo_reserve_77 : decode b_Mo_reserve 77 = .ok (.iload_n 2, 1) := by decide +kernel
theorem d_Mo_reserve_78 : decode b_Mo_reserve 78 = .ok (.iload_n 2, 1) := by decide +kernel
theorem d_Mo_reserve_79 : decode b_Mo_reserve 79 = .ok (.ifCond .eq 16, 3) := by decide +kernel
theorem d_Mo_reserve_82 : decode b_Mo_reserve 82 = .ok (.aload_n 0, 1) := by decide +kernel
theorem d_Mo_reserve_83 : decode b_Mo_reserve 83 = .ok (.getfield 31, 3) := by decide +kernel
theorem d_Mo_reserve_86 : decode b_Mo_reserve 86 = .ok (.iload_n 1, 1) := by decide +kernel
theorem d_Mo_reserve_87 : decode b_Mo_reserve 87 = .ok (.baload, 1) := by decide +kernel
theorem d_Mo_reserve_88 : decode b_Mo_reserve 88 = .ok (.ifCond .ne 7, 3) := by decide +kernel
theorem d_Mo_reserve_91 : decode b_Mo_reserve 91 = .ok (.iconst 1, 1) := by decide +kernel
theorem d_Mo_reserve_92 : decode b_Mo_reserve 92 = .ok (.goto 4, 3) := by decide +kernel
theorem d_Mo_reserve_95 : decode b_Mo_reserve 95 = .ok (.iconst 0, 1) := by decide +kernel
theorem d_Mo_reserve_96 : decode b_Mo_reserve 96 = .ok (.iload 4, 2) := by decide +kernel
theorem d_Mo_reserve_98 : decode b_Mo_reserve 98 = .ok (.aload_n 0, 1) := by decide +kernel
theorem d_Mo_reserve_99 : decode b_Mo_reserve 99 = .ok (.getfield 91, 3) := by decide +kernel
theorem d_Mo_reserve_102 : decode b_Mo_reserve 102 = .ok (.if_icmp .lt 7, 3) := by decide +kernel
theorem d_Mo_reserve_105 : decode b_Mo_reserve 105 = .ok (.iconst 1, 1) := by decide +kernel
theorem d_Mo_reserve_106 : decode b_Mo_reserve 106 = .ok (.goto 4, 3) := by decide +kernel
theorem d_Mo_reserve_109 : decode b_Mo_reserve 109 = .ok (.iconst 0, 1) := by decide +kernel
theorem d_Mo_reserve_110 : decode b_Mo_reserve 110 = .ok (.iconst 1, 1) := by decide +kernel
theorem d_Mo_reserve_111 : decode b_Mo_reserve 111 = .ok (.invokevirtual 94, 3) := by decide +kernel
theorem d_Mo_reserve_114 : decode b_Mo_reserve 114 = .ok (.ifCond .ne 5, 3) := by decide +kernel
theorem d_Mo_reserve_117 : decode b_Mo_reserve 117 = .ok (.iconst 0, 1) := by decide +kernel
theorem d_Mo_reserve_118 : decode b_Mo_reserve 118 = .ok (.ireturn, 1) := by decide +kernel
theorem d_Mo_reserve_119 : decode b_Mo_reserve 119 = .ok (.aload_n 0, 1) := by decide +kernel
theorem d_Mo_reserve_120 : decode b_Mo_reserve 120 = .ok (.getfield 31, 3) := by decide +kernel
theorem d_Mo_reserve_123 : decode b_Mo_reserve 123 = .ok (.iload_n 1, 1) := by decide +kernel
theorem d_Mo_reserve_124 : decode b_Mo_reserve 124 = .ok (.iconst 1, 1) := by decide +kernel
theorem d_Mo_reserve_125 : decode b_Mo_reserve 125 = .ok (.bastore, 1) := by decide +kernel
theorem d_Mo_reserve_126 : decode b_Mo_reserve 126 = .ok (.aload_n 0, 1) := by decide +kernel
theorem d_Mo_reserve_127 : decode b_Mo_reserve 127 = .ok (.getfield 72, 3) := by decide +kernel
theorem d_Mo_reserve_130 : decode b_Mo_reserve 130 = .ok (.iload 4, 2) := by decide +kernel
theorem d_Mo_reserve_132 : decode b_Mo_reserve 132 = .ok (.aload_n 0, 1) := by decide +kernel
theorem d_Mo_reserve_133 : decode b_Mo_reserve 133 = .ok (.getfield 72, 3) := by decide +kernel
theorem d_Mo_reserve_136 : decode b_Mo_reserve 136 = .ok (.iload 4, 2) := by decide +kernel
theorem d_Mo_reserve_138 : decode b_Mo_reserve 138 = .ok (.iaload, 1) := by decide +kernel
theorem d_Mo_reserve_139 : decode b_Mo_reserve 139 = .ok (.iload_n 3, 1) := by decide +kernel
theorem d_Mo_reserve_140 : decode b_Mo_reserve 140 = .ok (.iadd, 1) := by decide +kernel
theorem d_Mo_reserve_141 : decode b_Mo_reserve 141 = .ok (.iastore, 1) := by decide +kernel
theorem d_Mo_reserve_142 : decode b_Mo_reserve 142 = .ok (.iload 4, 2) := by decide +kernel
theorem d_Mo_reserve_144 : decode b_Mo_reserve 144 = .ok (.ireturn, 1) := by decide +kernel
theorem d_Mo_join_0 : decode b_Mo_join 0 = .ok (.aload_n 0, 1) := by decide +kernel
theorem d_Mo_join_1 : decode b_Mo_join 1 = .ok (.aload_n 0, 1) := by decide +kernel
theorem d_Mo_join_2 : decode b_Mo_join 2 = .ok (.iload_n 1, 1) := by decide +kernel
theorem d_Mo_join_3 : decode b_Mo_join 3 = .ok (.invokevirtual 98, 3) := by decide +kernel
theorem d_Mo_join_6 : decode b_Mo_join 6 = .ok (.ifCond .eq 20, 3) := by decide +kernel
theorem d_Mo_join_9 : decode b_Mo_join 9 = .ok (.aload_n 0, 1) := by decide +kernel
theorem d_Mo_join_10 : decode b_Mo_join 10 = .ok (.iload_n 2, 1) := by decide +kernel
theorem d_Mo_join_11 : decode b_Mo_join 11 = .ok (.invokevirtual 98, 3) := by decide +kernel
theorem d_Mo_join_14 : decode b_Mo_join 14 = .ok (.ifCond .eq 12, 3) := by decide +kernel
theorem d_Mo_join_17 : decode b_Mo_join 17 = .ok (.iload_n 1, 1) := by decide +kernel
theorem d_Mo_join_18 : decode b_Mo_join 18 = .ok (.iload_n 2, 1) := by decide +kernel
theorem d_Mo_join_19 : decode b_Mo_join 19 = .ok (.if_icmp .eq 7, 3) := by decide +kernel
theorem d_Mo_join_22 : decode b_Mo_join 22 = .ok (.iconst 1, 1) := by decide +kernel
theorem d_Mo_join_23 : decode b_Mo_join 23 = .ok (.goto 4, 3) := by decide +kernel
theorem d_Mo_join_26 : decode b_Mo_join 26 = .ok (.iconst 0, 1) := by decide +kernel
theorem d_Mo_join_27 : decode b_Mo_join 27 = .ok (.iconst 1, 1) := by decide +kernel
theorem d_Mo_join_28 : decode b_Mo_join 28 = .ok (.iconst 1, 1) := by decide +kernel
theorem d_Mo_join_29 : decode b_Mo_join 29 = .ok (.iconst 1, 1) := by decide +kernel
theorem d_Mo_join_30 : decode b_Mo_join 30 = .ok (.invokevirtual 94, 3) := by decide +kernel
theorem d_Mo_join_33 : decode b_Mo_join 33 = .ok (.ifCond .ne 5, 3) := by decide +kernel
theorem d_Mo_join_36 : decode b_Mo_join 36 = .ok (.iconst 0, 1) := by decide +kernel
theorem d_Mo_join_37 : decode b_Mo_join 37 = .ok (.ireturn, 1) := by decide +kernel
theorem d_Mo_join_38 : decode b_Mo_join 38 = .ok (.aload_n 0, 1) := by decide +kernel
theorem d_Mo_join_39 : decode b_Mo_join 39 = .ok (.getfield 19, 3) := by decide +kernel
theorem d_Mo_join_42 : decode b_Mo_join 42 = .ok (.iload_n 2, 1) := by decide +kernel
theorem d_Mo_join_43 : decode b_Mo_join 43 = .ok (.iaload, 1) := by decide +kernel
theorem d_Mo_join_44 : decode b_Mo_join 44 = .ok (.istore_n 3, 1) := by decide +kernel
theorem d_Mo_join_45 : decode b_Mo_join 45 = .ok (.aload_n 0, 1) := by decide +kernel
theorem d_Mo_join_46 : decode b_Mo_join 46 = .ok (.getfield 19, 3) := by decide +kernel
theorem d_Mo_join_49 : decode b_Mo_join 49 = .ok (.iload_n 1, 1) := by decide +kernel
theorem d_Mo_join_50 : decode b_Mo_join 50 = .ok (.iaload, 1) := by decide +kernel
theorem d_Mo_join_51 : decode b_Mo_join 51 = .ok (.istore 4, 2) := by decide +kernel
theorem d_Mo_join_53 : decode b_Mo_join 53 = .ok (.iconst 0, 1) := by decide +kernel
theorem d_Mo_join_54 : decode b_Mo_join 54 = .ok (.istore 5, 2) := by decide +kernel
theorem d_Mo_join_56 : decode b_Mo_join 56 = .ok (.iconst 0, 1) := by decide +kernel
theorem d_Mo_join_57 : decode b_Mo_join 57 = .ok (.istore 6, 2) := by decide +kernel
theorem d_Mo_join_59 : decode b_Mo_join 59 = .ok (.iload 6, 2) := by decide +kernel
theorem d_Mo_join_61 : decode b_Mo_join 61 = .ok (.aload_n 0, 1) := by decide +kernel
theorem d_Mo_join_62 : decode b_Mo_join 62 = .ok (.getfield 79, 3) := by decide +kernel
theorem d_Mo_join_65 : decode b_Mo_join 65 = .ok (.if_icmp .ge 44, 3) := by decide +kernel
theorem d_Mo_join_68 : decode b_Mo_join 68 = .ok (.aload_n 0, 1) := by decide +kernel
theorem d_Mo_join_69 : decode b_Mo_join 69 = .ok (.getfield 19, 3) := by decide +kernel
theorem d_Mo_join_72 : decode b_Mo_join 72 = .ok (.iload 6, 2) := by decide +kernel
theorem d_Mo_join_74 : decode b_Mo_join 74 = .ok (.iaload, 1) := by decide +kernel
theorem d_Mo_join_75 : decode b_Mo_join 75 = .ok (.iload_n 3, 1) := by decide +kernel
theorem d_Mo_join_76 : decode b_Mo_join 76 = .ok (.if_icmp .ne 12, 3) := by decide +kernel
theorem d_Mo_join_79 : decode b_Mo_join 79 = .ok (.aload_n 0, 1) := by decide +kernel
theorem d_Mo_join_80 : decode b_Mo_join 80 = .ok (.getfield 19, 3) := by decide +kernel
theorem d_Mo_join_83 : decode b_Mo_join 83 = .ok (.iload 6, 2) := by decide +kernel
theorem d_Mo_join_85 : decode b_Mo_join 85 = .ok (.iload 4, 2) := by decide +kernel
theorem d_Mo_join_87 : decode b_Mo_join 87 = .ok (.iastore, 1) := by decide +kernel
theorem d_Mo_join_88 : decode b_Mo_join 88 = .ok (.aload_n 0, 1) := by decide +kernel
theorem d_Mo_join_89 : decode b_Mo_join 89 = .ok (.getfield 19, 3) := by decide +kernel
theorem d_Mo_join_92 : decode b_Mo_join 92 = .ok (.iload 6, 2) := by decide +kernel
theorem d_Mo_join_94 : decode b_Mo_join 94 = .ok (.iaload, 1) := by decide +kernel
theorem d_Mo_join_95 : decode b_Mo_join 95 = .ok (.iload 4, 2) := by decide +kernel
theorem d_Mo_join_97 : decode b_Mo_join 97 = .ok (.if_icmp .ne 6, 3) := by decide +kernel
theorem d_Mo_join_100 : decode b_Mo_join 100 = .ok (.iinc 5 1, 3) := by decide +kernel
theorem d_Mo_join_103 : decode b_Mo_join 103 = .ok (.iinc 6 1, 3) := by decide +kernel
theorem d_Mo_join_106 : decode b_Mo_join 106 = .ok (.goto (-47), 3) := by decide +kernel
theorem d_Mo_join_109 : decode b_Mo_join 109 = .ok (.iload 5, 2) := by decide +kernel
theorem d_Mo_join_111 : decode b_Mo_join 111 = .ok (.ireturn, 1) := by decide +kernel
theorem d_Mo_ready_0 : decode b_Mo_ready 0 = .ok (.aload_n 0, 1) := by decide +kernel
theorem d_Mo_ready_1 : decode b_Mo_ready 1 = .ok (.aload_n 0, 1) := by decide +kernel
theorem d_Mo_ready_2 : decode b_Mo_ready 2 = .ok (.iload_n 1, 1) := by decide +kernel
theorem d_Mo_ready_3 : decode b_Mo_ready 3 = .ok (.invokevirtual 98, 3) := by decide +kernel
theorem d_Mo_ready_6 : decode b_Mo_ready 6 = .ok (.iconst 1, 1) := by decide +kernel
theorem d_Mo_ready_7 : decode b_Mo_ready 7 = .ok (.iconst 1, 1) := by decide +kernel
theorem d_Mo_ready_8 : decode b_Mo_ready 8 = .ok (.iconst 1, 1) := by decide +kernel
theorem d_Mo_ready_9 : decode b_Mo_ready 9 = .ok (.invokevirtual 94, 3) := by decide +kernel
theorem d_Mo_ready_12 : decode b_Mo_ready 12 = .ok (.ifCond .ne 5, 3) := by decide +kernel
theorem d_Mo_ready_15 : decode b_Mo_ready 15 = .ok (.iconst 0, 1) := by decide +kernel
theorem d_Mo_ready_16 : decode b_Mo_ready 16 = .ok (.ireturn, 1) := by decide +kernel
theorem d_Mo_ready_17 : decode b_Mo_ready 17 = .ok (.iconst 0, 1) := by decide +kernel
theorem d_Mo_ready_18 : decode b_Mo_ready 18 = .ok (.istore_n 2, 1) := by decide +kernel
theorem d_Mo_ready_19 : decode b_Mo_ready 19 = .ok (.iload_n 2, 1) := by decide +kernel
theorem d_Mo_ready_20 : decode b_Mo_ready 20 = .ok (.aload_n 0, 1) := by decide +kernel
theorem d_Mo_ready_21 : decode b_Mo_ready 21 = .ok (.getfield 86, 3) := by decide +kernel
theorem d_Mo_ready_24 : decode b_Mo_ready 24 = .ok (.if_icmp .ge 44, 3) := by decide +kernel
theorem d_Mo_ready_27 : decode b_Mo_ready 27 = .ok (.aload_n 0, 1) := by decide +kernel
theorem d_Mo_ready_28 : decode b_Mo_ready 28 = .ok (.getfield 19, 3) := by decide +kernel
theorem d_Mo_ready_31 : decode b_Mo_ready 31 = .ok (.aload_n 0, 1) := by decide +kernel
theorem d_Mo_ready_32 : decode b_Mo_ready 32 = .ok (.getfield 22, 3) := by decide +kernel
theorem d_Mo_ready_35 : decode b_Mo_ready 35 = .ok (.iload_n 2, 1) := by decide +kernel
theorem d_Mo_ready_36 : decode b_Mo_ready 36 = .ok (.iaload, 1) := by decide +kernel
theorem d_Mo_ready_37 : decode b_Mo_ready 37 = .ok (.iaload, 1) := by decide +kernel
theorem d_Mo_ready_38 : decode b_Mo_ready 38 = .ok (.aload_n 0, 1) := by decide +kernel
theorem d_Mo_ready_39 : decode b_Mo_ready 39 = .ok (.getfield 19, 3) := by decide +kernel
theorem d_Mo_ready_42 : decode b_Mo_ready 42 = .ok (.iload_n 1, 1) := by decide +kernel
theorem d_Mo_ready_43 : decode b_Mo_ready 43 = .ok (.iaload, 1) := by decide +kernel
theorem d_Mo_ready_44 : decode b_Mo_ready 44 = .ok (.if_icmp .ne 18, 3) := by decide +kernel
theorem d_Mo_ready_47 : decode b_Mo_ready 47 = .ok (.aload_n 0, 1) := by decide +kernel
theorem d_Mo_ready_48 : decode b_Mo_ready 48 = .ok (.iload_n 2, 1) := by decide +kernel
theorem d_Mo_ready_49 : decode b_Mo_ready 49 = .ok (.aload_n 0, 1) := by decide +kernel
theorem d_Mo_ready_50 : decode b_Mo_ready 50 = .ok (.getfield 91, 3) := by decide +kernel
theorem d_Mo_ready_53 : decode b_Mo_ready 53 = .ok (.invokevirtual 141, 3) := by decide +kernel
theorem d_Mo_ready_56 : decode b_Mo_ready 56 = .ok (.iconst 2, 1) := by decide +kernel
theorem d_Mo_ready_57 : decode b_Mo_ready 57 = .ok (.if_icmp .ge 5, 3) := by decide +kernel
theorem d_Mo_ready_60 : decode b_Mo_ready 60 = .ok (.iconst 0, 1) := by decide +kernel
theorem d_Mo_ready_61 : decode b_Mo_ready 61 = .ok (.ireturn, 1) := by decide +kernel
theorem d_Mo_ready_62 : decode b_Mo_ready 62 = .ok (.iinc 2 1, 3) := by decide +kernel
theorem d_Mo_ready_65 : decode b_Mo_ready 65 = .ok (.goto (-46), 3) := by decide +kernel
theorem d_Mo_ready_68 : decode b_Mo_ready 68 = .ok (.iconst 1, 1) := by decide +kernel
theorem d_Mo_ready_69 : decode b_Mo_ready 69 = .ok (.ireturn, 1) := by decide +kernel
theorem d_Mo_late_0 : decode b_Mo_late 0 = .ok (.aload_n 0, 1) := by decide +kernel
theorem d_Mo_late_1 : decode b_Mo_late 1 = .ok (.iload_n 1, 1) := by decide +kernel
theorem d_Mo_late_2 : decode b_Mo_late 2 = .ok (.ifCond .lt 7, 3) := by decide +kernel
theorem d_Mo_late_5 : decode b_Mo_late 5 = .ok (.iconst 1, 1) := by decide +kernel
theorem d_Mo_late_6 : decode b_Mo_late 6 = .ok (.goto 4, 3) := by decide +kernel
theorem d_Mo_late_9 : decode b_Mo_late 9 = .ok (.iconst 0, 1) := by decide +kernel
theorem d_Mo_late_10 : decode b_Mo_late 10 = .ok (.iconst 1, 1) := by decide +kernel
theorem d_Mo_late_11 : decode b_Mo_late 11 = .ok (.iconst 1, 1) := by decide +kernel
theorem d_Mo_late_12 : decode b_Mo_late 12 = .ok (.iconst 1, 1) := by decide +kernel
theorem d_Mo_late_13 : decode b_Mo_late 13 = .ok (.invokevirtual 94, 3) := by decide +kernel
theorem d_Mo_late_16 : decode b_Mo_late 16 = .ok (.ifCond .ne 5, 3) := by decide +kernel
theorem d_Mo_late_19 : decode b_Mo_late 19 = .ok (.iconst 0, 1) := by decide +kernel
theorem d_Mo_late_20 : decode b_Mo_late 20 = .ok (.ireturn, 1) := by decide +kernel
theorem d_Mo_late_21 : decode b_Mo_late 21 = .ok (.iload_n 1, 1) := by decide +kernel
theorem d_Mo_late_22 : decode b_Mo_late 22 = .ok (.istore_n 2, 1) := by decide +kernel
theorem d_Mo_late_23 : decode b_Mo_late 23 = .ok (.iconst 0, 1) := by decide +kernel
theorem d_Mo_late_24 : decode b_Mo_late 24 = .ok (.istore_n 3, 1) := by decide +kernel
theorem d_Mo_late_25 : decode b_Mo_late 25 = .ok (.iload_n 3, 1) := by decide +kernel
theorem d_Mo_late_26 : decode b_Mo_late 26 = .ok (.aload_n 0, 1) := by decide +kernel
theorem d_Mo_late_27 : decode b_Mo_late 27 = .ok (.getfield 86, 3) := by decide +kernel
theorem d_Mo_late_30 : decode b_Mo_late 30 = .ok (.if_icmp .ge 34, 3) := by decide +kernel
theorem d_Mo_late_33 : decode b_Mo_late 33 = .ok (.aload_n 0, 1) := by decide +kernel
theorem d_Mo_late_34 : decode b_Mo_late 34 = .ok (.iload_n 3, 1) := by decide +kernel
theorem d_Mo_late_35 : decode b_Mo_late 35 = .ok (.aload_n 0, 1) := by decide +kernel
theorem d_Mo_late_36 : decode b_Mo_late 36 = .ok (.getfield 91, 3) := by decide +kernel
theorem d_Mo_late_39 : decode b_Mo_late 39 = .ok (.invokevirtual 141, 3) := by decide +kernel
theorem d_Mo_late_42 : decode b_Mo_late 42 = .ok (.iconst 1, 1) := by decide +kernel
theorem d_Mo_late_43 : decode b_Mo_late 43 = .ok (.if_icmp .eq 6, 3) := by decide +kernel
theorem d_Mo_late_46 : decode b_Mo_late 46 = .ok (.goto 12, 3) := by decide +kernel
theorem d_Mo_late_49 : decode b_Mo_late 49 = .ok (.iload_n 2, 1) := by decide +kernel
theorem d_Mo_late_50 : decode b_Mo_late 50 = .ok (.ifCond .ne 5, 3) := by decide +kernel
theorem d_Mo_late_53 : decode b_Mo_late 53 = .ok (.iload_n 3, 1) := by decide +kernel
theorem d_Mo_late_54 : decode b_Mo_late 54 = .ok (.ireturn, 1) := by decide +kernel
theorem d_Mo_late_55 : decode b_Mo_late 55 = .ok (.iinc 2 (-1), 3) := by decide +kernel
theorem d_Mo_late_58 : decode b_Mo_late 58 = .ok (.iinc 3 1, 3) := by decide +kernel
theorem d_Mo_late_61 : decode b_Mo_late 61 = .ok (.goto (-36), 3) := by decide +kernel
theorem d_Mo_late_64 : decode b_Mo_late 64 = .ok (.iconst (-1), 1) := by decide +kernel
theorem d_Mo_late_65 : decode b_Mo_late 65 = .ok (.ireturn, 1) := by decide +kernel
theorem d_Mo_tick_0 : decode b_Mo_tick 0 = .ok (.aload_n 0, 1) := by decide +kernel
theorem d_Mo_tick_1 : decode b_Mo_tick 1 = .ok (.iload_n 1, 1) := by decide +kernel
theorem d_Mo_tick_2 : decode b_Mo_tick 2 = .ok (.iconst 1, 1) := by decide +kernel
theorem d_Mo_tick_3 : decode b_Mo_tick 3 = .ok (.sipush 1000, 3) := by decide +kernel
theorem d_Mo_tick_6 : decode b_Mo_tick 6 = .ok (.invokestatic 82, 3) := by decide +kernel
theorem d_Mo_tick_9 : decode b_Mo_tick 9 = .ok (.ifCond .eq 19, 3) := by decide +kernel
theorem d_Mo_tick_12 : decode b_Mo_tick 12 = .ok (.iload_n 1, 1) := by decide +kernel
theorem d_Mo_tick_13 : decode b_Mo_tick 13 = .ok (.sipush 9999, 3) := by decide +kernel
theorem d_Mo_tick_16 : decode b_Mo_tick 16 = .ok (.aload_n 0, 1) := by decide +kernel
theorem d_Mo_tick_17 : decode b_Mo_tick 17 = .ok (.getfield 91, 3) := by decide +kernel
theorem d_Mo_tick_20 : decode b_Mo_tick 20 = .ok (.isub, 1) := by decide +kernel
theorem d_Mo_tick_21 : decode b_Mo_tick 21 = .ok (.if_icmp .gt 7, 3) := by decide +kernel
theorem d_Mo_tick_24 : decode b_Mo_tick 24 = .ok (.iconst 1, 1) := by decide +kernel
theorem d_Mo_tick_25 : decode b_Mo_tick 25 = .ok (.goto 4, 3) := by decide +kernel
theorem d_Mo_tick_28 : decode b_Mo_tick 28 = .ok (.iconst 0, 1) := by decide +kernel
theorem d_Mo_tick_29 : decode b_Mo_tick 29 = .ok (.iconst 1, 1) := by decide +kernel
theorem d_Mo_tick_30 : decode b_Mo_tick 30 = .ok (.iconst 1, 1) := by decide +kernel
theorem d_Mo_tick_31 : decode b_Mo_tick 31 = .ok (.iconst 1, 1) := by decide +kernel
theorem d_Mo_tick_32 : decode b_Mo_tick 32 = .ok (.invokevirtual 94, 3) := by decide +kernel
theorem d_Mo_tick_35 : decode b_Mo_tick 35 = .ok (.ifCond .ne 5, 3) := by decide +kernel
theorem d_Mo_tick_38 : decode b_Mo_tick 38 = .ok (.iconst 0, 1) := by decide +kernel
theorem d_Mo_tick_39 : decode b_Mo_tick 39 = .ok (.ireturn, 1) := by decide +kernel
theorem d_Mo_tick_40 : decode b_Mo_tick 40 = .ok (.aload_n 0, 1) := by decide +kernel
theorem d_Mo_tick_41 : decode b_Mo_tick 41 = .ok (.aload_n 0, 1) := by decide +kernel
theorem d_Mo_tick_42 : decode b_Mo_tick 42 = .ok (.getfield 91, 3) := by decide +kernel
theorem d_Mo_tick_45 : decode b_Mo_tick 45 = .ok (.iload_n 1, 1) := by decide +kernel
theorem d_Mo_tick_46 : decode b_Mo_tick 46 = .ok (.iadd, 1) := by decide +kernel
theorem d_Mo_tick_47 : decode b_Mo_tick 47 = .ok (.putfield 91, 3) := by decide +kernel
theorem d_Mo_tick_50 : decode b_Mo_tick 50 = .ok (.aload_n 0, 1) := by decide +kernel
theorem d_Mo_tick_51 : decode b_Mo_tick 51 = .ok (.getfield 91, 3) := by decide +kernel
theorem d_Mo_tick_54 : decode b_Mo_tick 54 = .ok (.ireturn, 1) := by decide +kernel
theorem d_L_order_0 : decode b_L_order 0 = .ok (.aload_n 3, 1) := by decide +kernel
theorem d_L_order_1 : decode b_L_order 1 = .ok (.iconst 0, 1) := by decide +kernel
theorem d_L_order_2 : decode b_L_order 2 = .ok (.aload_n 0, 1) := by decide +kernel
theorem d_L_order_3 : decode b_L_order 3 = .ok (.iload_n 1, 1) := by decide +kernel
theorem d_L_order_4 : decode b_L_order 4 = .ok (.iload_n 2, 1) := by decide +kernel
theorem d_L_order_5 : decode b_L_order 5 = .ok (.invokevirtual 7, 3) := by decide +kernel
theorem d_L_order_8 : decode b_L_order 8 = .ok (.i2l, 1) := by decide +kernel
theorem d_L_order_9 : decode b_L_order 9 = .ok (.lastore, 1) := by decide +kernel
theorem d_L_order_10 : decode b_L_order 10 = .ok (.goto 15, 3) := by decide +kernel
theorem d_L_order_13 : decode b_L_order 13 = .ok (.astore 4, 2) := by decide +kernel
theorem d_L_order_15 : decode b_L_order 15 = .ok (.iconst 1, 1) := by decide +kernel
theorem d_L_order_16 : decode b_L_order 16 = .ok (.ireturn, 1) := by decide +kernel
theorem d_L_order_17 : decode b_L_order 17 = .ok (.astore 4, 2) := by decide +kernel
theorem d_L_order_19 : decode b_L_order 19 = .ok (.iconst 2, 1) := by decide +kernel
theorem d_L_order_20 : decode b_L_order 20 = .ok (.ireturn, 1) := by decide +kernel
theorem d_L_order_21 : decode b_L_order 21 = .ok (.astore 4, 2) := by decide +kernel
theorem d_L_order_23 : decode b_L_order 23 = .ok (.iconst 3, 1) := by decide +kernel
theorem d_L_order_24 : decode b_L_order 24 = .ok (.ireturn, 1) := by decide +kernel
theorem d_L_order_25 : decode b_L_order 25 = .ok (.iconst 0, 1) := by decide +kernel
theorem d_L_order_26 : decode b_L_order 26 = .ok (.ireturn, 1) := by decide +kernel
theorem d_L_item_0 : decode b_L_item 0 = .ok (.aload 5, 2) := by decide +kernel
theorem d_L_item_2 : decode b_L_item 2 = .ok (.iconst 0, 1) := by decide +kernel
theorem d_L_item_3 : decode b_L_item 3 = .ok (.aload_n 0, 1) := by decide +kernel
theorem d_L_item_4 : decode b_L_item 4 = .ok (.iload_n 1, 1) := by decide +kernel
theorem d_L_item_5 : decode b_L_item 5 = .ok (.iload_n 2, 1) := by decide +kernel
theorem d_L_item_6 : decode b_L_item 6 = .ok (.iload_n 3, 1) := by decide +kernel
theorem d_L_item_7 : decode b_L_item 7 = .ok (.iload 4, 2) := by decide +kernel
theorem d_L_item_9 : decode b_L_item 9 = .ok (.invokevirtual 19, 3) := by decide +kernel
theorem d_L_item_12 : decode b_L_item 12 = .ok (.i2l, 1) := by decide +kernel
theorem d_L_item_13 : decode b_L_item 13 = .ok (.lastore, 1) := by decide +kernel
theorem d_L_item_14 : decode b_L_item 14 = .ok (.goto 15, 3) := by decide +kernel
theorem d_L_item_17 : decode b_L_item 17 = .ok (.astore 6, 2) := by decide +kernel
theorem d_L_item_19 : decode b_L_item 19 = .ok (.iconst 1, 1) := by decide +kernel
theorem d_L_item_20 : decode b_L_item 20 = .ok (.ireturn, 1) := by decide +kernel
theorem d_L_item_21 : decode b_L_item 21 = .ok (.astore 6, 2) := by decide +kernel
theorem d_L_item_23 : decode b_L_item 23 = .ok (.iconst 2, 1) := by decide +kernel
theorem d_L_item_24 : decode b_L_item 24 = .ok (.ireturn, 1) := by decide +kernel
theorem d_L_item_25 : decode b_L_item 25 = .ok (.astore 6, 2) := by decide +kernel
theorem d_L_item_27 : decode b_L_item 27 = .ok (.iconst 3, 1) := by decide +kernel
theorem d_L_item_28 : decode b_L_item 28 = .ok (.ireturn, 1) := by decide +kernel
theorem d_L_item_29 : decode b_L_item 29 = .ok (.iconst 0, 1) := by decide +kernel
theorem d_L_item_30 : decode b_L_item 30 = .ok (.ireturn, 1) := by decide +kernel
theorem d_L_weights_0 : decode b_L_weights 0 = .ok (.aload_n 0, 1) := by decide +kernel
theorem d_L_weights_1 : decode b_L_weights 1 = .ok (.iload_n 1, 1) := by decide +kernel
theorem d_L_weights_2 : decode b_L_weights 2 = .ok (.iload_n 2, 1) := by decide +kernel
theorem d_L_weights_3 : decode b_L_weights 3 = .ok (.iload_n 3, 1) := by decide +kernel
theorem d_L_weights_4 : decode b_L_weights 4 = .ok (.invokevirtual 23, 3) := by decide +kernel
theorem d_L_weights_7 : decode b_L_weights 7 = .ok (.goto 15, 3) := by decide +kernel
theorem d_L_weights_10 : decode b_L_weights 10 = .ok (.astore 4, 2) := by decide +kernel
theorem d_L_weights_12 : decode b_L_weights 12 = .ok (.iconst 1, 1) := by decide +kernel
theorem d_L_weights_13 : decode b_L_weights 13 = .ok (.ireturn, 1) := by decide +kernel
theorem d_L_weights_14 : decode b_L_weights 14 = .ok (.astore 4, 2) := by decide +kernel
theorem d_L_weights_16 : decode b_L_weights 16 = .ok (.iconst 2, 1) := by decide +kernel
theorem d_L_weights_17 : decode b_L_weights 17 = .ok (.ireturn, 1) := by decide +kernel
theorem d_L_weights_18 : decode b_L_weights 18 = .ok (.astore 4, 2) := by decide +kernel
theorem d_L_weights_20 : decode b_L_weights 20 = .ok (.iconst 3, 1) := by decide +kernel
theorem d_L_weights_21 : decode b_L_weights 21 = .ok (.ireturn, 1) := by decide +kernel
theorem d_L_weights_22 : decode b_L_weights 22 = .ok (.iconst 0, 1) := by decide +kernel
theorem d_L_weights_23 : decode b_L_weights 23 = .ok (.ireturn, 1) := by decide +kernel
theorem d_L_agree_0 : decode b_L_agree 0 = .ok (.aload_n 0, 1) := by decide +kernel
theorem d_L_agree_1 : decode b_L_agree 1 = .ok (.iload_n 1, 1) := by decide +kernel
theorem d_L_agree_2 : decode b_L_agree 2 = .ok (.iload_n 2, 1) := by decide +kernel
theorem d_L_agree_3 : decode b_L_agree 3 = .ok (.invokevirtual 27, 3) := by decide +kernel
theorem d_L_agree_6 : decode b_L_agree 6 = .ok (.goto 9, 3) := by decide +kernel
theorem d_L_agree_9 : decode b_L_agree 9 = .ok (.astore_n 3, 1) := by decide +kernel
theorem d_L_agree_10 : decode b_L_agree 10 = .ok (.iconst 1, 1) := by decide +kernel
theorem d_L_agree_11 : decode b_L_agree 11 = .ok (.ireturn, 1) := by decide +kernel
theorem d_L_agree_12 : decode b_L_agree 12 = .ok (.astore_n 3, 1) := by decide +kernel
theorem d_L_agree_13 : decode b_L_agree 13 = .ok (.iconst 2, 1) := by decide +kernel
theorem d_L_agree_14 : decode b_L_agree 14 = .ok (.ireturn, 1) := by decide +kernel
theorem d_L_agree_15 : decode b_L_agree 15 = .ok (.iconst 0, 1) := by decide +kernel
theorem d_L_agree_16 : decode b_L_agree 16 = .ok (.ireturn, 1) := by decide +kernel
theorem d_L_change_0 : decode b_L_change 0 = .ok (.aload_n 0, 1) := by decide +kernel
theorem d_L_change_1 : decode b_L_change 1 = .ok (.iload_n 1, 1) := by decide +kernel
theorem d_L_change_2 : decode b_L_change 2 = .ok (.iload_n 2, 1) := by decide +kernel
theorem d_L_change_3 : decode b_L_change 3 = .ok (.iload_n 3, 1) := by decide +kernel
theorem d_L_change_4 : decode b_L_change 4 = .ok (.iload 4, 2) := by decide +kernel
theorem d_L_change_6 : decode b_L_change 6 = .ok (.iload 5, 2) := by decide +kernel
theorem d_L_change_8 : decode b_L_change 8 = .ok (.invokevirtual 31, 3) := by decide +kernel
theorem d_L_change_11 : decode b_L_change 11 = .ok (.goto 19, 3) := by decide +kernel
theorem d_L_change_14 : decode b_L_change 14 = .ok (.astore 6, 2) := by decide +kernel
theorem d_L_change_16 : decode b_L_change 16 = .ok (.iconst 1, 1) := by decide +kernel
theorem d_L_change_17 : decode b_L_change 17 = .ok (.ireturn, 1) := by decide +kernel
theorem d_L_change_18 : decode b_L_change 18 = .ok (.astore 6, 2) := by decide +kernel
theorem d_L_change_20 : decode b_L_change 20 = .ok (.iconst 2, 1) := by decide +kernel
theorem d_L_change_21 : decode b_L_change 21 = .ok (.ireturn, 1) := by decide +kernel
theorem d_L_change_22 : decode b_L_change 22 = .ok (.astore 6, 2) := by decide +kernel
theorem d_L_change_24 : decode b_L_change 24 = .ok (.iconst 3, 1) := by decide +kernel
theorem d_L_change_25 : decode b_L_change 25 = .ok (.ireturn, 1) := by decide +kernel
theorem d_L_change_26 : decode b_L_change 26 = .ok (.astore 6, 2) := by decide +kernel
theorem d_L_change_28 : decode b_L_change 28 = .ok (.iconst 4, 1) := by decide +kernel
theorem d_L_change_29 : decode b_L_change 29 = .ok (.ireturn, 1) := by decide +kernel
theorem d_L_change_30 : decode b_L_change 30 = .ok (.iconst 0, 1) := by decide +kernel
theorem d_L_change_31 : decode b_L_change 31 = .ok (.ireturn, 1) := by decide +kernel
theorem d_L_field_0 : decode b_L_field 0 = .ok (.aload 4, 2) := by decide +kernel
theorem d_L_field_2 : decode b_L_field 2 = .ok (.iconst 0, 1) := by decide +kernel
theorem d_L_field_3 : decode b_L_field 3 = .ok (.aload_n 0, 1) := by decide +kernel
theorem d_L_field_4 : decode b_L_field 4 = .ok (.iload_n 1, 1) := by decide +kernel
theorem d_L_field_5 : decode b_L_field 5 = .ok (.iload_n 2, 1) := by decide +kernel
theorem d_L_field_6 : decode b_L_field 6 = .ok (.iload_n 3, 1) := by decide +kernel
theorem d_L_field_7 : decode b_L_field 7 = .ok (.invokevirtual 37, 3) := by decide +kernel
theorem d_L_field_10 : decode b_L_field 10 = .ok (.i2l, 1) := by decide +kernel
theorem d_L_field_11 : decode b_L_field 11 = .ok (.lastore, 1) := by decide +kernel
theorem d_L_field_12 : decode b_L_field 12 = .ok (.goto 11, 3) := by decide +kernel
theorem d_L_field_15 : decode b_L_field 15 = .ok (.astore 5, 2) := by decide +kernel
theorem d_L_field_17 : decode b_L_field 17 = .ok (.iconst 1, 1) := by decide +kernel
theorem d_L_field_18 : decode b_L_field 18 = .ok (.ireturn, 1) := by decide +kernel
theorem d_L_field_19 : decode b_L_field 19 = .ok (.astore 5, 2) := by decide +kernel
theorem d_L_field_21 : decode b_L_field 21 = .ok (.iconst 2, 1) := by decide +kernel
theorem d_L_field_22 : decode b_L_field 22 = .ok (.ireturn, 1) := by decide +kernel
theorem d_L_field_23 : decode b_L_field 23 = .ok (.iconst 0, 1) := by decide +kernel
theorem d_L_field_24 : decode b_L_field 24 = .ok (.ireturn, 1) := by decide +kernel
theorem d_L_history_0 : decode b_L_history 0 = .ok (.aload 4, 2) := by decide +kernel
theorem d_L_history_2 : decode b_L_history 2 = .ok (.iconst 0, 1) := by decide +kernel
theorem d_L_history_3 : decode b_L_history 3 = .ok (.aload_n 0, 1) := by decide +kernel
theorem d_L_history_4 : decode b_L_history 4 = .ok (.iload_n 1, 1) := by decide +kernel
theorem d_L_history_5 : decode b_L_history 5 = .ok (.iload_n 2, 1) := by decide +kernel
theorem d_L_history_6 : decode b_L_history 6 = .ok (.iload_n 3, 1) := by decide +kernel
theorem d_L_history_7 : decode b_L_history 7 = .ok (.invokevirtual 41, 3) := by decide +kernel
theorem d_L_history_10 : decode b_L_history 10 = .ok (.i2l, 1) := by decide +kernel
theorem d_L_history_11 : decode b_L_history 11 = .ok (.lastore, 1) := by decide +kernel
theorem d_L_history_12 : decode b_L_history 12 = .ok (.goto 7, 3) := by decide +kernel
theorem d_L_history_15 : decode b_L_history 15 = .ok (.astore 5, 2) := by decide +kernel
theorem d_L_history_17 : decode b_L_history 17 = .ok (.iconst 1, 1) := by decide +kernel
theorem d_L_history_18 : decode b_L_history 18 = .ok (.ireturn, 1) := by decide +kernel
theorem d_L_history_19 : decode b_L_history 19 = .ok (.iconst 0, 1) := by decide +kernel
theorem d_L_history_20 : decode b_L_history 20 = .ok (.ireturn, 1) := by decide +kernel
theorem d_L_split_0 : decode b_L_split 0 = .ok (.aload_n 3, 1) := by decide +kernel
theorem d_L_split_1 : decode b_L_split 1 = .ok (.iconst 0, 1) := by decide +kernel
theorem d_L_split_2 : decode b_L_split 2 = .ok (.aload_n 0, 1) := by decide +kernel
theorem d_L_split_3 : decode b_L_split 3 = .ok (.iload_n 1, 1) := by decide +kernel
theorem d_L_split_4 : decode b_L_split 4 = .ok (.iload_n 2, 1) := by decide +kernel
theorem d_L_split_5 : decode b_L_split 5 = .ok (.invokevirtual 44, 3) := by decide +kernel
theorem d_L_split_8 : decode b_L_split 8 = .ok (.i2l, 1) := by decide +kernel
theorem d_L_split_9 : decode b_L_split 9 = .ok (.lastore, 1) := by decide +kernel
theorem d_L_split_10 : decode b_L_split 10 = .ok (.goto 19, 3) := by decide +kernel
theorem d_L_split_13 : decode b_L_split 13 = .ok (.astore 4, 2) := by decide +kernel
theorem d_L_split_15 : decode b_L_split 15 = .ok (.iconst 1, 1) := by decide +kernel
theorem d_L_split_16 : decode b_L_split 16 = .ok (.ireturn, 1) := by decide +kernel
theorem d_L_split_17 : decode b_L_split 17 = .ok (.astore 4, 2) := by decide +kernel
theorem d_L_split_19 : decode b_L_split 19 = .ok (.iconst 2, 1) := by decide +kernel
theorem d_L_split_20 : decode b_L_split 20 = .ok (.ireturn, 1) := by decide +kernel
theorem d_L_split_21 : decode b_L_split 21 = .ok (.astore 4, 2) := by decide +kernel
theorem d_L_split_23 : decode b_L_split 23 = .ok (.iconst 3, 1) := by decide +kernel
theorem d_L_split_24 : decode b_L_split 24 = .ok (.ireturn, 1) := by decide +kernel
theorem d_L_split_25 : decode b_L_split 25 = .ok (.astore 4, 2) := by decide +kernel
theorem d_L_split_27 : decode b_L_split 27 = .ok (.iconst 4, 1) := by decide +kernel
theorem d_L_split_28 : decode b_L_split 28 = .ok (.ireturn, 1) := by decide +kernel
theorem d_L_split_29 : decode b_L_split 29 = .ok (.iconst 0, 1) := by decide +kernel
theorem d_L_split_30 : decode b_L_split 30 = .ok (.ireturn, 1) := by decide +kernel
theorem d_L_made_0 : decode b_L_made 0 = .ok (.aload_n 3, 1) := by decide +kernel
theorem d_L_made_1 : decode b_L_made 1 = .ok (.iconst 0, 1) := by decide +kernel
theorem d_L_made_2 : decode b_L_made 2 = .ok (.aload_n 0, 1) := by decide +kernel
theorem d_L_made_3 : decode b_L_made 3 = .ok (.iload_n 1, 1) := by decide +kernel
theorem d_L_made_4 : decode b_L_made 4 = .ok (.iload_n 2, 1) := by decide +kernel
theorem d_L_made_5 : decode b_L_made 5 = .ok (.invokevirtual 47, 3) := by decide +kernel
theorem d_L_made_8 : decode b_L_made 8 = .ok (.i2l, 1) := by decide +kernel
theorem d_L_made_9 : decode b_L_made 9 = .ok (.lastore, 1) := by decide +kernel
theorem d_L_made_10 : decode b_L_made 10 = .ok (.goto 15, 3) := by decide +kernel
theorem d_L_made_13 : decode b_L_made 13 = .ok (.astore 4, 2) := by decide +kernel
theorem d_L_made_15 : decode b_L_made 15 = .ok (.iconst 1, 1) := by decide +kernel
theorem d_L_made_16 : decode b_L_made 16 = .ok (.ireturn, 1) := by decide +kernel
theorem d_L_made_17 : decode b_L_made 17 = .ok (.astore 4, 2) := by decide +kernel
theorem d_L_made_19 : decode b_L_made 19 = .ok (.iconst 2, 1) := by decide +kernel
theorem d_L_made_20 : decode b_L_made 20 = .ok (.ireturn, 1) := by decide +kernel
theorem d_L_made_21 : decode b_L_made 21 = .ok (.astore 4, 2) := by decide +kernel
theorem d_L_made_23 : decode b_L_made 23 = .ok (.iconst 3, 1) := by decide +kernel
theorem d_L_made_24 : decode b_L_made 24 = .ok (.ireturn, 1) := by decide +kernel
theorem d_L_made_25 : decode b_L_made 25 = .ok (.iconst 0, 1) := by decide +kernel
theorem d_L_made_26 : decode b_L_made 26 = .ok (.ireturn, 1) := by decide +kernel
theorem d_L_state_0 : decode b_L_state 0 = .ok (.aload_n 3, 1) := by decide +kernel
theorem d_L_state_1 : decode b_L_state 1 = .ok (.iconst 0, 1) := by decide +kernel
theorem d_L_state_2 : decode b_L_state 2 = .ok (.aload_n 0, 1) := by decide +kernel
theorem d_L_state_3 : decode b_L_state 3 = .ok (.iload_n 1, 1) := by decide +kernel
theorem d_L_state_4 : decode b_L_state 4 = .ok (.iload_n 2, 1) := by decide +kernel
theorem d_L_state_5 : decode b_L_state 5 = .ok (.invokevirtual 50, 3) := by decide +kernel
theorem d_L_state_8 : decode b_L_state 8 = .ok (.i2l, 1) := by decide +kernel
theorem d_L_state_9 : decode b_L_state 9 = .ok (.lastore, 1) := by decide +kernel
theorem d_L_state_10 : decode b_L_state 10 = .ok (.goto 11, 3) := by decide +kernel
theorem d_L_state_13 : decode b_L_state 13 = .ok (.astore 4, 2) := by decide +kernel
theorem d_L_state_15 : decode b_L_state 15 = .ok (.iconst 1, 1) := by decide +kernel
theorem d_L_state_16 : decode b_L_state 16 = .ok (.ireturn, 1) := by decide +kernel
theorem d_L_state_17 : decode b_L_state 17 = .ok (.astore 4, 2) := by decide +kernel
theorem d_L_state_19 : decode b_L_state 19 = .ok (.iconst 2, 1) := by decide +kernel
theorem d_L_state_20 : decode b_L_state 20 = .ok (.ireturn, 1) := by decide +kernel
theorem d_L_state_21 : decode b_L_state 21 = .ok (.iconst 0, 1) := by decide +kernel
theorem d_L_state_22 : decode b_L_state 22 = .ok (.ireturn, 1) := by decide +kernel
theorem d_L_rest_0 : decode b_L_rest 0 = .ok (.aload_n 2, 1) := by decide +kernel
theorem d_L_rest_1 : decode b_L_rest 1 = .ok (.iconst 0, 1) := by decide +kernel
theorem d_L_rest_2 : decode b_L_rest 2 = .ok (.aload_n 0, 1) := by decide +kernel
theorem d_L_rest_3 : decode b_L_rest 3 = .ok (.iload_n 1, 1) := by decide +kernel
theorem d_L_rest_4 : decode b_L_rest 4 = .ok (.invokevirtual 53, 3) := by decide +kernel
theorem d_L_rest_7 : decode b_L_rest 7 = .ok (.i2l, 1) := by decide +kernel
theorem d_L_rest_8 : decode b_L_rest 8 = .ok (.lastore, 1) := by decide +kernel
theorem d_L_rest_9 : decode b_L_rest 9 = .ok (.goto 6, 3) := by decide +kernel
theorem d_L_rest_12 : decode b_L_rest 12 = .ok (.astore_n 3, 1) := by decide +kernel
theorem d_L_rest_13 : decode b_L_rest 13 = .ok (.iconst 1, 1) := by decide +kernel
theorem d_L_rest_14 : decode b_L_rest 14 = .ok (.ireturn, 1) := by decide +kernel
theorem d_L_rest_15 : decode b_L_rest 15 = .ok (.iconst 0, 1) := by decide +kernel
theorem d_L_rest_16 : decode b_L_rest 16 = .ok (.ireturn, 1) := by decide +kernel
theorem d_L_costs_0 : decode b_L_costs 0 = .ok (.aload_n 0, 1) := by decide +kernel
theorem d_L_costs_1 : decode b_L_costs 1 = .ok (.iload_n 1, 1) := by decide +kernel
theorem d_L_costs_2 : decode b_L_costs 2 = .ok (.iload_n 2, 1) := by decide +kernel
theorem d_L_costs_3 : decode b_L_costs 3 = .ok (.iload_n 3, 1) := by decide +kernel
theorem d_L_costs_4 : decode b_L_costs 4 = .ok (.invokevirtual 57, 3) := by decide +kernel
theorem d_L_costs_7 : decode b_L_costs 7 = .ok (.goto 7, 3) := by decide +kernel
theorem d_L_costs_10 : decode b_L_costs 10 = .ok (.astore 4, 2) := by decide +kernel
theorem d_L_costs_12 : decode b_L_costs 12 = .ok (.iconst 1, 1) := by decide +kernel
theorem d_L_costs_13 : decode b_L_costs 13 = .ok (.ireturn, 1) := by decide +kernel
theorem d_L_costs_14 : decode b_L_costs 14 = .ok (.iconst 0, 1) := by decide +kernel
theorem d_L_costs_15 : decode b_L_costs 15 = .ok (.ireturn, 1) := by decide +kernel
theorem d_L_quote_0 : decode b_L_quote 0 = .ok (.aload_n 3, 1) := by decide +kernel
theorem d_L_quote_1 : decode b_L_quote 1 = .ok (.iconst 0, 1) := by decide +kernel
theorem d_L_quote_2 : decode b_L_quote 2 = .ok (.aload_n 0, 1) := by decide +kernel
theorem d_L_quote_3 : decode b_L_quote 3 = .ok (.iload_n 1, 1) := by decide +kernel
theorem d_L_quote_4 : decode b_L_quote 4 = .ok (.iload_n 2, 1) := by decide +kernel
theorem d_L_quote_5 : decode b_L_quote 5 = .ok (.invokevirtual 60, 3) := by decide +kernel
theorem d_L_quote_8 : decode b_L_quote 8 = .ok (.i2l, 1) := by decide +kernel
theorem d_L_quote_9 : decode b_L_quote 9 = .ok (.lastore, 1) := by decide +kernel
theorem d_L_quote_10 : decode b_L_quote 10 = .ok (.goto 15, 3) := by decide +kernel
theorem d_L_quote_13 : decode b_L_quote 13 = .ok (.astore 4, 2) := by decide +kernel
theorem d_L_quote_15 : decode b_L_quote 15 = .ok (.iconst 1, 1) := by decide +kernel
theorem d_L_quote_16 : decode b_L_quote 16 = .ok (.ireturn, 1) := by decide +kernel
theorem d_L_quote_17 : decode b_L_quote 17 = .ok (.astore 4, 2) := by decide +kernel
theorem d_L_quote_19 : decode b_L_quote 19 = .ok (.iconst 2, 1) := by decide +kernel
theorem d_L_quote_20 : decode b_L_quote 20 = .ok (.ireturn, 1) := by decide +kernel
theorem d_L_quote_21 : decode b_L_quote 21 = .ok (.astore 4, 2) := by decide +kernel
theorem d_L_quote_23 : decode b_L_quote 23 = .ok (.iconst 3, 1) := by decide +kernel
theorem d_L_quote_24 : decode b_L_quote 24 = .ok (.ireturn, 1) := by decide +kernel
theorem d_L_quote_25 : decode b_L_quote 25 = .ok (.iconst 0, 1) := by decide +kernel
theorem d_L_quote_26 : decode b_L_quote 26 = .ok (.ireturn, 1) := by decide +kernel
theorem d_L_quoteAt_0 : decode b_L_quoteAt 0 = .ok (.aload_n 3, 1) := by decide +kernel
theorem d_L_quoteAt_1 : decode b_L_quoteAt 1 = .ok (.iconst 0, 1) := by decide +kernel
theorem d_L_quoteAt_2 : decode b_L_quoteAt 2 = .ok (.aload_n 0, 1) := by decide +kernel
theorem d_L_quoteAt_3 : decode b_L_quoteAt 3 = .ok (.iload_n 1, 1) := by decide +kernel
theorem d_L_quoteAt_4 : decode b_L_quoteAt 4 = .ok (.iload_n 2, 1) := by decide +kernel
theorem d_L_quoteAt_5 : decode b_L_quoteAt 5 = .ok (.invokevirtual 63, 3) := by decide +kernel
theorem d_L_quoteAt_8 : decode b_L_quoteAt 8 = .ok (.i2l, 1) := by decide +kernel
theorem d_L_quoteAt_9 : decode b_L_quoteAt 9 = .ok (.lastore, 1) := by decide +kernel
theorem d_L_quoteAt_10 : decode b_L_quoteAt 10 = .ok (.goto 7, 3) := by decide +kernel
theorem d_L_quoteAt_13 : decode b_L_quoteAt 13 = .ok (.astore 4, 2) := by decide +kernel
theorem d_L_quoteAt_15 : decode b_L_quoteAt 15 = .ok (.iconst 1, 1) := by decide +kernel
theorem d_L_quoteAt_16 : decode b_L_quoteAt 16 = .ok (.ireturn, 1) := by decide +kernel
theorem d_L_quoteAt_17 : decode b_L_quoteAt 17 = .ok (.iconst 0, 1) := by decide +kernel
theorem d_L_quoteAt_18 : decode b_L_quoteAt 18 = .ok (.ireturn, 1) := by decide +kernel
theorem d_L_price_0 : decode b_L_price 0 = .ok (.aload_n 2, 1) := by decide +kernel
theorem d_L_price_1 : decode b_L_price 1 = .ok (.iconst 0, 1) := by decide +kernel
theorem d_L_price_2 : decode b_L_price 2 = .ok (.aload_n 0, 1) := by decide +kernel
theorem d_L_price_3 : decode b_L_price 3 = .ok (.iload_n 1, 1) := by decide +kernel
theorem d_L_price_4 : decode b_L_price 4 = .ok (.invokevirtual 66, 3) := by decide +kernel
theorem d_L_price_7 : decode b_L_price 7 = .ok (.lastore, 1) := by decide +kernel
theorem d_L_price_8 : decode b_L_price 8 = .ok (.goto 6, 3) := by decide +kernel
theorem d_L_price_11 : decode b_L_price 11 = .ok (.astore_n 3, 1) := by decide +kernel
theorem d_L_price_12 : decode b_L_price 12 = .ok (.iconst 1, 1) := by decide +kernel
theorem d_L_price_13 : decode b_L_price 13 = .ok (.ireturn, 1) := by decide +kernel
theorem d_L_price_14 : decode b_L_price 14 = .ok (.iconst 0, 1) := by decide +kernel
theorem d_L_price_15 : decode b_L_price 15 = .ok (.ireturn, 1) := by decide +kernel
theorem d_L_credit_0 : decode b_L_credit 0 = .ok (.aload_n 0, 1) := by decide +kernel
theorem d_L_credit_1 : decode b_L_credit 1 = .ok (.iload_n 1, 1) := by decide +kernel
theorem d_L_credit_2 : decode b_L_credit 2 = .ok (.iload_n 2, 1) := by decide +kernel
theorem d_L_credit_3 : decode b_L_credit 3 = .ok (.invokevirtual 70, 3) := by decide +kernel
theorem d_L_credit_6 : decode b_L_credit 6 = .ok (.goto 9, 3) := by decide +kernel
theorem d_L_credit_9 : decode b_L_credit 9 = .ok (.astore_n 3, 1) := by decide +kernel
theorem d_L_credit_10 : decode b_L_credit 10 = .ok (.iconst 1, 1) := by decide +kernel
theorem d_L_credit_11 : decode b_L_credit 11 = .ok (.ireturn, 1) := by decide +kernel
theorem d_L_credit_12 : decode b_L_credit 12 = .ok (.astore_n 3, 1) := by decide +kernel
theorem d_L_credit_13 : decode b_L_credit 13 = .ok (.iconst 2, 1) := by decide +kernel
theorem d_L_credit_14 : decode b_L_credit 14 = .ok (.ireturn, 1) := by decide +kernel
theorem d_L_credit_15 : decode b_L_credit 15 = .ok (.iconst 0, 1) := by decide +kernel
theorem d_L_credit_16 : decode b_L_credit 16 = .ok (.ireturn, 1) := by decide +kernel
theorem d_L_accept_0 : decode b_L_accept 0 = .ok (.aload_n 2, 1) := by decide +kernel
theorem d_L_accept_1 : decode b_L_accept 1 = .ok (.iconst 0, 1) := by decide +kernel
theorem d_L_accept_2 : decode b_L_accept 2 = .ok (.aload_n 0, 1) := by decide +kernel
theorem d_L_accept_3 : decode b_L_accept 3 = .ok (.iload_n 1, 1) := by decide +kernel
theorem d_L_accept_4 : decode b_L_accept 4 = .ok (.invokevirtual 73, 3) := by decide +kernel
theorem d_L_accept_7 : decode b_L_accept 7 = .ok (.lastore, 1) := by decide +kernel
theorem d_L_accept_8 : decode b_L_accept 8 = .ok (.goto 12, 3) := by decide +kernel
theorem d_L_accept_11 : decode b_L_accept 11 = .ok (.astore_n 3, 1) := by decide +kernel
theorem d_L_accept_12 : decode b_L_accept 12 = .ok (.iconst 1, 1) := by decide +kernel
theorem d_L_accept_13 : decode b_L_accept 13 = .ok (.ireturn, 1) := by decide +kernel
theorem d_L_accept_14 : decode b_L_accept 14 = .ok (.astore_n 3, 1) := by decide +kernel
theorem d_L_accept_15 : decode b_L_accept 15 = .ok (.iconst 2, 1) := by decide +kernel
theorem d_L_accept_16 : decode b_L_accept 16 = .ok (.ireturn, 1) := by decide +kernel
theorem d_L_accept_17 : decode b_L_accept 17 = .ok (.astore_n 3, 1) := by decide +kernel
theorem d_L_accept_18 : decode b_L_accept 18 = .ok (.iconst 3, 1) := by decide +kernel
theorem d_L_accept_19 : decode b_L_accept 19 = .ok (.ireturn, 1) := by decide +kernel
theorem d_L_accept_20 : decode b_L_accept 20 = .ok (.iconst 0, 1) := by decide +kernel
theorem d_L_accept_21 : decode b_L_accept 21 = .ok (.ireturn, 1) := by decide +kernel
theorem d_L_capacity_0 : decode b_L_capacity 0 = .ok (.aload_n 0, 1) := by decide +kernel
theorem d_L_capacity_1 : decode b_L_capacity 1 = .ok (.iload_n 1, 1) := by decide +kernel
theorem d_L_capacity_2 : decode b_L_capacity 2 = .ok (.invokevirtual 76, 3) := by decide +kernel
theorem d_L_capacity_5 : decode b_L_capacity 5 = .ok (.goto 9, 3) := by decide +kernel
theorem d_L_capacity_8 : decode b_L_capacity 8 = .ok (.astore_n 2, 1) := by decide +kernel
theorem d_L_capacity_9 : decode b_L_capacity 9 = .ok (.iconst 1, 1) := by decide +kernel
theorem d_L_capacity_10 : decode b_L_capacity 10 = .ok (.ireturn, 1) := by decide +kernel
theorem d_L_capacity_11 : decode b_L_capacity 11 = .ok (.astore_n 2, 1) := by decide +kernel
theorem d_L_capacity_12 : decode b_L_capacity 12 = .ok (.iconst 2, 1) := by decide +kernel
theorem d_L_capacity_13 : decode b_L_capacity 13 = .ok (.ireturn, 1) := by decide +kernel
theorem d_L_capacity_14 : decode b_L_capacity 14 = .ok (.iconst 0, 1) := by decide +kernel
theorem d_L_capacity_15 : decode b_L_capacity 15 = .ok (.ireturn, 1) := by decide +kernel
theorem d_L_reserve_0 : decode b_L_reserve 0 = .ok (.aload_n 2, 1) := by decide +kernel
theorem d_L_reserve_1 : decode b_L_reserve 1 = .ok (.iconst 0, 1) := by decide +kernel
theorem d_L_reserve_2 : decode b_L_reserve 2 = .ok (.aload_n 0, 1) := by decide +kernel
theorem d_L_reserve_3 : decode b_L_reserve 3 = .ok (.iload_n 1, 1) := by decide +kernel
theorem d_L_reserve_4 : decode b_L_reserve 4 = .ok (.invokevirtual 80, 3) := by decide +kernel
theorem d_L_reserve_7 : decode b_L_reserve 7 = .ok (.i2l, 1) := by decide +kernel
theorem d_L_reserve_8 : decode b_L_reserve 8 = .ok (.lastore, 1) := by decide +kernel
theorem d_L_reserve_9 : decode b_L_reserve 9 = .ok (.goto 12, 3) := by decide +kernel
theorem d_L_reserve_12 : decode b_L_reserve 12 = .ok (.astore_n 3, 1) := by decide +kernel
theorem d_L_reserve_13 : decode b_L_reserve 13 = .ok (.iconst 1, 1) := by decide +kernel
theorem d_L_reserve_14 : decode b_L_reserve 14 = .ok (.ireturn, 1) := by decide +kernel
theorem d_L_reserve_15 : decode b_L_reserve 15 = .ok (.astore_n 3, 1) := by decide +kernel
theorem d_L_reserve_16 : decode b_L_reserve 16 = .ok (.iconst 2, 1) := by decide +kernel
theorem d_L_reserve_17 : decode b_L_reserve 17 = .ok (.ireturn, 1) := by decide +kernel
theorem d_L_reserve_18 : decode b_L_reserve 18 = .ok (.astore_n 3, 1) := by decide +kernel
theorem d_L_reserve_19 : decode b_L_reserve 19 = .ok (.iconst 3, 1) := by decide +kernel
theorem d_L_reserve_20 : decode b_L_reserve 20 = .ok (.ireturn, 1) := by decide +kernel
theorem d_L_reserve_21 : decode b_L_reserve 21 = .ok (.iconst 0, 1) := by decide +kernel
theorem d_L_reserve_22 : decode b_L_reserve 22 = .ok (.ireturn, 1) := by decide +kernel
theorem d_L_join_0 : decode b_L_join 0 = .ok (.aload_n 3, 1) := by decide +kernel
theorem d_L_join_1 : decode b_L_join 1 = .ok (.iconst 0, 1) := by decide +kernel
theorem d_L_join_2 : decode b_L_join 2 = .ok (.aload_n 0, 1) := by decide +kernel
theorem d_L_join_3 : decode b_L_join 3 = .ok (.iload_n 1, 1) := by decide +kernel
theorem d_L_join_4 : decode b_L_join 4 = .ok (.iload_n 2, 1) := by decide +kernel
theorem d_L_join_5 : decode b_L_join 5 = .ok (.invokevirtual 83, 3) := by decide +kernel
theorem d_L_join_8 : decode b_L_join 8 = .ok (.i2l, 1) := by decide +kernel
theorem d_L_join_9 : decode b_L_join 9 = .ok (.lastore, 1) := by decide +kernel
theorem d_L_join_10 : decode b_L_join 10 = .ok (.goto 7, 3) := by decide +kernel
theorem d_L_join_13 : decode b_L_join 13 = .ok (.astore 4, 2) := by decide +kernel
theorem d_L_join_15 : decode b_L_join 15 = .ok (.iconst 1, 1) := by decide +kernel
theorem d_L_join_16 : decode b_L_join 16 = .ok (.ireturn, 1) := by decide +kernel
theorem d_L_join_17 : decode b_L_join 17 = .ok (.iconst 0, 1) := by decide +kernel
theorem d_L_join_18 : decode b_L_join 18 = .ok (.ireturn, 1) := by decide +kernel
theorem d_L_ready_0 : decode b_L_ready 0 = .ok (.aload_n 2, 1) := by decide +kernel
theorem d_L_ready_1 : decode b_L_ready 1 = .ok (.iconst 0, 1) := by decide +kernel
theorem d_L_ready_2 : decode b_L_ready 2 = .ok (.aload_n 0, 1) := by decide +kernel
theorem d_L_ready_3 : decode b_L_ready 3 = .ok (.iload_n 1, 1) := by decide +kernel
theorem d_L_ready_4 : decode b_L_ready 4 = .ok (.invokevirtual 86, 3) := by decide +kernel
theorem d_L_ready_7 : decode b_L_ready 7 = .ok (.ifCond .eq 7, 3) := by decide +kernel
theorem d_L_ready_10 : decode b_L_ready 10 = .ok (.lconst 1, 1) := by decide +kernel
theorem d_L_ready_11 : decode b_L_ready 11 = .ok (.goto 4, 3) := by decide +kernel
theorem d_L_ready_14 : decode b_L_ready 14 = .ok (.lconst 0, 1) := by decide +kernel
theorem d_L_ready_15 : decode b_L_ready 15 = .ok (.lastore, 1) := by decide +kernel
theorem d_L_ready_16 : decode b_L_ready 16 = .ok (.goto 6, 3) := by decide +kernel
theorem d_L_ready_19 : decode b_L_ready 19 = .ok (.astore_n 3, 1) := by decide +kernel
theorem d_L_ready_20 : decode b_L_ready 20 = .ok (.iconst 1, 1) := by decide +kernel
theorem d_L_ready_21 : decode b_L_ready 21 = .ok (.ireturn, 1) := by decide +kernel
theorem d_L_ready_22 : decode b_L_ready 22 = .ok (.iconst 0, 1) := by decide +kernel
theorem d_L_ready_23 : decode b_L_ready 23 = .ok (.ireturn, 1) := by decide +kernel
theorem d_L_late_0 : decode b_L_late 0 = .ok (.aload_n 2, 1) := by decide +kernel
theorem d_L_late_1 : decode b_L_late 1 = .ok (.iconst 0, 1) := by decide +kernel
theorem d_L_late_2 : decode b_L_late 2 = .ok (.aload_n 0, 1) := by decide +kernel
theorem d_L_late_3 : decode b_L_late 3 = .ok (.iload_n 1, 1) := by decide +kernel
theorem d_L_late_4 : decode b_L_late 4 = .ok (.invokevirtual 90, 3) := by decide +kernel
theorem d_L_late_7 : decode b_L_late 7 = .ok (.i2l, 1) := by decide +kernel
theorem d_L_late_8 : decode b_L_late 8 = .ok (.lastore, 1) := by decide +kernel
theorem d_L_late_9 : decode b_L_late 9 = .ok (.goto 6, 3) := by decide +kernel
theorem d_L_late_12 : decode b_L_late 12 = .ok (.astore_n 3, 1) := by decide +kernel
theorem d_L_late_13 : decode b_L_late 13 = .ok (.iconst 1, 1) := by decide +kernel
theorem d_L_late_14 : decode b_L_late 14 = .ok (.ireturn, 1) := by decide +kernel
theorem d_L_late_15 : decode b_L_late 15 = .ok (.iconst 0, 1) := by decide +kernel
theorem d_L_late_16 : decode b_L_late 16 = .ok (.ireturn, 1) := by decide +kernel
theorem d_L_tick_0 : decode b_L_tick 0 = .ok (.aload_n 2, 1) := by decide +kernel
theorem d_L_tick_1 : decode b_L_tick 1 = .ok (.iconst 0, 1) := by decide +kernel
theorem d_L_tick_2 : decode b_L_tick 2 = .ok (.aload_n 0, 1) := by decide +kernel
theorem d_L_tick_3 : decode b_L_tick 3 = .ok (.iload_n 1, 1) := by decide +kernel
theorem d_L_tick_4 : decode b_L_tick 4 = .ok (.invokevirtual 93, 3) := by decide +kernel
theorem d_L_tick_7 : decode b_L_tick 7 = .ok (.i2l, 1) := by decide +kernel
theorem d_L_tick_8 : decode b_L_tick 8 = .ok (.lastore, 1) := by decide +kernel
theorem d_L_tick_9 : decode b_L_tick 9 = .ok (.goto 6, 3) := by decide +kernel
theorem d_L_tick_12 : decode b_L_tick 12 = .ok (.astore_n 3, 1) := by decide +kernel
theorem d_L_tick_13 : decode b_L_tick 13 = .ok (.iconst 1, 1) := by decide +kernel
theorem d_L_tick_14 : decode b_L_tick 14 = .ok (.ireturn, 1) := by decide +kernel
theorem d_L_tick_15 : decode b_L_tick 15 = .ok (.iconst 0, 1) := by decide +kernel
theorem d_L_tick_16 : decode b_L_tick 16 = .ok (.ireturn, 1) := by decide +kernel
theorem d_Acc_init_0 : decode b_Acc_init 0 = .ok (.aload_n 0, 1) := by decide +kernel
theorem d_Acc_init_1 : decode b_Acc_init 1 = .ok (.invokespecial 3, 3) := by decide +kernel
theorem d_Acc_init_4 : decode b_Acc_init 4 = .ok (.aload_n 0, 1) := by decide +kernel
theorem d_Acc_init_5 : decode b_Acc_init 5 = .ok (.bipush 10, 2) := by decide +kernel
theorem d_Acc_init_7 : decode b_Acc_init 7 = .ok (.newarray .int, 2) := by decide +kernel
theorem d_Acc_init_9 : decode b_Acc_init 9 = .ok (.putfield 9, 3) := by decide +kernel
theorem d_Acc_init_12 : decode b_Acc_init 12 = .ok (.aload_n 0, 1) := by decide +kernel
theorem d_Acc_init_13 : decode b_Acc_init 13 = .ok (.bipush 10, 2) := by decide +kernel
theorem d_Acc_init_15 : decode b_Acc_init 15 = .ok (.newarray .long, 2) := by decide +kernel
theorem d_Acc_init_17 : decode b_Acc_init 17 = .ok (.putfield 15, 3) := by decide +kernel
theorem d_Acc_init_20 : decode b_Acc_init 20 = .ok (.return_, 1) := by decide +kernel
theorem d_Cal_init_0 : decode b_Cal_init 0 = .ok (.aload_n 0, 1) := by decide +kernel
theorem d_Cal_init_1 : decode b_Cal_init 1 = .ok (.invokespecial 3, 3) := by decide +kernel
theorem d_Cal_init_4 : decode b_Cal_init 4 = .ok (.aload_n 0, 1) := by decide +kernel
theorem d_Cal_init_5 : decode b_Cal_init 5 = .ok (.bipush 60, 2) := by decide +kernel
theorem d_Cal_init_7 : decode b_Cal_init 7 = .ok (.newarray .boolean, 2) := by decide +kernel
theorem d_Cal_init_9 : decode b_Cal_init 9 = .ok (.putfield 9, 3) := by decide +kernel
theorem d_Cal_init_12 : decode b_Cal_init 12 = .ok (.aload_n 0, 1) := by decide +kernel
theorem d_Cal_init_13 : decode b_Cal_init 13 = .ok (.bipush 60, 2) := by decide +kernel
theorem d_Cal_init_15 : decode b_Cal_init 15 = .ok (.newarray .int, 2) := by decide +kernel
theorem d_Cal_init_17 : decode b_Cal_init 17 = .ok (.putfield 15, 3) := by decide +kernel
theorem d_Cal_init_20 : decode b_Cal_init 20 = .ok (.aload_n 0, 1) := by decide +kernel
theorem d_Cal_init_21 : decode b_Cal_init 21 = .ok (.bipush 60, 2) := by decide +kernel
theorem d_Cal_init_23 : decode b_Cal_init 23 = .ok (.newarray .int, 2) := by decide +kernel
theorem d_Cal_init_25 : decode b_Cal_init 25 = .ok (.putfield 19, 3) := by decide +kernel
theorem d_Cal_init_28 : decode b_Cal_init 28 = .ok (.aload_n 0, 1) := by decide +kernel
theorem d_Cal_init_29 : decode b_Cal_init 29 = .ok (.iconst 0, 1) := by decide +kernel
theorem d_Cal_init_30 : decode b_Cal_init 30 = .ok (.putfield 22, 3) := by decide +kernel
theorem d_Cal_init_33 : decode b_Cal_init 33 = .ok (.return_, 1) := by decide +kernel
theorem d_Chg_init_0 : decode b_Chg_init 0 = .ok (.aload_n 0, 1) := by decide +kernel
theorem d_Chg_init_1 : decode b_Chg_init 1 = .ok (.invokespecial 3, 3) := by decide +kernel
theorem d_Chg_init_4 : decode b_Chg_init 4 = .ok (.aload_n 0, 1) := by decide +kernel
theorem d_Chg_init_5 : decode b_Chg_init 5 = .ok (.sipush 1200, 3) := by decide +kernel
theorem d_Chg_init_8 : decode b_Chg_init 8 = .ok (.newarray .int, 2) := by decide +kernel
theorem d_Chg_init_10 : decode b_Chg_init 10 = .ok (.putfield 9, 3) := by decide +kernel
theorem d_Chg_init_13 : decode b_Chg_init 13 = .ok (.aload_n 0, 1) := by decide +kernel
theorem d_Chg_init_14 : decode b_Chg_init 14 = .ok (.sipush 1200, 3) := by decide +kernel
theorem d_Chg_init_17 : decode b_Chg_init 17 = .ok (.newarray .int, 2) := by decide +kernel
theorem d_Chg_init_19 : decode b_Chg_init 19 = .ok (.putfield 15, 3) := by decide +kernel
theorem d_Chg_init_22 : decode b_Chg_init 22 = .ok (.aload_n 0, 1) := by decide +kernel
theorem d_Chg_init_23 : decode b_Chg_init 23 = .ok (.sipush 1200, 3) := by decide +kernel
theorem d_Chg_init_26 : decode b_Chg_init 26 = .ok (.newarray .int, 2) := by decide +kernel
theorem d_Chg_init_28 : decode b_Chg_init 28 = .ok (.putfield 18, 3) := by decide +kernel
theorem d_Chg_init_31 : decode b_Chg_init 31 = .ok (.aload_n 0, 1) := by decide +kernel
theorem d_Chg_init_32 : decode b_Chg_init 32 = .ok (.sipush 1200, 3) := by decide +kernel
theorem d_Chg_init_35 : decode b_Chg_init 35 = .ok (.newarray .int, 2) := by decide +kernel
theorem d_Chg_init_37 : decode b_Chg_init 37 = .ok (.putfield 21, 3) := by decide +kernel
theorem d_Chg_init_40 : decode b_Chg_init 40 = .ok (.aload_n 0, 1) := by decide +kernel
theorem d_Chg_init_41 : decode b_Chg_init 41 = .ok (.bipush 60, 2) := by decide +kernel
theorem d_Chg_init_43 : decode b_Chg_init 43 = .ok (.newarray .int, 2) := by decide +kernel
theorem d_Chg_init_45 : decode b_Chg_init 45 = .ok (.putfield 24, 3) := by decide +kernel
theorem d_Chg_init_48 : decode b_Chg_init 48 = .ok (.return_, 1) := by decide +kernel
theorem d_Itm_init_0 : decode b_Itm_init 0 = .ok (.aload_n 0, 1) := by decide +kernel
theorem d_Itm_init_1 : decode b_Itm_init 1 = .ok (.invokespecial 3, 3) := by decide +kernel
theorem d_Itm_init_4 : decode b_Itm_init 4 = .ok (.aload_n 0, 1) := by decide +kernel
theorem d_Itm_init_5 : decode b_Itm_init 5 = .ok (.bipush 60, 2) := by decide +kernel
theorem d_Itm_init_7 : decode b_Itm_init 7 = .ok (.newarray .int, 2) := by decide +kernel
theorem d_Itm_init_9 : decode b_Itm_init 9 = .ok (.putfield 9, 3) := by decide +kernel
theorem d_Itm_init_12 : decode b_Itm_init 12 = .ok (.aload_n 0, 1) := by decide +kernel
theorem d_Itm_init_13 : decode b_Itm_init 13 = .ok (.bipush 60, 2) := by decide +kernel
theorem d_Itm_init_15 : decode b_Itm_init 15 = .ok (.newarray .int, 2) := by decide +kernel
theorem d_Itm_init_17 : decode b_Itm_init 17 = .ok (.putfield 15, 3) := by decide +kernel
theorem d_Itm_init_20 : decode b_Itm_init 20 = .ok (.aload_n 0, 1) := by decide +kernel
theorem d_Itm_init_21 : decode b_Itm_init 21 = .ok (.sipush 360, 3) := by decide +kernel
theorem d_Itm_init_24 : decode b_Itm_init 24 = .ok (.newarray .int, 2) := by decide +kernel
theorem d_Itm_init_26 : decode b_Itm_init 26 = .ok (.putfield 18, 3) := by decide +kernel
theorem d_Itm_init_29 : decode b_Itm_init 29 = .ok (.aload_n 0, 1) := by decide +kernel
theorem d_Itm_init_30 : decode b_Itm_init 30 = .ok (.iconst 0, 1) := by decide +kernel
theorem d_Itm_init_31 : decode b_Itm_init 31 = .ok (.putfield 21, 3) := by decide +kernel
theorem d_Itm_init_34 : decode b_Itm_init 34 = .ok (.return_, 1) := by decide +kernel
theorem d_Ord_init_0 : decode b_Ord_init 0 = .ok (.aload_n 0, 1) := by decide +kernel
theorem d_Ord_init_1 : decode b_Ord_init 1 = .ok (.invokespecial 3, 3) := by decide +kernel
theorem d_Ord_init_4 : decode b_Ord_init 4 = .ok (.aload_n 0, 1) := by decide +kernel
theorem d_Ord_init_5 : decode b_Ord_init 5 = .ok (.bipush 30, 2) := by decide +kernel
theorem d_Ord_init_7 : decode b_Ord_init 7 = .ok (.newarray .int, 2) := by decide +kernel
theorem d_Ord_init_9 : decode b_Ord_init 9 = .ok (.putfield 9, 3) := by decide +kernel
theorem d_Ord_init_12 : decode b_Ord_init 12 = .ok (.aload_n 0, 1) := by decide +kernel
theorem d_Ord_init_13 : decode b_Ord_init 13 = .ok (.bipush 30, 2) := by decide +kernel
theorem d_Ord_init_15 : decode b_Ord_init 15 = .ok (.newarray .int, 2) := by decide +kernel
theorem d_Ord_init_17 : decode b_Ord_init 17 = .ok (.putfield 15, 3) := by decide +kernel
theorem d_Ord_init_20 : decode b_Ord_init 20 = .ok (.aload_n 0, 1) := by decide +kernel
theorem d_Ord_init_21 : decode b_Ord_init 21 = .ok (.bipush 30, 2) := by decide +kernel
theorem d_Ord_init_23 : decode b_Ord_init 23 = .ok (.newarray .int, 2) := by decide +kernel
theorem d_Ord_init_25 : decode b_Ord_init 25 = .ok (.putfield 18, 3) := by decide +kernel
theorem d_Ord_init_28 : decode b_Ord_init 28 = .ok (.aload_n 0, 1) := by decide +kernel
theorem d_Ord_init_29 : decode b_Ord_init 29 = .ok (.iconst 0, 1) := by decide +kernel
theorem d_Ord_init_30 : decode b_Ord_init 30 = .ok (.putfield 21, 3) := by decide +kernel
theorem d_Ord_init_33 : decode b_Ord_init 33 = .ok (.return_, 1) := by decide +kernel
theorem d_Out_init_0 : decode b_Out_init 0 = .ok (.aload_n 0, 1) := by decide +kernel
theorem d_Out_init_1 : decode b_Out_init 1 = .ok (.invokespecial 3, 3) := by decide +kernel
theorem d_Out_init_4 : decode b_Out_init 4 = .ok (.aload_n 0, 1) := by decide +kernel
theorem d_Out_init_5 : decode b_Out_init 5 = .ok (.sipush 200, 3) := by decide +kernel
theorem d_Out_init_8 : decode b_Out_init 8 = .ok (.newarray .int, 2) := by decide +kernel
theorem d_Out_init_10 : decode b_Out_init 10 = .ok (.putfield 9, 3) := by decide +kernel
theorem d_Out_init_13 : decode b_Out_init 13 = .ok (.aload_n 0, 1) := by decide +kernel
theorem d_Out_init_14 : decode b_Out_init 14 = .ok (.sipush 200, 3) := by decide +kernel
theorem d_Out_init_17 : decode b_Out_init 17 = .ok (.newarray .int, 2) := by decide +kernel
theorem d_Out_init_19 : decode b_Out_init 19 = .ok (.putfield 15, 3) := by decide +kernel
theorem d_Out_init_22 : decode b_Out_init 22 = .ok (.aload_n 0, 1) := by decide +kernel
theorem d_Out_init_23 : decode b_Out_init 23 = .ok (.sipush 200, 3) := by decide +kernel
theorem d_Out_init_26 : decode b_Out_init 26 = .ok (.newarray .int, 2) := by decide +kernel
theorem d_Out_init_28 : decode b_Out_init 28 = .ok (.putfield 18, 3) := by decide +kernel
theorem d_Out_init_31 : decode b_Out_init 31 = .ok (.aload_n 0, 1) := by decide +kernel
theorem d_Out_init_32 : decode b_Out_init 32 = .ok (.bipush 60, 2) := by decide +kernel
theorem d_Out_init_34 : decode b_Out_init 34 = .ok (.newarray .int, 2) := by decide +kernel
theorem d_Out_init_36 : decode b_Out_init 36 = .ok (.putfield 21, 3) := by decide +kernel
theorem d_Out_init_39 : decode b_Out_init 39 = .ok (.aload_n 0, 1) := by decide +kernel
theorem d_Out_init_40 : decode b_Out_init 40 = .ok (.iconst 0, 1) := by decide +kernel
theorem d_Out_init_41 : decode b_Out_init 41 = .ok (.putfield 24, 3) := by decide +kernel
theorem d_Out_init_44 : decode b_Out_init 44 = .ok (.return_, 1) := by decide +kernel
theorem d_Quo_init_0 : decode b_Quo_init 0 = .ok (.aload_n 0, 1) := by decide +kernel
theorem d_Quo_init_1 : decode b_Quo_init 1 = .ok (.invokespecial 3, 3) := by decide +kernel
theorem d_Quo_init_4 : decode b_Quo_init 4 = .ok (.aload_n 0, 1) := by decide +kernel
theorem d_Quo_init_5 : decode b_Quo_init 5 = .ok (.bipush 60, 2) := by decide +kernel
theorem d_Quo_init_7 : decode b_Quo_init 7 = .ok (.newarray .int, 2) := by decide +kernel
theorem d_Quo_init_9 : decode b_Quo_init 9 = .ok (.putfield 9, 3) := by decide +kernel
theorem d_Quo_init_12 : decode b_Quo_init 12 = .ok (.aload_n 0, 1) := by decide +kernel
theorem d_Quo_init_13 : decode b_Quo_init 13 = .ok (.bipush 60, 2) := by decide +kernel
theorem d_Quo_init_15 : decode b_Quo_init 15 = .ok (.newarray .int, 2) := by decide +kernel
theorem d_Quo_init_17 : decode b_Quo_init 17 = .ok (.putfield 15, 3) := by decide +kernel
theorem d_Quo_init_20 : decode b_Quo_init 20 = .ok (.aload_n 0, 1) := by decide +kernel
theorem d_Quo_init_21 : decode b_Quo_init 21 = .ok (.bipush 60, 2) := by decide +kernel
theorem d_Quo_init_23 : decode b_Quo_init 23 = .ok (.newarray .long, 2) := by decide +kernel
theorem d_Quo_init_25 : decode b_Quo_init 25 = .ok (.putfield 18, 3) := by decide +kernel
theorem d_Quo_init_28 : decode b_Quo_init 28 = .ok (.aload_n 0, 1) := by decide +kernel
theorem d_Quo_init_29 : decode b_Quo_init 29 = .ok (.bipush 60, 2) := by decide +kernel
theorem d_Quo_init_31 : decode b_Quo_init 31 = .ok (.newarray .boolean, 2) := by decide +kernel
theorem d_Quo_init_33 : decode b_Quo_init 33 = .ok (.putfield 22, 3) := by decide +kernel
theorem d_Quo_init_36 : decode b_Quo_init 36 = .ok (.aload_n 0, 1) := by decide +kernel
theorem d_Quo_init_37 : decode b_Quo_init 37 = .ok (.iconst 0, 1) := by decide +kernel
theorem d_Quo_init_38 : decode b_Quo_init 38 = .ok (.putfield 26, 3) := by decide +kernel
theorem d_Quo_init_41 : decode b_Quo_init 41 = .ok (.return_, 1) := by decide +kernel
theorem d_Rat_init_0 : decode b_Rat_init 0 = .ok (.aload_n 0, 1) := by decide +kernel
theorem d_Rat_init_1 : decode b_Rat_init 1 = .ok (.invokespecial 1, 3) := by decide +kernel
theorem d_Rat_init_4 : decode b_Rat_init 4 = .ok (.aload_n 0, 1) := by decide +kernel
theorem d_Rat_init_5 : decode b_Rat_init 5 = .ok (.iconst 0, 1) := by decide +kernel
theorem d_Rat_init_6 : decode b_Rat_init 6 = .ok (.putfield 7, 3) := by decide +kernel
theorem d_Rat_init_9 : decode b_Rat_init 9 = .ok (.aload_n 0, 1) := by decide +kernel
theorem d_Rat_init_10 : decode b_Rat_init 10 = .ok (.iconst 0, 1) := by decide +kernel
theorem d_Rat_init_11 : decode b_Rat_init 11 = .ok (.putfield 13, 3) := by decide +kernel
theorem d_Rat_init_14 : decode b_Rat_init 14 = .ok (.aload_n 0, 1) := by decide +kernel
theorem d_Rat_init_15 : decode b_Rat_init 15 = .ok (.iconst 0, 1) := by decide +kernel
theorem d_Rat_init_16 : decode b_Rat_init 16 = .ok (.putfield 16, 3) := by decide +kernel
theorem d_Rat_init_19 : decode b_Rat_init 19 = .ok (.return_, 1) := by decide +kernel
theorem d_Or_init_0 : decode b_Or_init 0 = .ok (.aload_n 0, 1) := by decide +kernel
theorem d_Or_init_1 : decode b_Or_init 1 = .ok (.invokespecial 1, 3) := by decide +kernel
theorem d_Or_init_4 : decode b_Or_init 4 = .ok (.aload_n 0, 1) := by decide +kernel
theorem d_Or_init_5 : decode b_Or_init 5 = .ok (.new 7, 3) := by decide +kernel
theorem d_Or_init_8 : decode b_Or_init 8 = .ok (.dup, 1) := by decide +kernel
theorem d_Or_init_9 : decode b_Or_init 9 = .ok (.invokespecial 9, 3) := by decide +kernel
theorem d_Or_init_12 : decode b_Or_init 12 = .ok (.putfield 10, 3) := by decide +kernel
theorem d_Or_init_15 : decode b_Or_init 15 = .ok (.aload_n 0, 1) := by decide +kernel
theorem d_Or_init_16 : decode b_Or_init 16 = .ok (.new 16, 3) := by decide +kernel
theorem d_Or_init_19 : decode b_Or_init 19 = .ok (.dup, 1) := by decide +kernel
theorem d_Or_init_20 : decode b_Or_init 20 = .ok (.invokespecial 18, 3) := by decide +kernel
theorem d_Or_init_23 : decode b_Or_init 23 = .ok (.putfield 19, 3) := by decide +kernel
theorem d_Or_init_26 : decode b_Or_init 26 = .ok (.aload_n 0, 1) := by decide +kernel
theorem d_Or_init_27 : decode b_Or_init 27 = .ok (.new 23, 3) := by decide +kernel
theorem d_Or_init_30 : decode b_Or_init 30 = .ok (.dup, 1) := by decide +kernel
theorem d_Or_init_31 : decode b_Or_init 31 = .ok (.invokespecial 25, 3) := by decide +kernel
theorem d_Or_init_34 : decode b_Or_init 34 = .ok (.putfield 26, 3) := by decide +kernel
theorem d_Or_init_37 : decode b_Or_init 37 = .ok (.aload_n 0, 1) := by decide +kernel
theorem d_Or_init_38 : decode b_Or_init 38 = .ok (.new 30, 3) := by decide +kernel
theorem d_Or_init_41 : decode b_Or_init 41 = .ok (.dup, 1) := by decide +kernel
theorem d_Or_init_42 : decode b_Or_init 42 = .ok (.invokespecial 32, 3) := by decide +kernel
theorem d_Or_init_45 : decode b_Or_init 45 = .ok (.putfield 33, 3) := by decide +kernel
theorem d_Or_init_48 : decode b_Or_init 48 = .ok (.aload_n 0, 1) := by decide +kernel
theorem d_Or_init_49 : decode b_Or_init 49 = .ok (.new 37, 3) := by decide +kernel
theorem d_Or_init_52 : decode b_Or_init 52 = .ok (.dup, 1) := by decide +kernel
theorem d_Or_init_53 : decode b_Or_init 53 = .ok (.invokespecial 39, 3) := by decide +kernel
theorem d_Or_init_56 : decode b_Or_init 56 = .ok (.putfield 40, 3) := by decide +kernel
theorem d_Or_init_59 : decode b_Or_init 59 = .ok (.aload_n 0, 1) := by decide +kernel
theorem d_Or_init_60 : decode b_Or_init 60 = .ok (.new 44, 3) := by decide +kernel
theorem d_Or_init_63 : decode b_Or_init 63 = .ok (.dup, 1) := by decide +kernel
theorem d_Or_init_64 : decode b_Or_init 64 = .ok (.invokespecial 46, 3) := by decide +kernel
theorem d_Or_init_67 : decode b_Or_init 67 = .ok (.putfield 47, 3) := by decide +kernel
theorem d_Or_init_70 : decode b_Or_init 70 = .ok (.aload_n 0, 1) := by decide +kernel
theorem d_Or_init_71 : decode b_Or_init 71 = .ok (.new 51, 3) := by decide +kernel
theorem d_Or_init_74 : decode b_Or_init 74 = .ok (.dup, 1) := by decide +kernel
theorem d_Or_init_75 : decode b_Or_init 75 = .ok (.invokespecial 53, 3) := by decide +kernel
theorem d_Or_init_78 : decode b_Or_init 78 = .ok (.putfield 54, 3) := by decide +kernel
theorem d_Or_init_81 : decode b_Or_init 81 = .ok (.aload_n 0, 1) := by decide +kernel
theorem d_Or_init_82 : decode b_Or_init 82 = .ok (.new 58, 3) := by decide +kernel
theorem d_Or_init_85 : decode b_Or_init 85 = .ok (.dup, 1) := by decide +kernel
theorem d_Or_init_86 : decode b_Or_init 86 = .ok (.invokespecial 60, 3) := by decide +kernel
theorem d_Or_init_89 : decode b_Or_init 89 = .ok (.putfield 61, 3) := by decide +kernel
theorem d_Or_init_92 : decode b_Or_init 92 = .ok (.aload_n 0, 1) := by decide +kernel
theorem d_Or_init_93 : decode b_Or_init 93 = .ok (.iconst 0, 1) := by decide +kernel
theorem d_Or_init_94 : decode b_Or_init 94 = .ok (.putfield 65, 3) := by decide +kernel
theorem d_Or_init_97 : decode b_Or_init 97 = .ok (.return_, 1) := by decide +kernel
theorem d_Mo_init_0 : decode b_Mo_init 0 = .ok (.aload_n 0, 1) := by decide +kernel
theorem d_Mo_init_1 : decode b_Mo_init 1 = .ok (.invokespecial 1, 3) := by decide +kernel
theorem d_Mo_init_4 : decode b_Mo_init 4 = .ok (.aload_n 0, 1) := by decide +kernel
theorem d_Mo_init_5 : decode b_Mo_init 5 = .ok (.bipush 10, 2) := by decide +kernel
theorem d_Mo_init_7 : decode b_Mo_init 7 = .ok (.newarray .int, 2) := by decide +kernel
theorem d_Mo_init_9 : decode b_Mo_init 9 = .ok (.putfield 7, 3) := by decide +kernel
theorem d_Mo_init_12 : decode b_Mo_init 12 = .ok (.aload_n 0, 1) := by decide +kernel
theorem d_Mo_init_13 : decode b_Mo_init 13 = .ok (.bipush 30, 2) := by decide +kernel
theorem d_Mo_init_15 : decode b_Mo_init 15 = .ok (.newarray .int, 2) := by decide +kernel
theorem d_Mo_init_17 : decode b_Mo_init 17 = .ok (.putfield 13, 3) := by decide +kernel
theorem d_Mo_init_20 : decode b_Mo_init 20 = .ok (.aload_n 0, 1) := by decide +kernel
theorem d_Mo_init_21 : decode b_Mo_init 21 = .ok (.bipush 30, 2) := by decide +kernel
theorem d_Mo_init_23 : decode b_Mo_init 23 = .ok (.newarray .int, 2) := by decide +kernel
theorem d_Mo_init_25 : decode b_Mo_init 25 = .ok (.putfield 16, 3) := by decide +kernel
theorem d_Mo_init_28 : decode b_Mo_init 28 = .ok (.aload_n 0, 1) := by decide +kernel
theorem d_Mo_init_29 : decode b_Mo_init 29 = .ok (.bipush 30, 2) := by decide +kernel
theorem d_Mo_init_31 : decode b_Mo_init 31 = .ok (.newarray .int, 2) := by decide +kernel
theorem d_Mo_init_33 : decode b_Mo_init 33 = .ok (.putfield 19, 3) := by decide +kernel
theorem d_Mo_init_36 : decode b_Mo_init 36 = .ok (.aload_n 0, 1) := by decide +kernel
theorem d_Mo_init_37 : decode b_Mo_init 37 = .ok (.bipush 60, 2) := by decide +kernel
theorem d_Mo_init_39 : decode b_Mo_init 39 = .ok (.newarray .int, 2) := by decide +kernel
theorem d_Mo_init_41 : decode b_Mo_init 41 = .ok (.putfield 22, 3) := by decide +kernel
theorem d_Mo_init_44 : decode b_Mo_init 44 = .ok (.aload_n 0, 1) := by decide +kernel
theorem d_Mo_init_45 : decode b_Mo_init 45 = .ok (.sipush 360, 3) := by decide +kernel
theorem d_Mo_init_48 : decode b_Mo_init 48 = .ok (.newarray .int, 2) := by decide +kernel
theorem d_Mo_init_50 : decode b_Mo_init 50 = .ok (.putfield 25, 3) := by decide +kernel
theorem d_Mo_init_53 : decode b_Mo_init 53 = .ok (.aload_n 0, 1) := by decide +kernel
theorem d_Mo_init_54 : decode b_Mo_init 54 = .ok (.bipush 60, 2) := by decide +kernel
theorem d_Mo_init_56 : decode b_Mo_init 56 = .ok (.newarray .int, 2) := by decide +kernel
theorem d_Mo_init_58 : decode b_Mo_init 58 = .ok (.putfield 28, 3) := by decide +kernel
theorem d_Mo_init_61 : decode b_Mo_init 61 = .ok (.aload_n 0, 1) := by decide +kernel
theorem d_Mo_init_62 : decode b_Mo_init 62 = .ok (.bipush 60, 2) := by decide +kernel
theorem d_Mo_init_64 : decode b_Mo_init 64 = .ok (.newarray .boolean, 2) := by decide +kernel
theorem d_Mo_init_66 : decode b_Mo_init 66 = .ok (.putfield 31, 3) := by decide +kernel
theorem d_Mo_init_69 : decode b_Mo_init 69 = .ok (.aload_n 0, 1) := by decide +kernel
theorem d_Mo_init_70 : decode b_Mo_init 70 = .ok (.bipush 60, 2) := by decide +kernel
theorem d_Mo_init_72 : decode b_Mo_init 72 = .ok (.newarray .int, 2) := by decide +kernel
theorem d_Mo_init_74 : decode b_Mo_init 74 = .ok (.putfield 35, 3) := by decide +kernel
theorem d_Mo_init_77 : decode b_Mo_init 77 = .ok (.aload_n 0, 1) := by decide +kernel
theorem d_Mo_init_78 : decode b_Mo_init 78 = .ok (.sipush 1200, 3) := by decide +kernel
theorem d_Mo_init_81 : decode b_Mo_init 81 = .ok (.newarray .int, 2) := by decide +kernel
theorem d_Mo_init_83 : decode b_Mo_init 83 = .ok (.putfield 38, 3) := by decide +kernel
theorem d_Mo_init_86 : decode b_Mo_init 86 = .ok (.aload_n 0, 1) := by decide +kernel
theorem d_Mo_init_87 : decode b_Mo_init 87 = .ok (.sipush 1200, 3) := by decide +kernel
theorem d_Mo_init_90 : decode b_Mo_init 90 = .ok (.newarray .int, 2) := by decide +kernel
theorem d_Mo_init_92 : decode b_Mo_init 92 = .ok (.putfield 41, 3) := by decide +kernel
theorem d_Mo_init_95 : decode b_Mo_init 95 = .ok (.aload_n 0, 1) := by decide +kernel
theorem d_Mo_init_96 : decode b_Mo_init 96 = .ok (.sipush 1200, 3) := by decide +kernel
theorem d_Mo_init_99 : decode b_Mo_init 99 = .ok (.newarray .int, 2) := by decide +kernel
theorem d_Mo_init_101 : decode b_Mo_init 101 = .ok (.putfield 44, 3) := by decide +kernel
theorem d_Mo_init_104 : decode b_Mo_init 104 = .ok (.aload_n 0, 1) := by decide +kernel
theorem d_Mo_init_105 : decode b_Mo_init 105 = .ok (.sipush 1200, 3) := by decide +kernel
theorem d_Mo_init_108 : decode b_Mo_init 108 = .ok (.newarray .int, 2) := by decide +kernel
theorem d_Mo_init_110 : decode b_Mo_init 110 = .ok (.putfield 47, 3) := by decide +kernel
theorem d_Mo_init_113 : decode b_Mo_init 113 = .ok (.aload_n 0, 1) := by decide +kernel
theorem d_Mo_init_114 : decode b_Mo_init 114 = .ok (.sipush 200, 3) := by decide +kernel
theorem d_Mo_init_117 : decode b_Mo_init 117 = .ok (.newarray .int, 2) := by decide +kernel
theorem d_Mo_init_119 : decode b_Mo_init 119 = .ok (.putfield 50, 3) := by decide +kernel
theorem d_Mo_init_122 : decode b_Mo_init 122 = .ok (.aload_n 0, 1) := by decide +kernel
theorem d_Mo_init_123 : decode b_Mo_init 123 = .ok (.sipush 200, 3) := by decide +kernel
theorem d_Mo_init_126 : decode b_Mo_init 126 = .ok (.newarray .int, 2) := by decide +kernel
theorem d_Mo_init_128 : decode b_Mo_init 128 = .ok (.putfield 53, 3) := by decide +kernel
theorem d_Mo_init_131 : decode b_Mo_init 131 = .ok (.aload_n 0, 1) := by decide +kernel
theorem d_Mo_init_132 : decode b_Mo_init 132 = .ok (.sipush 200, 3) := by decide +kernel
theorem d_Mo_init_135 : decode b_Mo_init 135 = .ok (.newarray .int, 2) := by decide +kernel
theorem d_Mo_init_137 : decode b_Mo_init 137 = .ok (.putfield 56, 3) := by decide +kernel
theorem d_Mo_init_140 : decode b_Mo_init 140 = .ok (.aload_n 0, 1) := by decide +kernel
theorem d_Mo_init_141 : decode b_Mo_init 141 = .ok (.bipush 60, 2) := by decide +kernel
theorem d_Mo_init_143 : decode b_Mo_init 143 = .ok (.newarray .int, 2) := by decide +kernel
theorem d_Mo_init_145 : decode b_Mo_init 145 = .ok (.putfield 59, 3) := by decide +kernel
theorem d_Mo_init_148 : decode b_Mo_init 148 = .ok (.aload_n 0, 1) := by decide +kernel
theorem d_Mo_init_149 : decode b_Mo_init 149 = .ok (.bipush 60, 2) := by decide +kernel
theorem d_Mo_init_151 : decode b_Mo_init 151 = .ok (.newarray .int, 2) := by decide +kernel
theorem d_Mo_init_153 : decode b_Mo_init 153 = .ok (.putfield 62, 3) := by decide +kernel
theorem d_Mo_init_156 : decode b_Mo_init 156 = .ok (.aload_n 0, 1) := by decide +kernel
theorem d_Mo_init_157 : decode b_Mo_init 157 = .ok (.bipush 60, 2) := by decide +kernel
theorem d_Mo_init_159 : decode b_Mo_init 159 = .ok (.newarray .long, 2) := by decide +kernel
theorem d_Mo_init_161 : decode b_Mo_init 161 = .ok (.putfield 65, 3) := by decide +kernel
theorem d_Mo_init_164 : decode b_Mo_init 164 = .ok (.aload_n 0, 1) := by decide +kernel
theorem d_Mo_init_165 : decode b_Mo_init 165 = .ok (.bipush 60, 2) := by decide +kernel
theorem d_Mo_init_167 : decode b_Mo_init 167 = .ok (.newarray .boolean, 2) := by decide +kernel
theorem d_Mo_init_169 : decode b_Mo_init 169 = .ok (.putfield 69, 3) := by decide +kernel
theorem d_Mo_init_172 : decode b_Mo_init 172 = .ok (.aload_n 0, 1) := by decide +kernel
theorem d_Mo_init_173 : decode b_Mo_init 173 = .ok (.sipush 10000, 3) := by decide +kernel
theorem d_Mo_init_176 : decode b_Mo_init 176 = .ok (.newarray .int, 2) := by decide +kernel
theorem d_Mo_init_178 : decode b_Mo_init 178 = .ok (.putfield 72, 3) := by decide +kernel
theorem d_Mo_init_181 : decode b_Mo_init 181 = .ok (.return_, 1) := by decide +kernel
theorem d_L_law_0 : decode b_L_law 0 = .ok (.new 8, 3) := by decide +kernel
theorem d_L_law_3 : decode b_L_law 3 = .ok (.dup, 1) := by decide +kernel
theorem d_L_law_4 : decode b_L_law 4 = .ok (.invokespecial 96, 3) := by decide +kernel
theorem d_L_law_7 : decode b_L_law 7 = .ok (.astore_n 1, 1) := by decide +kernel
theorem d_L_law_8 : decode b_L_law 8 = .ok (.new 97, 3) := by decide +kernel
theorem d_L_law_11 : decode b_L_law 11 = .ok (.dup, 1) := by decide +kernel
theorem d_L_law_12 : decode b_L_law 12 = .ok (.invokespecial 99, 3) := by decide +kernel
theorem d_L_law_15 : decode b_L_law 15 = .ok (.astore_n 2, 1) := by decide +kernel
theorem d_L_law_16 : decode b_L_law 16 = .ok (.iconst 1, 1) := by decide +kernel
theorem d_L_law_17 : decode b_L_law 17 = .ok (.newarray .long, 2) := by decide +kernel
theorem d_L_law_19 : decode b_L_law 19 = .ok (.astore_n 3, 1) := by decide +kernel
theorem d_L_law_20 : decode b_L_law 20 = .ok (.iconst 0, 1) := by decide +kernel
theorem d_L_law_21 : decode b_L_law 21 = .ok (.istore 4, 2) := by decide +kernel
theorem d_L_law_23 : decode b_L_law 23 = .ok (.iload 4, 2) := by decide +kernel
theorem d_L_law_25 : decode b_L_law 25 = .ok (.aload_n 0, 1) := by decide +kernel
theorem d_L_law_26 : decode b_L_law 26 = .ok (.arraylength, 1) := by decide +kernel
theorem d_L_law_27 : decode b_L_law 27 = .ok (.bipush 6, 2) := by decide +kernel
theorem d_L_law_29 : decode b_L_law 29 = .ok (.isub, 1) := by decide +kernel
theorem d_L_law_30 : decode b_L_law 30 = .ok (.if_icmp .gt 1585, 3) := by decide +kernel
theorem d_L_law_33 : decode b_L_law 33 = .ok (.aload_n 0, 1) := by decide +kernel
theorem d_L_law_34 : decode b_L_law 34 = .ok (.iload 4, 2) := by decide +kernel
theorem d_L_law_36 : decode b_L_law 36 = .ok (.iaload, 1) := by decide +kernel
theorem d_L_law_37 : decode b_L_law 37 = .ok (.bipush 31, 2) := by decide +kernel
theorem d_L_law_39 : decode b_L_law 39 = .ok (.iand, 1) := by decide +kernel
theorem d_L_law_40 : decode b_L_law 40 = .ok (.tableswitch 1569 0 22 #[108, 176, 268, 328, 376, 460, 540, 620, 688, 756, 824, 880, 940, 1008, 1076, 1131, 1179, 1234, 1270, 1326, 1394, 1457, 1513], 108) := by decide +kernel
theorem d_L_law_148 : decode b_L_law 148 = .ok (.aload_n 1, 1) := by decide +kernel
theorem d_L_law_149 : decode b_L_law 149 = .ok (.aload_n 0, 1) := by decide +kernel
theorem d_L_law_150 : decode b_L_law 150 = .ok (.iload 4, 2) := by decide +kernel
theorem d_L_law_152 : decode b_L_law 152 = .ok (.iconst 1, 1) := by decide +kernel
theorem d_L_law_153 : decode b_L_law 153 = .ok (.iadd, 1) := by decide +kernel
theorem d_L_law_154 : decode b_L_law 154 = .ok (.iaload, 1) := by decide +kernel
theorem d_L_law_155 : decode b_L_law 155 = .ok (.aload_n 0, 1) := by decide +kernel
theorem d_L_law_156 : decode b_L_law 156 = .ok (.iload 4, 2) := by decide +kernel
theorem d_L_law_158 : decode b_L_law 158 = .ok (.iconst 2, 1) := by decide +kernel
theorem d_L_law_159 : decode b_L_law 159 = .ok (.iadd, 1) := by decide +kernel
theorem d_L_law_160 : decode b_L_law 160 = .ok (.iaload, 1) := by decide +kernel
theorem d_L_law_161 : decode b_L_law 161 = .ok (.aload_n 3, 1) := by decide +kernel
theorem d_L_law_162 : decode b_L_law 162 = .ok (.invokestatic 100, 3) := by decide +kernel
theorem d_L_law_165 : decode b_L_law 165 = .ok (.istore 5, 2) := by decide +kernel
theorem d_L_law_167 : decode b_L_law 167 = .ok (.aload_n 2, 1) := by decide +kernel
theorem d_L_law_168 : decode b_L_law 168 = .ok (.aload_n 0, 1) := by decide +kernel
theorem d_L_law_169 : decode b_L_law 169 = .ok (.iload 4, 2) := by decide +kernel
theorem d_L_law_171 : decode b_L_law 171 = .ok (.iconst 1, 1) := by decide +kernel
theorem d_L_law_172 : decode b_L_law 172 = .ok (.iadd, 1) := by decide +kernel
theorem d_L_law_173 : decode b_L_law 173 = .ok (.iaload, 1) := by decide +kernel
theorem d_L_law_174 : decode b_L_law 174 = .ok (.aload_n 0, 1) := by decide +kernel
theorem d_L_law_175 : decode b_L_law 175 = .ok (.iload 4, 2) := by decide +kernel
theorem d_L_law_177 : decode b_L_law 177 = .ok (.iconst 2, 1) := by decide +kernel
theorem d_L_law_178 : decode b_L_law 178 = .ok (.iadd, 1) := by decide +kernel
theorem d_L_law_179 : decode b_L_law 179 = .ok (.iaload, 1) := by decide +kernel
theorem d_L_law_180 : decode b_L_law 180 = .ok (.invokevirtual 105, 3) := by decide +kernel
theorem d_L_law_183 : decode b_L_law 183 = .ok (.istore 6, 2) := by decide +kernel
theorem d_L_law_185 : decode b_L_law 185 = .ok (.aload_n 2, 1) := by decide +kernel
theorem d_L_law_186 : decode b_L_law 186 = .ok (.invokevirtual 106, 3) := by decide +kernel
theorem d_L_law_189 : decode b_L_law 189 = .ok (.iload 5, 2) := by decide +kernel
theorem d_L_law_191 : decode b_L_law 191 = .ok (.if_icmp .eq 5, 3) := by decide +kernel
theorem d_L_law_194 : decode b_L_law 194 = .ok (.iconst 0, 1) := by decide +kernel
theorem d_L_law_195 : decode b_L_law 195 = .ok (.ireturn, 1) := by decide +kernel
theorem d_L_law_196 : decode b_L_law 196 = .ok (.iload 5, 2) := by decide +kernel
theorem d_L_law_198 : decode b_L_law 198 = .ok (.ifCond .ne 15, 3) := by decide +kernel
theorem d_L_law_201 : decode b_L_law 201 = .ok (.aload_n 3, 1) := by decide +kernel
theorem d_L_law_202 : decode b_L_law 202 = .ok (.iconst 0, 1) := by decide +kernel
theorem d_L_law_203 : decode b_L_law 203 = .ok (.laload, 1) := by decide +kernel
theorem d_L_law_204 : decode b_L_law 204 = .ok (.iload 6, 2) := by decide +kernel
theorem d_L_law_206 : decode b_L_law 206 = .ok (.i2l, 1) := by decide +kernel
theorem d_L_law_207 : decode b_L_law 207 = .ok (.lcmp, 1) := by decide +kernel
theorem d_L_law_208 : decode b_L_law 208 = .ok (.ifCond .eq 5, 3) := by decide +kernel
theorem d_L_law_211 : decode b_L_law 211 = .ok (.iconst 0, 1) := by decide +kernel
theorem d_L_law_212 : decode b_L_law 212 = .ok (.ireturn, 1) := by decide +kernel
theorem d_L_law_213 : decode b_L_law 213 = .ok (.goto 1396, 3) := by decide +kernel
theorem d_L_law_216 : decode b_L_law 216 = .ok (.aload_n 1, 1) := by decide +kernel
theorem d_L_law_217 : decode b_L_law 217 = .ok (.aload_n 0, 1) := by decide +kernel
theorem d_L_law_218 : decode b_L_law 218 = .ok (.iload 4, 2) := by decide +kernel
theorem d_L_law_220 : decode b_L_law 220 = .ok (.iconst 1, 1) := by decide +kernel
theorem d_L_law_221 : decode b_L_law 221 = .ok (.iadd, 1) := by decide +kernel
theorem d_L_law_222 : decode b_L_law 222 = .ok (.iaload, 1) := by decide +kernel
theorem d_L_law_223 : decode b_L_law 223 = .ok (.aload_n 0, 1) := by decide +kernel
theorem d_L_law_224 : decode b_L_law 224 = .ok (.iload 4, 2) := by decide +kernel
theorem d_L_law_226 : decode b_L_law 226 = .ok (.iconst 2, 1) := by decide +kernel
theorem d_L_law_227 : decode b_L_law 227 = .ok (.iadd, 1) := by decide +kernel
theorem d_L_law_228 : decode b_L_law 228 = .ok (.iaload, 1) := by decide +kernel
theorem d_L_law_229 : decode b_L_law 229 = .ok (.aload_n 0, 1) := by decide +kernel
theorem d_L_law_230 : decode b_L_law 230 = .ok (.iload 4, 2) := by decide +kernel
theorem d_L_law_232 : decode b_L_law 232 = .ok (.iconst 3, 1) := by decide +kernel
theorem d_L_law_233 : decode b_L_law 233 = .ok (.iadd, 1) := by decide +kernel
theorem d_L_law_234 : decode b_L_law 234 = .ok (.iaload, 1) := by decide +kernel
theorem d_L_law_235 : decode b_L_law 235 = .ok (.aload_n 0, 1) := by decide +kernel
theorem d_L_law_236 : decode b_L_law 236 = .ok (.iload 4, 2) := by decide +kernel
theorem d_L_law_238 : decode b_L_law 238 = .ok (.iconst 4, 1) := by decide +kernel
theorem d_L_law_239 : decode b_L_law 239 = .ok (.iadd, 1) := by decide +kernel
theorem d_L_law_240 : decode b_L_law 240 = .ok (.iaload, 1) := by decide +kernel
theorem d_L_law_241 : decode b_L_law 241 = .ok (.aload_n 3, 1) := by decide +kernel
theorem d_L_law_242 : decode b_L_law 242 = .ok (.invokestatic 110, 3) := by decide +kernel
theorem d_L_law_245 : decode b_L_law 245 = .ok (.istore 5, 2) := by decide +kernel
theorem d_L_law_247 : decode b_L_law 247 = .ok (.aload_n 2, 1) := by decide +kernel
theorem d_L_law_248 : decode b_L_law 248 = .ok (.aload_n 0, 1) := by decide +kernel
theorem d_L_law_249 : decode b_L_law 249 = .ok (.iload 4, 2) := by decide +kernel
theorem d_L_law_251 : decode b_L_law 251 = .ok (.iconst 1, 1) := by decide +kernel
theorem d_L_law_252 : decode b_L_law 252 = .ok (.iadd, 1) := by decide +kernel
theorem d_L_law_253 : decode b_L_law 253 = .ok (.iaload, 1) := by decide +kernel
theorem d_L_law_254 : decode b_L_law 254 = .ok (.aload_n 0, 1) := by decide +kernel
theorem d_L_law_255 : decode b_L_law 255 = .ok (.iload 4, 2) := by decide +kernel
theorem d_L_law_257 : decode b_L_law 257 = .ok (.iconst 2, 1) := by decide +kernel
theorem d_L_law_258 : decode b_L_law 258 = .ok (.iadd, 1) := by decide +kernel
theorem d_L_law_259 : decode b_L_law 259 = .ok (.iaload, 1) := by decide +kernel
theorem d_L_law_260 : decode b_L_law 260 = .ok (.aload_n 0, 1) := by decide +kernel
theorem d_L_law_261 : decode b_L_law 261 = .ok (.iload 4, 2) := by decide +kernel
theorem d_L_law_263 : decode b_L_law 263 = .ok (.iconst 3, 1) := by decide +kernel
theorem d_L_law_264 : decode b_L_law 264 = .ok (.iadd, 1) := by decide +kernel
theorem d_L_law_265 : decode b_L_law 265 = .ok (.iaload, 1) := by decide +kernel
theorem d_L_law_266 : decode b_L_law 266 = .ok (.aload_n 0, 1) := by decide +kernel
theorem d_L_law_267 : decode b_L_law 267 = .ok (.iload 4, 2) := by decide +kernel
theorem d_L_law_269 : decode b_L_law 269 = .ok (.iconst 4, 1) := by decide +kernel
theorem d_L_law_270 : decode b_L_law 270 = .ok (.iadd, 1) := by decide +kernel
theorem d_L_law_271 : decode b_L_law 271 = .ok (.iaload, 1) := by decide +kernel
theorem d_L_law_272 : decode b_L_law 272 = .ok (.invokevirtual 113, 3) := by decide +kernel
theorem d_L_law_275 : decode b_L_law 275 = .ok (.istore 6, 2) := by decide +kernel
theorem d_L_law_277 : decode b_L_law 277 = .ok (.aload_n 2, 1) := by decide +kernel
theorem d_L_law_278 : decode b_L_law 278 = .ok (.invokevirtual 106, 3) := by decide +kernel
theorem d_L_law_281 : decode b_L_law 281 = .ok (.iload 5, 2) := by decide +kernel
theorem d_L_law_283 : decode b_L_law 283 = .ok (.if_icmp .eq 5, 3) := by decide +kernel
theorem d_L_law_286 : decode b_L_law 286 = .ok (.iconst 0, 1) := by decide +kernel
theorem d_L_law_287 : decode b_L_law 287 = .ok (.ireturn, 1) := by decide +kernel
theorem d_L_law_288 : decode b_L_law 288 = .ok (.iload 5, 2) := by decide +kernel
theorem d_L_law_290 : decode b_L_law 290 = .ok (.ifCond .ne 15, 3) := by decide +kernel
theorem d_L_law_293 : decode b_L_law 293 = .ok (.aload_n 3, 1) := by decide +kernel
theorem d_L_law_294 : decode b_L_law 294 = .ok (.iconst 0, 1) := by decide +kernel
theorem d_L_law_295 : decode b_L_law 295 = .ok (.laload, 1) := by decide +kernel
theorem d_L_law_296 : decode b_L_law 296 = .ok (.iload 6, 2) := by decide +kernel
theorem d_L_law_298 : decode b_L_law 298 = .ok (.i2l, 1) := by decide +kernel
theorem d_L_law_299 : decode b_L_law 299 = .ok (.lcmp, 1) := by decide +kernel
theorem d_L_law_300 : decode b_L_law 300 = .ok (.ifCond .eq 5, 3) := by decide +kernel
theorem d_L_law_303 : decode b_L_law 303 = .ok (.iconst 0, 1) := by decide +kernel
theorem d_L_law_304 : decode b_L_law 304 = .ok (.ireturn, 1) := by decide +kernel
theorem d_L_law_305 : decode b_L_law 305 = .ok (.goto 1304, 3) := by decide +kernel
theorem d_L_law_308 : decode b_L_law 308 = .ok (.aload_n 1, 1) := by decide +kernel
theorem d_L_law_309 : decode b_L_law 309 = .ok (.aload_n 0, 1) := by decide +kernel
theorem d_L_law_310 : decode b_L_law 310 = .ok (.iload 4, 2) := by decide +kernel
theorem d_L_law_312 : decode b_L_law 312 = .ok (.iconst 1, 1) := by decide +kernel
theorem d_L_law_313 : decode b_L_law 313 = .ok (.iadd, 1) := by decide +kernel
theorem d_L_law_314 : decode b_L_law 314 = .ok (.iaload, 1) := by decide +kernel
theorem d_L_law_315 : decode b_L_law 315 = .ok (.aload_n 0, 1) := by decide +kernel
theorem d_L_law_316 : decode b_L_law 316 = .ok (.iload 4, 2) := by decide +kernel
theorem d_L_law_318 : decode b_L_law 318 = .ok (.iconst 2, 1) := by decide +kernel
theorem d_L_law_319 : decode b_L_law 319 = .ok (.iadd, 1) := by decide +kernel
theorem d_L_law_320 : decode b_L_law 320 = .ok (.iaload, 1) := by decide +kernel
theorem d_L_law_321 : decode b_L_law 321 = .ok (.aload_n 0, 1) := by decide +kernel
theorem d_L_law_322 : decode b_L_law 322 = .ok (.iload 4, 2) := by decide +kernel
theorem d_L_law_324 : decode b_L_law 324 = .ok (.iconst 3, 1) := by decide +kernel
theorem d_L_law_325 : decode b_L_law 325 = .ok (.iadd, 1) := by decide +kernel
theorem d_L_law_326 : decode b_L_law 326 = .ok (.iaload, 1) := by decide +kernel
theorem d_L_law_327 : decode b_L_law 327 = .ok (.invokestatic 114, 3) := by decide +kernel
theorem d_L_law_330 : decode b_L_law 330 = .ok (.istore 5, 2) := by decide +kernel
theorem d_L_law_332 : decode b_L_law 332 = .ok (.aload_n 2, 1) := by decide +kernel
theorem d_L_law_333 : decode b_L_law 333 = .ok (.aload_n 0, 1) := by decide +kernel
theorem d_L_law_334 : decode b_L_law 334 = .ok (.iload 4, 2) := by decide +kernel
theorem d_L_law_336 : decode b_L_law 336 = .ok (.iconst 1, 1) := by decide +kernel
theorem d_L_law_337 : decode b_L_law 337 = .ok (.iadd, 1) := by decide +kernel
theorem d_L_law_338 : decode b_L_law 338 = .ok (.iaload, 1) := by decide +kernel
theorem d_L_law_339 : decode b_L_law 339 = .ok (.aload_n 0, 1) := by decide +kernel
theorem d_L_law_340 : decode b_L_law 340 = .ok (.iload 4, 2) := by decide +kernel
theorem d_L_law_342 : decode b_L_law 342 = .ok (.iconst 2, 1) := by decide +kernel
theorem d_L_law_343 : decode b_L_law 343 = .ok (.iadd, 1) := by decide +kernel
theorem d_L_law_344 : decode b_L_law 344 = .ok (.iaload, 1) := by decide +kernel
theorem d_L_law_345 : decode b_L_law 345 = .ok (.aload_n 0, 1) := by decide +kernel
theorem d_L_law_346 : decode b_L_law 346 = .ok (.iload 4, 2) := by decide +kernel
theorem d_L_law_348 : decode b_L_law 348 = .ok (.iconst 3, 1) := by decide +kernel
theorem d_L_law_349 : decode b_L_law 349 = .ok (.iadd, 1) := by decide +kernel
theorem d_L_law_350 : decode b_L_law 350 = .ok (.iaload, 1) := by decide +kernel
theorem d_L_law_351 : decode b_L_law 351 = .ok (.invokevirtual 117, 3) := by decide +kernel
theorem d_L_law_354 : decode b_L_law 354 = .ok (.aload_n 2, 1) := by decide +kernel
theorem d_L_law_355 : decode b_L_law 355 = .ok (.invokevirtual 106, 3) := by decide +kernel
theorem d_L_law_358 : decode b_L_law 358 = .ok (.iload 5, 2) := by decide +kernel
theorem d_L_law_360 : decode b_L_law 360 = .ok (.if_icmp .eq 5, 3) := by decide +kernel
theorem d_L_law_363 : decode b_L_law 363 = .ok (.iconst 0, 1) := by decide +kernel
theorem d_L_law_364 : decode b_L_law 364 = .ok (.ireturn, 1) := by decide +kernel
theorem d_L_law_365 : decode b_L_law 365 = .ok (.goto 1244, 3) := by decide +kernel
theorem d_L_law_368 : decode b_L_law 368 = .ok (.aload_n 1, 1) := by decide +kernel
theorem d_L_law_369 : decode b_L_law 369 = .ok (.aload_n 0, 1) := by decide +kernel
theorem d_L_law_370 : decode b_L_law 370 = .ok (.iload 4, 2) := by decide +kernel
theorem d_L_law_372 : decode b_L_law 372 = .ok (.iconst 1, 1) := by decide +kernel
theorem d_L_law_373 : decode b_L_law 373 = .ok (.iadd, 1) := by decide +kernel
theorem d_L_law_374 : decode b_L_law 374 = .ok (.iaload, 1) := by decide +kernel
theorem d_L_law_375 : decode b_L_law 375 = .ok (.aload_n 0, 1) := by decide +kernel
theorem d_L_law_376 : decode b_L_law 376 = .ok (.iload 4, 2) := by decide +kernel
theorem d_L_law_378 : decode b_L_law 378 = .ok (.iconst 2, 1) := by decide +kernel
theorem d_L_law_379 : decode b_L_law 379 = .ok (.iadd, 1) := by decide +kernel
theorem d_L_law_380 : decode b_L_law 380 = .ok (.iaload, 1) := by decide +kernel
theorem d_L_law_381 : decode b_L_law 381 = .ok (.invokestatic 118, 3) := by decide +kernel
theorem d_L_law_384 : decode b_L_law 384 = .ok (.istore 5, 2) := by decide +kernel
theorem d_L_law_386 : decode b_L_law 386 = .ok (.aload_n 2, 1) := by decide +kernel
theorem d_L_law_387 : decode b_L_law 387 = .ok (.aload_n 0, 1) := by decide +kernel
theorem d_L_law_388 : decode b_L_law 388 = .ok (.iload 4, 2) := by decide +kernel
theorem d_L_law_390 : decode b_L_law 390 = .ok (.iconst 1, 1) := by decide +kernel
theorem d_L_law_391 : decode b_L_law 391 = .ok (.iadd, 1) := by decide +kernel
theorem d_L_law_392 : decode b_L_law 392 = .ok (.iaload, 1) := by decide +kernel
theorem d_L_law_393 : decode b_L_law 393 = .ok (.aload_n 0, 1) := by decide +kernel
theorem d_L_law_394 : decode b_L_law 394 = .ok (.iload 4, 2) := by decide +kernel
theorem d_L_law_396 : decode b_L_law 396 = .ok (.iconst 2, 1) := by decide +kernel
theorem d_L_law_397 : decode b_L_law 397 = .ok (.iadd, 1) := by decide +kernel
theorem d_L_law_398 : decode b_L_law 398 = .ok (.iaload, 1) := by decide +kernel
theorem d_L_law_399 : decode b_L_law 399 = .ok (.invokevirtual 121, 3) := by decide +kernel
theorem d_L_law_402 : decode b_L_law 402 = .ok (.aload_n 2, 1) := by decide +kernel
theorem d_L_law_403 : decode b_L_law 403 = .ok (.invokevirtual 106, 3) := by decide +kernel
theorem d_L_law_406 : decode b_L_law 406 = .ok (.iload 5, 2) := by decide +kernel
theorem d_L_law_408 : decode b_L_law 408 = .ok (.if_icmp .eq 5, 3) := by decide +kernel
theorem d_L_law_411 : decode b_L_law 411 = .ok (.iconst 0, 1) := by decide +kernel
theorem d_L_law_412 : decode b_L_law 412 = .ok (.ireturn, 1) := by decide +kernel
theorem d_L_law_413 : decode b_L_law 413 = .ok (.goto 1196, 3) := by decide +kernel
theorem d_L_law_416 : decode b_L_law 416 = .ok (.aload_n 1, 1) := by decide +kernel
theorem d_L_law_417 : decode b_L_law 417 = .ok (.aload_n 0, 1) := by decide +kernel
theorem d_L_law_418 : decode b_L_law 418 = .ok (.iload 4, 2) := by decide +kernel
theorem d_L_law_420 : decode b_L_law 420 = .ok (.iconst 1, 1) := by decide +kernel
theorem d_L_law_421 : decode b_L_law 421 = .ok (.iadd, 1) := by decide +kernel
theorem d_L_law_422 : decode b_L_law 422 = .ok (.iaload, 1) := by decide +kernel
theorem d_L_law_423 : decode b_L_law 423 = .ok (.aload_n 0, 1) := by decide +kernel
theorem d_L_law_424 : decode b_L_law 424 = .ok (.iload 4, 2) := by decide +kernel
theorem d_L_law_426 : decode b_L_law 426 = .ok (.iconst 2, 1) := by decide +kernel
theorem d_L_law_427 : decode b_L_law 427 = .ok (.iadd, 1) := by decide +kernel
theorem d_L_law_428 : decode b_L_law 428 = .ok (.iaload, 1) := by decide +kernel
theorem d_L_law_429 : decode b_L_law 429 = .ok (.aload_n 0, 1) := by decide +kernel
theorem d_L_law_430 : decode b_L_law 430 = .ok (.iload 4, 2) := by decide +kernel
theorem d_L_law_432 : decode b_L_law 432 = .ok (.iconst 3, 1) := by decide +kernel
theorem d_L_law_433 : decode b_L_law 433 = .ok (.iadd, 1) := by decide +kernel
theorem d_L_law_434 : decode b_L_law 434 = .ok (.iaload, 1) := by decide +kernel
theorem d_L_law_435 : decode b_L_law 435 = .ok (.aload_n 0, 1) := by decide +kernel
theorem d_L_law_436 : decode b_L_law 436 = .ok (.iload 4, 2) := by decide +kernel
theorem d_L_law_438 : decode b_L_law 438 = .ok (.iconst 4, 1) := by decide +kernel
theorem d_L_law_439 : decode b_L_law 439 = .ok (.iadd, 1) := by decide +kernel
theorem d_L_law_440 : decode b_L_law 440 = .ok (.iaload, 1) := by decide +kernel
theorem d_L_law_441 : decode b_L_law 441 = .ok (.aload_n 0, 1) := by decide +kernel
theorem d_L_law_442 : decode b_L_law 442 = .ok (.iload 4, 2) := by decide +kernel
theorem d_L_law_444 : decode b_L_law 444 = .ok (.iconst 5, 1) := by decide +kernel
theorem d_L_law_445 : decode b_L_law 445 = .ok (.iadd, 1) := by decide +kernel
theorem d_L_law_446 : decode b_L_law 446 = .ok (.iaload, 1) := by decide +kernel
theorem d_L_law_447 : decode b_L_law 447 = .ok (.invokestatic 122, 3) := by decide +kernel
theorem d_L_law_450 : decode b_L_law 450 = .ok (.istore 5, 2) := by decide +kernel
theorem d_L_law_452 : decode b_L_law 452 = .ok (.aload_n 2, 1) := by decide +kernel
theorem d_L_law_453 : decode b_L_law 453 = .ok (.aload_n 0, 1) := by decide +kernel
theorem d_L_law_454 : decode b_L_law 454 = .ok (.iload 4, 2) := by decide +kernel
theorem d_L_law_456 : decode b_L_law 456 = .ok (.iconst 1, 1) := by decide +kernel
theorem d_L_law_457 : decode b_L_law 457 = .ok (.iadd, 1) := by decide +kernel
theorem d_L_law_458 : decode b_L_law 458 = .ok (.iaload, 1) := by decide +kernel
theorem d_L_law_459 : decode b_L_law 459 = .ok (.aload_n 0, 1) := by decide +kernel
theorem d_L_law_460 : decode b_L_law 460 = .ok (.iload 4, 2) := by decide +kernel
theorem d_L_law_462 : decode b_L_law 462 = .ok (.iconst 2, 1) := by decide +kernel
theorem d_L_law_463 : decode b_L_law 463 = .ok (.iadd, 1) := by decide +kernel
theorem d_L_law_464 : decode b_L_law 464 = .ok (.iaload, 1) := by decide +kernel
theorem d_L_law_465 : decode b_L_law 465 = .ok (.aload_n 0, 1) := by decide +kernel
theorem d_L_law_466 : decode b_L_law 466 = .ok (.iload 4, 2) := by decide +kernel
theorem d_L_law_468 : decode b_L_law 468 = .ok (.iconst 3, 1) := by decide +kernel
theorem d_L_law_469 : decode b_L_law 469 = .ok (.iadd, 1) := by decide +kernel
theorem d_L_law_470 : decode b_L_law 470 = .ok (.iaload, 1) := by decide +kernel
theorem d_L_law_471 : decode b_L_law 471 = .ok (.aload_n 0, 1) := by decide +kernel
theorem d_L_law_472 : decode b_L_law 472 = .ok (.iload 4, 2) := by decide +kernel
theorem d_L_law_474 : decode b_L_law 474 = .ok (.iconst 4, 1) := by decide +kernel
theorem d_L_law_475 : decode b_L_law 475 = .ok (.iadd, 1) := by decide +kernel
theorem d_L_law_476 : decode b_L_law 476 = .ok (.iaload, 1) := by decide +kernel
theorem d_L_law_477 : decode b_L_law 477 = .ok (.aload_n 0, 1) := by decide +kernel
theorem d_L_law_478 : decode b_L_law 478 = .ok (.iload 4, 2) := by decide +kernel
theorem d_L_law_480 : decode b_L_law 480 = .ok (.iconst 5, 1) := by decide +kernel
theorem d_L_law_481 : decode b_L_law 481 = .ok (.iadd, 1) := by decide +kernel
theorem d_L_law_482 : decode b_L_law 482 = .ok (.iaload, 1) := by decide +kernel
theorem d_L_law_483 : decode b_L_law 483 = .ok (.invokevirtual 125, 3) := by decide +kernel
theorem d_L_law_486 : decode b_L_law 486 = .ok (.aload_n 2, 1) := by decide +kernel
theorem d_L_law_487 : decode b_L_law 487 = .ok (.invokevirtual 106, 3) := by decide +kernel
theorem d_L_law_490 : decode b_L_law 490 = .ok (.iload 5, 2) := by decide +kernel
theorem d_L_law_492 : decode b_L_law 492 = .ok (.if_icmp .eq 5, 3) := by decide +kernel
theorem d_L_law_495 : decode b_L_law 495 = .ok (.iconst 0, 1) := by decide +kernel
theorem d_L_law_496 : decode b_L_law 496 = .ok (.ireturn, 1) := by decide +kernel
theorem d_L_law_497 : decode b_L_law 497 = .ok (.goto 1112, 3) := by decide +kernel
theorem d_L_law_500 : decode b_L_law 500 = .ok (.aload_n 1, 1) := by decide +kernel
theorem d_L_law_501 : decode b_L_law 501 = .ok (.aload_n 0, 1) := by decide +kernel
theorem d_L_law_502 : decode b_L_law 502 = .ok (.iload 4, 2) := by decide +kernel
theorem d_L_law_504 : decode b_L_law 504 = .ok (.iconst 1, 1) := by decide +kernel
theorem d_L_law_505 : decode b_L_law 505 = .ok (.iadd, 1) := by decide +kernel
theorem d_L_law_506 : decode b_L_law 506 = .ok (.iaload, 1) := by decide +kernel
theorem d_L_law_507 : decode b_L_law 507 = .ok (.aload_n 0, 1) := by decide +kernel
theorem d_L_law_508 : decode b_L_law 508 = .ok (.iload 4, 2) := by decide +kernel
theorem d_L_law_510 : decode b_L_law 510 = .ok (.iconst 2, 1) := by decide +kernel
theorem d_L_law_511 : decode b_L_law 511 = .ok (.iadd, 1) := by decide +kernel
theorem d_L_law_512 : decode b_L_law 512 = .ok (.iaload, 1) := by decide +kernel
theorem d_L_law_513 : decode b_L_law 513 = .ok (.aload_n 0, 1) := by decide +kernel
theorem d_L_law_514 : decode b_L_law 514 = .ok (.iload 4, 2) := by decide +kernel
theorem d_L_law_516 : decode b_L_law 516 = .ok (.iconst 3, 1) := by decide +kernel
theorem d_L_law_517 : decode b_L_law 517 = .ok (.iadd, 1) := by decide +kernel
theorem d_L_law_518 : decode b_L_law 518 = .ok (.iaload, 1) := by decide +kernel
theorem d_L_law_519 : decode b_L_law 519 = .ok (.aload_n 3, 1) := by decide +kernel
theorem d_L_law_520 : decode b_L_law 520 = .ok (.invokestatic 126, 3) := by decide +kernel
theorem d_L_law_523 : decode b_L_law 523 = .ok (.istore 5, 2) := by decide +kernel
theorem d_L_law_525 : decode b_L_law 525 = .ok (.aload_n 2, 1) := by decide +kernel
theorem d_L_law_526 : decode b_L_law 526 = .ok (.aload_n 0, 1) := by decide +kernel
theorem d_L_law_527 : decode b_L_law 527 = .ok (.iload 4, 2) := by decide +kernel
theorem d_L_law_529 : decode b_L_law 529 = .ok (.iconst 1, 1) := by decide +kernel
theorem d_L_law_530 : decode b_L_law 530 = .ok (.iadd, 1) := by decide +kernel
theorem d_L_law_531 : decode b_L_law 531 = .ok (.iaload, 1) := by decide +kernel
theorem d_L_law_532 : decode b_L_law 532 = .ok (.aload_n 0, 1) := by decide +kernel
theorem d_L_law_533 : decode b_L_law 533 = .ok (.iload 4, 2) := by decide +kernel
theorem d_L_law_535 : decode b_L_law 535 = .ok (.iconst 2, 1) := by decide +kernel
theorem d_L_law_536 : decode b_L_law 536 = .ok (.iadd, 1) := by decide +kernel
theorem d_L_law_537 : decode b_L_law 537 = .ok (.iaload, 1) := by decide +kernel
theorem d_L_law_538 : decode b_L_law 538 = .ok (.aload_n 0, 1) := by decide +kernel
theorem d_L_law_539 : decode b_L_law 539 = .ok (.iload 4, 2) := by decide +kernel
theorem d_L_law_541 : decode b_L_law 541 = .ok (.iconst 3, 1) := by decide +kernel
theorem d_L_law_542 : decode b_L_law 542 = .ok (.iadd, 1) := by decide +kernel
theorem d_L_law_543 : decode b_L_law 543 = .ok (.iaload, 1) := by decide +kernel
theorem d_L_law_544 : decode b_L_law 544 = .ok (.invokevirtual 129, 3) := by decide +kernel
theorem d_L_law_547 : decode b_L_law 547 = .ok (.istore 6, 2) := by decide +kernel
theorem d_L_law_549 : decode b_L_law 549 = .ok (.aload_n 2, 1) := by decide +kernel
theorem d_L_law_550 : decode b_L_law 550 = .ok (.invokevirtual 106, 3) := by decide +kernel
theorem d_L_law_553 : decode b_L_law 553 = .ok (.iload 5, 2) := by decide +kernel
theorem d_L_law_555 : decode b_L_law 555 = .ok (.if_icmp .eq 5, 3) := by decide +kernel
theorem d_L_law_558 : decode b_L_law 558 = .ok (.iconst 0, 1) := by decide +kernel
theorem d_L_law_559 : decode b_L_law 559 = .ok (.ireturn, 1) := by decide +kernel
theorem d_L_law_560 : decode b_L_law 560 = .ok (.iload 5, 2) := by decide +kernel
theorem d_L_law_562 : decode b_L_law 562 = .ok (.ifCond .ne 15, 3) := by decide +kernel
theorem d_L_law_565 : decode b_L_law 565 = .ok (.aload_n 3, 1) := by decide +kernel
theorem d_L_law_566 : decode b_L_law 566 = .ok (.iconst 0, 1) := by decide +kernel
theorem d_L_law_567 : decode b_L_law 567 = .ok (.laload, 1) := by decide +kernel
theorem d_L_law_568 : decode b_L_law 568 = .ok (.iload 6, 2) := by decide +kernel
theorem d_L_law_570 : decode b_L_law 570 = .ok (.i2l, 1) := by decide +kernel
theorem d_L_law_571 : decode b_L_law 571 = .ok (.lcmp, 1) := by decide +kernel
theorem d_L_law_572 : decode b_L_law 572 = .ok (.ifCond .eq 5, 3) := by decide +kernel
theorem d_L_law_575 : decode b_L_law 575 = .ok (.iconst 0, 1) := by decide +kernel
theorem d_L_law_576 : decode b_L_law 576 = .ok (.ireturn, 1) := by decide +kernel
theorem d_L_law_577 : decode b_L_law 577 = .ok (.goto 1032, 3) := by decide +kernel
theorem d_L_law_580 : decode b_L_law 580 = .ok (.aload_n 1, 1) := by decide +kernel
theorem d_L_law_581 : decode b_L_law 581 = .ok (.aload_n 0, 1) := by decide +kernel
theorem d_L_law_582 : decode b_L_law 582 = .ok (.iload 4, 2) := by decide +kernel
theorem d_L_law_584 : decode b_L_law 584 = .ok (.iconst 1, 1) := by decide +kernel
theorem d_L_law_585 : decode b_L_law 585 = .ok (.iadd, 1) := by decide +kernel
theorem d_L_law_586 : decode b_L_law 586 = .ok (.iaload, 1) := by decide +kernel
theorem d_L_law_587 : decode b_L_law 587 = .ok (.aload_n 0, 1) := by decide +kernel
theorem d_L_law_588 : decode b_L_law 588 = .ok (.iload 4, 2) := by decide +kernel
theorem d_L_law_590 : decode b_L_law 590 = .ok (.iconst 2, 1) := by decide +kernel
theorem d_L_law_591 : decode b_L_law 591 = .ok (.iadd, 1) := by decide +kernel
theorem d_L_law_592 : decode b_L_law 592 = .ok (.iaload, 1) := by decide +kernel
theorem d_L_law_593 : decode b_L_law 593 = .ok (.aload_n 0, 1) := by decide +kernel
theorem d_L_law_594 : decode b_L_law 594 = .ok (.iload 4, 2) := by decide +kernel
theorem d_L_law_596 : decode b_L_law 596 = .ok (.iconst 3, 1) := by decide +kernel
theorem d_L_law_597 : decode b_L_law 597 = .ok (.iadd, 1) := by decide +kernel
theorem d_L_law_598 : decode b_L_law 598 = .ok (.iaload, 1) := by decide +kernel
theorem d_L_law_599 : decode b_L_law 599 = .ok (.aload_n 3, 1) := by decide +kernel
theorem d_L_law_600 : decode b_L_law 600 = .ok (.invokestatic 130, 3) := by decide +kernel
theorem d_L_law_603 : decode b_L_law 603 = .ok (.istore 5, 2) := by decide +kernel
theorem d_L_law_605 : decode b_L_law 605 = .ok (.aload_n 2, 1) := by decide +kernel
theorem d_L_law_606 : decode b_L_law 606 = .ok (.aload_n 0, 1) := by decide +kernel
theorem d_L_law_607 : decode b_L_law 607 = .ok (.iload 4, 2) := by decide +kernel
theorem d_L_law_609 : decode b_L_law 609 = .ok (.iconst 1, 1) := by decide +kernel
theorem d_L_law_610 : decode b_L_law 610 = .ok (.iadd, 1) := by decide +kernel
theorem d_L_law_611 : decode b_L_law 611 = .ok (.iaload, 1) := by decide +kernel
theorem d_L_law_612 : decode b_L_law 612 = .ok (.aload_n 0, 1) := by decide +kernel
theorem d_L_law_613 : decode b_L_law 613 = .ok (.iload 4, 2) := by decide +kernel
theorem d_L_law_615 : decode b_L_law 615 = .ok (.iconst 2, 1) := by decide +kernel
theorem d_L_law_616 : decode b_L_law 616 = .ok (.iadd, 1) := by decide +kernel
theorem d_L_law_617 : decode b_L_law 617 = .ok (.iaload, 1) := by decide +kernel
theorem d_L_law_618 : decode b_L_law 618 = .ok (.aload_n 0, 1) := by decide +kernel
theorem d_L_law_619 : decode b_L_law 619 = .ok (.iload 4, 2) := by decide +kernel
theorem d_L_law_621 : decode b_L_law 621 = .ok (.iconst 3, 1) := by decide +kernel
theorem d_L_law_622 : decode b_L_law 622 = .ok (.iadd, 1) := by decide +kernel
theorem d_L_law_623 : decode b_L_law 623 = .ok (.iaload, 1) := by decide +kernel
theorem d_L_law_624 : decode b_L_law 624 = .ok (.invokevirtual 132, 3) := by decide +kernel
theorem d_L_law_627 : decode b_L_law 627 = .ok (.istore 6, 2) := by decide +kernel
theorem d_L_law_629 : decode b_L_law 629 = .ok (.aload_n 2, 1) := by decide +kernel
theorem d_L_law_630 : decode b_L_law 630 = .ok (.invokevirtual 106, 3) := by decide +kernel
theorem d_L_law_633 : decode b_L_law 633 = .ok (.iload 5, 2) := by decide +kernel
theorem d_L_law_635 : decode b_L_law 635 = .ok (.if_icmp .eq 5, 3) := by decide +kernel
theorem d_L_law_638 : decode b_L_law 638 = .ok (.iconst 0, 1) := by decide +kernel
theorem d_L_law_639 : decode b_L_law 639 = .ok (.ireturn, 1) := by decide +kernel
theorem d_L_law_640 : decode b_L_law 640 = .ok (.iload 5, 2) := by decide +kernel
theorem d_L_law_642 : decode b_L_law 642 = .ok (.ifCond .ne 15, 3) := by decide +kernel
theorem d_L_law_645 : decode b_L_law 645 = .ok (.aload_n 3, 1) := by decide +kernel
theorem d_L_law_646 : decode b_L_law 646 = .ok (.iconst 0, 1) := by decide +kernel
theorem d_L_law_647 : decode b_L_law 647 = .ok (.laload, 1) := by decide +kernel
theorem d_L_law_648 : decode b_L_law 648 = .ok (.iload 6, 2) := by decide +kernel
theorem d_L_law_650 : decode b_L_law 650 = .ok (.i2l, 1) := by decide +kernel
theorem d_L_law_651 : decode b_L_law 651 = .ok (.lcmp, 1) := by decide +kernel
theorem d_L_law_652 : decode b_L_law 652 = .ok (.ifCond .eq 5, 3) := by decide +kernel
theorem d_L_law_655 : decode b_L_law 655 = .ok (.iconst 0, 1) := by decide +kernel
theorem d_L_law_656 : decode b_L_law 656 = .ok (.ireturn, 1) := by decide +kernel
theorem d_L_law_657 : decode b_L_law 657 = .ok (.goto 952, 3) := by decide +kernel
theorem d_L_law_660 : decode b_L_law 660 = .ok (.aload_n 1, 1) := by decide +kernel
theorem d_L_law_661 : decode b_L_law 661 = .ok (.aload_n 0, 1) := by decide +kernel
theorem d_L_law_662 : decode b_L_law 662 = .ok (.iload 4, 2) := by decide +kernel
theorem d_L_law_664 : decode b_L_law 664 = .ok (.iconst 1, 1) := by decide +kernel
theorem d_L_law_665 : decode b_L_law 665 = .ok (.iadd, 1) := by decide +kernel
theorem d_L_law_666 : decode b_L_law 666 = .ok (.iaload, 1) := by decide +kernel
theorem d_L_law_667 : decode b_L_law 667 = .ok (.aload_n 0, 1) := by decide +kernel
theorem d_L_law_668 : decode b_L_law 668 = .ok (.iload 4, 2) := by decide +kernel
theorem d_L_law_670 : decode b_L_law 670 = .ok (.iconst 2, 1) := by decide +kernel
theorem d_L_law_671 : decode b_L_law 671 = .ok (.iadd, 1) := by decide +kernel
theorem d_L_law_672 : decode b_L_law 672 = .ok (.iaload, 1) := by decide +kernel
theorem d_L_law_673 : decode b_L_law 673 = .ok (.aload_n 3, 1) := by decide +kernel
theorem d_L_law_674 : decode b_L_law 674 = .ok (.invokestatic 133, 3) := by decide +kernel
theorem d_L_law_677 : decode b_L_law 677 = .ok (.istore 5, 2) := by decide +kernel
theorem d_L_law_679 : decode b_L_law 679 = .ok (.aload_n 2, 1) := by decide +kernel
theorem d_L_law_680 : decode b_L_law 680 = .ok (.aload_n 0, 1) := by decide +kernel
theorem d_L_law_681 : decode b_L_law 681 = .ok (.iload 4, 2) := by decide +kernel
theorem d_L_law_683 : decode b_L_law 683 = .ok (.iconst 1, 1) := by decide +kernel
theorem d_L_law_684 : decode b_L_law 684 = .ok (.iadd, 1) := by decide +kernel
theorem d_L_law_685 : decode b_L_law 685 = .ok (.iaload, 1) := by decide +kernel
theorem d_L_law_686 : decode b_L_law 686 = .ok (.aload_n 0, 1) := by decide +kernel
theorem d_L_law_687 : decode b_L_law 687 = .ok (.iload 4, 2) := by decide +kernel
theorem d_L_law_689 : decode b_L_law 689 = .ok (.iconst 2, 1) := by decide +kernel
theorem d_L_law_690 : decode b_L_law 690 = .ok (.iadd, 1) := by decide +kernel
theorem d_L_law_691 : decode b_L_law 691 = .ok (.iaload, 1) := by decide +kernel
theorem d_L_law_692 : decode b_L_law 692 = .ok (.invokevirtual 135, 3) := by decide +kernel
theorem d_L_law_695 : decode b_L_law 695 = .ok (.istore 6, 2) := by decide +kernel
theorem d_L_law_697 : decode b_L_law 697 = .ok (.aload_n 2, 1) := by decide +kernel
theorem d_L_law_698 : decode b_L_law 698 = .ok (.invokevirtual 106, 3) := by decide +kernel
theorem d_L_law_701 : decode b_L_law 701 = .ok (.iload 5, 2) := by decide +kernel
theorem d_L_law_703 : decode b_L_law 703 = .ok (.if_icmp .eq 5, 3) := by decide +kernel
theorem d_L_law_706 : decode b_L_law 706 = .ok (.iconst 0, 1) := by decide +kernel
theorem d_L_law_707 : decode b_L_law 707 = .ok (.ireturn, 1) := by decide +kernel
theorem d_L_law_708 : decode b_L_law 708 = .ok (.iload 5, 2) := by decide +kernel
theorem d_L_law_710 : decode b_L_law 710 = .ok (.ifCond .ne 15, 3) := by decide +kernel
theorem d_L_law_713 : decode b_L_law 713 = .ok (.aload_n 3, 1) := by decide +kernel
theorem d_L_law_714 : decode b_L_law 714 = .ok (.iconst 0, 1) := by decide +kernel
theorem d_L_law_715 : decode b_L_law 715 = .ok (.laload, 1) := by decide +kernel
theorem d_L_law_716 : decode b_L_law 716 = .ok (.iload 6, 2) := by decide +kernel
theorem d_L_law_718 : decode b_L_law 718 = .ok (.i2l, 1) := by decide +kernel
theorem d_L_law_719 : decode b_L_law 719 = .ok (.lcmp, 1) := by decide +kernel
theorem d_L_law_720 : decode b_L_law 720 = .ok (.ifCond .eq 5, 3) := by decide +kernel
theorem d_L_law_723 : decode b_L_law 723 = .ok (.iconst 0, 1) := by decide +kernel
theorem d_L_law_724 : decode b_L_law 724 = .ok (.ireturn, 1) := by decide +kernel
theorem d_L_law_725 : decode b_L_law 725 = .ok (.goto 884, 3) := by decide +kernel
theorem d_L_law_728 : decode b_L_law 728 = .ok (.aload_n 1, 1) := by decide +kernel
theorem d_L_law_729 : decode b_L_law 729 = .ok (.aload_n 0, 1) := by decide +kernel
theorem d_L_law_730 : decode b_L_law 730 = .ok (.iload 4, 2) := by decide +kernel
theorem d_L_law_732 : decode b_L_law 732 = .ok (.iconst 1, 1) := by decide +kernel
theorem d_L_law_733 : decode b_L_law 733 = .ok (.iadd, 1) := by decide +kernel
theorem d_L_law_734 : decode b_L_law 734 = .ok (.iaload, 1) := by decide +kernel
theorem d_L_law_735 : decode b_L_law 735 = .ok (.aload_n 0, 1) := by decide +kernel
theorem d_L_law_736 : decode b_L_law 736 = .ok (.iload 4, 2) := by decide +kernel
theorem d_L_law_738 : decode b_L_law 738 = .ok (.iconst 2, 1) := by decide +kernel
theorem d_L_law_739 : decode b_L_law 739 = .ok (.iadd, 1) := by decide +kernel
theorem d_L_law_740 : decode b_L_law 740 = .ok (.iaload, 1) := by decide +kernel
theorem d_L_law_741 : decode b_L_law 741 = .ok (.aload_n 3, 1) := by decide +kernel
theorem d_L_law_742 : decode b_L_law 742 = .ok (.invokestatic 136, 3) := by decide +kernel
theorem d_L_law_745 : decode b_L_law 745 = .ok (.istore 5, 2) := by decide +kernel
theorem d_L_law_747 : decode b_L_law 747 = .ok (.aload_n 2, 1) := by decide +kernel
theorem d_L_law_748 : decode b_L_law 748 = .ok (.aload_n 0, 1) := by decide +kernel
theorem d_L_law_749 : decode b_L_law 749 = .ok (.iload 4, 2) := by decide +kernel
theorem d_L_law_751 : decode b_L_law 751 = .ok (.iconst 1, 1) := by decide +kernel
theorem d_L_law_752 : decode b_L_law 752 = .ok (.iadd, 1) := by decide +kernel
theorem d_L_law_753 : decode b_L_law 753 = .ok (.iaload, 1) := by decide +kernel
theorem d_L_law_754 : decode b_L_law 754 = .ok (.aload_n 0, 1) := by decide +kernel
theorem d_L_law_755 : decode b_L_law 755 = .ok (.iload 4, 2) := by decide +kernel
theorem d_L_law_757 : decode b_L_law 757 = .ok (.iconst 2, 1) := by decide +kernel
theorem d_L_law_758 : decode b_L_law 758 = .ok (.iadd, 1) := by decide +kernel
theorem d_L_law_759 : decode b_L_law 759 = .ok (.iaload, 1) := by decide +kernel
theorem d_L_law_760 : decode b_L_law 760 = .ok (.invokevirtual 138, 3) := by decide +kernel
theorem d_L_law_763 : decode b_L_law 763 = .ok (.istore 6, 2) := by decide +kernel
theorem d_L_law_765 : decode b_L_law 765 = .ok (.aload_n 2, 1) := by decide +kernel
theorem d_L_law_766 : decode b_L_law 766 = .ok (.invokevirtual 106, 3) := by decide +kernel
theorem d_L_law_769 : decode b_L_law 769 = .ok (.iload 5, 2) := by decide +kernel
theorem d_L_law_771 : decode b_L_law 771 = .ok (.if_icmp .eq 5, 3) := by decide +kernel
theorem d_L_law_774 : decode b_L_law 774 = .ok (.iconst 0, 1) := by decide +kernel
theorem d_L_law_775 : decode b_L_law 775 = .ok (.ireturn, 1) := by decide +kernel
theorem d_L_law_776 : decode b_L_law 776 = .ok (.iload 5, 2) := by decide +kernel
theorem d_L_law_778 : decode b_L_law 778 = .ok (.ifCond .ne 15, 3) := by decide +kernel
theorem d_L_law_781 : decode b_L_law 781 = .ok (.aload_n 3, 1) := by decide +kernel
theorem d_L_law_782 : decode b_L_law 782 = .ok (.iconst 0, 1) := by decide +kernel
theorem d_L_law_783 : decode b_L_law 783 = .ok (.laload, 1) := by decide +kernel
theorem d_L_law_784 : decode b_L_law 784 = .ok (.iload 6, 2) := by decide +kernel
theorem d_L_law_786 : decode b_L_law 786 = .ok (.i2l, 1) := by decide +kernel
theorem d_L_law_787 : decode b_L_law 787 = .ok (.lcmp, 1) := by decide +kernel
theorem d_L_law_788 : decode b_L_law 788 = .ok (.ifCond .eq 5, 3) := by decide +kernel
theorem d_L_law_791 : decode b_L_law 791 = .ok (.iconst 0, 1) := by decide +kernel
theorem d_L_law_792 : decode b_L_law 792 = .ok (.ireturn, 1) := by decide +kernel
theorem d_L_law_793 : decode b_L_law 793 = .ok (.goto 816, 3) := by decide +kernel
theorem d_L_law_796 : decode b_L_law 796 = .ok (.aload_n 1, 1) := by decide +kernel
theorem d_L_law_797 : decode b_L_law 797 = .ok (.aload_n 0, 1) := by decide +kernel
theorem d_L_law_798 : decode b_L_law 798 = .ok (.iload 4, 2) := by decide +kernel
theorem d_L_law_800 : decode b_L_law 800 = .ok (.iconst 1, 1) := by decide +kernel
theorem d_L_law_801 : decode b_L_law 801 = .ok (.iadd, 1) := by decide +kernel
theorem d_L_law_802 : decode b_L_law 802 = .ok (.iaload, 1) := by decide +kernel
theorem d_L_law_803 : decode b_L_law 803 = .ok (.aload_n 0, 1) := by decide +kernel
theorem d_L_law_804 : decode b_L_law 804 = .ok (.iload 4, 2) := by decide +kernel
theorem d_L_law_806 : decode b_L_law 806 = .ok (.iconst 2, 1) := by decide +kernel
theorem d_L_law_807 : decode b_L_law 807 = .ok (.iadd, 1) := by decide +kernel
theorem d_L_law_808 : decode b_L_law 808 = .ok (.iaload, 1) := by decide +kernel
theorem d_L_law_809 : decode b_L_law 809 = .ok (.aload_n 3, 1) := by decide +kernel
theorem d_L_law_810 : decode b_L_law 810 = .ok (.invokestatic 139, 3) := by decide +kernel
theorem d_L_law_813 : decode b_L_law 813 = .ok (.istore 5, 2) := by decide +kernel
theorem d_L_law_815 : decode b_L_law 815 = .ok (.aload_n 2, 1) := by decide +kernel
theorem d_L_law_816 : decode b_L_law 816 = .ok (.aload_n 0, 1) := by decide +kernel
theorem d_L_law_817 : decode b_L_law 817 = .ok (.iload 4, 2) := by decide +kernel
theorem d_L_law_819 : decode b_L_law 819 = .ok (.iconst 1, 1) := by decide +kernel
theorem d_L_law_820 : decode b_L_law 820 = .ok (.iadd, 1) := by decide +kernel
theorem d_L_law_821 : decode b_L_law 821 = .ok (.iaload, 1) := by decide +kernel
theorem d_L_law_822 : decode b_L_law 822 = .ok (.aload_n 0, 1) := by decide +kernel
theorem d_L_law_823 : decode b_L_law 823 = .ok (.iload 4, 2) := by decide +kernel
theorem d_L_law_825 : decode b_L_law 825 = .ok (.iconst 2, 1) := by decide +kernel
theorem d_L_law_826 : decode b_L_law 826 = .ok (.iadd, 1) := by decide +kernel
theorem d_L_law_827 : decode b_L_law 827 = .ok (.iaload, 1) := by decide +kernel
theorem d_L_law_828 : decode b_L_law 828 = .ok (.invokevirtual 141, 3) := by decide +kernel
theorem d_L_law_831 : decode b_L_law 831 = .ok (.istore 6, 2) := by decide +kernel
theorem d_L_law_833 : decode b_L_law 833 = .ok (.aload_n 2, 1) := by decide +kernel
theorem d_L_law_834 : decode b_L_law 834 = .ok (.invokevirtual 106, 3) := by decide +kernel
theorem d_L_law_837 : decode b_L_law 837 = .ok (.iload 5, 2) := by decide +kernel
theorem d_L_law_839 : decode b_L_law 839 = .ok (.if_icmp .eq 5, 3) := by decide +kernel
theorem d_L_law_842 : decode b_L_law 842 = .ok (.iconst 0, 1) := by decide +kernel
theorem d_L_law_843 : decode b_L_law 843 = .ok (.ireturn, 1) := by decide +kernel
theorem d_L_law_844 : decode b_L_law 844 = .ok (.iload 5, 2) := by decide +kernel
theorem d_L_law_846 : decode b_L_law 846 = .ok (.ifCond .ne 15, 3) := by decide +kernel
theorem d_L_law_849 : decode b_L_law 849 = .ok (.aload_n 3, 1) := by decide +kernel
theorem d_L_law_850 : decode b_L_law 850 = .ok (.iconst 0, 1) := by decide +kernel
theorem d_L_law_851 : decode b_L_law 851 = .ok (.laload, 1) := by decide +kernel
theorem d_L_law_852 : decode b_L_law 852 = .ok (.iload 6, 2) := by decide +kernel
theorem d_L_law_854 : decode b_L_law 854 = .ok (.i2l, 1) := by decide +kernel
theorem d_L_law_855 : decode b_L_law 855 = .ok (.lcmp, 1) := by decide +kernel
theorem d_L_law_856 : decode b_L_law 856 = .ok (.ifCond .eq 5, 3) := by decide +kernel
theorem d_L_law_859 : decode b_L_law 859 = .ok (.iconst 0, 1) := by decide +kernel
theorem d_L_law_860 : decode b_L_law 860 = .ok (.ireturn, 1) := by decide +kernel
theorem d_L_law_861 : decode b_L_law 861 = .ok (.goto 748, 3) := by decide +kernel
theorem d_L_law_864 : decode b_L_law 864 = .ok (.aload_n 1, 1) := by decide +kernel
theorem d_L_law_865 : decode b_L_law 865 = .ok (.aload_n 0, 1) := by decide +kernel
theorem d_L_law_866 : decode b_L_law 866 = .ok (.iload 4, 2) := by decide +kernel
theorem d_L_law_868 : decode b_L_law 868 = .ok (.iconst 1, 1) := by decide +kernel
theorem d_L_law_869 : decode b_L_law 869 = .ok (.iadd, 1) := by decide +kernel
theorem d_L_law_870 : decode b_L_law 870 = .ok (.iaload, 1) := by decide +kernel
theorem d_L_law_871 : decode b_L_law 871 = .ok (.aload_n 3, 1) := by decide +kernel
theorem d_L_law_872 : decode b_L_law 872 = .ok (.invokestatic 142, 3) := by decide +kernel
theorem d_L_law_875 : decode b_L_law 875 = .ok (.istore 5, 2) := by decide +kernel
theorem d_L_law_877 : decode b_L_law 877 = .ok (.aload_n 2, 1) := by decide +kernel
theorem d_L_law_878 : decode b_L_law 878 = .ok (.aload_n 0, 1) := by decide +kernel
theorem d_L_law_879 : decode b_L_law 879 = .ok (.iload 4, 2) := by decide +kernel
theorem d_L_law_881 : decode b_L_law 881 = .ok (.iconst 1, 1) := by decide +kernel
theorem d_L_law_882 : decode b_L_law 882 = .ok (.iadd, 1) := by decide +kernel
theorem d_L_law_883 : decode b_L_law 883 = .ok (.iaload, 1) := by decide +kernel
theorem d_L_law_884 : decode b_L_law 884 = .ok (.invokevirtual 145, 3) := by decide +kernel
theorem d_L_law_887 : decode b_L_law 887 = .ok (.istore 6, 2) := by decide +kernel
theorem d_L_law_889 : decode b_L_law 889 = .ok (.aload_n 2, 1) := by decide +kernel
theorem d_L_law_890 : decode b_L_law 890 = .ok (.invokevirtual 106, 3) := by decide +kernel
theorem d_L_law_893 : decode b_L_law 893 = .ok (.iload 5, 2) := by decide +kernel
theorem d_L_law_895 : decode b_L_law 895 = .ok (.if_icmp .eq 5, 3) := by decide +kernel
theorem d_L_law_898 : decode b_L_law 898 = .ok (.iconst 0, 1) := by decide +kernel
theorem d_L_law_899 : decode b_L_law 899 = .ok (.ireturn, 1) := by decide +kernel
theorem d_L_law_900 : decode b_L_law 900 = .ok (.iload 5, 2) := by decide +kernel
theorem d_L_law_902 : decode b_L_law 902 = .ok (.ifCond .ne 15, 3) := by decide +kernel
theorem d_L_law_905 : decode b_L_law 905 = .ok (.aload_n 3, 1) := by decide +kernel
theorem d_L_law_906 : decode b_L_law 906 = .ok (.iconst 0, 1) := by decide +kernel
theorem d_L_law_907 : decode b_L_law 907 = .ok (.laload, 1) := by decide +kernel
theorem d_L_law_908 : decode b_L_law 908 = .ok (.iload 6, 2) := by decide +kernel
theorem d_L_law_910 : decode b_L_law 910 = .ok (.i2l, 1) := by decide +kernel
theorem d_L_law_911 : decode b_L_law 911 = .ok (.lcmp, 1) := by decide +kernel
theorem d_L_law_912 : decode b_L_law 912 = .ok (.ifCond .eq 5, 3) := by decide +kernel
theorem d_L_law_915 : decode b_L_law 915 = .ok (.iconst 0, 1) := by decide +kernel
theorem d_L_law_916 : decode b_L_law 916 = .ok (.ireturn, 1) := by decide +kernel
theorem d_L_law_917 : decode b_L_law 917 = .ok (.goto 692, 3) := by decide +kernel
theorem d_L_law_920 : decode b_L_law 920 = .ok (.aload_n 1, 1) := by decide +kernel
theorem d_L_law_921 : decode b_L_law 921 = .ok (.aload_n 0, 1) := by decide +kernel
theorem d_L_law_922 : decode b_L_law 922 = .ok (.iload 4, 2) := by decide +kernel
theorem d_L_law_924 : decode b_L_law 924 = .ok (.iconst 1, 1) := by decide +kernel
theorem d_L_law_925 : decode b_L_law 925 = .ok (.iadd, 1) := by decide +kernel
theorem d_L_law_926 : decode b_L_law 926 = .ok (.iaload, 1) := by decide +kernel
theorem d_L_law_927 : decode b_L_law 927 = .ok (.aload_n 0, 1) := by decide +kernel
theorem d_L_law_928 : decode b_L_law 928 = .ok (.iload 4, 2) := by decide +kernel
theorem d_L_law_930 : decode b_L_law 930 = .ok (.iconst 2, 1) := by decide +kernel
theorem d_L_law_931 : decode b_L_law 931 = .ok (.iadd, 1) := by decide +kernel
theorem d_L_law_932 : decode b_L_law 932 = .ok (.iaload, 1) := by decide +kernel
theorem d_L_law_933 : decode b_L_law 933 = .ok (.aload_n 0, 1) := by decide +kernel
theorem d_L_law_934 : decode b_L_law 934 = .ok (.iload 4, 2) := by decide +kernel
theorem d_L_law_936 : decode b_L_law 936 = .ok (.iconst 3, 1) := by decide +kernel
theorem d_L_law_937 : decode b_L_law 937 = .ok (.iadd, 1) := by decide +kernel
theorem d_L_law_938 : decode b_L_law 938 = .ok (.iaload, 1) := by decide +kernel
theorem d_L_law_939 : decode b_L_law 939 = .ok (.invokestatic 146, 3) := by decide +kernel
theorem d_L_law_942 : decode b_L_law 942 = .ok (.istore 5, 2) := by decide +kernel
theorem d_L_law_944 : decode b_L_law 944 = .ok (.aload_n 2, 1) := by decide +kernel
theorem d_L_law_945 : decode b_L_law 945 = .ok (.aload_n 0, 1) := by decide +kernel
theorem d_L_law_946 : decode b_L_law 946 = .ok (.iload 4, 2) := by decide +kernel
theorem d_L_law_948 : decode b_L_law 948 = .ok (.iconst 1, 1) := by decide +kernel
theorem d_L_law_949 : decode b_L_law 949 = .ok (.iadd, 1) := by decide +kernel
theorem d_L_law_950 : decode b_L_law 950 = .ok (.iaload, 1) := by decide +kernel
theorem d_L_law_951 : decode b_L_law 951 = .ok (.aload_n 0, 1) := by decide +kernel
theorem d_L_law_952 : decode b_L_law 952 = .ok (.iload 4, 2) := by decide +kernel
theorem d_L_law_954 : decode b_L_law 954 = .ok (.iconst 2, 1) := by decide +kernel
theorem d_L_law_955 : decode b_L_law 955 = .ok (.iadd, 1) := by decide +kernel
theorem d_L_law_956 : decode b_L_law 956 = .ok (.iaload, 1) := by decide +kernel
theorem d_L_law_957 : decode b_L_law 957 = .ok (.aload_n 0, 1) := by decide +kernel
theorem d_L_law_958 : decode b_L_law 958 = .ok (.iload 4, 2) := by decide +kernel
theorem d_L_law_960 : decode b_L_law 960 = .ok (.iconst 3, 1) := by decide +kernel
theorem d_L_law_961 : decode b_L_law 961 = .ok (.iadd, 1) := by decide +kernel
theorem d_L_law_962 : decode b_L_law 962 = .ok (.iaload, 1) := by decide +kernel
theorem d_L_law_963 : decode b_L_law 963 = .ok (.invokevirtual 148, 3) := by decide +kernel
theorem d_L_law_966 : decode b_L_law 966 = .ok (.aload_n 2, 1) := by decide +kernel
theorem d_L_law_967 : decode b_L_law 967 = .ok (.invokevirtual 106, 3) := by decide +kernel
theorem d_L_law_970 : decode b_L_law 970 = .ok (.iload 5, 2) := by decide +kernel
theorem d_L_law_972 : decode b_L_law 972 = .ok (.if_icmp .eq 5, 3) := by decide +kernel
theorem d_L_law_975 : decode b_L_law 975 = .ok (.iconst 0, 1) := by decide +kernel
theorem d_L_law_976 : decode b_L_law 976 = .ok (.ireturn, 1) := by decide +kernel
theorem d_L_law_977 : decode b_L_law 977 = .ok (.goto 632, 3) := by decide +kernel
theorem d_L_law_980 : decode b_L_law 980 = .ok (.aload_n 1, 1) := by decide +kernel
theorem d_L_law_981 : decode b_L_law 981 = .ok (.aload_n 0, 1) := by decide +kernel
theorem d_L_law_982 : decode b_L_law 982 = .ok (.iload 4, 2) := by decide +kernel
theorem d_L_law_984 : decode b_L_law 984 = .ok (.iconst 1, 1) := by decide +kernel
theorem d_L_law_985 : decode b_L_law 985 = .ok (.iadd, 1) := by decide +kernel
theorem d_L_law_986 : decode b_L_law 986 = .ok (.iaload, 1) := by decide +kernel
theorem d_L_law_987 : decode b_L_law 987 = .ok (.aload_n 0, 1) := by decide +kernel
theorem d_L_law_988 : decode b_L_law 988 = .ok (.iload 4, 2) := by decide +kernel
theorem d_L_law_990 : decode b_L_law 990 = .ok (.iconst 2, 1) := by decide +kernel
theorem d_L_law_991 : decode b_L_law 991 = .ok (.iadd, 1) := by decide +kernel
theorem d_L_law_992 : decode b_L_law 992 = .ok (.iaload, 1) := by decide +kernel
theorem d_L_law_993 : decode b_L_law 993 = .ok (.aload_n 3, 1) := by decide +kernel
theorem d_L_law_994 : decode b_L_law 994 = .ok (.invokestatic 149, 3) := by decide +kernel
theorem d_L_law_997 : decode b_L_law 997 = .ok (.istore 5, 2) := by decide +kernel
theorem d_L_law_999 : decode b_L_law 999 = .ok (.aload_n 2, 1) := by decide +kernel
theorem d_L_law_1000 : decode b_L_law 1000 = .ok (.aload_n 0, 1) := by decide +kernel
theorem d_L_law_1001 : decode b_L_law 1001 = .ok (.iload 4, 2) := by decide +kernel
theorem d_L_law_1003 : decode b_L_law 1003 = .ok (.iconst 1, 1) := by decide +kernel
theorem d_L_law_1004 : decode b_L_law 1004 = .ok (.iadd, 1) := by decide +kernel
theorem d_L_law_1005 : decode b_L_law 1005 = .ok (.iaload, 1) := by decide +kernel
theorem d_L_law_1006 : decode b_L_law 1006 = .ok (.aload_n 0, 1) := by decide +kernel
theorem d_L_law_1007 : decode b_L_law 1007 = .ok (.iload 4, 2) := by decide +kernel
theorem d_L_law_1009 : decode b_L_law 1009 = .ok (.iconst 2, 1) := by decide +kernel
theorem d_L_law_1010 : decode b_L_law 1010 = .ok (.iadd, 1) := by decide +kernel
theorem d_L_law_1011 : decode b_L_law 1011 = .ok (.iaload, 1) := by decide +kernel
theorem d_L_law_1012 : decode b_L_law 1012 = .ok (.invokevirtual 151, 3) := by decide +kernel
theorem d_L_law_1015 : decode b_L_law 1015 = .ok (.istore 6, 2) := by decide +kernel
theorem d_L_law_1017 : decode b_L_law 1017 = .ok (.aload_n 2, 1) := by decide +kernel
theorem d_L_law_1018 : decode b_L_law 1018 = .ok (.invokevirtual 106, 3) := by decide +kernel
theorem d_L_law_1021 : decode b_L_law 1021 = .ok (.iload 5, 2) := by decide +kernel
theorem d_L_law_1023 : decode b_L_law 1023 = .ok (.if_icmp .eq 5, 3) := by decide +kernel
theorem d_L_law_1026 : decode b_L_law 1026 = .ok (.iconst 0, 1) := by decide +kernel
theorem d_L_law_1027 : decode b_L_law 1027 = .ok (.ireturn, 1) := by decide +kernel
theorem d_L_law_1028 : decode b_L_law 1028 = .ok (.iload 5, 2) := by decide +kernel
theorem d_L_law_1030 : decode b_L_law 1030 = .ok (.ifCond .ne 15, 3) := by decide +kernel
theorem d_L_law_1033 : decode b_L_law 1033 = .ok (.aload_n 3, 1) := by decide +kernel
theorem d_L_law_1034 : decode b_L_law 1034 = .ok (.iconst 0, 1) := by decide +kernel
theorem d_L_law_1035 : decode b_L_law 1035 = .ok (.laload, 1) := by decide +kernel
theorem d_L_law_1036 : decode b_L_law 1036 = .ok (.iload 6, 2) := by decide +kernel
theorem d_L_law_1038 : decode b_L_law 1038 = .ok (.i2l, 1) := by decide +kernel
theorem d_L_law_1039 : decode b_L_law 1039 = .ok (.lcmp, 1) := by decide +kernel
theorem d_L_law_1040 : decode b_L_law 1040 = .ok (.ifCond .eq 5, 3) := by decide +kernel
theorem d_L_law_1043 : decode b_L_law 1043 = .ok (.iconst 0, 1) := by decide +kernel
theorem d_L_law_1044 : decode b_L_law 1044 = .ok (.ireturn, 1) := by decide +kernel
theorem d_L_law_1045 : decode b_L_law 1045 = .ok (.goto 564, 3) := by decide +kernel
theorem d_L_law_1048 : decode b_L_law 1048 = .ok (.aload_n 1, 1) := by decide +kernel
theorem d_L_law_1049 : decode b_L_law 1049 = .ok (.aload_n 0, 1) := by decide +kernel
theorem d_L_law_1050 : decode b_L_law 1050 = .ok (.iload 4, 2) := by decide +kernel
theorem d_L_law_1052 : decode b_L_law 1052 = .ok (.iconst 1, 1) := by decide +kernel
theorem d_L_law_1053 : decode b_L_law 1053 = .ok (.iadd, 1) := by decide +kernel
theorem d_L_law_1054 : decode b_L_law 1054 = .ok (.iaload, 1) := by decide +kernel
theorem d_L_law_1055 : decode b_L_law 1055 = .ok (.aload_n 0, 1) := by decide +kernel
theorem d_L_law_1056 : decode b_L_law 1056 = .ok (.iload 4, 2) := by decide +kernel
theorem d_L_law_1058 : decode b_L_law 1058 = .ok (.iconst 2, 1) := by decide +kernel
theorem d_L_law_1059 : decode b_L_law 1059 = .ok (.iadd, 1) := by decide +kernel
theorem d_L_law_1060 : decode b_L_law 1060 = .ok (.iaload, 1) := by decide +kernel
theorem d_L_law_1061 : decode b_L_law 1061 = .ok (.aload_n 3, 1) := by decide +kernel
theorem d_L_law_1062 : decode b_L_law 1062 = .ok (.invokestatic 152, 3) := by decide +kernel
theorem d_L_law_1065 : decode b_L_law 1065 = .ok (.istore 5, 2) := by decide +kernel
theorem d_L_law_1067 : decode b_L_law 1067 = .ok (.aload_n 2, 1) := by decide +kernel
theorem d_L_law_1068 : decode b_L_law 1068 = .ok (.aload_n 0, 1) := by decide +kernel
theorem d_L_law_1069 : decode b_L_law 1069 = .ok (.iload 4, 2) := by decide +kernel
theorem d_L_law_1071 : decode b_L_law 1071 = .ok (.iconst 1, 1) := by decide +kernel
theorem d_L_law_1072 : decode b_L_law 1072 = .ok (.iadd, 1) := by decide +kernel
theorem d_L_law_1073 : decode b_L_law 1073 = .ok (.iaload, 1) := by decide +kernel
theorem d_L_law_1074 : decode b_L_law 1074 = .ok (.aload_n 0, 1) := by decide +kernel
theorem d_L_law_1075 : decode b_L_law 1075 = .ok (.iload 4, 2) := by decide +kernel
theorem d_L_law_1077 : decode b_L_law 1077 = .ok (.iconst 2, 1) := by decide +kernel
theorem d_L_law_1078 : decode b_L_law 1078 = .ok (.iadd, 1) := by decide +kernel
theorem d_L_law_1079 : decode b_L_law 1079 = .ok (.iaload, 1) := by decide +kernel
theorem d_L_law_1080 : decode b_L_law 1080 = .ok (.invokevirtual 154, 3) := by decide +kernel
theorem d_L_law_1083 : decode b_L_law 1083 = .ok (.istore 6, 2) := by decide +kernel
theorem d_L_law_1085 : decode b_L_law 1085 = .ok (.aload_n 2, 1) := by decide +kernel
theorem d_L_law_1086 : decode b_L_law 1086 = .ok (.invokevirtual 106, 3) := by decide +kernel
theorem d_L_law_1089 : decode b_L_law 1089 = .ok (.iload 5, 2) := by decide +kernel
theorem d_L_law_1091 : decode b_L_law 1091 = .ok (.if_icmp .eq 5, 3) := by decide +kernel
theorem d_L_law_1094 : decode b_L_law 1094 = .ok (.iconst 0, 1) := by decide +kernel
theorem d_L_law_1095 : decode b_L_law 1095 = .ok (.ireturn, 1) := by decide +kernel
theorem d_L_law_1096 : decode b_L_law 1096 = .ok (.iload 5, 2) := by decide +kernel
theorem d_L_law_1098 : decode b_L_law 1098 = .ok (.ifCond .ne 15, 3) := by decide +kernel
theorem d_L_law_1101 : decode b_L_law 1101 = .ok (.aload_n 3, 1) := by decide +kernel
theorem d_L_law_1102 : decode b_L_law 1102 = .ok (.iconst 0, 1) := by decide +kernel
theorem d_L_law_1103 : decode b_L_law 1103 = .ok (.laload, 1) := by decide +kernel
theorem d_L_law_1104 : decode b_L_law 1104 = .ok (.iload 6, 2) := by decide +kernel
theorem d_L_law_1106 : decode b_L_law 1106 = .ok (.i2l, 1) := by decide +kernel
theorem d_L_law_1107 : decode b_L_law 1107 = .ok (.lcmp, 1) := by decide +kernel
theorem d_L_law_1108 : decode b_L_law 1108 = .ok (.ifCond .eq 5, 3) := by decide +kernel
theorem d_L_law_1111 : decode b_L_law 1111 = .ok (.iconst 0, 1) := by decide +kernel
theorem d_L_law_1112 : decode b_L_law 1112 = .ok (.ireturn, 1) := by decide +kernel
theorem d_L_law_1113 : decode b_L_law 1113 = .ok (.goto 496, 3) := by decide +kernel
theorem d_L_law_1116 : decode b_L_law 1116 = .ok (.aload_n 1, 1) := by decide +kernel
theorem d_L_law_1117 : decode b_L_law 1117 = .ok (.aload_n 0, 1) := by decide +kernel
theorem d_L_law_1118 : decode b_L_law 1118 = .ok (.iload 4, 2) := by decide +kernel
theorem d_L_law_1120 : decode b_L_law 1120 = .ok (.iconst 1, 1) := by decide +kernel
theorem d_L_law_1121 : decode b_L_law 1121 = .ok (.iadd, 1) := by decide +kernel
theorem d_L_law_1122 : decode b_L_law 1122 = .ok (.iaload, 1) := by decide +kernel
theorem d_L_law_1123 : decode b_L_law 1123 = .ok (.aload_n 3, 1) := by decide +kernel
theorem d_L_law_1124 : decode b_L_law 1124 = .ok (.invokestatic 155, 3) := by decide +kernel
theorem d_L_law_1127 : decode b_L_law 1127 = .ok (.istore 5, 2) := by decide +kernel
theorem d_L_law_1129 : decode b_L_law 1129 = .ok (.aload_n 2, 1) := by decide +kernel
theorem d_L_law_1130 : decode b_L_law 1130 = .ok (.aload_n 0, 1) := by decide +kernel
theorem d_L_law_1131 : decode b_L_law 1131 = .ok (.iload 4, 2) := by decide +kernel
theorem d_L_law_1133 : decode b_L_law 1133 = .ok (.iconst 1, 1) := by decide +kernel
theorem d_L_law_1134 : decode b_L_law 1134 = .ok (.iadd, 1) := by decide +kernel
theorem d_L_law_1135 : decode b_L_law 1135 = .ok (.iaload, 1) := by decide +kernel
theorem d_L_law_1136 : decode b_L_law 1136 = .ok (.invokevirtual 157, 3) := by decide +kernel
theorem d_L_law_1139 : decode b_L_law 1139 = .ok (.lstore 6, 2) := by decide +kernel
theorem d_L_law_1141 : decode b_L_law 1141 = .ok (.aload_n 2, 1) := by decide +kernel
theorem d_L_law_1142 : decode b_L_law 1142 = .ok (.invokevirtual 106, 3) := by decide +kernel
theorem d_L_law_1145 : decode b_L_law 1145 = .ok (.iload 5, 2) := by decide +kernel
theorem d_L_law_1147 : decode b_L_law 1147 = .ok (.if_icmp .eq 5, 3) := by decide +kernel
theorem d_L_law_1150 : decode b_L_law 1150 = .ok (.iconst 0, 1) := by decide +kernel
theorem d_L_law_1151 : decode b_L_law 1151 = .ok (.ireturn, 1) := by decide +kernel
theorem d_L_law_1152 : decode b_L_law 1152 = .ok (.iload 5, 2) := by decide +kernel
theorem d_L_law_1154 : decode b_L_law 1154 = .ok (.ifCond .ne 14, 3) := by decide +kernel
theorem d_L_law_1157 : decode b_L_law 1157 = .ok (.aload_n 3, 1) := by decide +kernel
theorem d_L_law_1158 : decode b_L_law 1158 = .ok (.iconst 0, 1) := by decide +kernel
theorem d_L_law_1159 : decode b_L_law 1159 = .ok (.laload, 1) := by decide +kernel
theorem d_L_law_1160 : decode b_L_law 1160 = .ok (.lload 6, 2) := by decide +kernel
theorem d_L_law_1162 : decode b_L_law 1162 = .ok (.lcmp, 1) := by decide +kernel
theorem d_L_law_1163 : decode b_L_law 1163 = .ok (.ifCond .eq 5, 3) := by decide +kernel
theorem d_L_law_1166 : decode b_L_law 1166 = .ok (.iconst 0, 1) := by decide +kernel
theorem d_L_law_1167 : decode b_L_law 1167 = .ok (.ireturn, 1) := by decide +kernel
theorem d_L_law_1168 : decode b_L_law 1168 = .ok (.goto 441, 3) := by decide +kernel
theorem d_L_law_1171 : decode b_L_law 1171 = .ok (.aload_n 1, 1) := by decide +kernel
theorem d_L_law_1172 : decode b_L_law 1172 = .ok (.aload_n 0, 1) := by decide +kernel
theorem d_L_law_1173 : decode b_L_law 1173 = .ok (.iload 4, 2) := by decide +kernel
theorem d_L_law_1175 : decode b_L_law 1175 = .ok (.iconst 1, 1) := by decide +kernel
theorem d_L_law_1176 : decode b_L_law 1176 = .ok (.iadd, 1) := by decide +kernel
theorem d_L_law_1177 : decode b_L_law 1177 = .ok (.iaload, 1) := by decide +kernel
theorem d_L_law_1178 : decode b_L_law 1178 = .ok (.aload_n 0, 1) := by decide +kernel
theorem d_L_law_1179 : decode b_L_law 1179 = .ok (.iload 4, 2) := by decide +kernel
theorem d_L_law_1181 : decode b_L_law 1181 = .ok (.iconst 2, 1) := by decide +kernel
theorem d_L_law_1182 : decode b_L_law 1182 = .ok (.iadd, 1) := by decide +kernel
theorem d_L_law_1183 : decode b_L_law 1183 = .ok (.iaload, 1) := by decide +kernel
theorem d_L_law_1184 : decode b_L_law 1184 = .ok (.invokestatic 158, 3) := by decide +kernel
theorem d_L_law_1187 : decode b_L_law 1187 = .ok (.istore 5, 2) := by decide +kernel
theorem d_L_law_1189 : decode b_L_law 1189 = .ok (.aload_n 2, 1) := by decide +kernel
theorem d_L_law_1190 : decode b_L_law 1190 = .ok (.aload_n 0, 1) := by decide +kernel
theorem d_L_law_1191 : decode b_L_law 1191 = .ok (.iload 4, 2) := by decide +kernel
theorem d_L_law_1193 : decode b_L_law 1193 = .ok (.iconst 1, 1) := by decide +kernel
theorem d_L_law_1194 : decode b_L_law 1194 = .ok (.iadd, 1) := by decide +kernel
theorem d_L_law_1195 : decode b_L_law 1195 = .ok (.iaload, 1) := by decide +kernel
theorem d_L_law_1196 : decode b_L_law 1196 = .ok (.aload_n 0, 1) := by decide +kernel
theorem d_L_law_1197 : decode b_L_law 1197 = .ok (.iload 4, 2) := by decide +kernel
theorem d_L_law_1199 : decode b_L_law 1199 = .ok (.iconst 2, 1) := by decide +kernel
theorem d_L_law_1200 : decode b_L_law 1200 = .ok (.iadd, 1) := by decide +kernel
theorem d_L_law_1201 : decode b_L_law 1201 = .ok (.iaload, 1) := by decide +kernel
theorem d_L_law_1202 : decode b_L_law 1202 = .ok (.invokevirtual 160, 3) := by decide +kernel
theorem d_L_law_1205 : decode b_L_law 1205 = .ok (.aload_n 2, 1) := by decide +kernel
theorem d_L_law_1206 : decode b_L_law 1206 = .ok (.invokevirtual 106, 3) := by decide +kernel
theorem d_L_law_1209 : decode b_L_law 1209 = .ok (.iload 5, 2) := by decide +kernel
theorem d_L_law_1211 : decode b_L_law 1211 = .ok (.if_icmp .eq 5, 3) := by decide +kernel
theorem d_L_law_1214 : decode b_L_law 1214 = .ok (.iconst 0, 1) := by decide +kernel
theorem d_L_law_1215 : decode b_L_law 1215 = .ok (.ireturn, 1) := by decide +kernel
theorem d_L_law_1216 : decode b_L_law 1216 = .ok (.goto 393, 3) := by decide +kernel
theorem d_L_law_1219 : decode b_L_law 1219 = .ok (.aload_n 1, 1) := by decide +kernel
theorem d_L_law_1220 : decode b_L_law 1220 = .ok (.aload_n 0, 1) := by decide +kernel
theorem d_L_law_1221 : decode b_L_law 1221 = .ok (.iload 4, 2) := by decide +kernel
theorem d_L_law_1223 : decode b_L_law 1223 = .ok (.iconst 1, 1) := by decide +kernel
theorem d_L_law_1224 : decode b_L_law 1224 = .ok (.iadd, 1) := by decide +kernel
theorem d_L_law_1225 : decode b_L_law 1225 = .ok (.iaload, 1) := by decide +kernel
theorem d_L_law_1226 : decode b_L_law 1226 = .ok (.aload_n 3, 1) := by decide +kernel
theorem d_L_law_1227 : decode b_L_law 1227 = .ok (.invokestatic 161, 3) := by decide +kernel
theorem d_L_law_1230 : decode b_L_law 1230 = .ok (.istore 5, 2) := by decide +kernel
theorem d_L_law_1232 : decode b_L_law 1232 = .ok (.aload_n 2, 1) := by decide +kernel
theorem d_L_law_1233 : decode b_L_law 1233 = .ok (.aload_n 0, 1) := by decide +kernel
theorem d_L_law_1234 : decode b_L_law 1234 = .ok (.iload 4, 2) := by decide +kernel
theorem d_L_law_1236 : decode b_L_law 1236 = .ok (.iconst 1, 1) := by decide +kernel
theorem d_L_law_1237 : decode b_L_law 1237 = .ok (.iadd, 1) := by decide +kernel
theorem d_L_law_1238 : decode b_L_law 1238 = .ok (.iaload, 1) := by decide +kernel
theorem d_L_law_1239 : decode b_L_law 1239 = .ok (.invokevirtual 163, 3) := by decide +kernel
theorem d_L_law_1242 : decode b_L_law 1242 = .ok (.lstore 6, 2) := by decide +kernel
theorem d_L_law_1244 : decode b_L_law 1244 = .ok (.aload_n 2, 1) := by decide +kernel
theorem d_L_law_1245 : decode b_L_law 1245 = .ok (.invokevirtual 106, 3) := by decide +kernel
theorem d_L_law_1248 : decode b_L_law 1248 = .ok (.iload 5, 2) := by decide +kernel
theorem d_L_law_1250 : decode b_L_law 1250 = .ok (.if_icmp .eq 5, 3) := by decide +kernel
theorem d_L_law_1253 : decode b_L_law 1253 = .ok (.iconst 0, 1) := by decide +kernel
theorem d_L_law_1254 : decode b_L_law 1254 = .ok (.ireturn, 1) := by decide +kernel
theorem d_L_law_1255 : decode b_L_law 1255 = .ok (.iload 5, 2) := by decide +kernel
theorem d_L_law_1257 : decode b_L_law 1257 = .ok (.ifCond .ne 14, 3) := by decide +kernel
theorem d_L_law_1260 : decode b_L_law 1260 = .ok (.aload_n 3, 1) := by decide +kernel
theorem d_L_law_1261 : decode b_L_law 1261 = .ok (.iconst 0, 1) := by decide +kernel
theorem d_L_law_1262 : decode b_L_law 1262 = .ok (.laload, 1) := by decide +kernel
theorem d_L_law_1263 : decode b_L_law 1263 = .ok (.lload 6, 2) := by decide +kernel
theorem d_L_law_1265 : decode b_L_law 1265 = .ok (.lcmp, 1) := by decide +kernel
theorem d_L_law_1266 : decode b_L_law 1266 = .ok (.ifCond .eq 5, 3) := by decide +kernel
theorem d_L_law_1269 : decode b_L_law 1269 = .ok (.iconst 0, 1) := by decide +kernel
theorem d_L_law_1270 : decode b_L_law 1270 = .ok (.ireturn, 1) := by decide +kernel
theorem d_L_law_1271 : decode b_L_law 1271 = .ok (.goto 338, 3) := by decide +kernel
theorem d_L_law_1274 : decode b_L_law 1274 = .ok (.aload_n 1, 1) := by decide +kernel
theorem d_L_law_1275 : decode b_L_law 1275 = .ok (.aload_n 0, 1) := by decide +kernel
theorem d_L_law_1276 : decode b_L_law 1276 = .ok (.iload 4, 2) := by decide +kernel
theorem d_L_law_1278 : decode b_L_law 1278 = .ok (.iconst 1, 1) := by decide +kernel
theorem d_L_law_1279 : decode b_L_law 1279 = .ok (.iadd, 1) := by decide +kernel
theorem d_L_law_1280 : decode b_L_law 1280 = .ok (.iaload, 1) := by decide +kernel
theorem d_L_law_1281 : decode b_L_law 1281 = .ok (.invokestatic 164, 3) := by decide +kernel
theorem d_L_law_1284 : decode b_L_law 1284 = .ok (.istore 5, 2) := by decide +kernel
theorem d_L_law_1286 : decode b_L_law 1286 = .ok (.aload_n 2, 1) := by decide +kernel
theorem d_L_law_1287 : decode b_L_law 1287 = .ok (.aload_n 0, 1) := by decide +kernel
theorem d_L_law_1288 : decode b_L_law 1288 = .ok (.iload 4, 2) := by decide +kernel
theorem d_L_law_1290 : decode b_L_law 1290 = .ok (.iconst 1, 1) := by decide +kernel
theorem d_L_law_1291 : decode b_L_law 1291 = .ok (.iadd, 1) := by decide +kernel
theorem d_L_law_1292 : decode b_L_law 1292 = .ok (.iaload, 1) := by decide +kernel
theorem d_L_law_1293 : decode b_L_law 1293 = .ok (.invokevirtual 167, 3) := by decide +kernel
theorem d_L_law_1296 : decode b_L_law 1296 = .ok (.aload_n 2, 1) := by decide +kernel
theorem d_L_law_1297 : decode b_L_law 1297 = .ok (.invokevirtual 106, 3) := by decide +kernel
theorem d_L_law_1300 : decode b_L_law 1300 = .ok (.iload 5, 2) := by decide +kernel
theorem d_L_law_1302 : decode b_L_law 1302 = .ok (.if_icmp .eq 5, 3) := by decide +kernel
theorem d_L_law_1305 : decode b_L_law 1305 = .ok (.iconst 0, 1) := by decide +kernel
theorem d_L_law_1306 : decode b_L_law 1306 = .ok (.ireturn, 1) := by decide +kernel
theorem d_L_law_1307 : decode b_L_law 1307 = .ok (.goto 302, 3) := by decide +kernel
theorem d_L_law_1310 : decode b_L_law 1310 = .ok (.aload_n 1, 1) := by decide +kernel
theorem d_L_law_1311 : decode b_L_law 1311 = .ok (.aload_n 0, 1) := by decide +kernel
theorem d_L_law_1312 : decode b_L_law 1312 = .ok (.iload 4, 2) := by decide +kernel
theorem d_L_law_1314 : decode b_L_law 1314 = .ok (.iconst 1, 1) := by decide +kernel
theorem d_L_law_1315 : decode b_L_law 1315 = .ok (.iadd, 1) := by decide +kernel
theorem d_L_law_1316 : decode b_L_law 1316 = .ok (.iaload, 1) := by decide +kernel
theorem d_L_law_1317 : decode b_L_law 1317 = .ok (.aload_n 3, 1) := by decide +kernel
theorem d_L_law_1318 : decode b_L_law 1318 = .ok (.invokestatic 168, 3) := by decide +kernel
theorem d_L_law_1321 : decode b_L_law 1321 = .ok (.istore 5, 2) := by decide +kernel
theorem d_L_law_1323 : decode b_L_law 1323 = .ok (.aload_n 2, 1) := by decide +kernel
theorem d_L_law_1324 : decode b_L_law 1324 = .ok (.aload_n 0, 1) := by decide +kernel
theorem d_L_law_1325 : decode b_L_law 1325 = .ok (.iload 4, 2) := by decide +kernel
theorem d_L_law_1327 : decode b_L_law 1327 = .ok (.iconst 1, 1) := by decide +kernel
theorem d_L_law_1328 : decode b_L_law 1328 = .ok (.iadd, 1) := by decide +kernel
theorem d_L_law_1329 : decode b_L_law 1329 = .ok (.iaload, 1) := by decide +kernel
theorem d_L_law_1330 : decode b_L_law 1330 = .ok (.invokevirtual 170, 3) := by decide +kernel
theorem d_L_law_1333 : decode b_L_law 1333 = .ok (.istore 6, 2) := by decide +kernel
theorem d_L_law_1335 : decode b_L_law 1335 = .ok (.aload_n 2, 1) := by decide +kernel
theorem d_L_law_1336 : decode b_L_law 1336 = .ok (.invokevirtual 106, 3) := by decide +kernel
theorem d_L_law_1339 : decode b_L_law 1339 = .ok (.iload 5, 2) := by decide +kernel
theorem d_L_law_1341 : decode b_L_law 1341 = .ok (.if_icmp .eq 5, 3) := by decide +kernel
theorem d_L_law_1344 : decode b_L_law 1344 = .ok (.iconst 0, 1) := by decide +kernel
theorem d_L_law_1345 : decode b_L_law 1345 = .ok (.ireturn, 1) := by decide +kernel
theorem d_L_law_1346 : decode b_L_law 1346 = .ok (.iload 5, 2) := by decide +kernel
theorem d_L_law_1348 : decode b_L_law 1348 = .ok (.ifCond .ne 15, 3) := by decide +kernel
theorem d_L_law_1351 : decode b_L_law 1351 = .ok (.aload_n 3, 1) := by decide +kernel
theorem d_L_law_1352 : decode b_L_law 1352 = .ok (.iconst 0, 1) := by decide +kernel
theorem d_L_law_1353 : decode b_L_law 1353 = .ok (.laload, 1) := by decide +kernel
theorem d_L_law_1354 : decode b_L_law 1354 = .ok (.iload 6, 2) := by decide +kernel
theorem d_L_law_1356 : decode b_L_law 1356 = .ok (.i2l, 1) := by decide +kernel
theorem d_L_law_1357 : decode b_L_law 1357 = .ok (.lcmp, 1) := by decide +kernel
theorem d_L_law_1358 : decode b_L_law 1358 = .ok (.ifCond .eq 5, 3) := by decide +kernel
theorem d_L_law_1361 : decode b_L_law 1361 = .ok (.iconst 0, 1) := by decide +kernel
theorem d_L_law_1362 : decode b_L_law 1362 = .ok (.ireturn, 1) := by decide +kernel
theorem d_L_law_1363 : decode b_L_law 1363 = .ok (.goto 246, 3) := by decide +kernel
theorem d_L_law_1366 : decode b_L_law 1366 = .ok (.aload_n 1, 1) := by decide +kernel
theorem d_L_law_1367 : decode b_L_law 1367 = .ok (.aload_n 0, 1) := by decide +kernel
theorem d_L_law_1368 : decode b_L_law 1368 = .ok (.iload 4, 2) := by decide +kernel
theorem d_L_law_1370 : decode b_L_law 1370 = .ok (.iconst 1, 1) := by decide +kernel
theorem d_L_law_1371 : decode b_L_law 1371 = .ok (.iadd, 1) := by decide +kernel
theorem d_L_law_1372 : decode b_L_law 1372 = .ok (.iaload, 1) := by decide +kernel
theorem d_L_law_1373 : decode b_L_law 1373 = .ok (.aload_n 0, 1) := by decide +kernel
theorem d_L_law_1374 : decode b_L_law 1374 = .ok (.iload 4, 2) := by decide +kernel
theorem d_L_law_1376 : decode b_L_law 1376 = .ok (.iconst 2, 1) := by decide +kernel
theorem d_L_law_1377 : decode b_L_law 1377 = .ok (.iadd, 1) := by decide +kernel
theorem d_L_law_1378 : decode b_L_law 1378 = .ok (.iaload, 1) := by decide +kernel
theorem d_L_law_1379 : decode b_L_law 1379 = .ok (.aload_n 3, 1) := by decide +kernel
theorem d_L_law_1380 : decode b_L_law 1380 = .ok (.invokestatic 171, 3) := by decide +kernel
theorem d_L_law_1383 : decode b_L_law 1383 = .ok (.istore 5, 2) := by decide +kernel
theorem d_L_law_1385 : decode b_L_law 1385 = .ok (.aload_n 2, 1) := by decide +kernel
theorem d_L_law_1386 : decode b_L_law 1386 = .ok (.aload_n 0, 1) := by decide +kernel
theorem d_L_law_1387 : decode b_L_law 1387 = .ok (.iload 4, 2) := by decide +kernel
theorem d_L_law_1389 : decode b_L_law 1389 = .ok (.iconst 1, 1) := by decide +kernel
theorem d_L_law_1390 : decode b_L_law 1390 = .ok (.iadd, 1) := by decide +kernel
theorem d_L_law_1391 : decode b_L_law 1391 = .ok (.iaload, 1) := by decide +kernel
theorem d_L_law_1392 : decode b_L_law 1392 = .ok (.aload_n 0, 1) := by decide +kernel
theorem d_L_law_1393 : decode b_L_law 1393 = .ok (.iload 4, 2) := by decide +kernel
theorem d_L_law_1395 : decode b_L_law 1395 = .ok (.iconst 2, 1) := by decide +kernel
theorem d_L_law_1396 : decode b_L_law 1396 = .ok (.iadd, 1) := by decide +kernel
theorem d_L_law_1397 : decode b_L_law 1397 = .ok (.iaload, 1) := by decide +kernel
theorem d_L_law_1398 : decode b_L_law 1398 = .ok (.invokevirtual 173, 3) := by decide +kernel
theorem d_L_law_1401 : decode b_L_law 1401 = .ok (.istore 6, 2) := by decide +kernel
theorem d_L_law_1403 : decode b_L_law 1403 = .ok (.aload_n 2, 1) := by decide +kernel
theorem d_L_law_1404 : decode b_L_law 1404 = .ok (.invokevirtual 106, 3) := by decide +kernel
theorem d_L_law_1407 : decode b_L_law 1407 = .ok (.iload 5, 2) := by decide +kernel
theorem d_L_law_1409 : decode b_L_law 1409 = .ok (.if_icmp .eq 5, 3) := by decide +kernel
theorem d_L_law_1412 : decode b_L_law 1412 = .ok (.iconst 0, 1) := by decide +kernel
theorem d_L_law_1413 : decode b_L_law 1413 = .ok (.ireturn, 1) := by decide +kernel
theorem d_L_law_1414 : decode b_L_law 1414 = .ok (.iload 5, 2) := by decide +kernel
theorem d_L_law_1416 : decode b_L_law 1416 = .ok (.ifCond .ne 15, 3) := by decide +kernel
theorem d_L_law_1419 : decode b_L_law 1419 = .ok (.aload_n 3, 1) := by decide +kernel
theorem d_L_law_1420 : decode b_L_law 1420 = .ok (.iconst 0, 1) := by decide +kernel
theorem d_L_law_1421 : decode b_L_law 1421 = .ok (.laload, 1) := by decide +kernel
theorem d_L_law_1422 : decode b_L_law 1422 = .ok (.iload 6, 2) := by decide +kernel
theorem d_L_law_1424 : decode b_L_law 1424 = .ok (.i2l, 1) := by decide +kernel
theorem d_L_law_1425 : decode b_L_law 1425 = .ok (.lcmp, 1) := by decide +kernel
theorem d_L_law_1426 : decode b_L_law 1426 = .ok (.ifCond .eq 5, 3) := by decide +kernel
theorem d_L_law_1429 : decode b_L_law 1429 = .ok (.iconst 0, 1) := by decide +kernel
theorem d_L_law_1430 : decode b_L_law 1430 = .ok (.ireturn, 1) := by decide +kernel
theorem d_L_law_1431 : decode b_L_law 1431 = .ok (.goto 178, 3) := by decide +kernel
theorem d_L_law_1434 : decode b_L_law 1434 = .ok (.aload_n 1, 1) := by decide +kernel
theorem d_L_law_1435 : decode b_L_law 1435 = .ok (.aload_n 0, 1) := by decide +kernel
theorem d_L_law_1436 : decode b_L_law 1436 = .ok (.iload 4, 2) := by decide +kernel
theorem d_L_law_1438 : decode b_L_law 1438 = .ok (.iconst 1, 1) := by decide +kernel
theorem d_L_law_1439 : decode b_L_law 1439 = .ok (.iadd, 1) := by decide +kernel
theorem d_L_law_1440 : decode b_L_law 1440 = .ok (.iaload, 1) := by decide +kernel
theorem d_L_law_1441 : decode b_L_law 1441 = .ok (.aload_n 3, 1) := by decide +kernel
theorem d_L_law_1442 : decode b_L_law 1442 = .ok (.invokestatic 174, 3) := by decide +kernel
theorem d_L_law_1445 : decode b_L_law 1445 = .ok (.istore 5, 2) := by decide +kernel
theorem d_L_law_1447 : decode b_L_law 1447 = .ok (.aload_n 2, 1) := by decide +kernel
theorem d_L_law_1448 : decode b_L_law 1448 = .ok (.aload_n 0, 1) := by decide +kernel
theorem d_L_law_1449 : decode b_L_law 1449 = .ok (.iload 4, 2) := by decide +kernel
theorem d_L_law_1451 : decode b_L_law 1451 = .ok (.iconst 1, 1) := by decide +kernel
theorem d_L_law_1452 : decode b_L_law 1452 = .ok (.iadd, 1) := by decide +kernel
theorem d_L_law_1453 : decode b_L_law 1453 = .ok (.iaload, 1) := by decide +kernel
theorem d_L_law_1454 : decode b_L_law 1454 = .ok (.invokevirtual 176, 3) := by decide +kernel
theorem d_L_law_1457 : decode b_L_law 1457 = .ok (.istore 6, 2) := by decide +kernel
theorem d_L_law_1459 : decode b_L_law 1459 = .ok (.aload_n 2, 1) := by decide +kernel
theorem d_L_law_1460 : decode b_L_law 1460 = .ok (.invokevirtual 106, 3) := by decide +kernel
theorem d_L_law_1463 : decode b_L_law 1463 = .ok (.iload 5, 2) := by decide +kernel
theorem d_L_law_1465 : decode b_L_law 1465 = .ok (.if_icmp .eq 5, 3) := by decide +kernel
theorem d_L_law_1468 : decode b_L_law 1468 = .ok (.iconst 0, 1) := by decide +kernel
theorem d_L_law_1469 : decode b_L_law 1469 = .ok (.ireturn, 1) := by decide +kernel
theorem d_L_law_1470 : decode b_L_law 1470 = .ok (.iload 5, 2) := by decide +kernel
theorem d_L_law_1472 : decode b_L_law 1472 = .ok (.ifCond .ne 22, 3) := by decide +kernel
theorem d_L_law_1475 : decode b_L_law 1475 = .ok (.aload_n 3, 1) := by decide +kernel
theorem d_L_law_1476 : decode b_L_law 1476 = .ok (.iconst 0, 1) := by decide +kernel
theorem d_L_law_1477 : decode b_L_law 1477 = .ok (.laload, 1) := by decide +kernel
theorem d_L_law_1478 : decode b_L_law 1478 = .ok (.iload 6, 2) := by decide +kernel
theorem d_L_law_1480 : decode b_L_law 1480 = .ok (.ifCond .eq 7, 3) := by decide +kernel
theorem d_L_law_1483 : decode b_L_law 1483 = .ok (.lconst 1, 1) := by decide +kernel
theorem d_L_law_1484 : decode b_L_law 1484 = .ok (.goto 4, 3) := by decide +kernel
theorem d_L_law_1487 : decode b_L_law 1487 = .ok (.lconst 0, 1) := by decide +kernel
theorem d_L_law_1488 : decode b_L_law 1488 = .ok (.lcmp, 1) := by decide +kernel
theorem d_L_law_1489 : decode b_L_law 1489 = .ok (.ifCond .eq 5, 3) := by decide +kernel
theorem d_L_law_1492 : decode b_L_law 1492 = .ok (.iconst 0, 1) := by decide +kernel
theorem d_L_law_1493 : decode b_L_law 1493 = .ok (.ireturn, 1) := by decide +kernel
theorem d_L_law_1494 : decode b_L_law 1494 = .ok (.goto 115, 3) := by decide +kernel
theorem d_L_law_1497 : decode b_L_law 1497 = .ok (.aload_n 1, 1) := by decide +kernel
theorem d_L_law_1498 : decode b_L_law 1498 = .ok (.aload_n 0, 1) := by decide +kernel
theorem d_L_law_1499 : decode b_L_law 1499 = .ok (.iload 4, 2) := by decide +kernel
theorem d_L_law_1501 : decode b_L_law 1501 = .ok (.iconst 1, 1) := by decide +kernel
theorem d_L_law_1502 : decode b_L_law 1502 = .ok (.iadd, 1) := by decide +kernel
theorem d_L_law_1503 : decode b_L_law 1503 = .ok (.iaload, 1) := by decide +kernel
theorem d_L_law_1504 : decode b_L_law 1504 = .ok (.aload_n 3, 1) := by decide +kernel
theorem d_L_law_1505 : decode b_L_law 1505 = .ok (.invokestatic 177, 3) := by decide +kernel
theorem d_L_law_1508 : decode b_L_law 1508 = .ok (.istore 5, 2) := by decide +kernel
theorem d_L_law_1510 : decode b_L_law 1510 = .ok (.aload_n 2, 1) := by decide +kernel
theorem d_L_law_1511 : decode b_L_law 1511 = .ok (.aload_n 0, 1) := by decide +kernel
theorem d_L_law_1512 : decode b_L_law 1512 = .ok (.iload 4, 2) := by decide +kernel
theorem d_L_law_1514 : decode b_L_law 1514 = .ok (.iconst 1, 1) := by decide +kernel
theorem d_L_law_1515 : decode b_L_law 1515 = .ok (.iadd, 1) := by decide +kernel
theorem d_L_law_1516 : decode b_L_law 1516 = .ok (.iaload, 1) := by decide +kernel
theorem d_L_law_1517 : decode b_L_law 1517 = .ok (.invokevirtual 179, 3) := by decide +kernel
theorem d_L_law_1520 : decode b_L_law 1520 = .ok (.istore 6, 2) := by decide +kernel
theorem d_L_law_1522 : decode b_L_law 1522 = .ok (.aload_n 2, 1) := by decide +kernel
theorem d_L_law_1523 : decode b_L_law 1523 = .ok (.invokevirtual 106, 3) := by decide +kernel
theorem d_L_law_1526 : decode b_L_law 1526 = .ok (.iload 5, 2) := by decide +kernel
theorem d_L_law_1528 : decode b_L_law 1528 = .ok (.if_icmp .eq 5, 3) := by decide +kernel
theorem d_L_law_1531 : decode b_L_law 1531 = .ok (.iconst 0, 1) := by decide +kernel
theorem d_L_law_1532 : decode b_L_law 1532 = .ok (.ireturn, 1) := by decide +kernel
theorem d_L_law_1533 : decode b_L_law 1533 = .ok (.iload 5, 2) := by decide +kernel
theorem d_L_law_1535 : decode b_L_law 1535 = .ok (.ifCond .ne 15, 3) := by decide +kernel
theorem d_L_law_1538 : decode b_L_law 1538 = .ok (.aload_n 3, 1) := by decide +kernel
theorem d_L_law_1539 : decode b_L_law 1539 = .ok (.iconst 0, 1) := by decide +kernel
theorem d_L_law_1540 : decode b_L_law 1540 = .ok (.laload, 1) := by decide +kernel
theorem d_L_law_1541 : decode b_L_law 1541 = .ok (.iload 6, 2) := by decide +kernel
theorem d_L_law_1543 : decode b_L_law 1543 = .ok (.i2l, 1) := by decide +kernel
theorem d_L_law_1544 : decode b_L_law 1544 = .ok (.lcmp, 1) := by decide +kernel
theorem d_L_law_1545 : decode b_L_law 1545 = .ok (.ifCond .eq 5, 3) := by decide +kernel
theorem d_L_law_1548 : decode b_L_law 1548 = .ok (.iconst 0, 1) := by decide +kernel
theorem d_L_law_1549 : decode b_L_law 1549 = .ok (.ireturn, 1) := by decide +kernel
theorem d_L_law_1550 : decode b_L_law 1550 = .ok (.goto 59, 3) := by decide +kernel
theorem d_L_law_1553 : decode b_L_law 1553 = .ok (.aload_n 1, 1) := by decide +kernel
theorem d_L_law_1554 : decode b_L_law 1554 = .ok (.aload_n 0, 1) := by decide +kernel
theorem d_L_law_1555 : decode b_L_law 1555 = .ok (.iload 4, 2) := by decide +kernel
theorem d_L_law_1557 : decode b_L_law 1557 = .ok (.iconst 1, 1) := by decide +kernel
theorem d_L_law_1558 : decode b_L_law 1558 = .ok (.iadd, 1) := by decide +kernel
theorem d_L_law_1559 : decode b_L_law 1559 = .ok (.iaload, 1) := by decide +kernel
theorem d_L_law_1560 : decode b_L_law 1560 = .ok (.aload_n 3, 1) := by decide +kernel
theorem d_L_law_1561 : decode b_L_law 1561 = .ok (.invokestatic 180, 3) := by decide +kernel
theorem d_L_law_1564 : decode b_L_law 1564 = .ok (.istore 5, 2) := by decide +kernel
theorem d_L_law_1566 : decode b_L_law 1566 = .ok (.aload_n 2, 1) := by decide +kernel
theorem d_L_law_1567 : decode b_L_law 1567 = .ok (.aload_n 0, 1) := by decide +kernel
theorem d_L_law_1568 : decode b_L_law 1568 = .ok (.iload 4, 2) := by decide +kernel
theorem d_L_law_1570 : decode b_L_law 1570 = .ok (.iconst 1, 1) := by decide +kernel
theorem d_L_law_1571 : decode b_L_law 1571 = .ok (.iadd, 1) := by decide +kernel
theorem d_L_law_1572 : decode b_L_law 1572 = .ok (.iaload, 1) := by decide +kernel
theorem d_L_law_1573 : decode b_L_law 1573 = .ok (.invokevirtual 182, 3) := by decide +kernel
theorem d_L_law_1576 : decode b_L_law 1576 = .ok (.istore 6, 2) := by decide +kernel
theorem d_L_law_1578 : decode b_L_law 1578 = .ok (.aload_n 2, 1) := by decide +kernel
theorem d_L_law_1579 : decode b_L_law 1579 = .ok (.invokevirtual 106, 3) := by decide +kernel
theorem d_L_law_1582 : decode b_L_law 1582 = .ok (.iload 5, 2) := by decide +kernel
theorem d_L_law_1584 : decode b_L_law 1584 = .ok (.if_icmp .eq 5, 3) := by decide +kernel
theorem d_L_law_1587 : decode b_L_law 1587 = .ok (.iconst 0, 1) := by decide +kernel
theorem d_L_law_1588 : decode b_L_law 1588 = .ok (.ireturn, 1) := by decide +kernel
theorem d_L_law_1589 : decode b_L_law 1589 = .ok (.iload 5, 2) := by decide +kernel
theorem d_L_law_1591 : decode b_L_law 1591 = .ok (.ifCond .ne 15, 3) := by decide +kernel
theorem d_L_law_1594 : decode b_L_law 1594 = .ok (.aload_n 3, 1) := by decide +kernel
theorem d_L_law_1595 : decode b_L_law 1595 = .ok (.iconst 0, 1) := by decide +kernel
theorem d_L_law_1596 : decode b_L_law 1596 = .ok (.laload, 1) := by decide +kernel
theorem d_L_law_1597 : decode b_L_law 1597 = .ok (.iload 6, 2) := by decide +kernel
theorem d_L_law_1599 : decode b_L_law 1599 = .ok (.i2l, 1) := by decide +kernel
theorem d_L_law_1600 : decode b_L_law 1600 = .ok (.lcmp, 1) := by decide +kernel
theorem d_L_law_1601 : decode b_L_law 1601 = .ok (.ifCond .eq 5, 3) := by decide +kernel
theorem d_L_law_1604 : decode b_L_law 1604 = .ok (.iconst 0, 1) := by decide +kernel
theorem d_L_law_1605 : decode b_L_law 1605 = .ok (.ireturn, 1) := by decide +kernel
theorem d_L_law_1606 : decode b_L_law 1606 = .ok (.goto 3, 3) := by decide +kernel
theorem d_L_law_1609 : decode b_L_law 1609 = .ok (.iinc 4 6, 3) := by decide +kernel
theorem d_L_law_1612 : decode b_L_law 1612 = .ok (.goto (-1589), 3) := by decide +kernel
theorem d_L_law_1615 : decode b_L_law 1615 = .ok (.iconst 1, 1) := by decide +kernel
theorem d_L_law_1616 : decode b_L_law 1616 = .ok (.ireturn, 1) := by decide +kernel
