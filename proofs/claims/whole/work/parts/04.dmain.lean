theorem dX7_init_0 : decode cX7_init 0 = .ok (.aload_n 0, 1) := by decide +kernel
theorem dX7_init_1 : decode cX7_init 1 = .ok (.invokespecial 1, 3) := by decide +kernel
theorem dX7_init_4 : decode cX7_init 4 = .ok (.aload_n 0, 1) := by decide +kernel
theorem dX7_init_5 : decode cX7_init 5 = .ok (.new 7, 3) := by decide +kernel
theorem dX7_init_8 : decode cX7_init 8 = .ok (.dup, 1) := by decide +kernel
theorem dX7_init_9 : decode cX7_init 9 = .ok (.invokespecial 9, 3) := by decide +kernel
theorem dX7_init_12 : decode cX7_init 12 = .ok (.putfield 10, 3) := by decide +kernel
theorem dX7_init_15 : decode cX7_init 15 = .ok (.aload_n 0, 1) := by decide +kernel
theorem dX7_init_16 : decode cX7_init 16 = .ok (.new 16, 3) := by decide +kernel
theorem dX7_init_19 : decode cX7_init 19 = .ok (.dup, 1) := by decide +kernel
theorem dX7_init_20 : decode cX7_init 20 = .ok (.invokespecial 18, 3) := by decide +kernel
theorem dX7_init_23 : decode cX7_init 23 = .ok (.putfield 19, 3) := by decide +kernel
theorem dX7_init_26 : decode cX7_init 26 = .ok (.aload_n 0, 1) := by decide +kernel
theorem dX7_init_27 : decode cX7_init 27 = .ok (.new 16, 3) := by decide +kernel
theorem dX7_init_30 : decode cX7_init 30 = .ok (.dup, 1) := by decide +kernel
theorem dX7_init_31 : decode cX7_init 31 = .ok (.invokespecial 18, 3) := by decide +kernel
theorem dX7_init_34 : decode cX7_init 34 = .ok (.putfield 23, 3) := by decide +kernel
theorem dX7_init_37 : decode cX7_init 37 = .ok (.aload_n 0, 1) := by decide +kernel
theorem dX7_init_38 : decode cX7_init 38 = .ok (.new 26, 3) := by decide +kernel
theorem dX7_init_41 : decode cX7_init 41 = .ok (.dup, 1) := by decide +kernel
theorem dX7_init_42 : decode cX7_init 42 = .ok (.invokespecial 28, 3) := by decide +kernel
theorem dX7_init_45 : decode cX7_init 45 = .ok (.putfield 29, 3) := by decide +kernel
theorem dX7_init_48 : decode cX7_init 48 = .ok (.aload_n 0, 1) := by decide +kernel
theorem dX7_init_49 : decode cX7_init 49 = .ok (.new 33, 3) := by decide +kernel
theorem dX7_init_52 : decode cX7_init 52 = .ok (.dup, 1) := by decide +kernel
theorem dX7_init_53 : decode cX7_init 53 = .ok (.invokespecial 35, 3) := by decide +kernel
theorem dX7_init_56 : decode cX7_init 56 = .ok (.putfield 36, 3) := by decide +kernel
theorem dX7_init_59 : decode cX7_init 59 = .ok (.aload_n 0, 1) := by decide +kernel
theorem dX7_init_60 : decode cX7_init 60 = .ok (.new 40, 3) := by decide +kernel
theorem dX7_init_63 : decode cX7_init 63 = .ok (.dup, 1) := by decide +kernel
theorem dX7_init_64 : decode cX7_init 64 = .ok (.invokespecial 42, 3) := by decide +kernel
theorem dX7_init_67 : decode cX7_init 67 = .ok (.putfield 43, 3) := by decide +kernel
theorem dX7_init_70 : decode cX7_init 70 = .ok (.aload_n 0, 1) := by decide +kernel
theorem dX7_init_71 : decode cX7_init 71 = .ok (.new 47, 3) := by decide +kernel
theorem dX7_init_74 : decode cX7_init 74 = .ok (.dup, 1) := by decide +kernel
theorem dX7_init_75 : decode cX7_init 75 = .ok (.invokespecial 49, 3) := by decide +kernel
theorem dX7_init_78 : decode cX7_init 78 = .ok (.putfield 50, 3) := by decide +kernel
theorem dX7_init_81 : decode cX7_init 81 = .ok (.aload_n 0, 1) := by decide +kernel
theorem dX7_init_82 : decode cX7_init 82 = .ok (.bipush 8, 2) := by decide +kernel
theorem dX7_init_84 : decode cX7_init 84 = .ok (.newarray .int, 2) := by decide +kernel
theorem dX7_init_86 : decode cX7_init 86 = .ok (.putfield 54, 3) := by decide +kernel
theorem dX7_init_89 : decode cX7_init 89 = .ok (.return_, 1) := by decide +kernel
theorem dX7_feed_0 : decode cX7_feed 0 = .ok (.aload_n 0, 1) := by decide +kernel
theorem dX7_feed_1 : decode cX7_feed 1 = .ok (.getfield 10, 3) := by decide +kernel
theorem dX7_feed_4 : decode cX7_feed 4 = .ok (.invokevirtual 58, 3) := by decide +kernel
theorem dX7_feed_7 : decode cX7_feed 7 = .ok (.bipush 20, 2) := by decide +kernel
theorem dX7_feed_9 : decode cX7_feed 9 = .ok (.iadd, 1) := by decide +kernel
theorem dX7_feed_10 : decode cX7_feed 10 = .ok (.sipush 700, 3) := by decide +kernel
theorem dX7_feed_13 : decode cX7_feed 13 = .ok (.if_icmp .le 5, 3) := by decide +kernel
theorem dX7_feed_16 : decode cX7_feed 16 = .ok (.iconst (-1), 1) := by decide +kernel
theorem dX7_feed_17 : decode cX7_feed 17 = .ok (.ireturn, 1) := by decide +kernel
theorem dX7_feed_18 : decode cX7_feed 18 = .ok (.aload_n 0, 1) := by decide +kernel
theorem dX7_feed_19 : decode cX7_feed 19 = .ok (.getfield 10, 3) := by decide +kernel
theorem dX7_feed_22 : decode cX7_feed 22 = .ok (.iload_n 1, 1) := by decide +kernel
theorem dX7_feed_23 : decode cX7_feed 23 = .ok (.invokevirtual 62, 3) := by decide +kernel
theorem dX7_feed_26 : decode cX7_feed 26 = .ok (.aload_n 0, 1) := by decide +kernel
theorem dX7_feed_27 : decode cX7_feed 27 = .ok (.getfield 10, 3) := by decide +kernel
theorem dX7_feed_30 : decode cX7_feed 30 = .ok (.iload_n 2, 1) := by decide +kernel
theorem dX7_feed_31 : decode cX7_feed 31 = .ok (.invokevirtual 62, 3) := by decide +kernel
theorem dX7_feed_34 : decode cX7_feed 34 = .ok (.aload_n 0, 1) := by decide +kernel
theorem dX7_feed_35 : decode cX7_feed 35 = .ok (.getfield 10, 3) := by decide +kernel
theorem dX7_feed_38 : decode cX7_feed 38 = .ok (.iload_n 3, 1) := by decide +kernel
theorem dX7_feed_39 : decode cX7_feed 39 = .ok (.invokevirtual 62, 3) := by decide +kernel
theorem dX7_feed_42 : decode cX7_feed 42 = .ok (.aload_n 0, 1) := by decide +kernel
theorem dX7_feed_43 : decode cX7_feed 43 = .ok (.getfield 10, 3) := by decide +kernel
theorem dX7_feed_46 : decode cX7_feed 46 = .ok (.iload 4, 2) := by decide +kernel
theorem dX7_feed_48 : decode cX7_feed 48 = .ok (.invokevirtual 62, 3) := by decide +kernel
theorem dX7_feed_51 : decode cX7_feed 51 = .ok (.aload_n 0, 1) := by decide +kernel
theorem dX7_feed_52 : decode cX7_feed 52 = .ok (.getfield 10, 3) := by decide +kernel
theorem dX7_feed_55 : decode cX7_feed 55 = .ok (.iload 5, 2) := by decide +kernel
theorem dX7_feed_57 : decode cX7_feed 57 = .ok (.invokevirtual 62, 3) := by decide +kernel
theorem dX7_feed_60 : decode cX7_feed 60 = .ok (.aload_n 0, 1) := by decide +kernel
theorem dX7_feed_61 : decode cX7_feed 61 = .ok (.getfield 10, 3) := by decide +kernel
theorem dX7_feed_64 : decode cX7_feed 64 = .ok (.invokevirtual 58, 3) := by decide +kernel
theorem dX7_feed_67 : decode cX7_feed 67 = .ok (.ireturn, 1) := by decide +kernel
theorem dX7_back_0 : decode cX7_back 0 = .ok (.iload_n 1, 1) := by decide +kernel
theorem dX7_back_1 : decode cX7_back 1 = .ok (.ifCond .lt 14, 3) := by decide +kernel
theorem dX7_back_4 : decode cX7_back 4 = .ok (.iload_n 1, 1) := by decide +kernel
theorem dX7_back_5 : decode cX7_back 5 = .ok (.aload_n 0, 1) := by decide +kernel
theorem dX7_back_6 : decode cX7_back 6 = .ok (.getfield 10, 3) := by decide +kernel
theorem dX7_back_9 : decode cX7_back 9 = .ok (.invokevirtual 58, 3) := by decide +kernel
theorem dX7_back_12 : decode cX7_back 12 = .ok (.if_icmp .le 5, 3) := by decide +kernel
theorem dX7_back_15 : decode cX7_back 15 = .ok (.iconst (-1), 1) := by decide +kernel
theorem dX7_back_16 : decode cX7_back 16 = .ok (.ireturn, 1) := by decide +kernel
theorem dX7_back_17 : decode cX7_back 17 = .ok (.aload_n 0, 1) := by decide +kernel
theorem dX7_back_18 : decode cX7_back 18 = .ok (.getfield 10, 3) := by decide +kernel
theorem dX7_back_21 : decode cX7_back 21 = .ok (.iload_n 1, 1) := by decide +kernel
theorem dX7_back_22 : decode cX7_back 22 = .ok (.invokevirtual 66, 3) := by decide +kernel
theorem dX7_back_25 : decode cX7_back 25 = .ok (.aload_n 0, 1) := by decide +kernel
theorem dX7_back_26 : decode cX7_back 26 = .ok (.getfield 10, 3) := by decide +kernel
theorem dX7_back_29 : decode cX7_back 29 = .ok (.invokevirtual 58, 3) := by decide +kernel
theorem dX7_back_32 : decode cX7_back 32 = .ok (.ireturn, 1) := by decide +kernel
theorem dX7_text_0 : decode cX7_text 0 = .ok (.aload_n 0, 1) := by decide +kernel
theorem dX7_text_1 : decode cX7_text 1 = .ok (.getfield 10, 3) := by decide +kernel
theorem dX7_text_4 : decode cX7_text 4 = .ok (.aload_n 0, 1) := by decide +kernel
theorem dX7_text_5 : decode cX7_text 5 = .ok (.getfield 23, 3) := by decide +kernel
theorem dX7_text_8 : decode cX7_text 8 = .ok (.invokevirtual 69, 3) := by decide +kernel
theorem dX7_text_11 : decode cX7_text 11 = .ok (.istore_n 1, 1) := by decide +kernel
theorem dX7_text_12 : decode cX7_text 12 = .ok (.aload_n 0, 1) := by decide +kernel
theorem dX7_text_13 : decode cX7_text 13 = .ok (.getfield 10, 3) := by decide +kernel
theorem dX7_text_16 : decode cX7_text 16 = .ok (.aload_n 0, 1) := by decide +kernel
theorem dX7_text_17 : decode cX7_text 17 = .ok (.getfield 10, 3) := by decide +kernel
theorem dX7_text_20 : decode cX7_text 20 = .ok (.invokevirtual 58, 3) := by decide +kernel
theorem dX7_text_23 : decode cX7_text 23 = .ok (.invokevirtual 66, 3) := by decide +kernel
theorem dX7_text_26 : decode cX7_text 26 = .ok (.iload_n 1, 1) := by decide +kernel
theorem dX7_text_27 : decode cX7_text 27 = .ok (.iconst (-1), 1) := by decide +kernel
theorem dX7_text_28 : decode cX7_text 28 = .ok (.if_icmp .eq 8, 3) := by decide +kernel
theorem dX7_text_31 : decode cX7_text 31 = .ok (.bipush (-4), 2) := by decide +kernel
theorem dX7_text_33 : decode cX7_text 33 = .ok (.iload_n 1, 1) := by decide +kernel
theorem dX7_text_34 : decode cX7_text 34 = .ok (.isub, 1) := by decide +kernel
theorem dX7_text_35 : decode cX7_text 35 = .ok (.ireturn, 1) := by decide +kernel
theorem dX7_text_36 : decode cX7_text 36 = .ok (.aload_n 0, 1) := by decide +kernel
theorem dX7_text_37 : decode cX7_text 37 = .ok (.getfield 19, 3) := by decide +kernel
theorem dX7_text_40 : decode cX7_text 40 = .ok (.aload_n 0, 1) := by decide +kernel
theorem dX7_text_41 : decode cX7_text 41 = .ok (.getfield 23, 3) := by decide +kernel
theorem dX7_text_44 : decode cX7_text 44 = .ok (.invokevirtual 73, 3) := by decide +kernel
theorem dX7_text_47 : decode cX7_text 47 = .ok (.aload_n 0, 1) := by decide +kernel
theorem dX7_text_48 : decode cX7_text 48 = .ok (.getfield 29, 3) := by decide +kernel
theorem dX7_text_51 : decode cX7_text 51 = .ok (.invokevirtual 77, 3) := by decide +kernel
theorem dX7_text_54 : decode cX7_text 54 = .ok (.aload_n 0, 1) := by decide +kernel
theorem dX7_text_55 : decode cX7_text 55 = .ok (.getfield 19, 3) := by decide +kernel
theorem dX7_text_58 : decode cX7_text 58 = .ok (.getfield 80, 3) := by decide +kernel
theorem dX7_text_61 : decode cX7_text 61 = .ok (.ireturn, 1) := by decide +kernel
theorem dX7_fleet_0 : decode cX7_fleet 0 = .ok (.iload_n 1, 1) := by decide +kernel
theorem dX7_fleet_1 : decode cX7_fleet 1 = .ok (.invokestatic 84, 3) := by decide +kernel
theorem dX7_fleet_4 : decode cX7_fleet 4 = .ok (.ifCond .eq 25, 3) := by decide +kernel
theorem dX7_fleet_7 : decode cX7_fleet 7 = .ok (.iload_n 2, 1) := by decide +kernel
theorem dX7_fleet_8 : decode cX7_fleet 8 = .ok (.ifCond .lt 21, 3) := by decide +kernel
theorem dX7_fleet_11 : decode cX7_fleet 11 = .ok (.iload_n 2, 1) := by decide +kernel
theorem dX7_fleet_12 : decode cX7_fleet 12 = .ok (.bipush 31, 2) := by decide +kernel
theorem dX7_fleet_14 : decode cX7_fleet 14 = .ok (.if_icmp .gt 15, 3) := by decide +kernel
theorem dX7_fleet_17 : decode cX7_fleet 17 = .ok (.aload_n 0, 1) := by decide +kernel
theorem dX7_fleet_18 : decode cX7_fleet 18 = .ok (.getfield 19, 3) := by decide +kernel
theorem dX7_fleet_21 : decode cX7_fleet 21 = .ok (.getfield 80, 3) := by decide +kernel
theorem dX7_fleet_24 : decode cX7_fleet 24 = .ok (.bipush 8, 2) := by decide +kernel
theorem dX7_fleet_26 : decode cX7_fleet 26 = .ok (.if_icmp .lt 5, 3) := by decide +kernel
theorem dX7_fleet_29 : decode cX7_fleet 29 = .ok (.iconst (-1), 1) := by decide +kernel
theorem dX7_fleet_30 : decode cX7_fleet 30 = .ok (.ireturn, 1) := by decide +kernel
theorem dX7_fleet_31 : decode cX7_fleet 31 = .ok (.aload_n 0, 1) := by decide +kernel
theorem dX7_fleet_32 : decode cX7_fleet 32 = .ok (.getfield 29, 3) := by decide +kernel
theorem dX7_fleet_35 : decode cX7_fleet 35 = .ok (.aload_n 0, 1) := by decide +kernel
theorem dX7_fleet_36 : decode cX7_fleet 36 = .ok (.getfield 19, 3) := by decide +kernel
theorem dX7_fleet_39 : decode cX7_fleet 39 = .ok (.invokevirtual 88, 3) := by decide +kernel
theorem dX7_fleet_42 : decode cX7_fleet 42 = .ok (.aload_n 0, 1) := by decide +kernel
theorem dX7_fleet_43 : decode cX7_fleet 43 = .ok (.getfield 19, 3) := by decide +kernel
theorem dX7_fleet_46 : decode cX7_fleet 46 = .ok (.iload_n 1, 1) := by decide +kernel
theorem dX7_fleet_47 : decode cX7_fleet 47 = .ok (.iload_n 2, 1) := by decide +kernel
theorem dX7_fleet_48 : decode cX7_fleet 48 = .ok (.invokevirtual 91, 3) := by decide +kernel
theorem dX7_fleet_51 : decode cX7_fleet 51 = .ok (.ireturn, 1) := by decide +kernel
theorem dX7_leave_0 : decode cX7_leave 0 = .ok (.aload_n 0, 1) := by decide +kernel
theorem dX7_leave_1 : decode cX7_leave 1 = .ok (.getfield 19, 3) := by decide +kernel
theorem dX7_leave_4 : decode cX7_leave 4 = .ok (.iload_n 1, 1) := by decide +kernel
theorem dX7_leave_5 : decode cX7_leave 5 = .ok (.invokevirtual 95, 3) := by decide +kernel
theorem dX7_leave_8 : decode cX7_leave 8 = .ok (.ifCond .ne 5, 3) := by decide +kernel
theorem dX7_leave_11 : decode cX7_leave 11 = .ok (.iconst 0, 1) := by decide +kernel
theorem dX7_leave_12 : decode cX7_leave 12 = .ok (.ireturn, 1) := by decide +kernel
theorem dX7_leave_13 : decode cX7_leave 13 = .ok (.aload_n 0, 1) := by decide +kernel
theorem dX7_leave_14 : decode cX7_leave 14 = .ok (.getfield 29, 3) := by decide +kernel
theorem dX7_leave_17 : decode cX7_leave 17 = .ok (.aload_n 0, 1) := by decide +kernel
theorem dX7_leave_18 : decode cX7_leave 18 = .ok (.getfield 19, 3) := by decide +kernel
theorem dX7_leave_21 : decode cX7_leave 21 = .ok (.invokevirtual 88, 3) := by decide +kernel
theorem dX7_leave_24 : decode cX7_leave 24 = .ok (.aload_n 0, 1) := by decide +kernel
theorem dX7_leave_25 : decode cX7_leave 25 = .ok (.getfield 19, 3) := by decide +kernel
theorem dX7_leave_28 : decode cX7_leave 28 = .ok (.iload_n 1, 1) := by decide +kernel
theorem dX7_leave_29 : decode cX7_leave 29 = .ok (.invokevirtual 98, 3) := by decide +kernel
theorem dX7_leave_32 : decode cX7_leave 32 = .ok (.iconst 1, 1) := by decide +kernel
theorem dX7_leave_33 : decode cX7_leave 33 = .ok (.ireturn, 1) := by decide +kernel
theorem dX7_move_0 : decode cX7_move 0 = .ok (.aload_n 0, 1) := by decide +kernel
theorem dX7_move_1 : decode cX7_move 1 = .ok (.getfield 19, 3) := by decide +kernel
theorem dX7_move_4 : decode cX7_move 4 = .ok (.iload_n 1, 1) := by decide +kernel
theorem dX7_move_5 : decode cX7_move 5 = .ok (.invokevirtual 95, 3) := by decide +kernel
theorem dX7_move_8 : decode cX7_move 8 = .ok (.ifCond .eq 22, 3) := by decide +kernel
theorem dX7_move_11 : decode cX7_move 11 = .ok (.iload_n 2, 1) := by decide +kernel
theorem dX7_move_12 : decode cX7_move 12 = .ok (.invokestatic 84, 3) := by decide +kernel
theorem dX7_move_15 : decode cX7_move 15 = .ok (.ifCond .eq 15, 3) := by decide +kernel
theorem dX7_move_18 : decode cX7_move 18 = .ok (.aload_n 0, 1) := by decide +kernel
theorem dX7_move_19 : decode cX7_move 19 = .ok (.getfield 19, 3) := by decide +kernel
theorem dX7_move_22 : decode cX7_move 22 = .ok (.iload_n 1, 1) := by decide +kernel
theorem dX7_move_23 : decode cX7_move 23 = .ok (.invokevirtual 101, 3) := by decide +kernel
theorem dX7_move_26 : decode cX7_move 26 = .ok (.iload_n 2, 1) := by decide +kernel
theorem dX7_move_27 : decode cX7_move 27 = .ok (.if_icmp .ne 5, 3) := by decide +kernel
theorem dX7_move_30 : decode cX7_move 30 = .ok (.iconst (-1), 1) := by decide +kernel
theorem dX7_move_31 : decode cX7_move 31 = .ok (.ireturn, 1) := by decide +kernel
theorem dX7_move_32 : decode cX7_move 32 = .ok (.aload_n 0, 1) := by decide +kernel
theorem dX7_move_33 : decode cX7_move 33 = .ok (.getfield 29, 3) := by decide +kernel
theorem dX7_move_36 : decode cX7_move 36 = .ok (.aload_n 0, 1) := by decide +kernel
theorem dX7_move_37 : decode cX7_move 37 = .ok (.getfield 19, 3) := by decide +kernel
theorem dX7_move_40 : decode cX7_move 40 = .ok (.invokevirtual 88, 3) := by decide +kernel
theorem dX7_move_43 : decode cX7_move 43 = .ok (.aload_n 0, 1) := by decide +kernel
theorem dX7_move_44 : decode cX7_move 44 = .ok (.getfield 19, 3) := by decide +kernel
theorem dX7_move_47 : decode cX7_move 47 = .ok (.iload_n 1, 1) := by decide +kernel
theorem dX7_move_48 : decode cX7_move 48 = .ok (.invokevirtual 101, 3) := by decide +kernel
theorem dX7_move_51 : decode cX7_move 51 = .ok (.istore_n 3, 1) := by decide +kernel
theorem dX7_move_52 : decode cX7_move 52 = .ok (.aload_n 0, 1) := by decide +kernel
theorem dX7_move_53 : decode cX7_move 53 = .ok (.getfield 19, 3) := by decide +kernel
theorem dX7_move_56 : decode cX7_move 56 = .ok (.iload_n 1, 1) := by decide +kernel
theorem dX7_move_57 : decode cX7_move 57 = .ok (.iload_n 2, 1) := by decide +kernel
theorem dX7_move_58 : decode cX7_move 58 = .ok (.invokevirtual 105, 3) := by decide +kernel
theorem dX7_move_61 : decode cX7_move 61 = .ok (.iload_n 3, 1) := by decide +kernel
theorem dX7_move_62 : decode cX7_move 62 = .ok (.ireturn, 1) := by decide +kernel
theorem dX7_insure_0 : decode cX7_insure 0 = .ok (.aload_n 0, 1) := by decide +kernel
theorem dX7_insure_1 : decode cX7_insure 1 = .ok (.getfield 19, 3) := by decide +kernel
theorem dX7_insure_4 : decode cX7_insure 4 = .ok (.iload_n 1, 1) := by decide +kernel
theorem dX7_insure_5 : decode cX7_insure 5 = .ok (.invokevirtual 95, 3) := by decide +kernel
theorem dX7_insure_8 : decode cX7_insure 8 = .ok (.ifCond .eq 22, 3) := by decide +kernel
theorem dX7_insure_11 : decode cX7_insure 11 = .ok (.iload_n 2, 1) := by decide +kernel
theorem dX7_insure_12 : decode cX7_insure 12 = .ok (.invokestatic 109, 3) := by decide +kernel
theorem dX7_insure_15 : decode cX7_insure 15 = .ok (.ifCond .eq 15, 3) := by decide +kernel
theorem dX7_insure_18 : decode cX7_insure 18 = .ok (.aload_n 0, 1) := by decide +kernel
theorem dX7_insure_19 : decode cX7_insure 19 = .ok (.getfield 19, 3) := by decide +kernel
theorem dX7_insure_22 : decode cX7_insure 22 = .ok (.iload_n 1, 1) := by decide +kernel
theorem dX7_insure_23 : decode cX7_insure 23 = .ok (.iload_n 2, 1) := by decide +kernel
theorem dX7_insure_24 : decode cX7_insure 24 = .ok (.invokevirtual 112, 3) := by decide +kernel
theorem dX7_insure_27 : decode cX7_insure 27 = .ok (.ifCond .eq 5, 3) := by decide +kernel
theorem dX7_insure_30 : decode cX7_insure 30 = .ok (.iconst (-1), 1) := by decide +kernel
theorem dX7_insure_31 : decode cX7_insure 31 = .ok (.ireturn, 1) := by decide +kernel
theorem dX7_insure_32 : decode cX7_insure 32 = .ok (.aload_n 0, 1) := by decide +kernel
theorem dX7_insure_33 : decode cX7_insure 33 = .ok (.getfield 29, 3) := by decide +kernel
theorem dX7_insure_36 : decode cX7_insure 36 = .ok (.aload_n 0, 1) := by decide +kernel
theorem dX7_insure_37 : decode cX7_insure 37 = .ok (.getfield 19, 3) := by decide +kernel
theorem dX7_insure_40 : decode cX7_insure 40 = .ok (.invokevirtual 88, 3) := by decide +kernel
theorem dX7_insure_43 : decode cX7_insure 43 = .ok (.aload_n 0, 1) := by decide +kernel
theorem dX7_insure_44 : decode cX7_insure 44 = .ok (.getfield 19, 3) := by decide +kernel
theorem dX7_insure_47 : decode cX7_insure 47 = .ok (.iload_n 1, 1) := by decide +kernel
theorem dX7_insure_48 : decode cX7_insure 48 = .ok (.aload_n 0, 1) := by decide +kernel
theorem dX7_insure_49 : decode cX7_insure 49 = .ok (.getfield 19, 3) := by decide +kernel
theorem dX7_insure_52 : decode cX7_insure 52 = .ok (.iload_n 1, 1) := by decide +kernel
theorem dX7_insure_53 : decode cX7_insure 53 = .ok (.invokevirtual 116, 3) := by decide +kernel
theorem dX7_insure_56 : decode cX7_insure 56 = .ok (.iconst 1, 1) := by decide +kernel
theorem dX7_insure_57 : decode cX7_insure 57 = .ok (.iload_n 2, 1) := by decide +kernel
theorem dX7_insure_58 : decode cX7_insure 58 = .ok (.ishl, 1) := by decide +kernel
theorem dX7_insure_59 : decode cX7_insure 59 = .ok (.ior, 1) := by decide +kernel
theorem dX7_insure_60 : decode cX7_insure 60 = .ok (.invokevirtual 119, 3) := by decide +kernel
theorem dX7_insure_63 : decode cX7_insure 63 = .ok (.aload_n 0, 1) := by decide +kernel
theorem dX7_insure_64 : decode cX7_insure 64 = .ok (.getfield 19, 3) := by decide +kernel
theorem dX7_insure_67 : decode cX7_insure 67 = .ok (.iload_n 1, 1) := by decide +kernel
theorem dX7_insure_68 : decode cX7_insure 68 = .ok (.invokevirtual 116, 3) := by decide +kernel
theorem dX7_insure_71 : decode cX7_insure 71 = .ok (.invokestatic 122, 3) := by decide +kernel
theorem dX7_insure_74 : decode cX7_insure 74 = .ok (.ireturn, 1) := by decide +kernel
theorem dX7_lapse_0 : decode cX7_lapse 0 = .ok (.aload_n 0, 1) := by decide +kernel
theorem dX7_lapse_1 : decode cX7_lapse 1 = .ok (.getfield 19, 3) := by decide +kernel
theorem dX7_lapse_4 : decode cX7_lapse 4 = .ok (.iload_n 1, 1) := by decide +kernel
theorem dX7_lapse_5 : decode cX7_lapse 5 = .ok (.invokevirtual 95, 3) := by decide +kernel
theorem dX7_lapse_8 : decode cX7_lapse 8 = .ok (.ifCond .eq 22, 3) := by decide +kernel
theorem dX7_lapse_11 : decode cX7_lapse 11 = .ok (.iload_n 2, 1) := by decide +kernel
theorem dX7_lapse_12 : decode cX7_lapse 12 = .ok (.invokestatic 109, 3) := by decide +kernel
theorem dX7_lapse_15 : decode cX7_lapse 15 = .ok (.ifCond .eq 15, 3) := by decide +kernel
theorem dX7_lapse_18 : decode cX7_lapse 18 = .ok (.aload_n 0, 1) := by decide +kernel
theorem dX7_lapse_19 : decode cX7_lapse 19 = .ok (.getfield 19, 3) := by decide +kernel
theorem dX7_lapse_22 : decode cX7_lapse 22 = .ok (.iload_n 1, 1) := by decide +kernel
theorem dX7_lapse_23 : decode cX7_lapse 23 = .ok (.iload_n 2, 1) := by decide +kernel
theorem dX7_lapse_24 : decode cX7_lapse 24 = .ok (.invokevirtual 112, 3) := by decide +kernel
theorem dX7_lapse_27 : decode cX7_lapse 27 = .ok (.ifCond .ne 5, 3) := by decide +kernel
theorem dX7_lapse_30 : decode cX7_lapse 30 = .ok (.iconst (-1), 1) := by decide +kernel
theorem dX7_lapse_31 : decode cX7_lapse 31 = .ok (.ireturn, 1) := by decide +kernel
theorem dX7_lapse_32 : decode cX7_lapse 32 = .ok (.aload_n 0, 1) := by decide +kernel
theorem dX7_lapse_33 : decode cX7_lapse 33 = .ok (.getfield 29, 3) := by decide +kernel
theorem dX7_lapse_36 : decode cX7_lapse 36 = .ok (.aload_n 0, 1) := by decide +kernel
theorem dX7_lapse_37 : decode cX7_lapse 37 = .ok (.getfield 19, 3) := by decide +kernel
theorem dX7_lapse_40 : decode cX7_lapse 40 = .ok (.invokevirtual 88, 3) := by decide +kernel
theorem dX7_lapse_43 : decode cX7_lapse 43 = .ok (.aload_n 0, 1) := by decide +kernel
theorem dX7_lapse_44 : decode cX7_lapse 44 = .ok (.getfield 19, 3) := by decide +kernel
theorem dX7_lapse_47 : decode cX7_lapse 47 = .ok (.iload_n 1, 1) := by decide +kernel
theorem dX7_lapse_48 : decode cX7_lapse 48 = .ok (.iconst 1, 1) := by decide +kernel
theorem dX7_lapse_49 : decode cX7_lapse 49 = .ok (.iload_n 2, 1) := by decide +kernel
theorem dX7_lapse_50 : decode cX7_lapse 50 = .ok (.ishl, 1) := by decide +kernel
theorem dX7_lapse_51 : decode cX7_lapse 51 = .ok (.invokevirtual 127, 3) := by decide +kernel
theorem dX7_lapse_54 : decode cX7_lapse 54 = .ok (.ireturn, 1) := by decide +kernel
theorem dX7_forget_0 : decode cX7_forget 0 = .ok (.iload_n 1, 1) := by decide +kernel
theorem dX7_forget_1 : decode cX7_forget 1 = .ok (.invokestatic 109, 3) := by decide +kernel
theorem dX7_forget_4 : decode cX7_forget 4 = .ok (.ifCond .eq 14, 3) := by decide +kernel
theorem dX7_forget_7 : decode cX7_forget 7 = .ok (.aload_n 0, 1) := by decide +kernel
theorem dX7_forget_8 : decode cX7_forget 8 = .ok (.getfield 19, 3) := by decide +kernel
theorem dX7_forget_11 : decode cX7_forget 11 = .ok (.iload_n 1, 1) := by decide +kernel
theorem dX7_forget_12 : decode cX7_forget 12 = .ok (.invokevirtual 130, 3) := by decide +kernel
theorem dX7_forget_15 : decode cX7_forget 15 = .ok (.ifCond .ne 5, 3) := by decide +kernel
theorem dX7_forget_18 : decode cX7_forget 18 = .ok (.iconst (-1), 1) := by decide +kernel
theorem dX7_forget_19 : decode cX7_forget 19 = .ok (.ireturn, 1) := by decide +kernel
theorem dX7_forget_20 : decode cX7_forget 20 = .ok (.aload_n 0, 1) := by decide +kernel
theorem dX7_forget_21 : decode cX7_forget 21 = .ok (.getfield 29, 3) := by decide +kernel
theorem dX7_forget_24 : decode cX7_forget 24 = .ok (.aload_n 0, 1) := by decide +kernel
theorem dX7_forget_25 : decode cX7_forget 25 = .ok (.getfield 19, 3) := by decide +kernel
theorem dX7_forget_28 : decode cX7_forget 28 = .ok (.invokevirtual 88, 3) := by decide +kernel
theorem dX7_forget_31 : decode cX7_forget 31 = .ok (.aload_n 0, 1) := by decide +kernel
theorem dX7_forget_32 : decode cX7_forget 32 = .ok (.getfield 19, 3) := by decide +kernel
theorem dX7_forget_35 : decode cX7_forget 35 = .ok (.iload_n 1, 1) := by decide +kernel
theorem dX7_forget_36 : decode cX7_forget 36 = .ok (.invokevirtual 130, 3) := by decide +kernel
theorem dX7_forget_39 : decode cX7_forget 39 = .ok (.istore_n 2, 1) := by decide +kernel
theorem dX7_forget_40 : decode cX7_forget 40 = .ok (.aload_n 0, 1) := by decide +kernel
theorem dX7_forget_41 : decode cX7_forget 41 = .ok (.getfield 19, 3) := by decide +kernel
theorem dX7_forget_44 : decode cX7_forget 44 = .ok (.iconst 1, 1) := by decide +kernel
theorem dX7_forget_45 : decode cX7_forget 45 = .ok (.iload_n 1, 1) := by decide +kernel
theorem dX7_forget_46 : decode cX7_forget 46 = .ok (.ishl, 1) := by decide +kernel
theorem dX7_forget_47 : decode cX7_forget 47 = .ok (.invokevirtual 133, 3) := by decide +kernel
theorem dX7_forget_50 : decode cX7_forget 50 = .ok (.iload_n 2, 1) := by decide +kernel
theorem dX7_forget_51 : decode cX7_forget 51 = .ok (.ireturn, 1) := by decide +kernel
theorem dX7_claim_0 : decode cX7_claim 0 = .ok (.aload_n 0, 1) := by decide +kernel
theorem dX7_claim_1 : decode cX7_claim 1 = .ok (.getfield 19, 3) := by decide +kernel
theorem dX7_claim_4 : decode cX7_claim 4 = .ok (.iload_n 1, 1) := by decide +kernel
theorem dX7_claim_5 : decode cX7_claim 5 = .ok (.invokevirtual 95, 3) := by decide +kernel
theorem dX7_claim_8 : decode cX7_claim 8 = .ok (.ifCond .eq 29, 3) := by decide +kernel
theorem dX7_claim_11 : decode cX7_claim 11 = .ok (.iload_n 2, 1) := by decide +kernel
theorem dX7_claim_12 : decode cX7_claim 12 = .ok (.invokestatic 109, 3) := by decide +kernel
theorem dX7_claim_15 : decode cX7_claim 15 = .ok (.ifCond .eq 22, 3) := by decide +kernel
theorem dX7_claim_18 : decode cX7_claim 18 = .ok (.iload_n 3, 1) := by decide +kernel
theorem dX7_claim_19 : decode cX7_claim 19 = .ok (.invokestatic 136, 3) := by decide +kernel
theorem dX7_claim_22 : decode cX7_claim 22 = .ok (.ifCond .eq 15, 3) := by decide +kernel
theorem dX7_claim_25 : decode cX7_claim 25 = .ok (.aload_n 0, 1) := by decide +kernel
theorem dX7_claim_26 : decode cX7_claim 26 = .ok (.getfield 19, 3) := by decide +kernel
theorem dX7_claim_29 : decode cX7_claim 29 = .ok (.iload_n 1, 1) := by decide +kernel
theorem dX7_claim_30 : decode cX7_claim 30 = .ok (.iload_n 2, 1) := by decide +kernel
theorem dX7_claim_31 : decode cX7_claim 31 = .ok (.invokevirtual 139, 3) := by decide +kernel
theorem dX7_claim_34 : decode cX7_claim 34 = .ok (.ifCond .ne 5, 3) := by decide +kernel
theorem dX7_claim_37 : decode cX7_claim 37 = .ok (.iconst (-1), 1) := by decide +kernel
theorem dX7_claim_38 : decode cX7_claim 38 = .ok (.ireturn, 1) := by decide +kernel
theorem dX7_claim_39 : decode cX7_claim 39 = .ok (.aload_n 0, 1) := by decide +kernel
theorem dX7_claim_40 : decode cX7_claim 40 = .ok (.getfield 29, 3) := by decide +kernel
theorem dX7_claim_43 : decode cX7_claim 43 = .ok (.aload_n 0, 1) := by decide +kernel
theorem dX7_claim_44 : decode cX7_claim 44 = .ok (.getfield 19, 3) := by decide +kernel
theorem dX7_claim_47 : decode cX7_claim 47 = .ok (.invokevirtual 88, 3) := by decide +kernel
theorem dX7_claim_50 : decode cX7_claim 50 = .ok (.aload_n 0, 1) := by decide +kernel
theorem dX7_claim_51 : decode cX7_claim 51 = .ok (.getfield 19, 3) := by decide +kernel
theorem dX7_claim_54 : decode cX7_claim 54 = .ok (.iload_n 1, 1) := by decide +kernel
theorem dX7_claim_55 : decode cX7_claim 55 = .ok (.iload_n 2, 1) := by decide +kernel
theorem dX7_claim_56 : decode cX7_claim 56 = .ok (.iload_n 3, 1) := by decide +kernel
theorem dX7_claim_57 : decode cX7_claim 57 = .ok (.invokevirtual 142, 3) := by decide +kernel
theorem dX7_claim_60 : decode cX7_claim 60 = .ok (.ireturn, 1) := by decide +kernel
theorem dX7_waive_0 : decode cX7_waive 0 = .ok (.aload_n 0, 1) := by decide +kernel
theorem dX7_waive_1 : decode cX7_waive 1 = .ok (.getfield 19, 3) := by decide +kernel
theorem dX7_waive_4 : decode cX7_waive 4 = .ok (.iload_n 1, 1) := by decide +kernel
theorem dX7_waive_5 : decode cX7_waive 5 = .ok (.invokevirtual 146, 3) := by decide +kernel
theorem dX7_waive_8 : decode cX7_waive 8 = .ok (.ifCond .ne 5, 3) := by decide +kernel
theorem dX7_waive_11 : decode cX7_waive 11 = .ok (.iconst 0, 1) := by decide +kernel
theorem dX7_waive_12 : decode cX7_waive 12 = .ok (.ireturn, 1) := by decide +kernel
theorem dX7_waive_13 : decode cX7_waive 13 = .ok (.aload_n 0, 1) := by decide +kernel
theorem dX7_waive_14 : decode cX7_waive 14 = .ok (.getfield 29, 3) := by decide +kernel
theorem dX7_waive_17 : decode cX7_waive 17 = .ok (.aload_n 0, 1) := by decide +kernel
theorem dX7_waive_18 : decode cX7_waive 18 = .ok (.getfield 19, 3) := by decide +kernel
theorem dX7_waive_21 : decode cX7_waive 21 = .ok (.invokevirtual 88, 3) := by decide +kernel
theorem dX7_waive_24 : decode cX7_waive 24 = .ok (.aload_n 0, 1) := by decide +kernel
theorem dX7_waive_25 : decode cX7_waive 25 = .ok (.getfield 19, 3) := by decide +kernel
theorem dX7_waive_28 : decode cX7_waive 28 = .ok (.iload_n 1, 1) := by decide +kernel
theorem dX7_waive_29 : decode cX7_waive 29 = .ok (.invokevirtual 149, 3) := by decide +kernel
theorem dX7_waive_32 : decode cX7_waive 32 = .ok (.iconst 1, 1) := by decide +kernel
theorem dX7_waive_33 : decode cX7_waive 33 = .ok (.ireturn, 1) := by decide +kernel
theorem dX7_amend_0 : decode cX7_amend 0 = .ok (.aload_n 0, 1) := by decide +kernel
theorem dX7_amend_1 : decode cX7_amend 1 = .ok (.getfield 19, 3) := by decide +kernel
theorem dX7_amend_4 : decode cX7_amend 4 = .ok (.iload_n 1, 1) := by decide +kernel
theorem dX7_amend_5 : decode cX7_amend 5 = .ok (.invokevirtual 146, 3) := by decide +kernel
theorem dX7_amend_8 : decode cX7_amend 8 = .ok (.ifCond .eq 22, 3) := by decide +kernel
theorem dX7_amend_11 : decode cX7_amend 11 = .ok (.iload_n 2, 1) := by decide +kernel
theorem dX7_amend_12 : decode cX7_amend 12 = .ok (.invokestatic 136, 3) := by decide +kernel
theorem dX7_amend_15 : decode cX7_amend 15 = .ok (.ifCond .eq 15, 3) := by decide +kernel
theorem dX7_amend_18 : decode cX7_amend 18 = .ok (.aload_n 0, 1) := by decide +kernel
theorem dX7_amend_19 : decode cX7_amend 19 = .ok (.getfield 19, 3) := by decide +kernel
theorem dX7_amend_22 : decode cX7_amend 22 = .ok (.iload_n 1, 1) := by decide +kernel
theorem dX7_amend_23 : decode cX7_amend 23 = .ok (.invokevirtual 152, 3) := by decide +kernel
theorem dX7_amend_26 : decode cX7_amend 26 = .ok (.iload_n 2, 1) := by decide +kernel
theorem dX7_amend_27 : decode cX7_amend 27 = .ok (.if_icmp .ne 5, 3) := by decide +kernel
theorem dX7_amend_30 : decode cX7_amend 30 = .ok (.iconst (-1), 1) := by decide +kernel
theorem dX7_amend_31 : decode cX7_amend 31 = .ok (.ireturn, 1) := by decide +kernel
theorem dX7_amend_32 : decode cX7_amend 32 = .ok (.aload_n 0, 1) := by decide +kernel
theorem dX7_amend_33 : decode cX7_amend 33 = .ok (.getfield 29, 3) := by decide +kernel
theorem dX7_amend_36 : decode cX7_amend 36 = .ok (.aload_n 0, 1) := by decide +kernel
theorem dX7_amend_37 : decode cX7_amend 37 = .ok (.getfield 19, 3) := by decide +kernel
theorem dX7_amend_40 : decode cX7_amend 40 = .ok (.invokevirtual 88, 3) := by decide +kernel
theorem dX7_amend_43 : decode cX7_amend 43 = .ok (.aload_n 0, 1) := by decide +kernel
theorem dX7_amend_44 : decode cX7_amend 44 = .ok (.getfield 19, 3) := by decide +kernel
theorem dX7_amend_47 : decode cX7_amend 47 = .ok (.iload_n 1, 1) := by decide +kernel
theorem dX7_amend_48 : decode cX7_amend 48 = .ok (.invokevirtual 152, 3) := by decide +kernel
theorem dX7_amend_51 : decode cX7_amend 51 = .ok (.istore_n 3, 1) := by decide +kernel
theorem dX7_amend_52 : decode cX7_amend 52 = .ok (.aload_n 0, 1) := by decide +kernel
theorem dX7_amend_53 : decode cX7_amend 53 = .ok (.getfield 19, 3) := by decide +kernel
theorem dX7_amend_56 : decode cX7_amend 56 = .ok (.iload_n 1, 1) := by decide +kernel
theorem dX7_amend_57 : decode cX7_amend 57 = .ok (.iload_n 2, 1) := by decide +kernel
theorem dX7_amend_58 : decode cX7_amend 58 = .ok (.invokevirtual 155, 3) := by decide +kernel
theorem dX7_amend_61 : decode cX7_amend 61 = .ok (.iload_n 3, 1) := by decide +kernel
theorem dX7_amend_62 : decode cX7_amend 62 = .ok (.ireturn, 1) := by decide +kernel
theorem dX7_join_0 : decode cX7_join 0 = .ok (.iload_n 1, 1) := by decide +kernel
theorem dX7_join_1 : decode cX7_join 1 = .ok (.invokestatic 84, 3) := by decide +kernel
theorem dX7_join_4 : decode cX7_join 4 = .ok (.ifCond .eq 26, 3) := by decide +kernel
theorem dX7_join_7 : decode cX7_join 7 = .ok (.iload_n 2, 1) := by decide +kernel
theorem dX7_join_8 : decode cX7_join 8 = .ok (.invokestatic 84, 3) := by decide +kernel
theorem dX7_join_11 : decode cX7_join 11 = .ok (.ifCond .eq 19, 3) := by decide +kernel
theorem dX7_join_14 : decode cX7_join 14 = .ok (.iload_n 1, 1) := by decide +kernel
theorem dX7_join_15 : decode cX7_join 15 = .ok (.iload_n 2, 1) := by decide +kernel
theorem dX7_join_16 : decode cX7_join 16 = .ok (.if_icmp .eq 14, 3) := by decide +kernel
theorem dX7_join_19 : decode cX7_join 19 = .ok (.aload_n 0, 1) := by decide +kernel
theorem dX7_join_20 : decode cX7_join 20 = .ok (.getfield 19, 3) := by decide +kernel
theorem dX7_join_23 : decode cX7_join 23 = .ok (.iload_n 1, 1) := by decide +kernel
theorem dX7_join_24 : decode cX7_join 24 = .ok (.invokevirtual 158, 3) := by decide +kernel
theorem dX7_join_27 : decode cX7_join 27 = .ok (.ifCond .ne 5, 3) := by decide +kernel
theorem dX7_join_30 : decode cX7_join 30 = .ok (.iconst (-1), 1) := by decide +kernel
theorem dX7_join_31 : decode cX7_join 31 = .ok (.ireturn, 1) := by decide +kernel
theorem dX7_join_32 : decode cX7_join 32 = .ok (.aload_n 0, 1) := by decide +kernel
theorem dX7_join_33 : decode cX7_join 33 = .ok (.getfield 29, 3) := by decide +kernel
theorem dX7_join_36 : decode cX7_join 36 = .ok (.aload_n 0, 1) := by decide +kernel
theorem dX7_join_37 : decode cX7_join 37 = .ok (.getfield 19, 3) := by decide +kernel
theorem dX7_join_40 : decode cX7_join 40 = .ok (.invokevirtual 88, 3) := by decide +kernel
theorem dX7_join_43 : decode cX7_join 43 = .ok (.aload_n 0, 1) := by decide +kernel
theorem dX7_join_44 : decode cX7_join 44 = .ok (.getfield 19, 3) := by decide +kernel
theorem dX7_join_47 : decode cX7_join 47 = .ok (.iload_n 1, 1) := by decide +kernel
theorem dX7_join_48 : decode cX7_join 48 = .ok (.iload_n 2, 1) := by decide +kernel
theorem dX7_join_49 : decode cX7_join 49 = .ok (.invokevirtual 161, 3) := by decide +kernel
theorem dX7_join_52 : decode cX7_join 52 = .ok (.ireturn, 1) := by decide +kernel
theorem dX7_swap_0 : decode cX7_swap 0 = .ok (.aload_n 0, 1) := by decide +kernel
theorem dX7_swap_1 : decode cX7_swap 1 = .ok (.getfield 19, 3) := by decide +kernel
theorem dX7_swap_4 : decode cX7_swap 4 = .ok (.iload_n 1, 1) := by decide +kernel
theorem dX7_swap_5 : decode cX7_swap 5 = .ok (.invokevirtual 95, 3) := by decide +kernel
theorem dX7_swap_8 : decode cX7_swap 8 = .ok (.ifCond .eq 19, 3) := by decide +kernel
theorem dX7_swap_11 : decode cX7_swap 11 = .ok (.aload_n 0, 1) := by decide +kernel
theorem dX7_swap_12 : decode cX7_swap 12 = .ok (.getfield 19, 3) := by decide +kernel
theorem dX7_swap_15 : decode cX7_swap 15 = .ok (.iload_n 2, 1) := by decide +kernel
theorem dX7_swap_16 : decode cX7_swap 16 = .ok (.invokevirtual 95, 3) := by decide +kernel
theorem dX7_swap_19 : decode cX7_swap 19 = .ok (.ifCond .eq 8, 3) := by decide +kernel
theorem dX7_swap_22 : decode cX7_swap 22 = .ok (.iload_n 1, 1) := by decide +kernel
theorem dX7_swap_23 : decode cX7_swap 23 = .ok (.iload_n 2, 1) := by decide +kernel
theorem dX7_swap_24 : decode cX7_swap 24 = .ok (.if_icmp .ne 5, 3) := by decide +kernel
theorem dX7_swap_27 : decode cX7_swap 27 = .ok (.iconst 0, 1) := by decide +kernel
theorem dX7_swap_28 : decode cX7_swap 28 = .ok (.ireturn, 1) := by decide +kernel
theorem dX7_swap_29 : decode cX7_swap 29 = .ok (.aload_n 0, 1) := by decide +kernel
theorem dX7_swap_30 : decode cX7_swap 30 = .ok (.getfield 29, 3) := by decide +kernel
theorem dX7_swap_33 : decode cX7_swap 33 = .ok (.aload_n 0, 1) := by decide +kernel
theorem dX7_swap_34 : decode cX7_swap 34 = .ok (.getfield 19, 3) := by decide +kernel
theorem dX7_swap_37 : decode cX7_swap 37 = .ok (.invokevirtual 88, 3) := by decide +kernel
theorem dX7_swap_40 : decode cX7_swap 40 = .ok (.aload_n 0, 1) := by decide +kernel
theorem dX7_swap_41 : decode cX7_swap 41 = .ok (.getfield 19, 3) := by decide +kernel
theorem dX7_swap_44 : decode cX7_swap 44 = .ok (.iload_n 1, 1) := by decide +kernel
theorem dX7_swap_45 : decode cX7_swap 45 = .ok (.iload_n 2, 1) := by decide +kernel
theorem dX7_swap_46 : decode cX7_swap 46 = .ok (.invokevirtual 164, 3) := by decide +kernel
theorem dX7_swap_49 : decode cX7_swap 49 = .ok (.iconst 1, 1) := by decide +kernel
theorem dX7_swap_50 : decode cX7_swap 50 = .ok (.ireturn, 1) := by decide +kernel
theorem dX7_scale_0 : decode cX7_scale 0 = .ok (.aload_n 0, 1) := by decide +kernel
theorem dX7_scale_1 : decode cX7_scale 1 = .ok (.getfield 19, 3) := by decide +kernel
theorem dX7_scale_4 : decode cX7_scale 4 = .ok (.iload_n 1, 1) := by decide +kernel
theorem dX7_scale_5 : decode cX7_scale 5 = .ok (.invokevirtual 95, 3) := by decide +kernel
theorem dX7_scale_8 : decode cX7_scale 8 = .ok (.ifCond .eq 15, 3) := by decide +kernel
theorem dX7_scale_11 : decode cX7_scale 11 = .ok (.iload_n 2, 1) := by decide +kernel
theorem dX7_scale_12 : decode cX7_scale 12 = .ok (.iconst 1, 1) := by decide +kernel
theorem dX7_scale_13 : decode cX7_scale 13 = .ok (.if_icmp .lt 10, 3) := by decide +kernel
theorem dX7_scale_16 : decode cX7_scale 16 = .ok (.iload_n 2, 1) := by decide +kernel
theorem dX7_scale_17 : decode cX7_scale 17 = .ok (.sipush 900, 3) := by decide +kernel
theorem dX7_scale_20 : decode cX7_scale 20 = .ok (.if_icmp .le 5, 3) := by decide +kernel
theorem dX7_scale_23 : decode cX7_scale 23 = .ok (.iconst (-1), 1) := by decide +kernel
theorem dX7_scale_24 : decode cX7_scale 24 = .ok (.ireturn, 1) := by decide +kernel
theorem dX7_scale_25 : decode cX7_scale 25 = .ok (.aload_n 0, 1) := by decide +kernel
theorem dX7_scale_26 : decode cX7_scale 26 = .ok (.getfield 23, 3) := by decide +kernel
theorem dX7_scale_29 : decode cX7_scale 29 = .ok (.aload_n 0, 1) := by decide +kernel
theorem dX7_scale_30 : decode cX7_scale 30 = .ok (.getfield 19, 3) := by decide +kernel
theorem dX7_scale_33 : decode cX7_scale 33 = .ok (.invokevirtual 73, 3) := by decide +kernel
theorem dX7_scale_36 : decode cX7_scale 36 = .ok (.aload_n 0, 1) := by decide +kernel
theorem dX7_scale_37 : decode cX7_scale 37 = .ok (.getfield 23, 3) := by decide +kernel
theorem dX7_scale_40 : decode cX7_scale 40 = .ok (.iload_n 1, 1) := by decide +kernel
theorem dX7_scale_41 : decode cX7_scale 41 = .ok (.iload_n 2, 1) := by decide +kernel
theorem dX7_scale_42 : decode cX7_scale 42 = .ok (.invokevirtual 167, 3) := by decide +kernel
theorem dX7_scale_45 : decode cX7_scale 45 = .ok (.istore_n 3, 1) := by decide +kernel
theorem dX7_scale_46 : decode cX7_scale 46 = .ok (.iload_n 3, 1) := by decide +kernel
theorem dX7_scale_47 : decode cX7_scale 47 = .ok (.ifCond .ne 5, 3) := by decide +kernel
theorem dX7_scale_50 : decode cX7_scale 50 = .ok (.iconst (-1), 1) := by decide +kernel
theorem dX7_scale_51 : decode cX7_scale 51 = .ok (.ireturn, 1) := by decide +kernel
theorem dX7_scale_52 : decode cX7_scale 52 = .ok (.aload_n 0, 1) := by decide +kernel
theorem dX7_scale_53 : decode cX7_scale 53 = .ok (.getfield 29, 3) := by decide +kernel
theorem dX7_scale_56 : decode cX7_scale 56 = .ok (.aload_n 0, 1) := by decide +kernel
theorem dX7_scale_57 : decode cX7_scale 57 = .ok (.getfield 19, 3) := by decide +kernel
theorem dX7_scale_60 : decode cX7_scale 60 = .ok (.invokevirtual 88, 3) := by decide +kernel
theorem dX7_scale_63 : decode cX7_scale 63 = .ok (.aload_n 0, 1) := by decide +kernel
theorem dX7_scale_64 : decode cX7_scale 64 = .ok (.getfield 19, 3) := by decide +kernel
theorem dX7_scale_67 : decode cX7_scale 67 = .ok (.aload_n 0, 1) := by decide +kernel
theorem dX7_scale_68 : decode cX7_scale 68 = .ok (.getfield 23, 3) := by decide +kernel
theorem dX7_scale_71 : decode cX7_scale 71 = .ok (.invokevirtual 73, 3) := by decide +kernel
theorem dX7_scale_74 : decode cX7_scale 74 = .ok (.iload_n 3, 1) := by decide +kernel
theorem dX7_scale_75 : decode cX7_scale 75 = .ok (.ireturn, 1) := by decide +kernel
theorem dX7_split_0 : decode cX7_split 0 = .ok (.aload_n 0, 1) := by decide +kernel
theorem dX7_split_1 : decode cX7_split 1 = .ok (.getfield 19, 3) := by decide +kernel
theorem dX7_split_4 : decode cX7_split 4 = .ok (.iload_n 1, 1) := by decide +kernel
theorem dX7_split_5 : decode cX7_split 5 = .ok (.invokevirtual 95, 3) := by decide +kernel
theorem dX7_split_8 : decode cX7_split 8 = .ok (.ifCond .eq 15, 3) := by decide +kernel
theorem dX7_split_11 : decode cX7_split 11 = .ok (.aload_n 0, 1) := by decide +kernel
theorem dX7_split_12 : decode cX7_split 12 = .ok (.getfield 19, 3) := by decide +kernel
theorem dX7_split_15 : decode cX7_split 15 = .ok (.getfield 80, 3) := by decide +kernel
theorem dX7_split_18 : decode cX7_split 18 = .ok (.bipush 8, 2) := by decide +kernel
theorem dX7_split_20 : decode cX7_split 20 = .ok (.if_icmp .lt 5, 3) := by decide +kernel
theorem dX7_split_23 : decode cX7_split 23 = .ok (.iconst (-1), 1) := by decide +kernel
theorem dX7_split_24 : decode cX7_split 24 = .ok (.ireturn, 1) := by decide +kernel
theorem dX7_split_25 : decode cX7_split 25 = .ok (.aload_n 0, 1) := by decide +kernel
theorem dX7_split_26 : decode cX7_split 26 = .ok (.getfield 19, 3) := by decide +kernel
theorem dX7_split_29 : decode cX7_split 29 = .ok (.iload_n 1, 1) := by decide +kernel
theorem dX7_split_30 : decode cX7_split 30 = .ok (.invokevirtual 116, 3) := by decide +kernel
theorem dX7_split_33 : decode cX7_split 33 = .ok (.istore_n 3, 1) := by decide +kernel
theorem dX7_split_34 : decode cX7_split 34 = .ok (.iload_n 2, 1) := by decide +kernel
theorem dX7_split_35 : decode cX7_split 35 = .ok (.ifCond .eq 16, 3) := by decide +kernel
theorem dX7_split_38 : decode cX7_split 38 = .ok (.iload_n 2, 1) := by decide +kernel
theorem dX7_split_39 : decode cX7_split 39 = .ok (.iload_n 3, 1) := by decide +kernel
theorem dX7_split_40 : decode cX7_split 40 = .ok (.if_icmp .eq 11, 3) := by decide +kernel
theorem dX7_split_43 : decode cX7_split 43 = .ok (.iload_n 2, 1) := by decide +kernel
theorem dX7_split_44 : decode cX7_split 44 = .ok (.iload_n 3, 1) := by decide +kernel
theorem dX7_split_45 : decode cX7_split 45 = .ok (.iconst (-1), 1) := by decide +kernel
theorem dX7_split_46 : decode cX7_split 46 = .ok (.ixor, 1) := by decide +kernel
theorem dX7_split_47 : decode cX7_split 47 = .ok (.iand, 1) := by decide +kernel
theorem dX7_split_48 : decode cX7_split 48 = .ok (.ifCond .eq 5, 3) := by decide +kernel
theorem dX7_split_51 : decode cX7_split 51 = .ok (.iconst (-1), 1) := by decide +kernel
theorem dX7_split_52 : decode cX7_split 52 = .ok (.ireturn, 1) := by decide +kernel
theorem dX7_split_53 : decode cX7_split 53 = .ok (.aload_n 0, 1) := by decide +kernel
theorem dX7_split_54 : decode cX7_split 54 = .ok (.getfield 29, 3) := by decide +kernel
theorem dX7_split_57 : decode cX7_split 57 = .ok (.aload_n 0, 1) := by decide +kernel
theorem dX7_split_58 : decode cX7_split 58 = .ok (.getfield 19, 3) := by decide +kernel
theorem dX7_split_61 : decode cX7_split 61 = .ok (.invokevirtual 88, 3) := by decide +kernel
theorem dX7_split_64 : decode cX7_split 64 = .ok (.aload_n 0, 1) := by decide +kernel
theorem dX7_split_65 : decode cX7_split 65 = .ok (.getfield 19, 3) := by decide +kernel
theorem dX7_split_68 : decode cX7_split 68 = .ok (.iload_n 1, 1) := by decide +kernel
theorem dX7_split_69 : decode cX7_split 69 = .ok (.iload_n 2, 1) := by decide +kernel
theorem dX7_split_70 : decode cX7_split 70 = .ok (.invokevirtual 170, 3) := by decide +kernel
theorem dX7_split_73 : decode cX7_split 73 = .ok (.ireturn, 1) := by decide +kernel
theorem dX7_merge_0 : decode cX7_merge 0 = .ok (.aload_n 0, 1) := by decide +kernel
theorem dX7_merge_1 : decode cX7_merge 1 = .ok (.getfield 19, 3) := by decide +kernel
theorem dX7_merge_4 : decode cX7_merge 4 = .ok (.iload_n 1, 1) := by decide +kernel
theorem dX7_merge_5 : decode cX7_merge 5 = .ok (.invokevirtual 95, 3) := by decide +kernel
theorem dX7_merge_8 : decode cX7_merge 8 = .ok (.ifCond .eq 39, 3) := by decide +kernel
theorem dX7_merge_11 : decode cX7_merge 11 = .ok (.aload_n 0, 1) := by decide +kernel
theorem dX7_merge_12 : decode cX7_merge 12 = .ok (.getfield 19, 3) := by decide +kernel
theorem dX7_merge_15 : decode cX7_merge 15 = .ok (.iload_n 2, 1) := by decide +kernel
theorem dX7_merge_16 : decode cX7_merge 16 = .ok (.invokevirtual 95, 3) := by decide +kernel
theorem dX7_merge_19 : decode cX7_merge 19 = .ok (.ifCond .eq 28, 3) := by decide +kernel
theorem dX7_merge_22 : decode cX7_merge 22 = .ok (.iload_n 1, 1) := by decide +kernel
theorem dX7_merge_23 : decode cX7_merge 23 = .ok (.iload_n 2, 1) := by decide +kernel
theorem dX7_merge_24 : decode cX7_merge 24 = .ok (.if_icmp .eq 23, 3) := by decide +kernel
theorem dX7_merge_27 : decode cX7_merge 27 = .ok (.aload_n 0, 1) := by decide +kernel
theorem dX7_merge_28 : decode cX7_merge 28 = .ok (.getfield 19, 3) := by decide +kernel
theorem dX7_merge_31 : decode cX7_merge 31 = .ok (.iload_n 1, 1) := by decide +kernel
theorem dX7_merge_32 : decode cX7_merge 32 = .ok (.invokevirtual 116, 3) := by decide +kernel
theorem dX7_merge_35 : decode cX7_merge 35 = .ok (.aload_n 0, 1) := by decide +kernel
theorem dX7_merge_36 : decode cX7_merge 36 = .ok (.getfield 19, 3) := by decide +kernel
theorem dX7_merge_39 : decode cX7_merge 39 = .ok (.iload_n 2, 1) := by decide +kernel
theorem dX7_merge_40 : decode cX7_merge 40 = .ok (.invokevirtual 116, 3) := by decide +kernel
theorem dX7_merge_43 : decode cX7_merge 43 = .ok (.iand, 1) := by decide +kernel
theorem dX7_merge_44 : decode cX7_merge 44 = .ok (.ifCond .eq 5, 3) := by decide +kernel
theorem dX7_merge_47 : decode cX7_merge 47 = .ok (.iconst (-1), 1) := by decide +kernel
theorem dX7_merge_48 : decode cX7_merge 48 = .ok (.ireturn, 1) := by decide +kernel
theorem dX7_merge_49 : decode cX7_merge 49 = .ok (.aload_n 0, 1) := by decide +kernel
theorem dX7_merge_50 : decode cX7_merge 50 = .ok (.getfield 29, 3) := by decide +kernel
theorem dX7_merge_53 : decode cX7_merge 53 = .ok (.aload_n 0, 1) := by decide +kernel
theorem dX7_merge_54 : decode cX7_merge 54 = .ok (.getfield 19, 3) := by decide +kernel
theorem dX7_merge_57 : decode cX7_merge 57 = .ok (.invokevirtual 88, 3) := by decide +kernel
theorem dX7_merge_60 : decode cX7_merge 60 = .ok (.aload_n 0, 1) := by decide +kernel
theorem dX7_merge_61 : decode cX7_merge 61 = .ok (.getfield 19, 3) := by decide +kernel
theorem dX7_merge_64 : decode cX7_merge 64 = .ok (.iload_n 1, 1) := by decide +kernel
theorem dX7_merge_65 : decode cX7_merge 65 = .ok (.iload_n 2, 1) := by decide +kernel
theorem dX7_merge_66 : decode cX7_merge 66 = .ok (.invokevirtual 173, 3) := by decide +kernel
theorem dX7_merge_69 : decode cX7_merge 69 = .ok (.ireturn, 1) := by decide +kernel
theorem dX7_cap_0 : decode cX7_cap 0 = .ok (.iload_n 1, 1) := by decide +kernel
theorem dX7_cap_1 : decode cX7_cap 1 = .ok (.invokestatic 136, 3) := by decide +kernel
theorem dX7_cap_4 : decode cX7_cap 4 = .ok (.ifCond .eq 14, 3) := by decide +kernel
theorem dX7_cap_7 : decode cX7_cap 7 = .ok (.iload_n 1, 1) := by decide +kernel
theorem dX7_cap_8 : decode cX7_cap 8 = .ok (.aload_n 0, 1) := by decide +kernel
theorem dX7_cap_9 : decode cX7_cap 9 = .ok (.getfield 19, 3) := by decide +kernel
theorem dX7_cap_12 : decode cX7_cap 12 = .ok (.getfield 176, 3) := by decide +kernel
theorem dX7_cap_15 : decode cX7_cap 15 = .ok (.if_icmp .ne 5, 3) := by decide +kernel
theorem dX7_cap_18 : decode cX7_cap 18 = .ok (.iconst (-1), 1) := by decide +kernel
theorem dX7_cap_19 : decode cX7_cap 19 = .ok (.ireturn, 1) := by decide +kernel
theorem dX7_cap_20 : decode cX7_cap 20 = .ok (.aload_n 0, 1) := by decide +kernel
theorem dX7_cap_21 : decode cX7_cap 21 = .ok (.getfield 29, 3) := by decide +kernel
theorem dX7_cap_24 : decode cX7_cap 24 = .ok (.aload_n 0, 1) := by decide +kernel
theorem dX7_cap_25 : decode cX7_cap 25 = .ok (.getfield 19, 3) := by decide +kernel
theorem dX7_cap_28 : decode cX7_cap 28 = .ok (.invokevirtual 88, 3) := by decide +kernel
theorem dX7_cap_31 : decode cX7_cap 31 = .ok (.aload_n 0, 1) := by decide +kernel
theorem dX7_cap_32 : decode cX7_cap 32 = .ok (.getfield 19, 3) := by decide +kernel
theorem dX7_cap_35 : decode cX7_cap 35 = .ok (.getfield 176, 3) := by decide +kernel
theorem dX7_cap_38 : decode cX7_cap 38 = .ok (.istore_n 2, 1) := by decide +kernel
theorem dX7_cap_39 : decode cX7_cap 39 = .ok (.aload_n 0, 1) := by decide +kernel
theorem dX7_cap_40 : decode cX7_cap 40 = .ok (.getfield 19, 3) := by decide +kernel
theorem dX7_cap_43 : decode cX7_cap 43 = .ok (.iload_n 1, 1) := by decide +kernel
theorem dX7_cap_44 : decode cX7_cap 44 = .ok (.putfield 176, 3) := by decide +kernel
theorem dX7_cap_47 : decode cX7_cap 47 = .ok (.iload_n 2, 1) := by decide +kernel
theorem dX7_cap_48 : decode cX7_cap 48 = .ok (.ireturn, 1) := by decide +kernel
theorem dX7_steady_0 : decode cX7_steady 0 = .ok (.iload_n 1, 1) := by decide +kernel
theorem dX7_steady_1 : decode cX7_steady 1 = .ok (.ifCond .lt 20, 3) := by decide +kernel
theorem dX7_steady_4 : decode cX7_steady 4 = .ok (.iload_n 1, 1) := by decide +kernel
theorem dX7_steady_5 : decode cX7_steady 5 = .ok (.bipush 50, 2) := by decide +kernel
theorem dX7_steady_7 : decode cX7_steady 7 = .ok (.if_icmp .gt 14, 3) := by decide +kernel
theorem dX7_steady_10 : decode cX7_steady 10 = .ok (.iload_n 1, 1) := by decide +kernel
theorem dX7_steady_11 : decode cX7_steady 11 = .ok (.aload_n 0, 1) := by decide +kernel
theorem dX7_steady_12 : decode cX7_steady 12 = .ok (.getfield 19, 3) := by decide +kernel
theorem dX7_steady_15 : decode cX7_steady 15 = .ok (.getfield 179, 3) := by decide +kernel
theorem dX7_steady_18 : decode cX7_steady 18 = .ok (.if_icmp .ne 5, 3) := by decide +kernel
theorem dX7_steady_21 : decode cX7_steady 21 = .ok (.iconst (-1), 1) := by decide +kernel
theorem dX7_steady_22 : decode cX7_steady 22 = .ok (.ireturn, 1) := by decide +kernel
theorem dX7_steady_23 : decode cX7_steady 23 = .ok (.aload_n 0, 1) := by decide +kernel
theorem dX7_steady_24 : decode cX7_steady 24 = .ok (.getfield 29, 3) := by decide +kernel
theorem dX7_steady_27 : decode cX7_steady 27 = .ok (.aload_n 0, 1) := by decide +kernel
theorem dX7_steady_28 : decode cX7_steady 28 = .ok (.getfield 19, 3) := by decide +kernel
theorem dX7_steady_31 : decode cX7_steady 31 = .ok (.invokevirtual 88, 3) := by decide +kernel
theorem dX7_steady_34 : decode cX7_steady 34 = .ok (.aload_n 0, 1) := by decide +kernel
theorem dX7_steady_35 : decode cX7_steady 35 = .ok (.getfield 19, 3) := by decide +kernel
theorem dX7_steady_38 : decode cX7_steady 38 = .ok (.getfield 179, 3) := by decide +kernel
theorem dX7_steady_41 : decode cX7_steady 41 = .ok (.istore_n 2, 1) := by decide +kernel
theorem dX7_steady_42 : decode cX7_steady 42 = .ok (.aload_n 0, 1) := by decide +kernel
theorem dX7_steady_43 : decode cX7_steady 43 = .ok (.getfield 19, 3) := by decide +kernel
theorem dX7_steady_46 : decode cX7_steady 46 = .ok (.iload_n 1, 1) := by decide +kernel
theorem dX7_steady_47 : decode cX7_steady 47 = .ok (.putfield 179, 3) := by decide +kernel
theorem dX7_steady_50 : decode cX7_steady 50 = .ok (.iload_n 2, 1) := by decide +kernel
theorem dX7_steady_51 : decode cX7_steady 51 = .ok (.ireturn, 1) := by decide +kernel
theorem dX7_undo_0 : decode cX7_undo 0 = .ok (.aload_n 0, 1) := by decide +kernel
theorem dX7_undo_1 : decode cX7_undo 1 = .ok (.getfield 29, 3) := by decide +kernel
theorem dX7_undo_4 : decode cX7_undo 4 = .ok (.invokevirtual 182, 3) := by decide +kernel
theorem dX7_undo_7 : decode cX7_undo 7 = .ok (.ifCond .ne 5, 3) := by decide +kernel
theorem dX7_undo_10 : decode cX7_undo 10 = .ok (.iconst (-1), 1) := by decide +kernel
theorem dX7_undo_11 : decode cX7_undo 11 = .ok (.ireturn, 1) := by decide +kernel
theorem dX7_undo_12 : decode cX7_undo 12 = .ok (.aload_n 0, 1) := by decide +kernel
theorem dX7_undo_13 : decode cX7_undo 13 = .ok (.getfield 29, 3) := by decide +kernel
theorem dX7_undo_16 : decode cX7_undo 16 = .ok (.aload_n 0, 1) := by decide +kernel
theorem dX7_undo_17 : decode cX7_undo 17 = .ok (.getfield 19, 3) := by decide +kernel
theorem dX7_undo_20 : decode cX7_undo 20 = .ok (.invokevirtual 183, 3) := by decide +kernel
theorem dX7_undo_23 : decode cX7_undo 23 = .ok (.aload_n 0, 1) := by decide +kernel
theorem dX7_undo_24 : decode cX7_undo 24 = .ok (.getfield 29, 3) := by decide +kernel
theorem dX7_undo_27 : decode cX7_undo 27 = .ok (.invokevirtual 182, 3) := by decide +kernel
theorem dX7_undo_30 : decode cX7_undo 30 = .ok (.ireturn, 1) := by decide +kernel
theorem dX7_of_0 : decode cX7_of 0 = .ok (.aload_n 0, 1) := by decide +kernel
theorem dX7_of_1 : decode cX7_of 1 = .ok (.getfield 19, 3) := by decide +kernel
theorem dX7_of_4 : decode cX7_of 4 = .ok (.iload_n 1, 1) := by decide +kernel
theorem dX7_of_5 : decode cX7_of 5 = .ok (.invokevirtual 95, 3) := by decide +kernel
theorem dX7_of_8 : decode cX7_of 8 = .ok (.ifCond .ne 5, 3) := by decide +kernel
theorem dX7_of_11 : decode cX7_of 11 = .ok (.iconst (-1), 1) := by decide +kernel
theorem dX7_of_12 : decode cX7_of 12 = .ok (.ireturn, 1) := by decide +kernel
theorem dX7_of_13 : decode cX7_of 13 = .ok (.aload_n 0, 1) := by decide +kernel
theorem dX7_of_14 : decode cX7_of 14 = .ok (.getfield 36, 3) := by decide +kernel
theorem dX7_of_17 : decode cX7_of 17 = .ok (.aload_n 0, 1) := by decide +kernel
theorem dX7_of_18 : decode cX7_of 18 = .ok (.getfield 19, 3) := by decide +kernel
theorem dX7_of_21 : decode cX7_of 21 = .ok (.invokevirtual 186, 3) := by decide +kernel
theorem dX7_of_24 : decode cX7_of 24 = .ok (.iload_n 2, 1) := by decide +kernel
theorem dX7_of_25 : decode cX7_of 25 = .ok (.tableswitch 119 0 7 #[47, 56, 65, 74, 83, 92, 101, 110], 47) := by decide +kernel
theorem dX7_of_72 : decode cX7_of 72 = .ok (.aload_n 0, 1) := by decide +kernel
theorem dX7_of_73 : decode cX7_of 73 = .ok (.getfield 19, 3) := by decide +kernel
theorem dX7_of_76 : decode cX7_of 76 = .ok (.iload_n 1, 1) := by decide +kernel
theorem dX7_of_77 : decode cX7_of 77 = .ok (.invokevirtual 101, 3) := by decide +kernel
theorem dX7_of_80 : decode cX7_of 80 = .ok (.ireturn, 1) := by decide +kernel
theorem dX7_of_81 : decode cX7_of 81 = .ok (.aload_n 0, 1) := by decide +kernel
theorem dX7_of_82 : decode cX7_of 82 = .ok (.getfield 19, 3) := by decide +kernel
theorem dX7_of_85 : decode cX7_of 85 = .ok (.iload_n 1, 1) := by decide +kernel
theorem dX7_of_86 : decode cX7_of 86 = .ok (.invokevirtual 116, 3) := by decide +kernel
theorem dX7_of_89 : decode cX7_of 89 = .ok (.ireturn, 1) := by decide +kernel
theorem dX7_of_90 : decode cX7_of 90 = .ok (.aload_n 0, 1) := by decide +kernel
theorem dX7_of_91 : decode cX7_of 91 = .ok (.getfield 36, 3) := by decide +kernel
theorem dX7_of_94 : decode cX7_of 94 = .ok (.iload_n 1, 1) := by decide +kernel
theorem dX7_of_95 : decode cX7_of 95 = .ok (.invokevirtual 189, 3) := by decide +kernel
theorem dX7_of_98 : decode cX7_of 98 = .ok (.ireturn, 1) := by decide +kernel
theorem dX7_of_99 : decode cX7_of 99 = .ok (.aload_n 0, 1) := by decide +kernel
theorem dX7_of_100 : decode cX7_of 100 = .ok (.getfield 36, 3) := by decide +kernel
theorem dX7_of_103 : decode cX7_of 103 = .ok (.iload_n 1, 1) := by decide +kernel
theorem dX7_of_104 : decode cX7_of 104 = .ok (.invokevirtual 192, 3) := by decide +kernel
theorem dX7_of_107 : decode cX7_of 107 = .ok (.ireturn, 1) := by decide +kernel
theorem dX7_of_108 : decode cX7_of 108 = .ok (.aload_n 0, 1) := by decide +kernel
theorem dX7_of_109 : decode cX7_of 109 = .ok (.getfield 36, 3) := by decide +kernel
theorem dX7_of_112 : decode cX7_of 112 = .ok (.iload_n 1, 1) := by decide +kernel
theorem dX7_of_113 : decode cX7_of 113 = .ok (.invokevirtual 195, 3) := by decide +kernel
theorem dX7_of_116 : decode cX7_of 116 = .ok (.ireturn, 1) := by decide +kernel
theorem dX7_of_117 : decode cX7_of 117 = .ok (.aload_n 0, 1) := by decide +kernel
theorem dX7_of_118 : decode cX7_of 118 = .ok (.getfield 19, 3) := by decide +kernel
theorem dX7_of_121 : decode cX7_of 121 = .ok (.iload_n 1, 1) := by decide +kernel
theorem dX7_of_122 : decode cX7_of 122 = .ok (.invokevirtual 198, 3) := by decide +kernel
theorem dX7_of_125 : decode cX7_of 125 = .ok (.ireturn, 1) := by decide +kernel
theorem dX7_of_126 : decode cX7_of 126 = .ok (.aload_n 0, 1) := by decide +kernel
theorem dX7_of_127 : decode cX7_of 127 = .ok (.getfield 19, 3) := by decide +kernel
theorem dX7_of_130 : decode cX7_of 130 = .ok (.iload_n 1, 1) := by decide +kernel
theorem dX7_of_131 : decode cX7_of 131 = .ok (.invokevirtual 201, 3) := by decide +kernel
theorem dX7_of_134 : decode cX7_of 134 = .ok (.ireturn, 1) := by decide +kernel
theorem dX7_of_135 : decode cX7_of 135 = .ok (.aload_n 0, 1) := by decide +kernel
theorem dX7_of_136 : decode cX7_of 136 = .ok (.getfield 36, 3) := by decide +kernel
theorem dX7_of_139 : decode cX7_of 139 = .ok (.iload_n 1, 1) := by decide +kernel
theorem dX7_of_140 : decode cX7_of 140 = .ok (.invokevirtual 204, 3) := by decide +kernel
theorem dX7_of_143 : decode cX7_of 143 = .ok (.ireturn, 1) := by decide +kernel
theorem dX7_of_144 : decode cX7_of 144 = .ok (.iconst (-1), 1) := by decide +kernel
theorem dX7_of_145 : decode cX7_of 145 = .ok (.ireturn, 1) := by decide +kernel
theorem dX7_loss_0 : decode cX7_loss 0 = .ok (.aload_n 0, 1) := by decide +kernel
theorem dX7_loss_1 : decode cX7_loss 1 = .ok (.getfield 19, 3) := by decide +kernel
theorem dX7_loss_4 : decode cX7_loss 4 = .ok (.iload_n 1, 1) := by decide +kernel
theorem dX7_loss_5 : decode cX7_loss 5 = .ok (.invokevirtual 95, 3) := by decide +kernel
theorem dX7_loss_8 : decode cX7_loss 8 = .ok (.ifCond .eq 10, 3) := by decide +kernel
theorem dX7_loss_11 : decode cX7_loss 11 = .ok (.iload_n 2, 1) := by decide +kernel
theorem dX7_loss_12 : decode cX7_loss 12 = .ok (.invokestatic 109, 3) := by decide +kernel
theorem dX7_loss_15 : decode cX7_loss 15 = .ok (.ifCond .ne 5, 3) := by decide +kernel
theorem dX7_loss_18 : decode cX7_loss 18 = .ok (.iconst (-1), 1) := by decide +kernel
theorem dX7_loss_19 : decode cX7_loss 19 = .ok (.ireturn, 1) := by decide +kernel
theorem dX7_loss_20 : decode cX7_loss 20 = .ok (.aload_n 0, 1) := by decide +kernel
theorem dX7_loss_21 : decode cX7_loss 21 = .ok (.getfield 19, 3) := by decide +kernel
theorem dX7_loss_24 : decode cX7_loss 24 = .ok (.iload_n 1, 1) := by decide +kernel
theorem dX7_loss_25 : decode cX7_loss 25 = .ok (.iload_n 2, 1) := by decide +kernel
theorem dX7_loss_26 : decode cX7_loss 26 = .ok (.invokevirtual 112, 3) := by decide +kernel
theorem dX7_loss_29 : decode cX7_loss 29 = .ok (.ifCond .ne 6, 3) := by decide +kernel
theorem dX7_loss_32 : decode cX7_loss 32 = .ok (.bipush (-2), 2) := by decide +kernel
theorem dX7_loss_34 : decode cX7_loss 34 = .ok (.ireturn, 1) := by decide +kernel
theorem dX7_loss_35 : decode cX7_loss 35 = .ok (.aload_n 0, 1) := by decide +kernel
theorem dX7_loss_36 : decode cX7_loss 36 = .ok (.getfield 36, 3) := by decide +kernel
theorem dX7_loss_39 : decode cX7_loss 39 = .ok (.aload_n 0, 1) := by decide +kernel
theorem dX7_loss_40 : decode cX7_loss 40 = .ok (.getfield 19, 3) := by decide +kernel
theorem dX7_loss_43 : decode cX7_loss 43 = .ok (.invokevirtual 186, 3) := by decide +kernel
theorem dX7_loss_46 : decode cX7_loss 46 = .ok (.aload_n 0, 1) := by decide +kernel
theorem dX7_loss_47 : decode cX7_loss 47 = .ok (.getfield 36, 3) := by decide +kernel
theorem dX7_loss_50 : decode cX7_loss 50 = .ok (.iload_n 1, 1) := by decide +kernel
theorem dX7_loss_51 : decode cX7_loss 51 = .ok (.iload_n 2, 1) := by decide +kernel
theorem dX7_loss_52 : decode cX7_loss 52 = .ok (.invokevirtual 207, 3) := by decide +kernel
theorem dX7_loss_55 : decode cX7_loss 55 = .ok (.ireturn, 1) := by decide +kernel
theorem dX7_claimOf_0 : decode cX7_claimOf 0 = .ok (.aload_n 0, 1) := by decide +kernel
theorem dX7_claimOf_1 : decode cX7_claimOf 1 = .ok (.getfield 19, 3) := by decide +kernel
theorem dX7_claimOf_4 : decode cX7_claimOf 4 = .ok (.iload_n 1, 1) := by decide +kernel
theorem dX7_claimOf_5 : decode cX7_claimOf 5 = .ok (.invokevirtual 146, 3) := by decide +kernel
theorem dX7_claimOf_8 : decode cX7_claimOf 8 = .ok (.ifCond .ne 5, 3) := by decide +kernel
theorem dX7_claimOf_11 : decode cX7_claimOf 11 = .ok (.iconst (-1), 1) := by decide +kernel
theorem dX7_claimOf_12 : decode cX7_claimOf 12 = .ok (.ireturn, 1) := by decide +kernel
theorem dX7_claimOf_13 : decode cX7_claimOf 13 = .ok (.iload_n 2, 1) := by decide +kernel
theorem dX7_claimOf_14 : decode cX7_claimOf 14 = .ok (.tableswitch 66 0 3 #[30, 39, 48, 57], 30) := by decide +kernel
theorem dX7_claimOf_44 : decode cX7_claimOf 44 = .ok (.aload_n 0, 1) := by decide +kernel
theorem dX7_claimOf_45 : decode cX7_claimOf 45 = .ok (.getfield 19, 3) := by decide +kernel
theorem dX7_claimOf_48 : decode cX7_claimOf 48 = .ok (.iload_n 1, 1) := by decide +kernel
theorem dX7_claimOf_49 : decode cX7_claimOf 49 = .ok (.invokevirtual 210, 3) := by decide +kernel
theorem dX7_claimOf_52 : decode cX7_claimOf 52 = .ok (.ireturn, 1) := by decide +kernel
theorem dX7_claimOf_53 : decode cX7_claimOf 53 = .ok (.aload_n 0, 1) := by decide +kernel
theorem dX7_claimOf_54 : decode cX7_claimOf 54 = .ok (.getfield 19, 3) := by decide +kernel
theorem dX7_claimOf_57 : decode cX7_claimOf 57 = .ok (.iload_n 1, 1) := by decide +kernel
theorem dX7_claimOf_58 : decode cX7_claimOf 58 = .ok (.invokevirtual 213, 3) := by decide +kernel
theorem dX7_claimOf_61 : decode cX7_claimOf 61 = .ok (.ireturn, 1) := by decide +kernel
theorem dX7_claimOf_62 : decode cX7_claimOf 62 = .ok (.aload_n 0, 1) := by decide +kernel
theorem dX7_claimOf_63 : decode cX7_claimOf 63 = .ok (.getfield 19, 3) := by decide +kernel
theorem dX7_claimOf_66 : decode cX7_claimOf 66 = .ok (.iload_n 1, 1) := by decide +kernel
theorem dX7_claimOf_67 : decode cX7_claimOf 67 = .ok (.invokevirtual 152, 3) := by decide +kernel
theorem dX7_claimOf_70 : decode cX7_claimOf 70 = .ok (.ireturn, 1) := by decide +kernel
theorem dX7_claimOf_71 : decode cX7_claimOf 71 = .ok (.aload_n 0, 1) := by decide +kernel
theorem dX7_claimOf_72 : decode cX7_claimOf 72 = .ok (.getfield 19, 3) := by decide +kernel
theorem dX7_claimOf_75 : decode cX7_claimOf 75 = .ok (.iload_n 1, 1) := by decide +kernel
theorem dX7_claimOf_76 : decode cX7_claimOf 76 = .ok (.invokevirtual 216, 3) := by decide +kernel
theorem dX7_claimOf_79 : decode cX7_claimOf 79 = .ok (.ireturn, 1) := by decide +kernel
theorem dX7_claimOf_80 : decode cX7_claimOf 80 = .ok (.iconst (-1), 1) := by decide +kernel
theorem dX7_claimOf_81 : decode cX7_claimOf 81 = .ok (.ireturn, 1) := by decide +kernel
theorem dX7_group_0 : decode cX7_group 0 = .ok (.iload_n 1, 1) := by decide +kernel
theorem dX7_group_1 : decode cX7_group 1 = .ok (.invokestatic 84, 3) := by decide +kernel
theorem dX7_group_4 : decode cX7_group 4 = .ok (.ifCond .ne 5, 3) := by decide +kernel
theorem dX7_group_7 : decode cX7_group 7 = .ok (.iconst (-1), 1) := by decide +kernel
theorem dX7_group_8 : decode cX7_group 8 = .ok (.ireturn, 1) := by decide +kernel
theorem dX7_group_9 : decode cX7_group 9 = .ok (.aload_n 0, 1) := by decide +kernel
theorem dX7_group_10 : decode cX7_group 10 = .ok (.getfield 36, 3) := by decide +kernel
theorem dX7_group_13 : decode cX7_group 13 = .ok (.aload_n 0, 1) := by decide +kernel
theorem dX7_group_14 : decode cX7_group 14 = .ok (.getfield 19, 3) := by decide +kernel
theorem dX7_group_17 : decode cX7_group 17 = .ok (.invokevirtual 186, 3) := by decide +kernel
theorem dX7_group_20 : decode cX7_group 20 = .ok (.aload_n 0, 1) := by decide +kernel
theorem dX7_group_21 : decode cX7_group 21 = .ok (.getfield 36, 3) := by decide +kernel
theorem dX7_group_24 : decode cX7_group 24 = .ok (.iload_n 1, 1) := by decide +kernel
theorem dX7_group_25 : decode cX7_group 25 = .ok (.invokevirtual 219, 3) := by decide +kernel
theorem dX7_group_28 : decode cX7_group 28 = .ok (.astore_n 3, 1) := by decide +kernel
theorem dX7_group_29 : decode cX7_group 29 = .ok (.iload_n 2, 1) := by decide +kernel
theorem dX7_group_30 : decode cX7_group 30 = .ok (.tableswitch 91 0 5 #[38, 43, 48, 53, 77, 86], 38) := by decide +kernel
theorem dX7_group_68 : decode cX7_group 68 = .ok (.aload_n 3, 1) := by decide +kernel
theorem dX7_group_69 : decode cX7_group 69 = .ok (.getfield 223, 3) := by decide +kernel
theorem dX7_group_72 : decode cX7_group 72 = .ok (.ireturn, 1) := by decide +kernel
theorem dX7_group_73 : decode cX7_group 73 = .ok (.aload_n 3, 1) := by decide +kernel
theorem dX7_group_74 : decode cX7_group 74 = .ok (.getfield 226, 3) := by decide +kernel
theorem dX7_group_77 : decode cX7_group 77 = .ok (.ireturn, 1) := by decide +kernel
theorem dX7_group_78 : decode cX7_group 78 = .ok (.aload_n 3, 1) := by decide +kernel
theorem dX7_group_79 : decode cX7_group 79 = .ok (.getfield 229, 3) := by decide +kernel
theorem dX7_group_82 : decode cX7_group 82 = .ok (.ireturn, 1) := by decide +kernel
theorem dX7_group_83 : decode cX7_group 83 = .ok (.aload_n 3, 1) := by decide +kernel
theorem dX7_group_84 : decode cX7_group 84 = .ok (.getfield 226, 3) := by decide +kernel
theorem dX7_group_87 : decode cX7_group 87 = .ok (.ifCond .ne 8, 3) := by decide +kernel
theorem dX7_group_90 : decode cX7_group 90 = .ok (.bipush (-2), 2) := by decide +kernel
theorem dX7_group_92 : decode cX7_group 92 = .ok (.goto 14, 3) := by decide +kernel
theorem dX7_group_95 : decode cX7_group 95 = .ok (.aload_n 3, 1) := by decide +kernel
theorem dX7_group_96 : decode cX7_group 96 = .ok (.aload_n 0, 1) := by decide +kernel
theorem dX7_group_97 : decode cX7_group 97 = .ok (.getfield 19, 3) := by decide +kernel
theorem dX7_group_100 : decode cX7_group 100 = .ok (.getfield 179, 3) := by decide +kernel
theorem dX7_group_103 : decode cX7_group 103 = .ok (.invokevirtual 232, 3) := by decide +kernel
theorem dX7_group_106 : decode cX7_group 106 = .ok (.ireturn, 1) := by decide +kernel
theorem dX7_group_107 : decode cX7_group 107 = .ok (.aload_n 0, 1) := by decide +kernel
theorem dX7_group_108 : decode cX7_group 108 = .ok (.getfield 19, 3) := by decide +kernel
theorem dX7_group_111 : decode cX7_group 111 = .ok (.iload_n 1, 1) := by decide +kernel
theorem dX7_group_112 : decode cX7_group 112 = .ok (.invokevirtual 158, 3) := by decide +kernel
theorem dX7_group_115 : decode cX7_group 115 = .ok (.ireturn, 1) := by decide +kernel
theorem dX7_group_116 : decode cX7_group 116 = .ok (.aload_n 3, 1) := by decide +kernel
theorem dX7_group_117 : decode cX7_group 117 = .ok (.getfield 235, 3) := by decide +kernel
theorem dX7_group_120 : decode cX7_group 120 = .ok (.ireturn, 1) := by decide +kernel
theorem dX7_group_121 : decode cX7_group 121 = .ok (.iconst (-1), 1) := by decide +kernel
theorem dX7_group_122 : decode cX7_group 122 = .ok (.ireturn, 1) := by decide +kernel
theorem dX7_spread_0 : decode cX7_spread 0 = .ok (.iload_n 1, 1) := by decide +kernel
theorem dX7_spread_1 : decode cX7_spread 1 = .ok (.invokestatic 84, 3) := by decide +kernel
theorem dX7_spread_4 : decode cX7_spread 4 = .ok (.ifCond .eq 17, 3) := by decide +kernel
theorem dX7_spread_7 : decode cX7_spread 7 = .ok (.aload_n 0, 1) := by decide +kernel
theorem dX7_spread_8 : decode cX7_spread 8 = .ok (.aload_n 0, 1) := by decide +kernel
theorem dX7_spread_9 : decode cX7_spread 9 = .ok (.getfield 19, 3) := by decide +kernel
theorem dX7_spread_12 : decode cX7_spread 12 = .ok (.iload_n 1, 1) := by decide +kernel
theorem dX7_spread_13 : decode cX7_spread 13 = .ok (.iload_n 2, 1) := by decide +kernel
theorem dX7_spread_14 : decode cX7_spread 14 = .ok (.iload_n 3, 1) := by decide +kernel
theorem dX7_spread_15 : decode cX7_spread 15 = .ok (.invokevirtual 238, 3) := by decide +kernel
theorem dX7_spread_18 : decode cX7_spread 18 = .ok (.goto 6, 3) := by decide +kernel
theorem dX7_spread_21 : decode cX7_spread 21 = .ok (.ldc2_w 242, 3) := by decide +kernel
theorem dX7_spread_24 : decode cX7_spread 24 = .ok (.lreturn, 1) := by decide +kernel
theorem dX7_whole_0 : decode cX7_whole 0 = .ok (.aload_n 0, 1) := by decide +kernel
theorem dX7_whole_1 : decode cX7_whole 1 = .ok (.getfield 36, 3) := by decide +kernel
theorem dX7_whole_4 : decode cX7_whole 4 = .ok (.aload_n 0, 1) := by decide +kernel
theorem dX7_whole_5 : decode cX7_whole 5 = .ok (.getfield 19, 3) := by decide +kernel
theorem dX7_whole_8 : decode cX7_whole 8 = .ok (.invokevirtual 186, 3) := by decide +kernel
theorem dX7_whole_11 : decode cX7_whole 11 = .ok (.aload_n 0, 1) := by decide +kernel
theorem dX7_whole_12 : decode cX7_whole 12 = .ok (.getfield 36, 3) := by decide +kernel
theorem dX7_whole_15 : decode cX7_whole 15 = .ok (.aload_n 0, 1) := by decide +kernel
theorem dX7_whole_16 : decode cX7_whole 16 = .ok (.getfield 50, 3) := by decide +kernel
theorem dX7_whole_19 : decode cX7_whole 19 = .ok (.invokevirtual 244, 3) := by decide +kernel
theorem dX7_whole_22 : decode cX7_whole 22 = .ok (.aload_n 0, 1) := by decide +kernel
theorem dX7_whole_23 : decode cX7_whole 23 = .ok (.getfield 50, 3) := by decide +kernel
theorem dX7_whole_26 : decode cX7_whole 26 = .ok (.iload_n 1, 1) := by decide +kernel
theorem dX7_whole_27 : decode cX7_whole 27 = .ok (.invokevirtual 248, 3) := by decide +kernel
theorem dX7_whole_30 : decode cX7_whole 30 = .ok (.lreturn, 1) := by decide +kernel
theorem dX7_rate_0 : decode cX7_rate 0 = .ok (.aload_n 0, 1) := by decide +kernel
theorem dX7_rate_1 : decode cX7_rate 1 = .ok (.getfield 36, 3) := by decide +kernel
theorem dX7_rate_4 : decode cX7_rate 4 = .ok (.aload_n 0, 1) := by decide +kernel
theorem dX7_rate_5 : decode cX7_rate 5 = .ok (.getfield 19, 3) := by decide +kernel
theorem dX7_rate_8 : decode cX7_rate 8 = .ok (.invokevirtual 186, 3) := by decide +kernel
theorem dX7_rate_11 : decode cX7_rate 11 = .ok (.aload_n 0, 1) := by decide +kernel
theorem dX7_rate_12 : decode cX7_rate 12 = .ok (.getfield 36, 3) := by decide +kernel
theorem dX7_rate_15 : decode cX7_rate 15 = .ok (.iload_n 1, 1) := by decide +kernel
theorem dX7_rate_16 : decode cX7_rate 16 = .ok (.aload_n 0, 1) := by decide +kernel
theorem dX7_rate_17 : decode cX7_rate 17 = .ok (.getfield 50, 3) := by decide +kernel
theorem dX7_rate_20 : decode cX7_rate 20 = .ok (.invokevirtual 252, 3) := by decide +kernel
theorem dX7_rate_23 : decode cX7_rate 23 = .ok (.aload_n 0, 1) := by decide +kernel
theorem dX7_rate_24 : decode cX7_rate 24 = .ok (.getfield 50, 3) := by decide +kernel
theorem dX7_rate_27 : decode cX7_rate 27 = .ok (.iload_n 2, 1) := by decide +kernel
theorem dX7_rate_28 : decode cX7_rate 28 = .ok (.invokevirtual 248, 3) := by decide +kernel
theorem dX7_rate_31 : decode cX7_rate 31 = .ok (.lreturn, 1) := by decide +kernel
theorem dX7_thousandths_0 : decode cX7_thousandths 0 = .ok (.aload_n 0, 1) := by decide +kernel
theorem dX7_thousandths_1 : decode cX7_thousandths 1 = .ok (.aload_n 0, 1) := by decide +kernel
theorem dX7_thousandths_2 : decode cX7_thousandths 2 = .ok (.getfield 19, 3) := by decide +kernel
theorem dX7_thousandths_5 : decode cX7_thousandths 5 = .ok (.iload_n 1, 1) := by decide +kernel
theorem dX7_thousandths_6 : decode cX7_thousandths 6 = .ok (.invokevirtual 256, 3) := by decide +kernel
theorem dX7_thousandths_9 : decode cX7_thousandths 9 = .ok (.ireturn, 1) := by decide +kernel
theorem dX7_ranked_0 : decode cX7_ranked 0 = .ok (.aload_n 0, 1) := by decide +kernel
theorem dX7_ranked_1 : decode cX7_ranked 1 = .ok (.getfield 36, 3) := by decide +kernel
theorem dX7_ranked_4 : decode cX7_ranked 4 = .ok (.aload_n 0, 1) := by decide +kernel
theorem dX7_ranked_5 : decode cX7_ranked 5 = .ok (.getfield 19, 3) := by decide +kernel
theorem dX7_ranked_8 : decode cX7_ranked 8 = .ok (.invokevirtual 186, 3) := by decide +kernel
theorem dX7_ranked_11 : decode cX7_ranked 11 = .ok (.iconst 0, 1) := by decide +kernel
theorem dX7_ranked_12 : decode cX7_ranked 12 = .ok (.istore_n 2, 1) := by decide +kernel
theorem dX7_ranked_13 : decode cX7_ranked 13 = .ok (.iload_n 2, 1) := by decide +kernel
theorem dX7_ranked_14 : decode cX7_ranked 14 = .ok (.aload_n 0, 1) := by decide +kernel
theorem dX7_ranked_15 : decode cX7_ranked 15 = .ok (.getfield 19, 3) := by decide +kernel
theorem dX7_ranked_18 : decode cX7_ranked 18 = .ok (.getfield 80, 3) := by decide +kernel
theorem dX7_ranked_21 : decode cX7_ranked 21 = .ok (.if_icmp .ge 34, 3) := by decide +kernel
theorem dX7_ranked_24 : decode cX7_ranked 24 = .ok (.aload_n 0, 1) := by decide +kernel
theorem dX7_ranked_25 : decode cX7_ranked 25 = .ok (.getfield 36, 3) := by decide +kernel
theorem dX7_ranked_28 : decode cX7_ranked 28 = .ok (.iload_n 2, 1) := by decide +kernel
theorem dX7_ranked_29 : decode cX7_ranked 29 = .ok (.invokevirtual 260, 3) := by decide +kernel
theorem dX7_ranked_32 : decode cX7_ranked 32 = .ok (.ifCond .eq 17, 3) := by decide +kernel
theorem dX7_ranked_35 : decode cX7_ranked 35 = .ok (.aload_n 0, 1) := by decide +kernel
theorem dX7_ranked_36 : decode cX7_ranked 36 = .ok (.getfield 36, 3) := by decide +kernel
theorem dX7_ranked_39 : decode cX7_ranked 39 = .ok (.iload_n 2, 1) := by decide +kernel
theorem dX7_ranked_40 : decode cX7_ranked 40 = .ok (.invokevirtual 263, 3) := by decide +kernel
theorem dX7_ranked_43 : decode cX7_ranked 43 = .ok (.iload_n 1, 1) := by decide +kernel
theorem dX7_ranked_44 : decode cX7_ranked 44 = .ok (.if_icmp .ne 5, 3) := by decide +kernel
theorem dX7_ranked_47 : decode cX7_ranked 47 = .ok (.iload_n 2, 1) := by decide +kernel
theorem dX7_ranked_48 : decode cX7_ranked 48 = .ok (.ireturn, 1) := by decide +kernel
theorem dX7_ranked_49 : decode cX7_ranked 49 = .ok (.iinc 2 1, 3) := by decide +kernel
theorem dX7_ranked_52 : decode cX7_ranked 52 = .ok (.goto (-39), 3) := by decide +kernel
theorem dX7_ranked_55 : decode cX7_ranked 55 = .ok (.iconst (-1), 1) := by decide +kernel
theorem dX7_ranked_56 : decode cX7_ranked 56 = .ok (.ireturn, 1) := by decide +kernel
theorem dX7_greatest_0 : decode cX7_greatest 0 = .ok (.iconst 0, 1) := by decide +kernel
theorem dX7_greatest_1 : decode cX7_greatest 1 = .ok (.istore_n 3, 1) := by decide +kernel
theorem dX7_greatest_2 : decode cX7_greatest 2 = .ok (.iload_n 3, 1) := by decide +kernel
theorem dX7_greatest_3 : decode cX7_greatest 3 = .ok (.aload_n 0, 1) := by decide +kernel
theorem dX7_greatest_4 : decode cX7_greatest 4 = .ok (.getfield 19, 3) := by decide +kernel
theorem dX7_greatest_7 : decode cX7_greatest 7 = .ok (.getfield 266, 3) := by decide +kernel
theorem dX7_greatest_10 : decode cX7_greatest 10 = .ok (.if_icmp .ge 35, 3) := by decide +kernel
theorem dX7_greatest_13 : decode cX7_greatest 13 = .ok (.aload_n 0, 1) := by decide +kernel
theorem dX7_greatest_14 : decode cX7_greatest 14 = .ok (.getfield 19, 3) := by decide +kernel
theorem dX7_greatest_17 : decode cX7_greatest 17 = .ok (.iload_n 3, 1) := by decide +kernel
theorem dX7_greatest_18 : decode cX7_greatest 18 = .ok (.invokevirtual 210, 3) := by decide +kernel
theorem dX7_greatest_21 : decode cX7_greatest 21 = .ok (.iload_n 1, 1) := by decide +kernel
theorem dX7_greatest_22 : decode cX7_greatest 22 = .ok (.if_icmp .ne 17, 3) := by decide +kernel
theorem dX7_greatest_25 : decode cX7_greatest 25 = .ok (.aload_n 0, 1) := by decide +kernel
theorem dX7_greatest_26 : decode cX7_greatest 26 = .ok (.getfield 19, 3) := by decide +kernel
theorem dX7_greatest_29 : decode cX7_greatest 29 = .ok (.iload_n 3, 1) := by decide +kernel
theorem dX7_greatest_30 : decode cX7_greatest 30 = .ok (.invokevirtual 269, 3) := by decide +kernel
theorem dX7_greatest_33 : decode cX7_greatest 33 = .ok (.iload_n 2, 1) := by decide +kernel
theorem dX7_greatest_34 : decode cX7_greatest 34 = .ok (.if_icmp .ne 5, 3) := by decide +kernel
theorem dX7_greatest_37 : decode cX7_greatest 37 = .ok (.iload_n 3, 1) := by decide +kernel
theorem dX7_greatest_38 : decode cX7_greatest 38 = .ok (.ireturn, 1) := by decide +kernel
theorem dX7_greatest_39 : decode cX7_greatest 39 = .ok (.iinc 3 1, 3) := by decide +kernel
theorem dX7_greatest_42 : decode cX7_greatest 42 = .ok (.goto (-40), 3) := by decide +kernel
theorem dX7_greatest_45 : decode cX7_greatest 45 = .ok (.iconst (-1), 1) := by decide +kernel
theorem dX7_greatest_46 : decode cX7_greatest 46 = .ok (.ireturn, 1) := by decide +kernel
theorem dX7_worst_0 : decode cX7_worst 0 = .ok (.iload_n 1, 1) := by decide +kernel
theorem dX7_worst_1 : decode cX7_worst 1 = .ok (.invokestatic 109, 3) := by decide +kernel
theorem dX7_worst_4 : decode cX7_worst 4 = .ok (.ifCond .ne 5, 3) := by decide +kernel
theorem dX7_worst_7 : decode cX7_worst 7 = .ok (.iconst (-1), 1) := by decide +kernel
theorem dX7_worst_8 : decode cX7_worst 8 = .ok (.ireturn, 1) := by decide +kernel
theorem dX7_worst_9 : decode cX7_worst 9 = .ok (.aload_n 0, 1) := by decide +kernel
theorem dX7_worst_10 : decode cX7_worst 10 = .ok (.getfield 36, 3) := by decide +kernel
theorem dX7_worst_13 : decode cX7_worst 13 = .ok (.aload_n 0, 1) := by decide +kernel
theorem dX7_worst_14 : decode cX7_worst 14 = .ok (.getfield 19, 3) := by decide +kernel
theorem dX7_worst_17 : decode cX7_worst 17 = .ok (.invokevirtual 186, 3) := by decide +kernel
theorem dX7_worst_20 : decode cX7_worst 20 = .ok (.bipush (-2), 2) := by decide +kernel
theorem dX7_worst_22 : decode cX7_worst 22 = .ok (.istore_n 2, 1) := by decide +kernel
theorem dX7_worst_23 : decode cX7_worst 23 = .ok (.iconst 0, 1) := by decide +kernel
theorem dX7_worst_24 : decode cX7_worst 24 = .ok (.istore_n 3, 1) := by decide +kernel
theorem dX7_worst_25 : decode cX7_worst 25 = .ok (.iload_n 3, 1) := by decide +kernel
theorem dX7_worst_26 : decode cX7_worst 26 = .ok (.aload_n 0, 1) := by decide +kernel
theorem dX7_worst_27 : decode cX7_worst 27 = .ok (.getfield 19, 3) := by decide +kernel
theorem dX7_worst_30 : decode cX7_worst 30 = .ok (.getfield 80, 3) := by decide +kernel
theorem dX7_worst_33 : decode cX7_worst 33 = .ok (.if_icmp .ge 50, 3) := by decide +kernel
theorem dX7_worst_36 : decode cX7_worst 36 = .ok (.aload_n 0, 1) := by decide +kernel
theorem dX7_worst_37 : decode cX7_worst 37 = .ok (.getfield 19, 3) := by decide +kernel
theorem dX7_worst_40 : decode cX7_worst 40 = .ok (.iload_n 3, 1) := by decide +kernel
theorem dX7_worst_41 : decode cX7_worst 41 = .ok (.iload_n 1, 1) := by decide +kernel
theorem dX7_worst_42 : decode cX7_worst 42 = .ok (.invokevirtual 112, 3) := by decide +kernel
theorem dX7_worst_45 : decode cX7_worst 45 = .ok (.ifCond .eq 32, 3) := by decide +kernel
theorem dX7_worst_48 : decode cX7_worst 48 = .ok (.iload_n 2, 1) := by decide +kernel
theorem dX7_worst_49 : decode cX7_worst 49 = .ok (.bipush (-2), 2) := by decide +kernel
theorem dX7_worst_51 : decode cX7_worst 51 = .ok (.if_icmp .eq 24, 3) := by decide +kernel
theorem dX7_worst_54 : decode cX7_worst 54 = .ok (.aload_n 0, 1) := by decide +kernel
theorem dX7_worst_55 : decode cX7_worst 55 = .ok (.getfield 36, 3) := by decide +kernel
theorem dX7_worst_58 : decode cX7_worst 58 = .ok (.iload_n 3, 1) := by decide +kernel
theorem dX7_worst_59 : decode cX7_worst 59 = .ok (.iload_n 1, 1) := by decide +kernel
theorem dX7_worst_60 : decode cX7_worst 60 = .ok (.invokevirtual 207, 3) := by decide +kernel
theorem dX7_worst_63 : decode cX7_worst 63 = .ok (.aload_n 0, 1) := by decide +kernel
theorem dX7_worst_64 : decode cX7_worst 64 = .ok (.getfield 36, 3) := by decide +kernel
theorem dX7_worst_67 : decode cX7_worst 67 = .ok (.iload_n 2, 1) := by decide +kernel
theorem dX7_worst_68 : decode cX7_worst 68 = .ok (.iload_n 1, 1) := by decide +kernel
theorem dX7_worst_69 : decode cX7_worst 69 = .ok (.invokevirtual 207, 3) := by decide +kernel
theorem dX7_worst_72 : decode cX7_worst 72 = .ok (.if_icmp .le 5, 3) := by decide +kernel
theorem dX7_worst_75 : decode cX7_worst 75 = .ok (.iload_n 3, 1) := by decide +kernel
theorem dX7_worst_76 : decode cX7_worst 76 = .ok (.istore_n 2, 1) := by decide +kernel
theorem dX7_worst_77 : decode cX7_worst 77 = .ok (.iinc 3 1, 3) := by decide +kernel
theorem dX7_worst_80 : decode cX7_worst 80 = .ok (.goto (-55), 3) := by decide +kernel
theorem dX7_worst_83 : decode cX7_worst 83 = .ok (.iload_n 2, 1) := by decide +kernel
theorem dX7_worst_84 : decode cX7_worst 84 = .ok (.ireturn, 1) := by decide +kernel
theorem dX7_dearestOf_0 : decode cX7_dearestOf 0 = .ok (.iload_n 1, 1) := by decide +kernel
theorem dX7_dearestOf_1 : decode cX7_dearestOf 1 = .ok (.invokestatic 84, 3) := by decide +kernel
theorem dX7_dearestOf_4 : decode cX7_dearestOf 4 = .ok (.ifCond .ne 5, 3) := by decide +kernel
theorem dX7_dearestOf_7 : decode cX7_dearestOf 7 = .ok (.iconst (-1), 1) := by decide +kernel
theorem dX7_dearestOf_8 : decode cX7_dearestOf 8 = .ok (.ireturn, 1) := by decide +kernel
theorem dX7_dearestOf_9 : decode cX7_dearestOf 9 = .ok (.aload_n 0, 1) := by decide +kernel
theorem dX7_dearestOf_10 : decode cX7_dearestOf 10 = .ok (.getfield 36, 3) := by decide +kernel
theorem dX7_dearestOf_13 : decode cX7_dearestOf 13 = .ok (.aload_n 0, 1) := by decide +kernel
theorem dX7_dearestOf_14 : decode cX7_dearestOf 14 = .ok (.getfield 19, 3) := by decide +kernel
theorem dX7_dearestOf_17 : decode cX7_dearestOf 17 = .ok (.invokevirtual 186, 3) := by decide +kernel
theorem dX7_dearestOf_20 : decode cX7_dearestOf 20 = .ok (.bipush (-2), 2) := by decide +kernel
theorem dX7_dearestOf_22 : decode cX7_dearestOf 22 = .ok (.istore_n 2, 1) := by decide +kernel
theorem dX7_dearestOf_23 : decode cX7_dearestOf 23 = .ok (.iconst 0, 1) := by decide +kernel
theorem dX7_dearestOf_24 : decode cX7_dearestOf 24 = .ok (.istore_n 3, 1) := by decide +kernel
theorem dX7_dearestOf_25 : decode cX7_dearestOf 25 = .ok (.iload_n 3, 1) := by decide +kernel
theorem dX7_dearestOf_26 : decode cX7_dearestOf 26 = .ok (.aload_n 0, 1) := by decide +kernel
theorem dX7_dearestOf_27 : decode cX7_dearestOf 27 = .ok (.getfield 19, 3) := by decide +kernel
theorem dX7_dearestOf_30 : decode cX7_dearestOf 30 = .ok (.getfield 80, 3) := by decide +kernel
theorem dX7_dearestOf_33 : decode cX7_dearestOf 33 = .ok (.if_icmp .ge 52, 3) := by decide +kernel
theorem dX7_dearestOf_36 : decode cX7_dearestOf 36 = .ok (.aload_n 0, 1) := by decide +kernel
theorem dX7_dearestOf_37 : decode cX7_dearestOf 37 = .ok (.getfield 19, 3) := by decide +kernel
theorem dX7_dearestOf_40 : decode cX7_dearestOf 40 = .ok (.iload_n 3, 1) := by decide +kernel
theorem dX7_dearestOf_41 : decode cX7_dearestOf 41 = .ok (.invokevirtual 101, 3) := by decide +kernel
theorem dX7_dearestOf_44 : decode cX7_dearestOf 44 = .ok (.iload_n 1, 1) := by decide +kernel
theorem dX7_dearestOf_45 : decode cX7_dearestOf 45 = .ok (.if_icmp .ne 34, 3) := by decide +kernel
theorem dX7_dearestOf_48 : decode cX7_dearestOf 48 = .ok (.aload_n 0, 1) := by decide +kernel
theorem dX7_dearestOf_49 : decode cX7_dearestOf 49 = .ok (.getfield 36, 3) := by decide +kernel
theorem dX7_dearestOf_52 : decode cX7_dearestOf 52 = .ok (.iload_n 3, 1) := by decide +kernel
theorem dX7_dearestOf_53 : decode cX7_dearestOf 53 = .ok (.invokevirtual 260, 3) := by decide +kernel
theorem dX7_dearestOf_56 : decode cX7_dearestOf 56 = .ok (.ifCond .eq 23, 3) := by decide +kernel
theorem dX7_dearestOf_59 : decode cX7_dearestOf 59 = .ok (.iload_n 2, 1) := by decide +kernel
theorem dX7_dearestOf_60 : decode cX7_dearestOf 60 = .ok (.bipush (-2), 2) := by decide +kernel
theorem dX7_dearestOf_62 : decode cX7_dearestOf 62 = .ok (.if_icmp .eq 15, 3) := by decide +kernel
theorem dX7_dearestOf_65 : decode cX7_dearestOf 65 = .ok (.aload_n 0, 1) := by decide +kernel
theorem dX7_dearestOf_66 : decode cX7_dearestOf 66 = .ok (.getfield 36, 3) := by decide +kernel
theorem dX7_dearestOf_69 : decode cX7_dearestOf 69 = .ok (.iload_n 3, 1) := by decide +kernel
theorem dX7_dearestOf_70 : decode cX7_dearestOf 70 = .ok (.iload_n 2, 1) := by decide +kernel
theorem dX7_dearestOf_71 : decode cX7_dearestOf 71 = .ok (.invokevirtual 270, 3) := by decide +kernel
theorem dX7_dearestOf_74 : decode cX7_dearestOf 74 = .ok (.ifCond .le 5, 3) := by decide +kernel
theorem dX7_dearestOf_77 : decode cX7_dearestOf 77 = .ok (.iload_n 3, 1) := by decide +kernel
theorem dX7_dearestOf_78 : decode cX7_dearestOf 78 = .ok (.istore_n 2, 1) := by decide +kernel
theorem dX7_dearestOf_79 : decode cX7_dearestOf 79 = .ok (.iinc 3 1, 3) := by decide +kernel
theorem dX7_dearestOf_82 : decode cX7_dearestOf 82 = .ok (.goto (-57), 3) := by decide +kernel
theorem dX7_dearestOf_85 : decode cX7_dearestOf 85 = .ok (.iload_n 2, 1) := by decide +kernel
theorem dX7_dearestOf_86 : decode cX7_dearestOf 86 = .ok (.ireturn, 1) := by decide +kernel
theorem dX7_claimsIn_0 : decode cX7_claimsIn 0 = .ok (.iload_n 1, 1) := by decide +kernel
theorem dX7_claimsIn_1 : decode cX7_claimsIn 1 = .ok (.invokestatic 109, 3) := by decide +kernel
theorem dX7_claimsIn_4 : decode cX7_claimsIn 4 = .ok (.ifCond .eq 14, 3) := by decide +kernel
theorem dX7_claimsIn_7 : decode cX7_claimsIn 7 = .ok (.aload_n 0, 1) := by decide +kernel
theorem dX7_claimsIn_8 : decode cX7_claimsIn 8 = .ok (.getfield 19, 3) := by decide +kernel
theorem dX7_claimsIn_11 : decode cX7_claimsIn 11 = .ok (.iload_n 1, 1) := by decide +kernel
theorem dX7_claimsIn_12 : decode cX7_claimsIn 12 = .ok (.invokevirtual 273, 3) := by decide +kernel
theorem dX7_claimsIn_15 : decode cX7_claimsIn 15 = .ok (.goto 4, 3) := by decide +kernel
theorem dX7_claimsIn_18 : decode cX7_claimsIn 18 = .ok (.iconst (-1), 1) := by decide +kernel
theorem dX7_claimsIn_19 : decode cX7_claimsIn 19 = .ok (.ireturn, 1) := by decide +kernel
theorem dX7_gap_0 : decode cX7_gap 0 = .ok (.aload_n 0, 1) := by decide +kernel
theorem dX7_gap_1 : decode cX7_gap 1 = .ok (.aload_n 0, 1) := by decide +kernel
theorem dX7_gap_2 : decode cX7_gap 2 = .ok (.getfield 19, 3) := by decide +kernel
theorem dX7_gap_5 : decode cX7_gap 5 = .ok (.iload_n 1, 1) := by decide +kernel
theorem dX7_gap_6 : decode cX7_gap 6 = .ok (.invokevirtual 256, 3) := by decide +kernel
theorem dX7_gap_9 : decode cX7_gap 9 = .ok (.istore_n 3, 1) := by decide +kernel
theorem dX7_gap_10 : decode cX7_gap 10 = .ok (.aload_n 0, 1) := by decide +kernel
theorem dX7_gap_11 : decode cX7_gap 11 = .ok (.aload_n 0, 1) := by decide +kernel
theorem dX7_gap_12 : decode cX7_gap 12 = .ok (.getfield 19, 3) := by decide +kernel
theorem dX7_gap_15 : decode cX7_gap 15 = .ok (.iload_n 2, 1) := by decide +kernel
theorem dX7_gap_16 : decode cX7_gap 16 = .ok (.invokevirtual 256, 3) := by decide +kernel
theorem dX7_gap_19 : decode cX7_gap 19 = .ok (.istore 4, 2) := by decide +kernel
theorem dX7_gap_21 : decode cX7_gap 21 = .ok (.iload_n 3, 1) := by decide +kernel
theorem dX7_gap_22 : decode cX7_gap 22 = .ok (.ifCond .lt 8, 3) := by decide +kernel
theorem dX7_gap_25 : decode cX7_gap 25 = .ok (.iload 4, 2) := by decide +kernel
theorem dX7_gap_27 : decode cX7_gap 27 = .ok (.ifCond .ge 9, 3) := by decide +kernel
theorem dX7_gap_30 : decode cX7_gap 30 = .ok (.ldc_w 276, 3) := by decide +kernel
theorem dX7_gap_33 : decode cX7_gap 33 = .ok (.goto 7, 3) := by decide +kernel
theorem dX7_gap_36 : decode cX7_gap 36 = .ok (.iload_n 3, 1) := by decide +kernel
theorem dX7_gap_37 : decode cX7_gap 37 = .ok (.iload 4, 2) := by decide +kernel
theorem dX7_gap_39 : decode cX7_gap 39 = .ok (.isub, 1) := by decide +kernel
theorem dX7_gap_40 : decode cX7_gap 40 = .ok (.ireturn, 1) := by decide +kernel
theorem dX7_premium_0 : decode cX7_premium 0 = .ok (.iload_n 2, 1) := by decide +kernel
theorem dX7_premium_1 : decode cX7_premium 1 = .ok (.iconst 1, 1) := by decide +kernel
theorem dX7_premium_2 : decode cX7_premium 2 = .ok (.if_icmp .lt 9, 3) := by decide +kernel
theorem dX7_premium_5 : decode cX7_premium 5 = .ok (.iload_n 2, 1) := by decide +kernel
theorem dX7_premium_6 : decode cX7_premium 6 = .ok (.bipush 60, 2) := by decide +kernel
theorem dX7_premium_8 : decode cX7_premium 8 = .ok (.if_icmp .le 5, 3) := by decide +kernel
theorem dX7_premium_11 : decode cX7_premium 11 = .ok (.iconst (-1), 1) := by decide +kernel
theorem dX7_premium_12 : decode cX7_premium 12 = .ok (.ireturn, 1) := by decide +kernel
theorem dX7_premium_13 : decode cX7_premium 13 = .ok (.aload_n 0, 1) := by decide +kernel
theorem dX7_premium_14 : decode cX7_premium 14 = .ok (.aload_n 0, 1) := by decide +kernel
theorem dX7_premium_15 : decode cX7_premium 15 = .ok (.getfield 19, 3) := by decide +kernel
theorem dX7_premium_18 : decode cX7_premium 18 = .ok (.iload_n 1, 1) := by decide +kernel
theorem dX7_premium_19 : decode cX7_premium 19 = .ok (.invokevirtual 256, 3) := by decide +kernel
theorem dX7_premium_22 : decode cX7_premium 22 = .ok (.istore_n 3, 1) := by decide +kernel
theorem dX7_premium_23 : decode cX7_premium 23 = .ok (.iload_n 3, 1) := by decide +kernel
theorem dX7_premium_24 : decode cX7_premium 24 = .ok (.ifCond .ge 7, 3) := by decide +kernel
theorem dX7_premium_27 : decode cX7_premium 27 = .ok (.iload_n 3, 1) := by decide +kernel
theorem dX7_premium_28 : decode cX7_premium 28 = .ok (.goto 9, 3) := by decide +kernel
theorem dX7_premium_31 : decode cX7_premium 31 = .ok (.iload_n 3, 1) := by decide +kernel
theorem dX7_premium_32 : decode cX7_premium 32 = .ok (.iload_n 2, 1) := by decide +kernel
theorem dX7_premium_33 : decode cX7_premium 33 = .ok (.imul, 1) := by decide +kernel
theorem dX7_premium_34 : decode cX7_premium 34 = .ok (.bipush 12, 2) := by decide +kernel
theorem dX7_premium_36 : decode cX7_premium 36 = .ok (.idiv, 1) := by decide +kernel
theorem dX7_premium_37 : decode cX7_premium 37 = .ok (.ireturn, 1) := by decide +kernel
theorem dX7_shareBy_0 : decode cX7_shareBy 0 = .ok (.aload_n 0, 1) := by decide +kernel
theorem dX7_shareBy_1 : decode cX7_shareBy 1 = .ok (.getfield 19, 3) := by decide +kernel
theorem dX7_shareBy_4 : decode cX7_shareBy 4 = .ok (.iload_n 1, 1) := by decide +kernel
theorem dX7_shareBy_5 : decode cX7_shareBy 5 = .ok (.invokevirtual 95, 3) := by decide +kernel
theorem dX7_shareBy_8 : decode cX7_shareBy 8 = .ok (.ifCond .eq 14, 3) := by decide +kernel
theorem dX7_shareBy_11 : decode cX7_shareBy 11 = .ok (.iload_n 2, 1) := by decide +kernel
theorem dX7_shareBy_12 : decode cX7_shareBy 12 = .ok (.iconst 1, 1) := by decide +kernel
theorem dX7_shareBy_13 : decode cX7_shareBy 13 = .ok (.if_icmp .lt 9, 3) := by decide +kernel
theorem dX7_shareBy_16 : decode cX7_shareBy 16 = .ok (.iload_n 2, 1) := by decide +kernel
theorem dX7_shareBy_17 : decode cX7_shareBy 17 = .ok (.bipush 99, 2) := by decide +kernel
theorem dX7_shareBy_19 : decode cX7_shareBy 19 = .ok (.if_icmp .le 5, 3) := by decide +kernel
theorem dX7_shareBy_22 : decode cX7_shareBy 22 = .ok (.iconst (-1), 1) := by decide +kernel
theorem dX7_shareBy_23 : decode cX7_shareBy 23 = .ok (.ireturn, 1) := by decide +kernel
theorem dX7_shareBy_24 : decode cX7_shareBy 24 = .ok (.aload_n 0, 1) := by decide +kernel
theorem dX7_shareBy_25 : decode cX7_shareBy 25 = .ok (.getfield 36, 3) := by decide +kernel
theorem dX7_shareBy_28 : decode cX7_shareBy 28 = .ok (.aload_n 0, 1) := by decide +kernel
theorem dX7_shareBy_29 : decode cX7_shareBy 29 = .ok (.getfield 19, 3) := by decide +kernel
theorem dX7_shareBy_32 : decode cX7_shareBy 32 = .ok (.invokevirtual 186, 3) := by decide +kernel
theorem dX7_shareBy_35 : decode cX7_shareBy 35 = .ok (.aload_n 0, 1) := by decide +kernel
theorem dX7_shareBy_36 : decode cX7_shareBy 36 = .ok (.getfield 36, 3) := by decide +kernel
theorem dX7_shareBy_39 : decode cX7_shareBy 39 = .ok (.iload_n 1, 1) := by decide +kernel
theorem dX7_shareBy_40 : decode cX7_shareBy 40 = .ok (.invokevirtual 260, 3) := by decide +kernel
theorem dX7_shareBy_43 : decode cX7_shareBy 43 = .ok (.ifCond .eq 15, 3) := by decide +kernel
theorem dX7_shareBy_46 : decode cX7_shareBy 46 = .ok (.aload_n 0, 1) := by decide +kernel
theorem dX7_shareBy_47 : decode cX7_shareBy 47 = .ok (.getfield 36, 3) := by decide +kernel
theorem dX7_shareBy_50 : decode cX7_shareBy 50 = .ok (.iload_n 1, 1) := by decide +kernel
theorem dX7_shareBy_51 : decode cX7_shareBy 51 = .ok (.iload_n 2, 1) := by decide +kernel
theorem dX7_shareBy_52 : decode cX7_shareBy 52 = .ok (.invokevirtual 277, 3) := by decide +kernel
theorem dX7_shareBy_55 : decode cX7_shareBy 55 = .ok (.goto 5, 3) := by decide +kernel
theorem dX7_shareBy_58 : decode cX7_shareBy 58 = .ok (.bipush (-2), 2) := by decide +kernel
theorem dX7_shareBy_60 : decode cX7_shareBy 60 = .ok (.ireturn, 1) := by decide +kernel
theorem dX7_yearsFor_0 : decode cX7_yearsFor 0 = .ok (.aload_n 0, 1) := by decide +kernel
theorem dX7_yearsFor_1 : decode cX7_yearsFor 1 = .ok (.getfield 19, 3) := by decide +kernel
theorem dX7_yearsFor_4 : decode cX7_yearsFor 4 = .ok (.iload_n 1, 1) := by decide +kernel
theorem dX7_yearsFor_5 : decode cX7_yearsFor 5 = .ok (.invokevirtual 95, 3) := by decide +kernel
theorem dX7_yearsFor_8 : decode cX7_yearsFor 8 = .ok (.ifCond .eq 15, 3) := by decide +kernel
theorem dX7_yearsFor_11 : decode cX7_yearsFor 11 = .ok (.iload_n 2, 1) := by decide +kernel
theorem dX7_yearsFor_12 : decode cX7_yearsFor 12 = .ok (.iconst 1, 1) := by decide +kernel
theorem dX7_yearsFor_13 : decode cX7_yearsFor 13 = .ok (.if_icmp .lt 10, 3) := by decide +kernel
theorem dX7_yearsFor_16 : decode cX7_yearsFor 16 = .ok (.iload_n 2, 1) := by decide +kernel
theorem dX7_yearsFor_17 : decode cX7_yearsFor 17 = .ok (.sipush 1000, 3) := by decide +kernel
theorem dX7_yearsFor_20 : decode cX7_yearsFor 20 = .ok (.if_icmp .le 5, 3) := by decide +kernel
theorem dX7_yearsFor_23 : decode cX7_yearsFor 23 = .ok (.iconst (-1), 1) := by decide +kernel
theorem dX7_yearsFor_24 : decode cX7_yearsFor 24 = .ok (.ireturn, 1) := by decide +kernel
theorem dX7_yearsFor_25 : decode cX7_yearsFor 25 = .ok (.aload_n 0, 1) := by decide +kernel
theorem dX7_yearsFor_26 : decode cX7_yearsFor 26 = .ok (.getfield 36, 3) := by decide +kernel
theorem dX7_yearsFor_29 : decode cX7_yearsFor 29 = .ok (.aload_n 0, 1) := by decide +kernel
theorem dX7_yearsFor_30 : decode cX7_yearsFor 30 = .ok (.getfield 19, 3) := by decide +kernel
theorem dX7_yearsFor_33 : decode cX7_yearsFor 33 = .ok (.invokevirtual 186, 3) := by decide +kernel
theorem dX7_yearsFor_36 : decode cX7_yearsFor 36 = .ok (.aload_n 0, 1) := by decide +kernel
theorem dX7_yearsFor_37 : decode cX7_yearsFor 37 = .ok (.getfield 36, 3) := by decide +kernel
theorem dX7_yearsFor_40 : decode cX7_yearsFor 40 = .ok (.iload_n 1, 1) := by decide +kernel
theorem dX7_yearsFor_41 : decode cX7_yearsFor 41 = .ok (.invokevirtual 260, 3) := by decide +kernel
theorem dX7_yearsFor_44 : decode cX7_yearsFor 44 = .ok (.ifCond .ne 6, 3) := by decide +kernel
theorem dX7_yearsFor_47 : decode cX7_yearsFor 47 = .ok (.bipush (-2), 2) := by decide +kernel
theorem dX7_yearsFor_49 : decode cX7_yearsFor 49 = .ok (.ireturn, 1) := by decide +kernel
theorem dX7_yearsFor_50 : decode cX7_yearsFor 50 = .ok (.iconst 1, 1) := by decide +kernel
theorem dX7_yearsFor_51 : decode cX7_yearsFor 51 = .ok (.istore_n 3, 1) := by decide +kernel
theorem dX7_yearsFor_52 : decode cX7_yearsFor 52 = .ok (.iload_n 3, 1) := by decide +kernel
theorem dX7_yearsFor_53 : decode cX7_yearsFor 53 = .ok (.bipush 99, 2) := by decide +kernel
theorem dX7_yearsFor_55 : decode cX7_yearsFor 55 = .ok (.if_icmp .gt 24, 3) := by decide +kernel
theorem dX7_yearsFor_58 : decode cX7_yearsFor 58 = .ok (.aload_n 0, 1) := by decide +kernel
theorem dX7_yearsFor_59 : decode cX7_yearsFor 59 = .ok (.getfield 36, 3) := by decide +kernel
theorem dX7_yearsFor_62 : decode cX7_yearsFor 62 = .ok (.iload_n 1, 1) := by decide +kernel
theorem dX7_yearsFor_63 : decode cX7_yearsFor 63 = .ok (.iload_n 3, 1) := by decide +kernel
theorem dX7_yearsFor_64 : decode cX7_yearsFor 64 = .ok (.invokevirtual 277, 3) := by decide +kernel
theorem dX7_yearsFor_67 : decode cX7_yearsFor 67 = .ok (.iload_n 2, 1) := by decide +kernel
theorem dX7_yearsFor_68 : decode cX7_yearsFor 68 = .ok (.if_icmp .lt 5, 3) := by decide +kernel
theorem dX7_yearsFor_71 : decode cX7_yearsFor 71 = .ok (.iload_n 3, 1) := by decide +kernel
theorem dX7_yearsFor_72 : decode cX7_yearsFor 72 = .ok (.ireturn, 1) := by decide +kernel
theorem dX7_yearsFor_73 : decode cX7_yearsFor 73 = .ok (.iinc 3 1, 3) := by decide +kernel
theorem dX7_yearsFor_76 : decode cX7_yearsFor 76 = .ok (.goto (-24), 3) := by decide +kernel
theorem dX7_yearsFor_79 : decode cX7_yearsFor 79 = .ok (.bipush (-2), 2) := by decide +kernel
theorem dX7_yearsFor_81 : decode cX7_yearsFor 81 = .ok (.ireturn, 1) := by decide +kernel
theorem dX7_inClass_0 : decode cX7_inClass 0 = .ok (.aload_n 0, 1) := by decide +kernel
theorem dX7_inClass_1 : decode cX7_inClass 1 = .ok (.getfield 19, 3) := by decide +kernel
theorem dX7_inClass_4 : decode cX7_inClass 4 = .ok (.iload_n 1, 1) := by decide +kernel
theorem dX7_inClass_5 : decode cX7_inClass 5 = .ok (.invokevirtual 95, 3) := by decide +kernel
theorem dX7_inClass_8 : decode cX7_inClass 8 = .ok (.ifCond .eq 10, 3) := by decide +kernel
theorem dX7_inClass_11 : decode cX7_inClass 11 = .ok (.iload_n 2, 1) := by decide +kernel
theorem dX7_inClass_12 : decode cX7_inClass 12 = .ok (.invokestatic 84, 3) := by decide +kernel
theorem dX7_inClass_15 : decode cX7_inClass 15 = .ok (.ifCond .ne 5, 3) := by decide +kernel
theorem dX7_inClass_18 : decode cX7_inClass 18 = .ok (.iconst (-1), 1) := by decide +kernel
theorem dX7_inClass_19 : decode cX7_inClass 19 = .ok (.ireturn, 1) := by decide +kernel
theorem dX7_inClass_20 : decode cX7_inClass 20 = .ok (.aload_n 0, 1) := by decide +kernel
theorem dX7_inClass_21 : decode cX7_inClass 21 = .ok (.getfield 23, 3) := by decide +kernel
theorem dX7_inClass_24 : decode cX7_inClass 24 = .ok (.aload_n 0, 1) := by decide +kernel
theorem dX7_inClass_25 : decode cX7_inClass 25 = .ok (.getfield 19, 3) := by decide +kernel
theorem dX7_inClass_28 : decode cX7_inClass 28 = .ok (.invokevirtual 73, 3) := by decide +kernel
theorem dX7_inClass_31 : decode cX7_inClass 31 = .ok (.aload_n 0, 1) := by decide +kernel
theorem dX7_inClass_32 : decode cX7_inClass 32 = .ok (.getfield 23, 3) := by decide +kernel
theorem dX7_inClass_35 : decode cX7_inClass 35 = .ok (.iload_n 1, 1) := by decide +kernel
theorem dX7_inClass_36 : decode cX7_inClass 36 = .ok (.iload_n 2, 1) := by decide +kernel
theorem dX7_inClass_37 : decode cX7_inClass 37 = .ok (.invokevirtual 105, 3) := by decide +kernel
theorem dX7_inClass_40 : decode cX7_inClass 40 = .ok (.aload_n 0, 1) := by decide +kernel
theorem dX7_inClass_41 : decode cX7_inClass 41 = .ok (.aload_n 0, 1) := by decide +kernel
theorem dX7_inClass_42 : decode cX7_inClass 42 = .ok (.getfield 23, 3) := by decide +kernel
theorem dX7_inClass_45 : decode cX7_inClass 45 = .ok (.iload_n 1, 1) := by decide +kernel
theorem dX7_inClass_46 : decode cX7_inClass 46 = .ok (.invokevirtual 256, 3) := by decide +kernel
theorem dX7_inClass_49 : decode cX7_inClass 49 = .ok (.ireturn, 1) := by decide +kernel
theorem dX7_bestClass_0 : decode cX7_bestClass 0 = .ok (.aload_n 0, 1) := by decide +kernel
theorem dX7_bestClass_1 : decode cX7_bestClass 1 = .ok (.iload_n 1, 1) := by decide +kernel
theorem dX7_bestClass_2 : decode cX7_bestClass 2 = .ok (.iconst 0, 1) := by decide +kernel
theorem dX7_bestClass_3 : decode cX7_bestClass 3 = .ok (.invokevirtual 280, 3) := by decide +kernel
theorem dX7_bestClass_6 : decode cX7_bestClass 6 = .ok (.istore_n 2, 1) := by decide +kernel
theorem dX7_bestClass_7 : decode cX7_bestClass 7 = .ok (.iload_n 2, 1) := by decide +kernel
theorem dX7_bestClass_8 : decode cX7_bestClass 8 = .ok (.ifCond .ge 5, 3) := by decide +kernel
theorem dX7_bestClass_11 : decode cX7_bestClass 11 = .ok (.iload_n 2, 1) := by decide +kernel
theorem dX7_bestClass_12 : decode cX7_bestClass 12 = .ok (.ireturn, 1) := by decide +kernel
theorem dX7_bestClass_13 : decode cX7_bestClass 13 = .ok (.iconst 0, 1) := by decide +kernel
theorem dX7_bestClass_14 : decode cX7_bestClass 14 = .ok (.istore_n 3, 1) := by decide +kernel
theorem dX7_bestClass_15 : decode cX7_bestClass 15 = .ok (.iconst 1, 1) := by decide +kernel
theorem dX7_bestClass_16 : decode cX7_bestClass 16 = .ok (.istore 4, 2) := by decide +kernel
theorem dX7_bestClass_18 : decode cX7_bestClass 18 = .ok (.iload 4, 2) := by decide +kernel
theorem dX7_bestClass_20 : decode cX7_bestClass 20 = .ok (.iconst 3, 1) := by decide +kernel
theorem dX7_bestClass_21 : decode cX7_bestClass 21 = .ok (.if_icmp .ge 30, 3) := by decide +kernel
theorem dX7_bestClass_24 : decode cX7_bestClass 24 = .ok (.aload_n 0, 1) := by decide +kernel
theorem dX7_bestClass_25 : decode cX7_bestClass 25 = .ok (.iload_n 1, 1) := by decide +kernel
theorem dX7_bestClass_26 : decode cX7_bestClass 26 = .ok (.iload 4, 2) := by decide +kernel
theorem dX7_bestClass_28 : decode cX7_bestClass 28 = .ok (.invokevirtual 280, 3) := by decide +kernel
theorem dX7_bestClass_31 : decode cX7_bestClass 31 = .ok (.istore 5, 2) := by decide +kernel
theorem dX7_bestClass_33 : decode cX7_bestClass 33 = .ok (.iload 5, 2) := by decide +kernel
theorem dX7_bestClass_35 : decode cX7_bestClass 35 = .ok (.iload_n 2, 1) := by decide +kernel
theorem dX7_bestClass_36 : decode cX7_bestClass 36 = .ok (.if_icmp .ge 9, 3) := by decide +kernel
theorem dX7_bestClass_39 : decode cX7_bestClass 39 = .ok (.iload 5, 2) := by decide +kernel
theorem dX7_bestClass_41 : decode cX7_bestClass 41 = .ok (.istore_n 2, 1) := by decide +kernel
theorem dX7_bestClass_42 : decode cX7_bestClass 42 = .ok (.iload 4, 2) := by decide +kernel
theorem dX7_bestClass_44 : decode cX7_bestClass 44 = .ok (.istore_n 3, 1) := by decide +kernel
theorem dX7_bestClass_45 : decode cX7_bestClass 45 = .ok (.iinc 4 1, 3) := by decide +kernel
theorem dX7_bestClass_48 : decode cX7_bestClass 48 = .ok (.goto (-30), 3) := by decide +kernel
theorem dX7_bestClass_51 : decode cX7_bestClass 51 = .ok (.iload_n 3, 1) := by decide +kernel
theorem dX7_bestClass_52 : decode cX7_bestClass 52 = .ok (.ireturn, 1) := by decide +kernel
theorem dX7_byCap_0 : decode cX7_byCap 0 = .ok (.aload_n 0, 1) := by decide +kernel
theorem dX7_byCap_1 : decode cX7_byCap 1 = .ok (.getfield 19, 3) := by decide +kernel
theorem dX7_byCap_4 : decode cX7_byCap 4 = .ok (.iload_n 1, 1) := by decide +kernel
theorem dX7_byCap_5 : decode cX7_byCap 5 = .ok (.invokevirtual 95, 3) := by decide +kernel
theorem dX7_byCap_8 : decode cX7_byCap 8 = .ok (.ifCond .eq 10, 3) := by decide +kernel
theorem dX7_byCap_11 : decode cX7_byCap 11 = .ok (.iload_n 2, 1) := by decide +kernel
theorem dX7_byCap_12 : decode cX7_byCap 12 = .ok (.invokestatic 136, 3) := by decide +kernel
theorem dX7_byCap_15 : decode cX7_byCap 15 = .ok (.ifCond .ne 5, 3) := by decide +kernel
theorem dX7_byCap_18 : decode cX7_byCap 18 = .ok (.iconst (-1), 1) := by decide +kernel
theorem dX7_byCap_19 : decode cX7_byCap 19 = .ok (.ireturn, 1) := by decide +kernel
theorem dX7_byCap_20 : decode cX7_byCap 20 = .ok (.aload_n 0, 1) := by decide +kernel
theorem dX7_byCap_21 : decode cX7_byCap 21 = .ok (.getfield 23, 3) := by decide +kernel
theorem dX7_byCap_24 : decode cX7_byCap 24 = .ok (.aload_n 0, 1) := by decide +kernel
theorem dX7_byCap_25 : decode cX7_byCap 25 = .ok (.getfield 19, 3) := by decide +kernel
theorem dX7_byCap_28 : decode cX7_byCap 28 = .ok (.invokevirtual 73, 3) := by decide +kernel
theorem dX7_byCap_31 : decode cX7_byCap 31 = .ok (.aload_n 0, 1) := by decide +kernel
theorem dX7_byCap_32 : decode cX7_byCap 32 = .ok (.getfield 23, 3) := by decide +kernel
theorem dX7_byCap_35 : decode cX7_byCap 35 = .ok (.iload_n 2, 1) := by decide +kernel
theorem dX7_byCap_36 : decode cX7_byCap 36 = .ok (.putfield 176, 3) := by decide +kernel
theorem dX7_byCap_39 : decode cX7_byCap 39 = .ok (.aload_n 0, 1) := by decide +kernel
theorem dX7_byCap_40 : decode cX7_byCap 40 = .ok (.aload_n 0, 1) := by decide +kernel
theorem dX7_byCap_41 : decode cX7_byCap 41 = .ok (.getfield 23, 3) := by decide +kernel
theorem dX7_byCap_44 : decode cX7_byCap 44 = .ok (.iload_n 1, 1) := by decide +kernel
theorem dX7_byCap_45 : decode cX7_byCap 45 = .ok (.invokevirtual 256, 3) := by decide +kernel
theorem dX7_byCap_48 : decode cX7_byCap 48 = .ok (.ireturn, 1) := by decide +kernel
theorem dX7_capFor_0 : decode cX7_capFor 0 = .ok (.aload_n 0, 1) := by decide +kernel
theorem dX7_capFor_1 : decode cX7_capFor 1 = .ok (.iload_n 1, 1) := by decide +kernel
theorem dX7_capFor_2 : decode cX7_capFor 2 = .ok (.bipush 99, 2) := by decide +kernel
theorem dX7_capFor_4 : decode cX7_capFor 4 = .ok (.invokevirtual 283, 3) := by decide +kernel
theorem dX7_capFor_7 : decode cX7_capFor 7 = .ok (.istore_n 2, 1) := by decide +kernel
theorem dX7_capFor_8 : decode cX7_capFor 8 = .ok (.iload_n 2, 1) := by decide +kernel
theorem dX7_capFor_9 : decode cX7_capFor 9 = .ok (.ifCond .ge 5, 3) := by decide +kernel
theorem dX7_capFor_12 : decode cX7_capFor 12 = .ok (.iload_n 2, 1) := by decide +kernel
theorem dX7_capFor_13 : decode cX7_capFor 13 = .ok (.ireturn, 1) := by decide +kernel
theorem dX7_capFor_14 : decode cX7_capFor 14 = .ok (.iconst 1, 1) := by decide +kernel
theorem dX7_capFor_15 : decode cX7_capFor 15 = .ok (.istore_n 3, 1) := by decide +kernel
theorem dX7_capFor_16 : decode cX7_capFor 16 = .ok (.iload_n 3, 1) := by decide +kernel
theorem dX7_capFor_17 : decode cX7_capFor 17 = .ok (.bipush 99, 2) := by decide +kernel
theorem dX7_capFor_19 : decode cX7_capFor 19 = .ok (.if_icmp .ge 21, 3) := by decide +kernel
theorem dX7_capFor_22 : decode cX7_capFor 22 = .ok (.aload_n 0, 1) := by decide +kernel
theorem dX7_capFor_23 : decode cX7_capFor 23 = .ok (.iload_n 1, 1) := by decide +kernel
theorem dX7_capFor_24 : decode cX7_capFor 24 = .ok (.iload_n 3, 1) := by decide +kernel
theorem dX7_capFor_25 : decode cX7_capFor 25 = .ok (.invokevirtual 283, 3) := by decide +kernel
theorem dX7_capFor_28 : decode cX7_capFor 28 = .ok (.iload_n 2, 1) := by decide +kernel
theorem dX7_capFor_29 : decode cX7_capFor 29 = .ok (.if_icmp .ne 5, 3) := by decide +kernel
theorem dX7_capFor_32 : decode cX7_capFor 32 = .ok (.iload_n 3, 1) := by decide +kernel
theorem dX7_capFor_33 : decode cX7_capFor 33 = .ok (.ireturn, 1) := by decide +kernel
theorem dX7_capFor_34 : decode cX7_capFor 34 = .ok (.iinc 3 1, 3) := by decide +kernel
theorem dX7_capFor_37 : decode cX7_capFor 37 = .ok (.goto (-21), 3) := by decide +kernel
theorem dX7_capFor_40 : decode cX7_capFor 40 = .ok (.bipush 99, 2) := by decide +kernel
theorem dX7_capFor_42 : decode cX7_capFor 42 = .ok (.ireturn, 1) := by decide +kernel
theorem dX7_early_0 : decode cX7_early 0 = .ok (.aload_n 0, 1) := by decide +kernel
theorem dX7_early_1 : decode cX7_early 1 = .ok (.getfield 19, 3) := by decide +kernel
theorem dX7_early_4 : decode cX7_early 4 = .ok (.iload_n 1, 1) := by decide +kernel
theorem dX7_early_5 : decode cX7_early 5 = .ok (.invokevirtual 95, 3) := by decide +kernel
theorem dX7_early_8 : decode cX7_early 8 = .ok (.ifCond .eq 13, 3) := by decide +kernel
theorem dX7_early_11 : decode cX7_early 11 = .ok (.iload_n 2, 1) := by decide +kernel
theorem dX7_early_12 : decode cX7_early 12 = .ok (.iconst 1, 1) := by decide +kernel
theorem dX7_early_13 : decode cX7_early 13 = .ok (.if_icmp .lt 8, 3) := by decide +kernel
theorem dX7_early_16 : decode cX7_early 16 = .ok (.iload_n 2, 1) := by decide +kernel
theorem dX7_early_17 : decode cX7_early 17 = .ok (.iconst 5, 1) := by decide +kernel
theorem dX7_early_18 : decode cX7_early 18 = .ok (.if_icmp .le 5, 3) := by decide +kernel
theorem dX7_early_21 : decode cX7_early 21 = .ok (.iconst (-1), 1) := by decide +kernel
theorem dX7_early_22 : decode cX7_early 22 = .ok (.ireturn, 1) := by decide +kernel
theorem dX7_early_23 : decode cX7_early 23 = .ok (.aload_n 0, 1) := by decide +kernel
theorem dX7_early_24 : decode cX7_early 24 = .ok (.iload_n 2, 1) := by decide +kernel
theorem dX7_early_25 : decode cX7_early 25 = .ok (.invokevirtual 286, 3) := by decide +kernel
theorem dX7_early_28 : decode cX7_early 28 = .ok (.aload_n 0, 1) := by decide +kernel
theorem dX7_early_29 : decode cX7_early 29 = .ok (.aload_n 0, 1) := by decide +kernel
theorem dX7_early_30 : decode cX7_early 30 = .ok (.getfield 23, 3) := by decide +kernel
theorem dX7_early_33 : decode cX7_early 33 = .ok (.iload_n 1, 1) := by decide +kernel
theorem dX7_early_34 : decode cX7_early 34 = .ok (.invokevirtual 256, 3) := by decide +kernel
theorem dX7_early_37 : decode cX7_early 37 = .ok (.ireturn, 1) := by decide +kernel
theorem dX7_earlyShare_0 : decode cX7_earlyShare 0 = .ok (.aload_n 0, 1) := by decide +kernel
theorem dX7_earlyShare_1 : decode cX7_earlyShare 1 = .ok (.getfield 19, 3) := by decide +kernel
theorem dX7_earlyShare_4 : decode cX7_earlyShare 4 = .ok (.iload_n 1, 1) := by decide +kernel
theorem dX7_earlyShare_5 : decode cX7_earlyShare 5 = .ok (.invokevirtual 95, 3) := by decide +kernel
theorem dX7_earlyShare_8 : decode cX7_earlyShare 8 = .ok (.ifCond .eq 13, 3) := by decide +kernel
theorem dX7_earlyShare_11 : decode cX7_earlyShare 11 = .ok (.iload_n 2, 1) := by decide +kernel
theorem dX7_earlyShare_12 : decode cX7_earlyShare 12 = .ok (.iconst 1, 1) := by decide +kernel
theorem dX7_earlyShare_13 : decode cX7_earlyShare 13 = .ok (.if_icmp .lt 8, 3) := by decide +kernel
theorem dX7_earlyShare_16 : decode cX7_earlyShare 16 = .ok (.iload_n 2, 1) := by decide +kernel
theorem dX7_earlyShare_17 : decode cX7_earlyShare 17 = .ok (.iconst 5, 1) := by decide +kernel
theorem dX7_earlyShare_18 : decode cX7_earlyShare 18 = .ok (.if_icmp .le 5, 3) := by decide +kernel
theorem dX7_earlyShare_21 : decode cX7_earlyShare 21 = .ok (.iconst (-1), 1) := by decide +kernel
theorem dX7_earlyShare_22 : decode cX7_earlyShare 22 = .ok (.ireturn, 1) := by decide +kernel
theorem dX7_earlyShare_23 : decode cX7_earlyShare 23 = .ok (.aload_n 0, 1) := by decide +kernel
theorem dX7_earlyShare_24 : decode cX7_earlyShare 24 = .ok (.iload_n 2, 1) := by decide +kernel
theorem dX7_earlyShare_25 : decode cX7_earlyShare 25 = .ok (.invokevirtual 286, 3) := by decide +kernel
theorem dX7_earlyShare_28 : decode cX7_earlyShare 28 = .ok (.aload_n 0, 1) := by decide +kernel
theorem dX7_earlyShare_29 : decode cX7_earlyShare 29 = .ok (.getfield 36, 3) := by decide +kernel
theorem dX7_earlyShare_32 : decode cX7_earlyShare 32 = .ok (.aload_n 0, 1) := by decide +kernel
theorem dX7_earlyShare_33 : decode cX7_earlyShare 33 = .ok (.getfield 23, 3) := by decide +kernel
theorem dX7_earlyShare_36 : decode cX7_earlyShare 36 = .ok (.invokevirtual 186, 3) := by decide +kernel
theorem dX7_earlyShare_39 : decode cX7_earlyShare 39 = .ok (.aload_n 0, 1) := by decide +kernel
theorem dX7_earlyShare_40 : decode cX7_earlyShare 40 = .ok (.getfield 36, 3) := by decide +kernel
theorem dX7_earlyShare_43 : decode cX7_earlyShare 43 = .ok (.iload_n 1, 1) := by decide +kernel
theorem dX7_earlyShare_44 : decode cX7_earlyShare 44 = .ok (.invokevirtual 204, 3) := by decide +kernel
theorem dX7_earlyShare_47 : decode cX7_earlyShare 47 = .ok (.ireturn, 1) := by decide +kernel
theorem dX7_withoutFleet_0 : decode cX7_withoutFleet 0 = .ok (.aload_n 0, 1) := by decide +kernel
theorem dX7_withoutFleet_1 : decode cX7_withoutFleet 1 = .ok (.getfield 19, 3) := by decide +kernel
theorem dX7_withoutFleet_4 : decode cX7_withoutFleet 4 = .ok (.iload_n 1, 1) := by decide +kernel
theorem dX7_withoutFleet_5 : decode cX7_withoutFleet 5 = .ok (.invokevirtual 95, 3) := by decide +kernel
theorem dX7_withoutFleet_8 : decode cX7_withoutFleet 8 = .ok (.ifCond .eq 19, 3) := by decide +kernel
theorem dX7_withoutFleet_11 : decode cX7_withoutFleet 11 = .ok (.aload_n 0, 1) := by decide +kernel
theorem dX7_withoutFleet_12 : decode cX7_withoutFleet 12 = .ok (.getfield 19, 3) := by decide +kernel
theorem dX7_withoutFleet_15 : decode cX7_withoutFleet 15 = .ok (.iload_n 2, 1) := by decide +kernel
theorem dX7_withoutFleet_16 : decode cX7_withoutFleet 16 = .ok (.invokevirtual 95, 3) := by decide +kernel
theorem dX7_withoutFleet_19 : decode cX7_withoutFleet 19 = .ok (.ifCond .eq 8, 3) := by decide +kernel
theorem dX7_withoutFleet_22 : decode cX7_withoutFleet 22 = .ok (.iload_n 1, 1) := by decide +kernel
theorem dX7_withoutFleet_23 : decode cX7_withoutFleet 23 = .ok (.iload_n 2, 1) := by decide +kernel
theorem dX7_withoutFleet_24 : decode cX7_withoutFleet 24 = .ok (.if_icmp .ne 5, 3) := by decide +kernel
theorem dX7_withoutFleet_27 : decode cX7_withoutFleet 27 = .ok (.iconst (-1), 1) := by decide +kernel
theorem dX7_withoutFleet_28 : decode cX7_withoutFleet 28 = .ok (.ireturn, 1) := by decide +kernel
theorem dX7_withoutFleet_29 : decode cX7_withoutFleet 29 = .ok (.aload_n 0, 1) := by decide +kernel
theorem dX7_withoutFleet_30 : decode cX7_withoutFleet 30 = .ok (.getfield 23, 3) := by decide +kernel
theorem dX7_withoutFleet_33 : decode cX7_withoutFleet 33 = .ok (.aload_n 0, 1) := by decide +kernel
theorem dX7_withoutFleet_34 : decode cX7_withoutFleet 34 = .ok (.getfield 19, 3) := by decide +kernel
theorem dX7_withoutFleet_37 : decode cX7_withoutFleet 37 = .ok (.invokevirtual 73, 3) := by decide +kernel
theorem dX7_withoutFleet_40 : decode cX7_withoutFleet 40 = .ok (.aload_n 0, 1) := by decide +kernel
theorem dX7_withoutFleet_41 : decode cX7_withoutFleet 41 = .ok (.getfield 23, 3) := by decide +kernel
theorem dX7_withoutFleet_44 : decode cX7_withoutFleet 44 = .ok (.iload_n 2, 1) := by decide +kernel
theorem dX7_withoutFleet_45 : decode cX7_withoutFleet 45 = .ok (.invokevirtual 98, 3) := by decide +kernel
theorem dX7_withoutFleet_48 : decode cX7_withoutFleet 48 = .ok (.aload_n 0, 1) := by decide +kernel
theorem dX7_withoutFleet_49 : decode cX7_withoutFleet 49 = .ok (.aload_n 0, 1) := by decide +kernel
theorem dX7_withoutFleet_50 : decode cX7_withoutFleet 50 = .ok (.getfield 23, 3) := by decide +kernel
theorem dX7_withoutFleet_53 : decode cX7_withoutFleet 53 = .ok (.iload_n 1, 1) := by decide +kernel
theorem dX7_withoutFleet_54 : decode cX7_withoutFleet 54 = .ok (.iload_n 2, 1) := by decide +kernel
theorem dX7_withoutFleet_55 : decode cX7_withoutFleet 55 = .ok (.if_icmp .le 9, 3) := by decide +kernel
theorem dX7_withoutFleet_58 : decode cX7_withoutFleet 58 = .ok (.iload_n 1, 1) := by decide +kernel
theorem dX7_withoutFleet_59 : decode cX7_withoutFleet 59 = .ok (.iconst 1, 1) := by decide +kernel
theorem dX7_withoutFleet_60 : decode cX7_withoutFleet 60 = .ok (.isub, 1) := by decide +kernel
theorem dX7_withoutFleet_61 : decode cX7_withoutFleet 61 = .ok (.goto 4, 3) := by decide +kernel
theorem dX7_withoutFleet_64 : decode cX7_withoutFleet 64 = .ok (.iload_n 1, 1) := by decide +kernel
theorem dX7_withoutFleet_65 : decode cX7_withoutFleet 65 = .ok (.invokevirtual 256, 3) := by decide +kernel
theorem dX7_withoutFleet_68 : decode cX7_withoutFleet 68 = .ok (.ireturn, 1) := by decide +kernel
theorem dX7_joined_0 : decode cX7_joined 0 = .ok (.iload_n 1, 1) := by decide +kernel
theorem dX7_joined_1 : decode cX7_joined 1 = .ok (.invokestatic 84, 3) := by decide +kernel
theorem dX7_joined_4 : decode cX7_joined 4 = .ok (.ifCond .eq 15, 3) := by decide +kernel
theorem dX7_joined_7 : decode cX7_joined 7 = .ok (.iload_n 2, 1) := by decide +kernel
theorem dX7_joined_8 : decode cX7_joined 8 = .ok (.invokestatic 84, 3) := by decide +kernel
theorem dX7_joined_11 : decode cX7_joined 11 = .ok (.ifCond .eq 8, 3) := by decide +kernel
theorem dX7_joined_14 : decode cX7_joined 14 = .ok (.iload_n 1, 1) := by decide +kernel
theorem dX7_joined_15 : decode cX7_joined 15 = .ok (.iload_n 2, 1) := by decide +kernel
theorem dX7_joined_16 : decode cX7_joined 16 = .ok (.if_icmp .ne 7, 3) := by decide +kernel
theorem dX7_joined_19 : decode cX7_joined 19 = .ok (.ldc2_w 242, 3) := by decide +kernel
theorem dX7_joined_22 : decode cX7_joined 22 = .ok (.lreturn, 1) := by decide +kernel
theorem dX7_joined_23 : decode cX7_joined 23 = .ok (.aload_n 0, 1) := by decide +kernel
theorem dX7_joined_24 : decode cX7_joined 24 = .ok (.getfield 23, 3) := by decide +kernel
theorem dX7_joined_27 : decode cX7_joined 27 = .ok (.aload_n 0, 1) := by decide +kernel
theorem dX7_joined_28 : decode cX7_joined 28 = .ok (.getfield 19, 3) := by decide +kernel
theorem dX7_joined_31 : decode cX7_joined 31 = .ok (.invokevirtual 73, 3) := by decide +kernel
theorem dX7_joined_34 : decode cX7_joined 34 = .ok (.aload_n 0, 1) := by decide +kernel
theorem dX7_joined_35 : decode cX7_joined 35 = .ok (.getfield 23, 3) := by decide +kernel
theorem dX7_joined_38 : decode cX7_joined 38 = .ok (.iload_n 1, 1) := by decide +kernel
theorem dX7_joined_39 : decode cX7_joined 39 = .ok (.iload_n 2, 1) := by decide +kernel
theorem dX7_joined_40 : decode cX7_joined 40 = .ok (.invokevirtual 161, 3) := by decide +kernel
theorem dX7_joined_43 : decode cX7_joined 43 = .ok (.pop, 1) := by decide +kernel
theorem dX7_joined_44 : decode cX7_joined 44 = .ok (.aload_n 0, 1) := by decide +kernel
theorem dX7_joined_45 : decode cX7_joined 45 = .ok (.aload_n 0, 1) := by decide +kernel
theorem dX7_joined_46 : decode cX7_joined 46 = .ok (.getfield 23, 3) := by decide +kernel
theorem dX7_joined_49 : decode cX7_joined 49 = .ok (.iload_n 2, 1) := by decide +kernel
theorem dX7_joined_50 : decode cX7_joined 50 = .ok (.iload_n 3, 1) := by decide +kernel
theorem dX7_joined_51 : decode cX7_joined 51 = .ok (.iload 4, 2) := by decide +kernel
theorem dX7_joined_53 : decode cX7_joined 53 = .ok (.invokevirtual 238, 3) := by decide +kernel
theorem dX7_joined_56 : decode cX7_joined 56 = .ok (.lreturn, 1) := by decide +kernel
theorem dX7_withoutClaim_0 : decode cX7_withoutClaim 0 = .ok (.aload_n 0, 1) := by decide +kernel
theorem dX7_withoutClaim_1 : decode cX7_withoutClaim 1 = .ok (.getfield 19, 3) := by decide +kernel
theorem dX7_withoutClaim_4 : decode cX7_withoutClaim 4 = .ok (.iload_n 1, 1) := by decide +kernel
theorem dX7_withoutClaim_5 : decode cX7_withoutClaim 5 = .ok (.invokevirtual 95, 3) := by decide +kernel
theorem dX7_withoutClaim_8 : decode cX7_withoutClaim 8 = .ok (.ifCond .eq 14, 3) := by decide +kernel
theorem dX7_withoutClaim_11 : decode cX7_withoutClaim 11 = .ok (.aload_n 0, 1) := by decide +kernel
theorem dX7_withoutClaim_12 : decode cX7_withoutClaim 12 = .ok (.getfield 19, 3) := by decide +kernel
theorem dX7_withoutClaim_15 : decode cX7_withoutClaim 15 = .ok (.iload_n 2, 1) := by decide +kernel
theorem dX7_withoutClaim_16 : decode cX7_withoutClaim 16 = .ok (.invokevirtual 146, 3) := by decide +kernel
theorem dX7_withoutClaim_19 : decode cX7_withoutClaim 19 = .ok (.ifCond .ne 5, 3) := by decide +kernel
theorem dX7_withoutClaim_22 : decode cX7_withoutClaim 22 = .ok (.iconst (-1), 1) := by decide +kernel
theorem dX7_withoutClaim_23 : decode cX7_withoutClaim 23 = .ok (.ireturn, 1) := by decide +kernel
theorem dX7_withoutClaim_24 : decode cX7_withoutClaim 24 = .ok (.aload_n 0, 1) := by decide +kernel
theorem dX7_withoutClaim_25 : decode cX7_withoutClaim 25 = .ok (.getfield 23, 3) := by decide +kernel
theorem dX7_withoutClaim_28 : decode cX7_withoutClaim 28 = .ok (.aload_n 0, 1) := by decide +kernel
theorem dX7_withoutClaim_29 : decode cX7_withoutClaim 29 = .ok (.getfield 19, 3) := by decide +kernel
theorem dX7_withoutClaim_32 : decode cX7_withoutClaim 32 = .ok (.invokevirtual 73, 3) := by decide +kernel
theorem dX7_withoutClaim_35 : decode cX7_withoutClaim 35 = .ok (.aload_n 0, 1) := by decide +kernel
theorem dX7_withoutClaim_36 : decode cX7_withoutClaim 36 = .ok (.getfield 23, 3) := by decide +kernel
theorem dX7_withoutClaim_39 : decode cX7_withoutClaim 39 = .ok (.iload_n 2, 1) := by decide +kernel
theorem dX7_withoutClaim_40 : decode cX7_withoutClaim 40 = .ok (.invokevirtual 149, 3) := by decide +kernel
theorem dX7_withoutClaim_43 : decode cX7_withoutClaim 43 = .ok (.aload_n 0, 1) := by decide +kernel
theorem dX7_withoutClaim_44 : decode cX7_withoutClaim 44 = .ok (.aload_n 0, 1) := by decide +kernel
theorem dX7_withoutClaim_45 : decode cX7_withoutClaim 45 = .ok (.getfield 23, 3) := by decide +kernel
theorem dX7_withoutClaim_48 : decode cX7_withoutClaim 48 = .ok (.iload_n 1, 1) := by decide +kernel
theorem dX7_withoutClaim_49 : decode cX7_withoutClaim 49 = .ok (.invokevirtual 256, 3) := by decide +kernel
theorem dX7_withoutClaim_52 : decode cX7_withoutClaim 52 = .ok (.ireturn, 1) := by decide +kernel
theorem dX7_dearest_0 : decode cX7_dearest 0 = .ok (.aload_n 0, 1) := by decide +kernel
theorem dX7_dearest_1 : decode cX7_dearest 1 = .ok (.invokevirtual 289, 3) := by decide +kernel
theorem dX7_dearest_4 : decode cX7_dearest 4 = .ok (.bipush (-2), 2) := by decide +kernel
theorem dX7_dearest_6 : decode cX7_dearest 6 = .ok (.istore_n 1, 1) := by decide +kernel
theorem dX7_dearest_7 : decode cX7_dearest 7 = .ok (.iconst 0, 1) := by decide +kernel
theorem dX7_dearest_8 : decode cX7_dearest 8 = .ok (.istore_n 2, 1) := by decide +kernel
theorem dX7_dearest_9 : decode cX7_dearest 9 = .ok (.iconst 0, 1) := by decide +kernel
theorem dX7_dearest_10 : decode cX7_dearest 10 = .ok (.istore_n 3, 1) := by decide +kernel
theorem dX7_dearest_11 : decode cX7_dearest 11 = .ok (.iload_n 3, 1) := by decide +kernel
theorem dX7_dearest_12 : decode cX7_dearest 12 = .ok (.aload_n 0, 1) := by decide +kernel
theorem dX7_dearest_13 : decode cX7_dearest 13 = .ok (.getfield 19, 3) := by decide +kernel
theorem dX7_dearest_16 : decode cX7_dearest 16 = .ok (.getfield 266, 3) := by decide +kernel
theorem dX7_dearest_19 : decode cX7_dearest 19 = .ok (.if_icmp .ge 68, 3) := by decide +kernel
theorem dX7_dearest_22 : decode cX7_dearest 22 = .ok (.aload_n 0, 1) := by decide +kernel
theorem dX7_dearest_23 : decode cX7_dearest 23 = .ok (.getfield 19, 3) := by decide +kernel
theorem dX7_dearest_26 : decode cX7_dearest 26 = .ok (.iload_n 3, 1) := by decide +kernel
theorem dX7_dearest_27 : decode cX7_dearest 27 = .ok (.invokevirtual 210, 3) := by decide +kernel
theorem dX7_dearest_30 : decode cX7_dearest 30 = .ok (.istore 4, 2) := by decide +kernel
theorem dX7_dearest_32 : decode cX7_dearest 32 = .ok (.aload_n 0, 1) := by decide +kernel
theorem dX7_dearest_33 : decode cX7_dearest 33 = .ok (.getfield 19, 3) := by decide +kernel
theorem dX7_dearest_36 : decode cX7_dearest 36 = .ok (.iload 4, 2) := by decide +kernel
theorem dX7_dearest_38 : decode cX7_dearest 38 = .ok (.invokevirtual 95, 3) := by decide +kernel
theorem dX7_dearest_41 : decode cX7_dearest 41 = .ok (.ifCond .ne 6, 3) := by decide +kernel
theorem dX7_dearest_44 : decode cX7_dearest 44 = .ok (.goto 37, 3) := by decide +kernel
theorem dX7_dearest_47 : decode cX7_dearest 47 = .ok (.aload_n 0, 1) := by decide +kernel
theorem dX7_dearest_48 : decode cX7_dearest 48 = .ok (.getfield 54, 3) := by decide +kernel
theorem dX7_dearest_51 : decode cX7_dearest 51 = .ok (.iload 4, 2) := by decide +kernel
theorem dX7_dearest_53 : decode cX7_dearest 53 = .ok (.iaload, 1) := by decide +kernel
theorem dX7_dearest_54 : decode cX7_dearest 54 = .ok (.aload_n 0, 1) := by decide +kernel
theorem dX7_dearest_55 : decode cX7_dearest 55 = .ok (.iload 4, 2) := by decide +kernel
theorem dX7_dearest_57 : decode cX7_dearest 57 = .ok (.iload_n 3, 1) := by decide +kernel
theorem dX7_dearest_58 : decode cX7_dearest 58 = .ok (.invokevirtual 292, 3) := by decide +kernel
theorem dX7_dearest_61 : decode cX7_dearest 61 = .ok (.isub, 1) := by decide +kernel
theorem dX7_dearest_62 : decode cX7_dearest 62 = .ok (.istore 5, 2) := by decide +kernel
theorem dX7_dearest_64 : decode cX7_dearest 64 = .ok (.iload_n 1, 1) := by decide +kernel
theorem dX7_dearest_65 : decode cX7_dearest 65 = .ok (.bipush (-2), 2) := by decide +kernel
theorem dX7_dearest_67 : decode cX7_dearest 67 = .ok (.if_icmp .eq 9, 3) := by decide +kernel
theorem dX7_dearest_70 : decode cX7_dearest 70 = .ok (.iload 5, 2) := by decide +kernel
theorem dX7_dearest_72 : decode cX7_dearest 72 = .ok (.iload_n 2, 1) := by decide +kernel
theorem dX7_dearest_73 : decode cX7_dearest 73 = .ok (.if_icmp .le 8, 3) := by decide +kernel
theorem dX7_dearest_76 : decode cX7_dearest 76 = .ok (.iload_n 3, 1) := by decide +kernel
theorem dX7_dearest_77 : decode cX7_dearest 77 = .ok (.istore_n 1, 1) := by decide +kernel
theorem dX7_dearest_78 : decode cX7_dearest 78 = .ok (.iload 5, 2) := by decide +kernel
theorem dX7_dearest_80 : decode cX7_dearest 80 = .ok (.istore_n 2, 1) := by decide +kernel
theorem dX7_dearest_81 : decode cX7_dearest 81 = .ok (.iinc 3 1, 3) := by decide +kernel
theorem dX7_dearest_84 : decode cX7_dearest 84 = .ok (.goto (-73), 3) := by decide +kernel
theorem dX7_dearest_87 : decode cX7_dearest 87 = .ok (.iload_n 1, 1) := by decide +kernel
theorem dX7_dearest_88 : decode cX7_dearest 88 = .ok (.ireturn, 1) := by decide +kernel
theorem dX7_report_0 : decode cX7_report 0 = .ok (.aload_n 0, 1) := by decide +kernel
theorem dX7_report_1 : decode cX7_report 1 = .ok (.getfield 19, 3) := by decide +kernel
theorem dX7_report_4 : decode cX7_report 4 = .ok (.iload_n 1, 1) := by decide +kernel
theorem dX7_report_5 : decode cX7_report 5 = .ok (.invokevirtual 95, 3) := by decide +kernel
theorem dX7_report_8 : decode cX7_report 8 = .ok (.ifCond .eq 8, 3) := by decide +kernel
theorem dX7_report_11 : decode cX7_report 11 = .ok (.iload_n 2, 1) := by decide +kernel
theorem dX7_report_12 : decode cX7_report 12 = .ok (.iconst (-1), 1) := by decide +kernel
theorem dX7_report_13 : decode cX7_report 13 = .ok (.if_icmp .ge 5, 3) := by decide +kernel
theorem dX7_report_16 : decode cX7_report 16 = .ok (.iconst (-1), 1) := by decide +kernel
theorem dX7_report_17 : decode cX7_report 17 = .ok (.ireturn, 1) := by decide +kernel
theorem dX7_report_18 : decode cX7_report 18 = .ok (.aload_n 0, 1) := by decide +kernel
theorem dX7_report_19 : decode cX7_report 19 = .ok (.getfield 36, 3) := by decide +kernel
theorem dX7_report_22 : decode cX7_report 22 = .ok (.aload_n 0, 1) := by decide +kernel
theorem dX7_report_23 : decode cX7_report 23 = .ok (.getfield 19, 3) := by decide +kernel
theorem dX7_report_26 : decode cX7_report 26 = .ok (.invokevirtual 186, 3) := by decide +kernel
theorem dX7_report_29 : decode cX7_report 29 = .ok (.aload_n 0, 1) := by decide +kernel
theorem dX7_report_30 : decode cX7_report 30 = .ok (.getfield 43, 3) := by decide +kernel
theorem dX7_report_33 : decode cX7_report 33 = .ok (.iload_n 2, 1) := by decide +kernel
theorem dX7_report_34 : decode cX7_report 34 = .ok (.invokevirtual 295, 3) := by decide +kernel
theorem dX7_report_37 : decode cX7_report 37 = .ok (.aload_n 0, 1) := by decide +kernel
theorem dX7_report_38 : decode cX7_report 38 = .ok (.getfield 43, 3) := by decide +kernel
theorem dX7_report_41 : decode cX7_report 41 = .ok (.ldc_w 298, 3) := by decide +kernel
theorem dX7_report_44 : decode cX7_report 44 = .ok (.iload_n 1, 1) := by decide +kernel
theorem dX7_report_45 : decode cX7_report 45 = .ok (.invokevirtual 300, 3) := by decide +kernel
theorem dX7_report_48 : decode cX7_report 48 = .ok (.aload_n 0, 1) := by decide +kernel
theorem dX7_report_49 : decode cX7_report 49 = .ok (.getfield 43, 3) := by decide +kernel
theorem dX7_report_52 : decode cX7_report 52 = .ok (.ldc_w 304, 3) := by decide +kernel
theorem dX7_report_55 : decode cX7_report 55 = .ok (.aload_n 0, 1) := by decide +kernel
theorem dX7_report_56 : decode cX7_report 56 = .ok (.getfield 19, 3) := by decide +kernel
theorem dX7_report_59 : decode cX7_report 59 = .ok (.iload_n 1, 1) := by decide +kernel
theorem dX7_report_60 : decode cX7_report 60 = .ok (.invokevirtual 101, 3) := by decide +kernel
theorem dX7_report_63 : decode cX7_report 63 = .ok (.invokevirtual 300, 3) := by decide +kernel
theorem dX7_report_66 : decode cX7_report 66 = .ok (.aload_n 0, 1) := by decide +kernel
theorem dX7_report_67 : decode cX7_report 67 = .ok (.getfield 43, 3) := by decide +kernel
theorem dX7_report_70 : decode cX7_report 70 = .ok (.ldc_w 306, 3) := by decide +kernel
theorem dX7_report_73 : decode cX7_report 73 = .ok (.aload_n 0, 1) := by decide +kernel
theorem dX7_report_74 : decode cX7_report 74 = .ok (.getfield 36, 3) := by decide +kernel
theorem dX7_report_77 : decode cX7_report 77 = .ok (.iload_n 1, 1) := by decide +kernel
theorem dX7_report_78 : decode cX7_report 78 = .ok (.invokevirtual 189, 3) := by decide +kernel
theorem dX7_report_81 : decode cX7_report 81 = .ok (.invokevirtual 300, 3) := by decide +kernel
theorem dX7_report_84 : decode cX7_report 84 = .ok (.aload_n 0, 1) := by decide +kernel
theorem dX7_report_85 : decode cX7_report 85 = .ok (.getfield 36, 3) := by decide +kernel
theorem dX7_report_88 : decode cX7_report 88 = .ok (.iload_n 1, 1) := by decide +kernel
theorem dX7_report_89 : decode cX7_report 89 = .ok (.invokevirtual 260, 3) := by decide +kernel
theorem dX7_report_92 : decode cX7_report 92 = .ok (.ifCond .eq 39, 3) := by decide +kernel
theorem dX7_report_95 : decode cX7_report 95 = .ok (.aload_n 0, 1) := by decide +kernel
theorem dX7_report_96 : decode cX7_report 96 = .ok (.getfield 43, 3) := by decide +kernel
theorem dX7_report_99 : decode cX7_report 99 = .ok (.ldc_w 308, 3) := by decide +kernel
theorem dX7_report_102 : decode cX7_report 102 = .ok (.aload_n 0, 1) := by decide +kernel
theorem dX7_report_103 : decode cX7_report 103 = .ok (.getfield 36, 3) := by decide +kernel
theorem dX7_report_106 : decode cX7_report 106 = .ok (.iload_n 1, 1) := by decide +kernel
theorem dX7_report_107 : decode cX7_report 107 = .ok (.invokevirtual 204, 3) := by decide +kernel
theorem dX7_report_110 : decode cX7_report 110 = .ok (.invokevirtual 300, 3) := by decide +kernel
theorem dX7_report_113 : decode cX7_report 113 = .ok (.aload_n 0, 1) := by decide +kernel
theorem dX7_report_114 : decode cX7_report 114 = .ok (.getfield 43, 3) := by decide +kernel
theorem dX7_report_117 : decode cX7_report 117 = .ok (.ldc_w 310, 3) := by decide +kernel
theorem dX7_report_120 : decode cX7_report 120 = .ok (.aload_n 0, 1) := by decide +kernel
theorem dX7_report_121 : decode cX7_report 121 = .ok (.getfield 36, 3) := by decide +kernel
theorem dX7_report_124 : decode cX7_report 124 = .ok (.iload_n 1, 1) := by decide +kernel
theorem dX7_report_125 : decode cX7_report 125 = .ok (.invokevirtual 312, 3) := by decide +kernel
theorem dX7_report_128 : decode cX7_report 128 = .ok (.invokevirtual 300, 3) := by decide +kernel
theorem dX7_report_131 : decode cX7_report 131 = .ok (.aload_n 0, 1) := by decide +kernel
theorem dX7_report_132 : decode cX7_report 132 = .ok (.getfield 43, 3) := by decide +kernel
theorem dX7_report_135 : decode cX7_report 135 = .ok (.invokevirtual 315, 3) := by decide +kernel
theorem dX7_report_138 : decode cX7_report 138 = .ok (.aload_n 0, 1) := by decide +kernel
theorem dX7_report_139 : decode cX7_report 139 = .ok (.getfield 43, 3) := by decide +kernel
theorem dX7_report_142 : decode cX7_report 142 = .ok (.invokevirtual 318, 3) := by decide +kernel
theorem dX7_report_145 : decode cX7_report 145 = .ok (.ireturn, 1) := by decide +kernel
theorem dX7_spell_0 : decode cX7_spell 0 = .ok (.iload_n 1, 1) := by decide +kernel
theorem dX7_spell_1 : decode cX7_spell 1 = .ok (.iconst (-1), 1) := by decide +kernel
theorem dX7_spell_2 : decode cX7_spell 2 = .ok (.if_icmp .ge 5, 3) := by decide +kernel
theorem dX7_spell_5 : decode cX7_spell 5 = .ok (.iconst (-1), 1) := by decide +kernel
theorem dX7_spell_6 : decode cX7_spell 6 = .ok (.ireturn, 1) := by decide +kernel
theorem dX7_spell_7 : decode cX7_spell 7 = .ok (.aload_n 0, 1) := by decide +kernel
theorem dX7_spell_8 : decode cX7_spell 8 = .ok (.getfield 43, 3) := by decide +kernel
theorem dX7_spell_11 : decode cX7_spell 11 = .ok (.iload_n 1, 1) := by decide +kernel
theorem dX7_spell_12 : decode cX7_spell 12 = .ok (.invokevirtual 295, 3) := by decide +kernel
theorem dX7_spell_15 : decode cX7_spell 15 = .ok (.aload_n 0, 1) := by decide +kernel
theorem dX7_spell_16 : decode cX7_spell 16 = .ok (.getfield 43, 3) := by decide +kernel
theorem dX7_spell_19 : decode cX7_spell 19 = .ok (.ldc_w 321, 3) := by decide +kernel
theorem dX7_spell_22 : decode cX7_spell 22 = .ok (.aload_n 0, 1) := by decide +kernel
theorem dX7_spell_23 : decode cX7_spell 23 = .ok (.getfield 19, 3) := by decide +kernel
theorem dX7_spell_26 : decode cX7_spell 26 = .ok (.getfield 176, 3) := by decide +kernel
theorem dX7_spell_29 : decode cX7_spell 29 = .ok (.invokevirtual 300, 3) := by decide +kernel
theorem dX7_spell_32 : decode cX7_spell 32 = .ok (.aload_n 0, 1) := by decide +kernel
theorem dX7_spell_33 : decode cX7_spell 33 = .ok (.getfield 43, 3) := by decide +kernel
theorem dX7_spell_36 : decode cX7_spell 36 = .ok (.invokevirtual 315, 3) := by decide +kernel
theorem dX7_spell_39 : decode cX7_spell 39 = .ok (.aload_n 0, 1) := by decide +kernel
theorem dX7_spell_40 : decode cX7_spell 40 = .ok (.getfield 43, 3) := by decide +kernel
theorem dX7_spell_43 : decode cX7_spell 43 = .ok (.ldc_w 322, 3) := by decide +kernel
theorem dX7_spell_46 : decode cX7_spell 46 = .ok (.aload_n 0, 1) := by decide +kernel
theorem dX7_spell_47 : decode cX7_spell 47 = .ok (.getfield 19, 3) := by decide +kernel
theorem dX7_spell_50 : decode cX7_spell 50 = .ok (.getfield 179, 3) := by decide +kernel
theorem dX7_spell_53 : decode cX7_spell 53 = .ok (.invokevirtual 300, 3) := by decide +kernel
theorem dX7_spell_56 : decode cX7_spell 56 = .ok (.aload_n 0, 1) := by decide +kernel
theorem dX7_spell_57 : decode cX7_spell 57 = .ok (.getfield 43, 3) := by decide +kernel
theorem dX7_spell_60 : decode cX7_spell 60 = .ok (.invokevirtual 315, 3) := by decide +kernel
theorem dX7_spell_63 : decode cX7_spell 63 = .ok (.iconst 0, 1) := by decide +kernel
theorem dX7_spell_64 : decode cX7_spell 64 = .ok (.istore_n 2, 1) := by decide +kernel
theorem dX7_spell_65 : decode cX7_spell 65 = .ok (.iload_n 2, 1) := by decide +kernel
theorem dX7_spell_66 : decode cX7_spell 66 = .ok (.aload_n 0, 1) := by decide +kernel
theorem dX7_spell_67 : decode cX7_spell 67 = .ok (.getfield 19, 3) := by decide +kernel
theorem dX7_spell_70 : decode cX7_spell 70 = .ok (.getfield 80, 3) := by decide +kernel
theorem dX7_spell_73 : decode cX7_spell 73 = .ok (.if_icmp .ge 14, 3) := by decide +kernel
theorem dX7_spell_76 : decode cX7_spell 76 = .ok (.aload_n 0, 1) := by decide +kernel
theorem dX7_spell_77 : decode cX7_spell 77 = .ok (.iload_n 2, 1) := by decide +kernel
theorem dX7_spell_78 : decode cX7_spell 78 = .ok (.invokevirtual 323, 3) := by decide +kernel
theorem dX7_spell_81 : decode cX7_spell 81 = .ok (.iinc 2 1, 3) := by decide +kernel
theorem dX7_spell_84 : decode cX7_spell 84 = .ok (.goto (-19), 3) := by decide +kernel
theorem dX7_spell_87 : decode cX7_spell 87 = .ok (.iconst 0, 1) := by decide +kernel
theorem dX7_spell_88 : decode cX7_spell 88 = .ok (.istore_n 2, 1) := by decide +kernel
theorem dX7_spell_89 : decode cX7_spell 89 = .ok (.iload_n 2, 1) := by decide +kernel
theorem dX7_spell_90 : decode cX7_spell 90 = .ok (.aload_n 0, 1) := by decide +kernel
theorem dX7_spell_91 : decode cX7_spell 91 = .ok (.getfield 19, 3) := by decide +kernel
theorem dX7_spell_94 : decode cX7_spell 94 = .ok (.getfield 266, 3) := by decide +kernel
theorem dX7_spell_97 : decode cX7_spell 97 = .ok (.if_icmp .ge 14, 3) := by decide +kernel
theorem dX7_spell_100 : decode cX7_spell 100 = .ok (.aload_n 0, 1) := by decide +kernel
theorem dX7_spell_101 : decode cX7_spell 101 = .ok (.iload_n 2, 1) := by decide +kernel
theorem dX7_spell_102 : decode cX7_spell 102 = .ok (.invokevirtual 326, 3) := by decide +kernel
theorem dX7_spell_105 : decode cX7_spell 105 = .ok (.iinc 2 1, 3) := by decide +kernel
theorem dX7_spell_108 : decode cX7_spell 108 = .ok (.goto (-19), 3) := by decide +kernel
theorem dX7_spell_111 : decode cX7_spell 111 = .ok (.aload_n 0, 1) := by decide +kernel
theorem dX7_spell_112 : decode cX7_spell 112 = .ok (.getfield 43, 3) := by decide +kernel
theorem dX7_spell_115 : decode cX7_spell 115 = .ok (.invokevirtual 318, 3) := by decide +kernel
theorem dX7_spell_118 : decode cX7_spell 118 = .ok (.ireturn, 1) := by decide +kernel
theorem dX7_count_0 : decode cX7_count 0 = .ok (.iload_n 1, 1) := by decide +kernel
theorem dX7_count_1 : decode cX7_count 1 = .ok (.tableswitch 123 0 8 #[51, 59, 67, 75, 83, 91, 99, 107, 115], 51) := by decide +kernel
theorem dX7_count_52 : decode cX7_count 52 = .ok (.aload_n 0, 1) := by decide +kernel
theorem dX7_count_53 : decode cX7_count 53 = .ok (.getfield 19, 3) := by decide +kernel
theorem dX7_count_56 : decode cX7_count 56 = .ok (.getfield 80, 3) := by decide +kernel
theorem dX7_count_59 : decode cX7_count 59 = .ok (.ireturn, 1) := by decide +kernel
theorem dX7_count_60 : decode cX7_count 60 = .ok (.aload_n 0, 1) := by decide +kernel
theorem dX7_count_61 : decode cX7_count 61 = .ok (.getfield 19, 3) := by decide +kernel
theorem dX7_count_64 : decode cX7_count 64 = .ok (.getfield 266, 3) := by decide +kernel
theorem dX7_count_67 : decode cX7_count 67 = .ok (.ireturn, 1) := by decide +kernel
theorem dX7_count_68 : decode cX7_count 68 = .ok (.aload_n 0, 1) := by decide +kernel
theorem dX7_count_69 : decode cX7_count 69 = .ok (.getfield 19, 3) := by decide +kernel
theorem dX7_count_72 : decode cX7_count 72 = .ok (.getfield 176, 3) := by decide +kernel
theorem dX7_count_75 : decode cX7_count 75 = .ok (.ireturn, 1) := by decide +kernel
theorem dX7_count_76 : decode cX7_count 76 = .ok (.aload_n 0, 1) := by decide +kernel
theorem dX7_count_77 : decode cX7_count 77 = .ok (.getfield 19, 3) := by decide +kernel
theorem dX7_count_80 : decode cX7_count 80 = .ok (.getfield 179, 3) := by decide +kernel
theorem dX7_count_83 : decode cX7_count 83 = .ok (.ireturn, 1) := by decide +kernel
theorem dX7_count_84 : decode cX7_count 84 = .ok (.aload_n 0, 1) := by decide +kernel
theorem dX7_count_85 : decode cX7_count 85 = .ok (.getfield 29, 3) := by decide +kernel
theorem dX7_count_88 : decode cX7_count 88 = .ok (.invokevirtual 182, 3) := by decide +kernel
theorem dX7_count_91 : decode cX7_count 91 = .ok (.ireturn, 1) := by decide +kernel
theorem dX7_count_92 : decode cX7_count 92 = .ok (.aload_n 0, 1) := by decide +kernel
theorem dX7_count_93 : decode cX7_count 93 = .ok (.getfield 10, 3) := by decide +kernel
theorem dX7_count_96 : decode cX7_count 96 = .ok (.invokevirtual 58, 3) := by decide +kernel
theorem dX7_count_99 : decode cX7_count 99 = .ok (.ireturn, 1) := by decide +kernel
theorem dX7_count_100 : decode cX7_count 100 = .ok (.aload_n 0, 1) := by decide +kernel
theorem dX7_count_101 : decode cX7_count 101 = .ok (.getfield 19, 3) := by decide +kernel
theorem dX7_count_104 : decode cX7_count 104 = .ok (.invokevirtual 329, 3) := by decide +kernel
theorem dX7_count_107 : decode cX7_count 107 = .ok (.ireturn, 1) := by decide +kernel
theorem dX7_count_108 : decode cX7_count 108 = .ok (.aload_n 0, 1) := by decide +kernel
theorem dX7_count_109 : decode cX7_count 109 = .ok (.getfield 19, 3) := by decide +kernel
theorem dX7_count_112 : decode cX7_count 112 = .ok (.invokevirtual 332, 3) := by decide +kernel
theorem dX7_count_115 : decode cX7_count 115 = .ok (.ireturn, 1) := by decide +kernel
theorem dX7_count_116 : decode cX7_count 116 = .ok (.aload_n 0, 1) := by decide +kernel
theorem dX7_count_117 : decode cX7_count 117 = .ok (.getfield 19, 3) := by decide +kernel
theorem dX7_count_120 : decode cX7_count 120 = .ok (.invokevirtual 335, 3) := by decide +kernel
theorem dX7_count_123 : decode cX7_count 123 = .ok (.ireturn, 1) := by decide +kernel
theorem dX7_count_124 : decode cX7_count 124 = .ok (.iconst (-1), 1) := by decide +kernel
theorem dX7_count_125 : decode cX7_count 125 = .ok (.ireturn, 1) := by decide +kernel
theorem dX7_isClass_0 : decode cX7_isClass 0 = .ok (.iload_n 0, 1) := by decide +kernel
theorem dX7_isClass_1 : decode cX7_isClass 1 = .ok (.ifCond .lt 12, 3) := by decide +kernel
theorem dX7_isClass_4 : decode cX7_isClass 4 = .ok (.iload_n 0, 1) := by decide +kernel
theorem dX7_isClass_5 : decode cX7_isClass 5 = .ok (.iconst 3, 1) := by decide +kernel
theorem dX7_isClass_6 : decode cX7_isClass 6 = .ok (.if_icmp .ge 7, 3) := by decide +kernel
theorem dX7_isClass_9 : decode cX7_isClass 9 = .ok (.iconst 1, 1) := by decide +kernel
theorem dX7_isClass_10 : decode cX7_isClass 10 = .ok (.goto 4, 3) := by decide +kernel
theorem dX7_isClass_13 : decode cX7_isClass 13 = .ok (.iconst 0, 1) := by decide +kernel
theorem dX7_isClass_14 : decode cX7_isClass 14 = .ok (.ireturn, 1) := by decide +kernel
theorem dX7_isYear_0 : decode cX7_isYear 0 = .ok (.iload_n 0, 1) := by decide +kernel
theorem dX7_isYear_1 : decode cX7_isYear 1 = .ok (.ifCond .lt 12, 3) := by decide +kernel
theorem dX7_isYear_4 : decode cX7_isYear 4 = .ok (.iload_n 0, 1) := by decide +kernel
theorem dX7_isYear_5 : decode cX7_isYear 5 = .ok (.iconst 5, 1) := by decide +kernel
theorem dX7_isYear_6 : decode cX7_isYear 6 = .ok (.if_icmp .ge 7, 3) := by decide +kernel
theorem dX7_isYear_9 : decode cX7_isYear 9 = .ok (.iconst 1, 1) := by decide +kernel
theorem dX7_isYear_10 : decode cX7_isYear 10 = .ok (.goto 4, 3) := by decide +kernel
theorem dX7_isYear_13 : decode cX7_isYear 13 = .ok (.iconst 0, 1) := by decide +kernel
theorem dX7_isYear_14 : decode cX7_isYear 14 = .ok (.ireturn, 1) := by decide +kernel
theorem dX7_isAmount_0 : decode cX7_isAmount 0 = .ok (.iload_n 0, 1) := by decide +kernel
theorem dX7_isAmount_1 : decode cX7_isAmount 1 = .ok (.iconst 1, 1) := by decide +kernel
theorem dX7_isAmount_2 : decode cX7_isAmount 2 = .ok (.if_icmp .lt 13, 3) := by decide +kernel
theorem dX7_isAmount_5 : decode cX7_isAmount 5 = .ok (.iload_n 0, 1) := by decide +kernel
theorem dX7_isAmount_6 : decode cX7_isAmount 6 = .ok (.bipush 99, 2) := by decide +kernel
theorem dX7_isAmount_8 : decode cX7_isAmount 8 = .ok (.if_icmp .gt 7, 3) := by decide +kernel
theorem dX7_isAmount_11 : decode cX7_isAmount 11 = .ok (.iconst 1, 1) := by decide +kernel
theorem dX7_isAmount_12 : decode cX7_isAmount 12 = .ok (.goto 4, 3) := by decide +kernel
theorem dX7_isAmount_15 : decode cX7_isAmount 15 = .ok (.iconst 0, 1) := by decide +kernel
theorem dX7_isAmount_16 : decode cX7_isAmount 16 = .ok (.ireturn, 1) := by decide +kernel
theorem dX7_rateIn_0 : decode cX7_rateIn 0 = .ok (.aload_n 1, 1) := by decide +kernel
theorem dX7_rateIn_1 : decode cX7_rateIn 1 = .ok (.iload_n 2, 1) := by decide +kernel
theorem dX7_rateIn_2 : decode cX7_rateIn 2 = .ok (.invokevirtual 95, 3) := by decide +kernel
theorem dX7_rateIn_5 : decode cX7_rateIn 5 = .ok (.ifCond .ne 5, 3) := by decide +kernel
theorem dX7_rateIn_8 : decode cX7_rateIn 8 = .ok (.iconst (-1), 1) := by decide +kernel
theorem dX7_rateIn_9 : decode cX7_rateIn 9 = .ok (.ireturn, 1) := by decide +kernel
theorem dX7_rateIn_10 : decode cX7_rateIn 10 = .ok (.aload_n 0, 1) := by decide +kernel
theorem dX7_rateIn_11 : decode cX7_rateIn 11 = .ok (.getfield 36, 3) := by decide +kernel
theorem dX7_rateIn_14 : decode cX7_rateIn 14 = .ok (.aload_n 1, 1) := by decide +kernel
theorem dX7_rateIn_15 : decode cX7_rateIn 15 = .ok (.invokevirtual 186, 3) := by decide +kernel
theorem dX7_rateIn_18 : decode cX7_rateIn 18 = .ok (.aload_n 0, 1) := by decide +kernel
theorem dX7_rateIn_19 : decode cX7_rateIn 19 = .ok (.getfield 36, 3) := by decide +kernel
theorem dX7_rateIn_22 : decode cX7_rateIn 22 = .ok (.iload_n 2, 1) := by decide +kernel
theorem dX7_rateIn_23 : decode cX7_rateIn 23 = .ok (.invokevirtual 312, 3) := by decide +kernel
theorem dX7_rateIn_26 : decode cX7_rateIn 26 = .ok (.ireturn, 1) := by decide +kernel
theorem dX7_spreadIn_0 : decode cX7_spreadIn 0 = .ok (.aload_n 0, 1) := by decide +kernel
theorem dX7_spreadIn_1 : decode cX7_spreadIn 1 = .ok (.getfield 36, 3) := by decide +kernel
theorem dX7_spreadIn_4 : decode cX7_spreadIn 4 = .ok (.aload_n 1, 1) := by decide +kernel
theorem dX7_spreadIn_5 : decode cX7_spreadIn 5 = .ok (.invokevirtual 186, 3) := by decide +kernel
theorem dX7_spreadIn_8 : decode cX7_spreadIn 8 = .ok (.aload_n 0, 1) := by decide +kernel
theorem dX7_spreadIn_9 : decode cX7_spreadIn 9 = .ok (.getfield 36, 3) := by decide +kernel
theorem dX7_spreadIn_12 : decode cX7_spreadIn 12 = .ok (.iload_n 2, 1) := by decide +kernel
theorem dX7_spreadIn_13 : decode cX7_spreadIn 13 = .ok (.iload_n 3, 1) := by decide +kernel
theorem dX7_spreadIn_14 : decode cX7_spreadIn 14 = .ok (.aload_n 0, 1) := by decide +kernel
theorem dX7_spreadIn_15 : decode cX7_spreadIn 15 = .ok (.getfield 50, 3) := by decide +kernel
theorem dX7_spreadIn_18 : decode cX7_spreadIn 18 = .ok (.invokevirtual 338, 3) := by decide +kernel
theorem dX7_spreadIn_21 : decode cX7_spreadIn 21 = .ok (.aload_n 0, 1) := by decide +kernel
theorem dX7_spreadIn_22 : decode cX7_spreadIn 22 = .ok (.getfield 50, 3) := by decide +kernel
theorem dX7_spreadIn_25 : decode cX7_spreadIn 25 = .ok (.iload 4, 2) := by decide +kernel
theorem dX7_spreadIn_27 : decode cX7_spreadIn 27 = .ok (.invokevirtual 248, 3) := by decide +kernel
theorem dX7_spreadIn_30 : decode cX7_spreadIn 30 = .ok (.lreturn, 1) := by decide +kernel
theorem dX7_tryEarly_0 : decode cX7_tryEarly 0 = .ok (.aload_n 0, 1) := by decide +kernel
theorem dX7_tryEarly_1 : decode cX7_tryEarly 1 = .ok (.getfield 23, 3) := by decide +kernel
theorem dX7_tryEarly_4 : decode cX7_tryEarly 4 = .ok (.aload_n 0, 1) := by decide +kernel
theorem dX7_tryEarly_5 : decode cX7_tryEarly 5 = .ok (.getfield 19, 3) := by decide +kernel
theorem dX7_tryEarly_8 : decode cX7_tryEarly 8 = .ok (.invokevirtual 73, 3) := by decide +kernel
theorem dX7_tryEarly_11 : decode cX7_tryEarly 11 = .ok (.aload_n 0, 1) := by decide +kernel
theorem dX7_tryEarly_12 : decode cX7_tryEarly 12 = .ok (.getfield 23, 3) := by decide +kernel
theorem dX7_tryEarly_15 : decode cX7_tryEarly 15 = .ok (.bipush 31, 2) := by decide +kernel
theorem dX7_tryEarly_17 : decode cX7_tryEarly 17 = .ok (.iconst (-1), 1) := by decide +kernel
theorem dX7_tryEarly_18 : decode cX7_tryEarly 18 = .ok (.iload_n 1, 1) := by decide +kernel
theorem dX7_tryEarly_19 : decode cX7_tryEarly 19 = .ok (.ishl, 1) := by decide +kernel
theorem dX7_tryEarly_20 : decode cX7_tryEarly 20 = .ok (.iand, 1) := by decide +kernel
theorem dX7_tryEarly_21 : decode cX7_tryEarly 21 = .ok (.invokevirtual 133, 3) := by decide +kernel
theorem dX7_tryEarly_24 : decode cX7_tryEarly 24 = .ok (.return_, 1) := by decide +kernel
theorem dX7_keepRatesNow_0 : decode cX7_keepRatesNow 0 = .ok (.aload_n 0, 1) := by decide +kernel
theorem dX7_keepRatesNow_1 : decode cX7_keepRatesNow 1 = .ok (.getfield 36, 3) := by decide +kernel
theorem dX7_keepRatesNow_4 : decode cX7_keepRatesNow 4 = .ok (.aload_n 0, 1) := by decide +kernel
theorem dX7_keepRatesNow_5 : decode cX7_keepRatesNow 5 = .ok (.getfield 19, 3) := by decide +kernel
theorem dX7_keepRatesNow_8 : decode cX7_keepRatesNow 8 = .ok (.invokevirtual 186, 3) := by decide +kernel
theorem dX7_keepRatesNow_11 : decode cX7_keepRatesNow 11 = .ok (.iconst 0, 1) := by decide +kernel
theorem dX7_keepRatesNow_12 : decode cX7_keepRatesNow 12 = .ok (.istore_n 1, 1) := by decide +kernel
theorem dX7_keepRatesNow_13 : decode cX7_keepRatesNow 13 = .ok (.iload_n 1, 1) := by decide +kernel
theorem dX7_keepRatesNow_14 : decode cX7_keepRatesNow 14 = .ok (.aload_n 0, 1) := by decide +kernel
theorem dX7_keepRatesNow_15 : decode cX7_keepRatesNow 15 = .ok (.getfield 54, 3) := by decide +kernel
theorem dX7_keepRatesNow_18 : decode cX7_keepRatesNow 18 = .ok (.arraylength, 1) := by decide +kernel
theorem dX7_keepRatesNow_19 : decode cX7_keepRatesNow 19 = .ok (.if_icmp .ge 23, 3) := by decide +kernel
theorem dX7_keepRatesNow_22 : decode cX7_keepRatesNow 22 = .ok (.aload_n 0, 1) := by decide +kernel
theorem dX7_keepRatesNow_23 : decode cX7_keepRatesNow 23 = .ok (.getfield 54, 3) := by decide +kernel
theorem dX7_keepRatesNow_26 : decode cX7_keepRatesNow 26 = .ok (.iload_n 1, 1) := by decide +kernel
theorem dX7_keepRatesNow_27 : decode cX7_keepRatesNow 27 = .ok (.aload_n 0, 1) := by decide +kernel
theorem dX7_keepRatesNow_28 : decode cX7_keepRatesNow 28 = .ok (.getfield 36, 3) := by decide +kernel
theorem dX7_keepRatesNow_31 : decode cX7_keepRatesNow 31 = .ok (.iload_n 1, 1) := by decide +kernel
theorem dX7_keepRatesNow_32 : decode cX7_keepRatesNow 32 = .ok (.invokevirtual 312, 3) := by decide +kernel
theorem dX7_keepRatesNow_35 : decode cX7_keepRatesNow 35 = .ok (.iastore, 1) := by decide +kernel
theorem dX7_keepRatesNow_36 : decode cX7_keepRatesNow 36 = .ok (.iinc 1 1, 3) := by decide +kernel
theorem dX7_keepRatesNow_39 : decode cX7_keepRatesNow 39 = .ok (.goto (-26), 3) := by decide +kernel
theorem dX7_keepRatesNow_42 : decode cX7_keepRatesNow 42 = .ok (.return_, 1) := by decide +kernel
theorem dX7_spellFleet_0 : decode cX7_spellFleet 0 = .ok (.aload_n 0, 1) := by decide +kernel
theorem dX7_spellFleet_1 : decode cX7_spellFleet 1 = .ok (.getfield 43, 3) := by decide +kernel
theorem dX7_spellFleet_4 : decode cX7_spellFleet 4 = .ok (.ldc_w 298, 3) := by decide +kernel
theorem dX7_spellFleet_7 : decode cX7_spellFleet 7 = .ok (.aload_n 0, 1) := by decide +kernel
theorem dX7_spellFleet_8 : decode cX7_spellFleet 8 = .ok (.getfield 19, 3) := by decide +kernel
theorem dX7_spellFleet_11 : decode cX7_spellFleet 11 = .ok (.iload_n 1, 1) := by decide +kernel
theorem dX7_spellFleet_12 : decode cX7_spellFleet 12 = .ok (.invokevirtual 101, 3) := by decide +kernel
theorem dX7_spellFleet_15 : decode cX7_spellFleet 15 = .ok (.invokevirtual 300, 3) := by decide +kernel
theorem dX7_spellFleet_18 : decode cX7_spellFleet 18 = .ok (.iconst 0, 1) := by decide +kernel
theorem dX7_spellFleet_19 : decode cX7_spellFleet 19 = .ok (.istore_n 2, 1) := by decide +kernel
theorem dX7_spellFleet_20 : decode cX7_spellFleet 20 = .ok (.iload_n 2, 1) := by decide +kernel
theorem dX7_spellFleet_21 : decode cX7_spellFleet 21 = .ok (.iconst 5, 1) := by decide +kernel
theorem dX7_spellFleet_22 : decode cX7_spellFleet 22 = .ok (.if_icmp .ge 29, 3) := by decide +kernel
theorem dX7_spellFleet_25 : decode cX7_spellFleet 25 = .ok (.aload_n 0, 1) := by decide +kernel
theorem dX7_spellFleet_26 : decode cX7_spellFleet 26 = .ok (.getfield 19, 3) := by decide +kernel
theorem dX7_spellFleet_29 : decode cX7_spellFleet 29 = .ok (.iload_n 1, 1) := by decide +kernel
theorem dX7_spellFleet_30 : decode cX7_spellFleet 30 = .ok (.iload_n 2, 1) := by decide +kernel
theorem dX7_spellFleet_31 : decode cX7_spellFleet 31 = .ok (.invokevirtual 112, 3) := by decide +kernel
theorem dX7_spellFleet_34 : decode cX7_spellFleet 34 = .ok (.ifCond .eq 11, 3) := by decide +kernel
theorem dX7_spellFleet_37 : decode cX7_spellFleet 37 = .ok (.aload_n 0, 1) := by decide +kernel
theorem dX7_spellFleet_38 : decode cX7_spellFleet 38 = .ok (.getfield 43, 3) := by decide +kernel
theorem dX7_spellFleet_41 : decode cX7_spellFleet 41 = .ok (.iload_n 2, 1) := by decide +kernel
theorem dX7_spellFleet_42 : decode cX7_spellFleet 42 = .ok (.invokevirtual 342, 3) := by decide +kernel
theorem dX7_spellFleet_45 : decode cX7_spellFleet 45 = .ok (.iinc 2 1, 3) := by decide +kernel
theorem dX7_spellFleet_48 : decode cX7_spellFleet 48 = .ok (.goto (-28), 3) := by decide +kernel
theorem dX7_spellFleet_51 : decode cX7_spellFleet 51 = .ok (.aload_n 0, 1) := by decide +kernel
theorem dX7_spellFleet_52 : decode cX7_spellFleet 52 = .ok (.getfield 43, 3) := by decide +kernel
theorem dX7_spellFleet_55 : decode cX7_spellFleet 55 = .ok (.invokevirtual 315, 3) := by decide +kernel
theorem dX7_spellFleet_58 : decode cX7_spellFleet 58 = .ok (.return_, 1) := by decide +kernel
theorem dX7_spellClaim_0 : decode cX7_spellClaim 0 = .ok (.aload_n 0, 1) := by decide +kernel
theorem dX7_spellClaim_1 : decode cX7_spellClaim 1 = .ok (.getfield 43, 3) := by decide +kernel
theorem dX7_spellClaim_4 : decode cX7_spellClaim 4 = .ok (.ldc_w 345, 3) := by decide +kernel
theorem dX7_spellClaim_7 : decode cX7_spellClaim 7 = .ok (.aload_n 0, 1) := by decide +kernel
theorem dX7_spellClaim_8 : decode cX7_spellClaim 8 = .ok (.getfield 19, 3) := by decide +kernel
theorem dX7_spellClaim_11 : decode cX7_spellClaim 11 = .ok (.iload_n 1, 1) := by decide +kernel
theorem dX7_spellClaim_12 : decode cX7_spellClaim 12 = .ok (.invokevirtual 210, 3) := by decide +kernel
theorem dX7_spellClaim_15 : decode cX7_spellClaim 15 = .ok (.invokevirtual 300, 3) := by decide +kernel
theorem dX7_spellClaim_18 : decode cX7_spellClaim 18 = .ok (.aload_n 0, 1) := by decide +kernel
theorem dX7_spellClaim_19 : decode cX7_spellClaim 19 = .ok (.getfield 43, 3) := by decide +kernel
theorem dX7_spellClaim_22 : decode cX7_spellClaim 22 = .ok (.aload_n 0, 1) := by decide +kernel
theorem dX7_spellClaim_23 : decode cX7_spellClaim 23 = .ok (.getfield 19, 3) := by decide +kernel
theorem dX7_spellClaim_26 : decode cX7_spellClaim 26 = .ok (.iload_n 1, 1) := by decide +kernel
theorem dX7_spellClaim_27 : decode cX7_spellClaim 27 = .ok (.invokevirtual 213, 3) := by decide +kernel
theorem dX7_spellClaim_30 : decode cX7_spellClaim 30 = .ok (.invokevirtual 342, 3) := by decide +kernel
theorem dX7_spellClaim_33 : decode cX7_spellClaim 33 = .ok (.aload_n 0, 1) := by decide +kernel
theorem dX7_spellClaim_34 : decode cX7_spellClaim 34 = .ok (.getfield 43, 3) := by decide +kernel
theorem dX7_spellClaim_37 : decode cX7_spellClaim 37 = .ok (.aload_n 0, 1) := by decide +kernel
theorem dX7_spellClaim_38 : decode cX7_spellClaim 38 = .ok (.getfield 19, 3) := by decide +kernel
theorem dX7_spellClaim_41 : decode cX7_spellClaim 41 = .ok (.iload_n 1, 1) := by decide +kernel
theorem dX7_spellClaim_42 : decode cX7_spellClaim 42 = .ok (.invokevirtual 152, 3) := by decide +kernel
theorem dX7_spellClaim_45 : decode cX7_spellClaim 45 = .ok (.invokevirtual 342, 3) := by decide +kernel
theorem dX7_spellClaim_48 : decode cX7_spellClaim 48 = .ok (.aload_n 0, 1) := by decide +kernel
theorem dX7_spellClaim_49 : decode cX7_spellClaim 49 = .ok (.getfield 43, 3) := by decide +kernel
theorem dX7_spellClaim_52 : decode cX7_spellClaim 52 = .ok (.invokevirtual 315, 3) := by decide +kernel
theorem dX7_spellClaim_55 : decode cX7_spellClaim 55 = .ok (.return_, 1) := by decide +kernel
