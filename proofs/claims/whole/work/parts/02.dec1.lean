theorem dX10_people_13 : decode cX10_people 13 = .ok (.bipush 8, 2) := by decide +kernel
theorem dX10_people_15 : decode cX10_people 15 = .ok (.if_icmp .le 5, 3) := by decide +kernel
theorem dX10_people_18 : decode cX10_people 18 = .ok (.iconst (-1), 1) := by decide +kernel
theorem dX10_people_19 : decode cX10_people 19 = .ok (.ireturn, 1) := by decide +kernel
theorem dX10_people_20 : decode cX10_people 20 = .ok (.aload_n 0, 1) := by decide +kernel
theorem dX10_people_21 : decode cX10_people 21 = .ok (.getfield 47, 3) := by decide +kernel
theorem dX10_people_24 : decode cX10_people 24 = .ok (.iload_n 1, 1) := by decide +kernel
theorem dX10_people_25 : decode cX10_people 25 = .ok (.invokevirtual 91, 3) := by decide +kernel
theorem dX10_people_28 : decode cX10_people 28 = .ok (.ifCond .eq 5, 3) := by decide +kernel
theorem dX10_people_31 : decode cX10_people 31 = .ok (.iconst 0, 1) := by decide +kernel
theorem dX10_people_32 : decode cX10_people 32 = .ok (.ireturn, 1) := by decide +kernel
theorem dX10_people_33 : decode cX10_people 33 = .ok (.aload_n 0, 1) := by decide +kernel
theorem dX10_people_34 : decode cX10_people 34 = .ok (.getfield 47, 3) := by decide +kernel
theorem dX10_people_37 : decode cX10_people 37 = .ok (.iload_n 1, 1) := by decide +kernel
theorem dX10_people_38 : decode cX10_people 38 = .ok (.iconst 0, 1) := by decide +kernel
theorem dX10_people_39 : decode cX10_people 39 = .ok (.invokevirtual 94, 3) := by decide +kernel
theorem dX10_people_42 : decode cX10_people 42 = .ok (.ifCond .ne 6, 3) := by decide +kernel
theorem dX10_people_45 : decode cX10_people 45 = .ok (.bipush (-12), 2) := by decide +kernel
theorem dX10_people_47 : decode cX10_people 47 = .ok (.ireturn, 1) := by decide +kernel
theorem dX10_people_48 : decode cX10_people 48 = .ok (.iconst 0, 1) := by decide +kernel
theorem dX10_people_49 : decode cX10_people 49 = .ok (.istore 4, 2) := by decide +kernel
theorem dX10_people_51 : decode cX10_people 51 = .ok (.iload_n 2, 1) := by decide +kernel
theorem dX10_people_52 : decode cX10_people 52 = .ok (.istore 5, 2) := by decide +kernel
theorem dX10_people_54 : decode cX10_people 54 = .ok (.iload 4, 2) := by decide +kernel
theorem dX10_people_56 : decode cX10_people 56 = .ok (.iload_n 3, 1) := by decide +kernel
theorem dX10_people_57 : decode cX10_people 57 = .ok (.if_icmp .ge 47, 3) := by decide +kernel
theorem dX10_people_60 : decode cX10_people 60 = .ok (.aload_n 0, 1) := by decide +kernel
theorem dX10_people_61 : decode cX10_people 61 = .ok (.getfield 47, 3) := by decide +kernel
theorem dX10_people_64 : decode cX10_people 64 = .ok (.iload_n 1, 1) := by decide +kernel
theorem dX10_people_65 : decode cX10_people 65 = .ok (.iload 5, 2) := by decide +kernel
theorem dX10_people_67 : decode cX10_people 67 = .ok (.iconst 3, 1) := by decide +kernel
theorem dX10_people_68 : decode cX10_people 68 = .ok (.invokevirtual 98, 3) := by decide +kernel
theorem dX10_people_71 : decode cX10_people 71 = .ok (.ifCond .eq 33, 3) := by decide +kernel
theorem dX10_people_74 : decode cX10_people 74 = .ok (.aload_n 0, 1) := by decide +kernel
theorem dX10_people_75 : decode cX10_people 75 = .ok (.getfield 10, 3) := by decide +kernel
theorem dX10_people_78 : decode cX10_people 78 = .ok (.aload_n 0, 1) := by decide +kernel
theorem dX10_people_79 : decode cX10_people 79 = .ok (.getfield 47, 3) := by decide +kernel
theorem dX10_people_82 : decode cX10_people 82 = .ok (.getfield 102, 3) := by decide +kernel
theorem dX10_people_85 : decode cX10_people 85 = .ok (.iload_n 1, 1) := by decide +kernel
theorem dX10_people_86 : decode cX10_people 86 = .ok (.aaload, 1) := by decide +kernel
theorem dX10_people_87 : decode cX10_people 87 = .ok (.iload 5, 2) := by decide +kernel
theorem dX10_people_89 : decode cX10_people 89 = .ok (.invokevirtual 106, 3) := by decide +kernel
theorem dX10_people_92 : decode cX10_people 92 = .ok (.ifCond .eq 12, 3) := by decide +kernel
theorem dX10_people_95 : decode cX10_people 95 = .ok (.iinc 4 1, 3) := by decide +kernel
theorem dX10_people_98 : decode cX10_people 98 = .ok (.iinc 5 3, 3) := by decide +kernel
theorem dX10_people_101 : decode cX10_people 101 = .ok (.goto (-47), 3) := by decide +kernel
theorem dX10_people_104 : decode cX10_people 104 = .ok (.iload 4, 2) := by decide +kernel
theorem dX10_people_106 : decode cX10_people 106 = .ok (.ireturn, 1) := by decide +kernel
theorem dX10_mend_0 : decode cX10_mend 0 = .ok (.aload_n 0, 1) := by decide +kernel
theorem dX10_mend_1 : decode cX10_mend 1 = .ok (.getfield 10, 3) := by decide +kernel
theorem dX10_mend_4 : decode cX10_mend 4 = .ok (.iload_n 1, 1) := by decide +kernel
theorem dX10_mend_5 : decode cX10_mend 5 = .ok (.iload_n 2, 1) := by decide +kernel
theorem dX10_mend_6 : decode cX10_mend 6 = .ok (.invokevirtual 110, 3) := by decide +kernel
theorem dX10_mend_9 : decode cX10_mend 9 = .ok (.ifCond .eq 11, 3) := by decide +kernel
theorem dX10_mend_12 : decode cX10_mend 12 = .ok (.iload_n 3, 1) := by decide +kernel
theorem dX10_mend_13 : decode cX10_mend 13 = .ok (.iload_n 2, 1) := by decide +kernel
theorem dX10_mend_14 : decode cX10_mend 14 = .ok (.invokestatic 113, 3) := by decide +kernel
theorem dX10_mend_17 : decode cX10_mend 17 = .ok (.ifCond .ne 5, 3) := by decide +kernel
theorem dX10_mend_20 : decode cX10_mend 20 = .ok (.iconst (-1), 1) := by decide +kernel
theorem dX10_mend_21 : decode cX10_mend 21 = .ok (.ireturn, 1) := by decide +kernel
theorem dX10_mend_22 : decode cX10_mend 22 = .ok (.aload_n 0, 1) := by decide +kernel
theorem dX10_mend_23 : decode cX10_mend 23 = .ok (.getfield 10, 3) := by decide +kernel
theorem dX10_mend_26 : decode cX10_mend 26 = .ok (.iload_n 1, 1) := by decide +kernel
theorem dX10_mend_27 : decode cX10_mend 27 = .ok (.iload_n 2, 1) := by decide +kernel
theorem dX10_mend_28 : decode cX10_mend 28 = .ok (.invokevirtual 116, 3) := by decide +kernel
theorem dX10_mend_31 : decode cX10_mend 31 = .ok (.istore 4, 2) := by decide +kernel
theorem dX10_mend_33 : decode cX10_mend 33 = .ok (.iload 4, 2) := by decide +kernel
theorem dX10_mend_35 : decode cX10_mend 35 = .ok (.iload_n 3, 1) := by decide +kernel
theorem dX10_mend_36 : decode cX10_mend 36 = .ok (.if_icmp .eq 25, 3) := by decide +kernel
theorem dX10_mend_39 : decode cX10_mend 39 = .ok (.aload_n 0, 1) := by decide +kernel
theorem dX10_mend_40 : decode cX10_mend 40 = .ok (.getfield 33, 3) := by decide +kernel
theorem dX10_mend_43 : decode cX10_mend 43 = .ok (.iload_n 1, 1) := by decide +kernel
theorem dX10_mend_44 : decode cX10_mend 44 = .ok (.iload_n 2, 1) := by decide +kernel
theorem dX10_mend_45 : decode cX10_mend 45 = .ok (.iload 4, 2) := by decide +kernel
theorem dX10_mend_47 : decode cX10_mend 47 = .ok (.iload_n 3, 1) := by decide +kernel
theorem dX10_mend_48 : decode cX10_mend 48 = .ok (.invokevirtual 120, 3) := by decide +kernel
theorem dX10_mend_51 : decode cX10_mend 51 = .ok (.aload_n 0, 1) := by decide +kernel
theorem dX10_mend_52 : decode cX10_mend 52 = .ok (.getfield 10, 3) := by decide +kernel
theorem dX10_mend_55 : decode cX10_mend 55 = .ok (.iload_n 1, 1) := by decide +kernel
theorem dX10_mend_56 : decode cX10_mend 56 = .ok (.iload_n 2, 1) := by decide +kernel
theorem dX10_mend_57 : decode cX10_mend 57 = .ok (.iload_n 3, 1) := by decide +kernel
theorem dX10_mend_58 : decode cX10_mend 58 = .ok (.invokevirtual 124, 3) := by decide +kernel
theorem dX10_mend_61 : decode cX10_mend 61 = .ok (.iload 4, 2) := by decide +kernel
theorem dX10_mend_63 : decode cX10_mend 63 = .ok (.ireturn, 1) := by decide +kernel
theorem dX10_of_0 : decode cX10_of 0 = .ok (.aload_n 0, 1) := by decide +kernel
theorem dX10_of_1 : decode cX10_of 1 = .ok (.getfield 10, 3) := by decide +kernel
theorem dX10_of_4 : decode cX10_of 4 = .ok (.iload_n 1, 1) := by decide +kernel
theorem dX10_of_5 : decode cX10_of 5 = .ok (.iload_n 2, 1) := by decide +kernel
theorem dX10_of_6 : decode cX10_of 6 = .ok (.invokevirtual 110, 3) := by decide +kernel
theorem dX10_of_9 : decode cX10_of 9 = .ok (.ifCond .eq 15, 3) := by decide +kernel
theorem dX10_of_12 : decode cX10_of 12 = .ok (.aload_n 0, 1) := by decide +kernel
theorem dX10_of_13 : decode cX10_of 13 = .ok (.getfield 10, 3) := by decide +kernel
theorem dX10_of_16 : decode cX10_of 16 = .ok (.iload_n 1, 1) := by decide +kernel
theorem dX10_of_17 : decode cX10_of 17 = .ok (.iload_n 2, 1) := by decide +kernel
theorem dX10_of_18 : decode cX10_of 18 = .ok (.invokevirtual 116, 3) := by decide +kernel
theorem dX10_of_21 : decode cX10_of 21 = .ok (.goto 4, 3) := by decide +kernel
theorem dX10_of_24 : decode cX10_of 24 = .ok (.iconst (-1), 1) := by decide +kernel
theorem dX10_of_25 : decode cX10_of 25 = .ok (.ireturn, 1) := by decide +kernel
theorem dX10_feed_0 : decode cX10_feed 0 = .ok (.iload_n 1, 1) := by decide +kernel
theorem dX10_feed_1 : decode cX10_feed 1 = .ok (.ifCond .lt 10, 3) := by decide +kernel
theorem dX10_feed_4 : decode cX10_feed 4 = .ok (.iload_n 1, 1) := by decide +kernel
theorem dX10_feed_5 : decode cX10_feed 5 = .ok (.sipush 255, 3) := by decide +kernel
theorem dX10_feed_8 : decode cX10_feed 8 = .ok (.if_icmp .le 7, 3) := by decide +kernel
theorem dX10_feed_11 : decode cX10_feed 11 = .ok (.iconst (-1), 1) := by decide +kernel
theorem dX10_feed_12 : decode cX10_feed 12 = .ok (.goto 14, 3) := by decide +kernel
theorem dX10_feed_15 : decode cX10_feed 15 = .ok (.aload_n 0, 1) := by decide +kernel
theorem dX10_feed_16 : decode cX10_feed 16 = .ok (.getfield 10, 3) := by decide +kernel
theorem dX10_feed_19 : decode cX10_feed 19 = .ok (.getfield 128, 3) := by decide +kernel
theorem dX10_feed_22 : decode cX10_feed 22 = .ok (.iload_n 1, 1) := by decide +kernel
theorem dX10_feed_23 : decode cX10_feed 23 = .ok (.invokevirtual 132, 3) := by decide +kernel
theorem dX10_feed_26 : decode cX10_feed 26 = .ok (.ireturn, 1) := by decide +kernel
theorem dX10_law_0 : decode cX10_law 0 = .ok (.aload_n 0, 1) := by decide +kernel
theorem dX10_law_1 : decode cX10_law 1 = .ok (.getfield 10, 3) := by decide +kernel
theorem dX10_law_4 : decode cX10_law 4 = .ok (.getfield 128, 3) := by decide +kernel
theorem dX10_law_7 : decode cX10_law 7 = .ok (.invokevirtual 138, 3) := by decide +kernel
theorem dX10_law_10 : decode cX10_law 10 = .ok (.ireturn, 1) := by decide +kernel
theorem dX10_runs_0 : decode cX10_runs 0 = .ok (.iload_n 1, 1) := by decide +kernel
theorem dX10_runs_1 : decode cX10_runs 1 = .ok (.invokestatic 76, 3) := by decide +kernel
theorem dX10_runs_4 : decode cX10_runs 4 = .ok (.ifCond .ne 5, 3) := by decide +kernel
theorem dX10_runs_7 : decode cX10_runs 7 = .ok (.iconst (-1), 1) := by decide +kernel
theorem dX10_runs_8 : decode cX10_runs 8 = .ok (.ireturn, 1) := by decide +kernel
theorem dX10_runs_9 : decode cX10_runs 9 = .ok (.aload_n 0, 1) := by decide +kernel
theorem dX10_runs_10 : decode cX10_runs 10 = .ok (.getfield 10, 3) := by decide +kernel
theorem dX10_runs_13 : decode cX10_runs 13 = .ok (.getfield 142, 3) := by decide +kernel
theorem dX10_runs_16 : decode cX10_runs 16 = .ok (.iload_n 1, 1) := by decide +kernel
theorem dX10_runs_17 : decode cX10_runs 17 = .ok (.invokevirtual 146, 3) := by decide +kernel
theorem dX10_runs_20 : decode cX10_runs 20 = .ok (.ifCond .eq 8, 3) := by decide +kernel
theorem dX10_runs_23 : decode cX10_runs 23 = .ok (.bipush (-2), 2) := by decide +kernel
theorem dX10_runs_25 : decode cX10_runs 25 = .ok (.goto 28, 3) := by decide +kernel
theorem dX10_runs_28 : decode cX10_runs 28 = .ok (.aload_n 0, 1) := by decide +kernel
theorem dX10_runs_29 : decode cX10_runs 29 = .ok (.getfield 10, 3) := by decide +kernel
theorem dX10_runs_32 : decode cX10_runs 32 = .ok (.getfield 151, 3) := by decide +kernel
theorem dX10_runs_35 : decode cX10_runs 35 = .ok (.aload_n 0, 1) := by decide +kernel
theorem dX10_runs_36 : decode cX10_runs 36 = .ok (.getfield 10, 3) := by decide +kernel
theorem dX10_runs_39 : decode cX10_runs 39 = .ok (.getfield 142, 3) := by decide +kernel
theorem dX10_runs_42 : decode cX10_runs 42 = .ok (.aload_n 0, 1) := by decide +kernel
theorem dX10_runs_43 : decode cX10_runs 43 = .ok (.getfield 10, 3) := by decide +kernel
theorem dX10_runs_46 : decode cX10_runs 46 = .ok (.getfield 128, 3) := by decide +kernel
theorem dX10_runs_49 : decode cX10_runs 49 = .ok (.iload_n 1, 1) := by decide +kernel
theorem dX10_runs_50 : decode cX10_runs 50 = .ok (.invokevirtual 154, 3) := by decide +kernel
theorem dX10_runs_53 : decode cX10_runs 53 = .ok (.ireturn, 1) := by decide +kernel
theorem dX10_later_0 : decode cX10_later 0 = .ok (.iload_n 1, 1) := by decide +kernel
theorem dX10_later_1 : decode cX10_later 1 = .ok (.invokestatic 158, 3) := by decide +kernel
theorem dX10_later_4 : decode cX10_later 4 = .ok (.ifCond .eq 12, 3) := by decide +kernel
theorem dX10_later_7 : decode cX10_later 7 = .ok (.iload_n 3, 1) := by decide +kernel
theorem dX10_later_8 : decode cX10_later 8 = .ok (.ifCond .lt 8, 3) := by decide +kernel
theorem dX10_later_11 : decode cX10_later 11 = .ok (.iload_n 3, 1) := by decide +kernel
theorem dX10_later_12 : decode cX10_later 12 = .ok (.iconst 1, 1) := by decide +kernel
theorem dX10_later_13 : decode cX10_later 13 = .ok (.if_icmp .le 5, 3) := by decide +kernel
theorem dX10_later_16 : decode cX10_later 16 = .ok (.iconst (-1), 1) := by decide +kernel
theorem dX10_later_17 : decode cX10_later 17 = .ok (.ireturn, 1) := by decide +kernel
theorem dX10_later_18 : decode cX10_later 18 = .ok (.iload_n 3, 1) := by decide +kernel
theorem dX10_later_19 : decode cX10_later 19 = .ok (.ifCond .ne 32, 3) := by decide +kernel
theorem dX10_later_22 : decode cX10_later 22 = .ok (.iload_n 2, 1) := by decide +kernel
theorem dX10_later_23 : decode cX10_later 23 = .ok (.invokestatic 76, 3) := by decide +kernel
theorem dX10_later_26 : decode cX10_later 26 = .ok (.ifCond .eq 23, 3) := by decide +kernel
theorem dX10_later_29 : decode cX10_later 29 = .ok (.aload_n 0, 1) := by decide +kernel
theorem dX10_later_30 : decode cX10_later 30 = .ok (.getfield 19, 3) := by decide +kernel
theorem dX10_later_33 : decode cX10_later 33 = .ok (.aload_n 0, 1) := by decide +kernel
theorem dX10_later_34 : decode cX10_later 34 = .ok (.getfield 10, 3) := by decide +kernel
theorem dX10_later_37 : decode cX10_later 37 = .ok (.iload_n 1, 1) := by decide +kernel
theorem dX10_later_38 : decode cX10_later 38 = .ok (.invokevirtual 161, 3) := by decide +kernel
theorem dX10_later_41 : decode cX10_later 41 = .ok (.getfield 165, 3) := by decide +kernel
theorem dX10_later_44 : decode cX10_later 44 = .ok (.iload_n 2, 1) := by decide +kernel
theorem dX10_later_45 : decode cX10_later 45 = .ok (.iaload, 1) := by decide +kernel
theorem dX10_later_46 : decode cX10_later 46 = .ok (.goto 4, 3) := by decide +kernel
theorem dX10_later_49 : decode cX10_later 49 = .ok (.iconst (-1), 1) := by decide +kernel
theorem dX10_later_50 : decode cX10_later 50 = .ok (.ireturn, 1) := by decide +kernel
theorem dX10_later_51 : decode cX10_later 51 = .ok (.aload_n 0, 1) := by decide +kernel
theorem dX10_later_52 : decode cX10_later 52 = .ok (.getfield 10, 3) := by decide +kernel
theorem dX10_later_55 : decode cX10_later 55 = .ok (.iload_n 2, 1) := by decide +kernel
theorem dX10_later_56 : decode cX10_later 56 = .ok (.invokevirtual 168, 3) := by decide +kernel
theorem dX10_later_59 : decode cX10_later 59 = .ok (.ifCond .eq 23, 3) := by decide +kernel
theorem dX10_later_62 : decode cX10_later 62 = .ok (.aload_n 0, 1) := by decide +kernel
theorem dX10_later_63 : decode cX10_later 63 = .ok (.getfield 19, 3) := by decide +kernel
theorem dX10_later_66 : decode cX10_later 66 = .ok (.aload_n 0, 1) := by decide +kernel
theorem dX10_later_67 : decode cX10_later 67 = .ok (.getfield 10, 3) := by decide +kernel
theorem dX10_later_70 : decode cX10_later 70 = .ok (.iload_n 1, 1) := by decide +kernel
theorem dX10_later_71 : decode cX10_later 71 = .ok (.invokevirtual 161, 3) := by decide +kernel
theorem dX10_later_74 : decode cX10_later 74 = .ok (.getfield 171, 3) := by decide +kernel
theorem dX10_later_77 : decode cX10_later 77 = .ok (.iload_n 2, 1) := by decide +kernel
theorem dX10_later_78 : decode cX10_later 78 = .ok (.iaload, 1) := by decide +kernel
theorem dX10_later_79 : decode cX10_later 79 = .ok (.goto 4, 3) := by decide +kernel
theorem dX10_later_82 : decode cX10_later 82 = .ok (.iconst (-1), 1) := by decide +kernel
theorem dX10_later_83 : decode cX10_later 83 = .ok (.ireturn, 1) := by decide +kernel
theorem dX10_all_0 : decode cX10_all 0 = .ok (.iload_n 1, 1) := by decide +kernel
theorem dX10_all_1 : decode cX10_all 1 = .ok (.invokestatic 158, 3) := by decide +kernel
theorem dX10_all_4 : decode cX10_all 4 = .ok (.ifCond .eq 12, 3) := by decide +kernel
theorem dX10_all_7 : decode cX10_all 7 = .ok (.iload_n 2, 1) := by decide +kernel
theorem dX10_all_8 : decode cX10_all 8 = .ok (.ifCond .lt 8, 3) := by decide +kernel
theorem dX10_all_11 : decode cX10_all 11 = .ok (.iload_n 2, 1) := by decide +kernel
theorem dX10_all_12 : decode cX10_all 12 = .ok (.iconst 1, 1) := by decide +kernel
theorem dX10_all_13 : decode cX10_all 13 = .ok (.if_icmp .le 5, 3) := by decide +kernel
theorem dX10_all_16 : decode cX10_all 16 = .ok (.iconst (-1), 1) := by decide +kernel
theorem dX10_all_17 : decode cX10_all 17 = .ok (.ireturn, 1) := by decide +kernel
theorem dX10_all_18 : decode cX10_all 18 = .ok (.aload_n 0, 1) := by decide +kernel
theorem dX10_all_19 : decode cX10_all 19 = .ok (.getfield 19, 3) := by decide +kernel
theorem dX10_all_22 : decode cX10_all 22 = .ok (.aload_n 0, 1) := by decide +kernel
theorem dX10_all_23 : decode cX10_all 23 = .ok (.getfield 10, 3) := by decide +kernel
theorem dX10_all_26 : decode cX10_all 26 = .ok (.iload_n 1, 1) := by decide +kernel
theorem dX10_all_27 : decode cX10_all 27 = .ok (.invokevirtual 161, 3) := by decide +kernel
theorem dX10_all_30 : decode cX10_all 30 = .ok (.astore_n 3, 1) := by decide +kernel
theorem dX10_all_31 : decode cX10_all 31 = .ok (.iload_n 2, 1) := by decide +kernel
theorem dX10_all_32 : decode cX10_all 32 = .ok (.ifCond .ne 10, 3) := by decide +kernel
theorem dX10_all_35 : decode cX10_all 35 = .ok (.aload_n 3, 1) := by decide +kernel
theorem dX10_all_36 : decode cX10_all 36 = .ok (.invokevirtual 174, 3) := by decide +kernel
theorem dX10_all_39 : decode cX10_all 39 = .ok (.goto 7, 3) := by decide +kernel
theorem dX10_all_42 : decode cX10_all 42 = .ok (.aload_n 3, 1) := by decide +kernel
theorem dX10_all_43 : decode cX10_all 43 = .ok (.invokevirtual 177, 3) := by decide +kernel
theorem dX10_all_46 : decode cX10_all 46 = .ok (.ireturn, 1) := by decide +kernel
theorem dX10_still_0 : decode cX10_still 0 = .ok (.aload_n 0, 1) := by decide +kernel
theorem dX10_still_1 : decode cX10_still 1 = .ok (.getfield 19, 3) := by decide +kernel
theorem dX10_still_4 : decode cX10_still 4 = .ok (.aload_n 0, 1) := by decide +kernel
theorem dX10_still_5 : decode cX10_still 5 = .ok (.getfield 10, 3) := by decide +kernel
theorem dX10_still_8 : decode cX10_still 8 = .ok (.invokevirtual 180, 3) := by decide +kernel
theorem dX10_still_11 : decode cX10_still 11 = .ok (.ireturn, 1) := by decide +kernel
theorem dX10_rich_0 : decode cX10_rich 0 = .ok (.aload_n 0, 1) := by decide +kernel
theorem dX10_rich_1 : decode cX10_rich 1 = .ok (.getfield 10, 3) := by decide +kernel
theorem dX10_rich_4 : decode cX10_rich 4 = .ok (.iload_n 1, 1) := by decide +kernel
theorem dX10_rich_5 : decode cX10_rich 5 = .ok (.invokevirtual 168, 3) := by decide +kernel
theorem dX10_rich_8 : decode cX10_rich 8 = .ok (.ifCond .eq 28, 3) := by decide +kernel
theorem dX10_rich_11 : decode cX10_rich 11 = .ok (.iload_n 2, 1) := by decide +kernel
theorem dX10_rich_12 : decode cX10_rich 12 = .ok (.bipush 6, 2) := by decide +kernel
theorem dX10_rich_14 : decode cX10_rich 14 = .ok (.invokestatic 113, 3) := by decide +kernel
theorem dX10_rich_17 : decode cX10_rich 17 = .ok (.ifCond .eq 19, 3) := by decide +kernel
theorem dX10_rich_20 : decode cX10_rich 20 = .ok (.aload_n 0, 1) := by decide +kernel
theorem dX10_rich_21 : decode cX10_rich 21 = .ok (.getfield 19, 3) := by decide +kernel
theorem dX10_rich_24 : decode cX10_rich 24 = .ok (.aload_n 0, 1) := by decide +kernel
theorem dX10_rich_25 : decode cX10_rich 25 = .ok (.getfield 10, 3) := by decide +kernel
theorem dX10_rich_28 : decode cX10_rich 28 = .ok (.iload_n 1, 1) := by decide +kernel
theorem dX10_rich_29 : decode cX10_rich 29 = .ok (.iload_n 2, 1) := by decide +kernel
theorem dX10_rich_30 : decode cX10_rich 30 = .ok (.invokevirtual 184, 3) := by decide +kernel
theorem dX10_rich_33 : decode cX10_rich 33 = .ok (.goto 4, 3) := by decide +kernel
theorem dX10_rich_36 : decode cX10_rich 36 = .ok (.iconst (-1), 1) := by decide +kernel
theorem dX10_rich_37 : decode cX10_rich 37 = .ok (.ireturn, 1) := by decide +kernel
theorem dX10_sink_0 : decode cX10_sink 0 = .ok (.iload_n 1, 1) := by decide +kernel
theorem dX10_sink_1 : decode cX10_sink 1 = .ok (.invokestatic 76, 3) := by decide +kernel
theorem dX10_sink_4 : decode cX10_sink 4 = .ok (.ifCond .eq 12, 3) := by decide +kernel
theorem dX10_sink_7 : decode cX10_sink 7 = .ok (.iload_n 2, 1) := by decide +kernel
theorem dX10_sink_8 : decode cX10_sink 8 = .ok (.ifCond .lt 8, 3) := by decide +kernel
theorem dX10_sink_11 : decode cX10_sink 11 = .ok (.iload_n 2, 1) := by decide +kernel
theorem dX10_sink_12 : decode cX10_sink 12 = .ok (.iconst 1, 1) := by decide +kernel
theorem dX10_sink_13 : decode cX10_sink 13 = .ok (.if_icmp .le 5, 3) := by decide +kernel
theorem dX10_sink_16 : decode cX10_sink 16 = .ok (.iconst (-1), 1) := by decide +kernel
theorem dX10_sink_17 : decode cX10_sink 17 = .ok (.ireturn, 1) := by decide +kernel
theorem dX10_sink_18 : decode cX10_sink 18 = .ok (.iload_n 2, 1) := by decide +kernel
theorem dX10_sink_19 : decode cX10_sink 19 = .ok (.ifCond .ne 17, 3) := by decide +kernel
theorem dX10_sink_22 : decode cX10_sink 22 = .ok (.aload_n 0, 1) := by decide +kernel
theorem dX10_sink_23 : decode cX10_sink 23 = .ok (.getfield 10, 3) := by decide +kernel
theorem dX10_sink_26 : decode cX10_sink 26 = .ok (.getfield 142, 3) := by decide +kernel
theorem dX10_sink_29 : decode cX10_sink 29 = .ok (.iload_n 1, 1) := by decide +kernel
theorem dX10_sink_30 : decode cX10_sink 30 = .ok (.invokevirtual 188, 3) := by decide +kernel
theorem dX10_sink_33 : decode cX10_sink 33 = .ok (.goto 14, 3) := by decide +kernel
theorem dX10_sink_36 : decode cX10_sink 36 = .ok (.aload_n 0, 1) := by decide +kernel
theorem dX10_sink_37 : decode cX10_sink 37 = .ok (.getfield 10, 3) := by decide +kernel
theorem dX10_sink_40 : decode cX10_sink 40 = .ok (.getfield 142, 3) := by decide +kernel
theorem dX10_sink_43 : decode cX10_sink 43 = .ok (.iload_n 1, 1) := by decide +kernel
theorem dX10_sink_44 : decode cX10_sink 44 = .ok (.invokevirtual 191, 3) := by decide +kernel
theorem dX10_sink_47 : decode cX10_sink 47 = .ok (.ireturn, 1) := by decide +kernel
theorem dX10_basin_0 : decode cX10_basin 0 = .ok (.iload_n 1, 1) := by decide +kernel
theorem dX10_basin_1 : decode cX10_basin 1 = .ok (.iconst (-1), 1) := by decide +kernel
theorem dX10_basin_2 : decode cX10_basin 2 = .ok (.if_icmp .ne 14, 3) := by decide +kernel
theorem dX10_basin_5 : decode cX10_basin 5 = .ok (.aload_n 0, 1) := by decide +kernel
theorem dX10_basin_6 : decode cX10_basin 6 = .ok (.getfield 10, 3) := by decide +kernel
theorem dX10_basin_9 : decode cX10_basin 9 = .ok (.getfield 142, 3) := by decide +kernel
theorem dX10_basin_12 : decode cX10_basin 12 = .ok (.invokevirtual 194, 3) := by decide +kernel
theorem dX10_basin_15 : decode cX10_basin 15 = .ok (.lreturn, 1) := by decide +kernel
theorem dX10_basin_16 : decode cX10_basin 16 = .ok (.iload_n 1, 1) := by decide +kernel
theorem dX10_basin_17 : decode cX10_basin 17 = .ok (.invokestatic 76, 3) := by decide +kernel
theorem dX10_basin_20 : decode cX10_basin 20 = .ok (.ifCond .eq 17, 3) := by decide +kernel
theorem dX10_basin_23 : decode cX10_basin 23 = .ok (.aload_n 0, 1) := by decide +kernel
theorem dX10_basin_24 : decode cX10_basin 24 = .ok (.getfield 10, 3) := by decide +kernel
theorem dX10_basin_27 : decode cX10_basin 27 = .ok (.getfield 142, 3) := by decide +kernel
theorem dX10_basin_30 : decode cX10_basin 30 = .ok (.iload_n 1, 1) := by decide +kernel
theorem dX10_basin_31 : decode cX10_basin 31 = .ok (.invokevirtual 198, 3) := by decide +kernel
theorem dX10_basin_34 : decode cX10_basin 34 = .ok (.goto 6, 3) := by decide +kernel
theorem dX10_basin_37 : decode cX10_basin 37 = .ok (.ldc2_w 204, 3) := by decide +kernel
theorem dX10_basin_40 : decode cX10_basin 40 = .ok (.lreturn, 1) := by decide +kernel
theorem dX10_fall_0 : decode cX10_fall 0 = .ok (.iload_n 1, 1) := by decide +kernel
theorem dX10_fall_1 : decode cX10_fall 1 = .ok (.ifCond .lt 35, 3) := by decide +kernel
theorem dX10_fall_4 : decode cX10_fall 4 = .ok (.iload_n 1, 1) := by decide +kernel
theorem dX10_fall_5 : decode cX10_fall 5 = .ok (.bipush 100, 2) := by decide +kernel
theorem dX10_fall_7 : decode cX10_fall 7 = .ok (.idiv, 1) := by decide +kernel
theorem dX10_fall_8 : decode cX10_fall 8 = .ok (.invokestatic 76, 3) := by decide +kernel
theorem dX10_fall_11 : decode cX10_fall 11 = .ok (.ifCond .eq 25, 3) := by decide +kernel
theorem dX10_fall_14 : decode cX10_fall 14 = .ok (.iload_n 1, 1) := by decide +kernel
theorem dX10_fall_15 : decode cX10_fall 15 = .ok (.bipush 100, 2) := by decide +kernel
theorem dX10_fall_17 : decode cX10_fall 17 = .ok (.irem, 1) := by decide +kernel
theorem dX10_fall_18 : decode cX10_fall 18 = .ok (.invokestatic 158, 3) := by decide +kernel
theorem dX10_fall_21 : decode cX10_fall 21 = .ok (.ifCond .eq 15, 3) := by decide +kernel
theorem dX10_fall_24 : decode cX10_fall 24 = .ok (.iload_n 2, 1) := by decide +kernel
theorem dX10_fall_25 : decode cX10_fall 25 = .ok (.iconst 1, 1) := by decide +kernel
theorem dX10_fall_26 : decode cX10_fall 26 = .ok (.if_icmp .lt 10, 3) := by decide +kernel
theorem dX10_fall_29 : decode cX10_fall 29 = .ok (.iload_n 2, 1) := by decide +kernel
theorem dX10_fall_30 : decode cX10_fall 30 = .ok (.sipush 9999, 3) := by decide +kernel
theorem dX10_fall_33 : decode cX10_fall 33 = .ok (.if_icmp .le 6, 3) := by decide +kernel
theorem dX10_fall_36 : decode cX10_fall 36 = .ok (.ldc 206, 2) := by decide +kernel
theorem dX10_fall_38 : decode cX10_fall 38 = .ok (.ireturn, 1) := by decide +kernel
theorem dX10_fall_39 : decode cX10_fall 39 = .ok (.iload_n 3, 1) := by decide +kernel
theorem dX10_fall_40 : decode cX10_fall 40 = .ok (.iconst (-1), 1) := by decide +kernel
theorem dX10_fall_41 : decode cX10_fall 41 = .ok (.if_icmp .eq 17, 3) := by decide +kernel
theorem dX10_fall_44 : decode cX10_fall 44 = .ok (.aload_n 0, 1) := by decide +kernel
theorem dX10_fall_45 : decode cX10_fall 45 = .ok (.getfield 10, 3) := by decide +kernel
theorem dX10_fall_48 : decode cX10_fall 48 = .ok (.iload_n 3, 1) := by decide +kernel
theorem dX10_fall_49 : decode cX10_fall 49 = .ok (.invokevirtual 168, 3) := by decide +kernel
theorem dX10_fall_52 : decode cX10_fall 52 = .ok (.ifCond .ne 6, 3) := by decide +kernel
theorem dX10_fall_55 : decode cX10_fall 55 = .ok (.ldc 206, 2) := by decide +kernel
theorem dX10_fall_57 : decode cX10_fall 57 = .ok (.ireturn, 1) := by decide +kernel
theorem dX10_fall_58 : decode cX10_fall 58 = .ok (.aload_n 0, 1) := by decide +kernel
theorem dX10_fall_59 : decode cX10_fall 59 = .ok (.getfield 19, 3) := by decide +kernel
theorem dX10_fall_62 : decode cX10_fall 62 = .ok (.aload_n 0, 1) := by decide +kernel
theorem dX10_fall_63 : decode cX10_fall 63 = .ok (.getfield 10, 3) := by decide +kernel
theorem dX10_fall_66 : decode cX10_fall 66 = .ok (.iload_n 1, 1) := by decide +kernel
theorem dX10_fall_67 : decode cX10_fall 67 = .ok (.bipush 100, 2) := by decide +kernel
theorem dX10_fall_69 : decode cX10_fall 69 = .ok (.idiv, 1) := by decide +kernel
theorem dX10_fall_70 : decode cX10_fall 70 = .ok (.iload_n 1, 1) := by decide +kernel
theorem dX10_fall_71 : decode cX10_fall 71 = .ok (.bipush 100, 2) := by decide +kernel
theorem dX10_fall_73 : decode cX10_fall 73 = .ok (.irem, 1) := by decide +kernel
theorem dX10_fall_74 : decode cX10_fall 74 = .ok (.iload_n 2, 1) := by decide +kernel
theorem dX10_fall_75 : decode cX10_fall 75 = .ok (.iload_n 3, 1) := by decide +kernel
theorem dX10_fall_76 : decode cX10_fall 76 = .ok (.invokevirtual 207, 3) := by decide +kernel
theorem dX10_fall_79 : decode cX10_fall 79 = .ok (.ireturn, 1) := by decide +kernel
theorem dX10_shoes_0 : decode cX10_shoes 0 = .ok (.iload_n 2, 1) := by decide +kernel
theorem dX10_shoes_1 : decode cX10_shoes 1 = .ok (.sipush 10000, 3) := by decide +kernel
theorem dX10_shoes_4 : decode cX10_shoes 4 = .ok (.idiv, 1) := by decide +kernel
theorem dX10_shoes_5 : decode cX10_shoes 5 = .ok (.istore 4, 2) := by decide +kernel
theorem dX10_shoes_7 : decode cX10_shoes 7 = .ok (.aload_n 0, 1) := by decide +kernel
theorem dX10_shoes_8 : decode cX10_shoes 8 = .ok (.getfield 10, 3) := by decide +kernel
theorem dX10_shoes_11 : decode cX10_shoes 11 = .ok (.iload_n 1, 1) := by decide +kernel
theorem dX10_shoes_12 : decode cX10_shoes 12 = .ok (.invokevirtual 168, 3) := by decide +kernel
theorem dX10_shoes_15 : decode cX10_shoes 15 = .ok (.ifCond .eq 23, 3) := by decide +kernel
theorem dX10_shoes_18 : decode cX10_shoes 18 = .ok (.iload_n 2, 1) := by decide +kernel
theorem dX10_shoes_19 : decode cX10_shoes 19 = .ok (.ifCond .lt 19, 3) := by decide +kernel
theorem dX10_shoes_22 : decode cX10_shoes 22 = .ok (.iload 4, 2) := by decide +kernel
theorem dX10_shoes_24 : decode cX10_shoes 24 = .ok (.bipush 12, 2) := by decide +kernel
theorem dX10_shoes_26 : decode cX10_shoes 26 = .ok (.if_icmp .gt 12, 3) := by decide +kernel
theorem dX10_shoes_29 : decode cX10_shoes 29 = .ok (.iload_n 3, 1) := by decide +kernel
theorem dX10_shoes_30 : decode cX10_shoes 30 = .ok (.ifCond .lt 8, 3) := by decide +kernel
theorem dX10_shoes_33 : decode cX10_shoes 33 = .ok (.iload_n 3, 1) := by decide +kernel
theorem dX10_shoes_34 : decode cX10_shoes 34 = .ok (.iconst 1, 1) := by decide +kernel
theorem dX10_shoes_35 : decode cX10_shoes 35 = .ok (.if_icmp .le 5, 3) := by decide +kernel
theorem dX10_shoes_38 : decode cX10_shoes 38 = .ok (.iconst (-1), 1) := by decide +kernel
theorem dX10_shoes_39 : decode cX10_shoes 39 = .ok (.ireturn, 1) := by decide +kernel
theorem dX10_shoes_40 : decode cX10_shoes 40 = .ok (.aload_n 0, 1) := by decide +kernel
theorem dX10_shoes_41 : decode cX10_shoes 41 = .ok (.getfield 19, 3) := by decide +kernel
theorem dX10_shoes_44 : decode cX10_shoes 44 = .ok (.aload_n 0, 1) := by decide +kernel
theorem dX10_shoes_45 : decode cX10_shoes 45 = .ok (.getfield 10, 3) := by decide +kernel
theorem dX10_shoes_48 : decode cX10_shoes 48 = .ok (.iload_n 1, 1) := by decide +kernel
theorem dX10_shoes_49 : decode cX10_shoes 49 = .ok (.iload 4, 2) := by decide +kernel
theorem dX10_shoes_51 : decode cX10_shoes 51 = .ok (.iload_n 2, 1) := by decide +kernel
theorem dX10_shoes_52 : decode cX10_shoes 52 = .ok (.sipush 10000, 3) := by decide +kernel
theorem dX10_shoes_55 : decode cX10_shoes 55 = .ok (.irem, 1) := by decide +kernel
theorem dX10_shoes_56 : decode cX10_shoes 56 = .ok (.invokevirtual 211, 3) := by decide +kernel
theorem dX10_shoes_59 : decode cX10_shoes 59 = .ok (.istore 5, 2) := by decide +kernel
theorem dX10_shoes_61 : decode cX10_shoes 61 = .ok (.iload_n 3, 1) := by decide +kernel
theorem dX10_shoes_62 : decode cX10_shoes 62 = .ok (.ifCond .eq 10, 3) := by decide +kernel
theorem dX10_shoes_65 : decode cX10_shoes 65 = .ok (.iload 5, 2) := by decide +kernel
theorem dX10_shoes_67 : decode cX10_shoes 67 = .ok (.bipush (-2), 2) := by decide +kernel
theorem dX10_shoes_69 : decode cX10_shoes 69 = .ok (.if_icmp .ne 8, 3) := by decide +kernel
theorem dX10_shoes_72 : decode cX10_shoes 72 = .ok (.iload 5, 2) := by decide +kernel
theorem dX10_shoes_74 : decode cX10_shoes 74 = .ok (.goto 10, 3) := by decide +kernel
theorem dX10_shoes_77 : decode cX10_shoes 77 = .ok (.aload_n 0, 1) := by decide +kernel
theorem dX10_shoes_78 : decode cX10_shoes 78 = .ok (.getfield 19, 3) := by decide +kernel
theorem dX10_shoes_81 : decode cX10_shoes 81 = .ok (.getfield 215, 3) := by decide +kernel
theorem dX10_shoes_84 : decode cX10_shoes 84 = .ok (.ireturn, 1) := by decide +kernel
theorem dX10_seat_0 : decode cX10_seat 0 = .ok (.aload_n 0, 1) := by decide +kernel
theorem dX10_seat_1 : decode cX10_seat 1 = .ok (.getfield 10, 3) := by decide +kernel
theorem dX10_seat_4 : decode cX10_seat 4 = .ok (.iload_n 1, 1) := by decide +kernel
theorem dX10_seat_5 : decode cX10_seat 5 = .ok (.invokevirtual 168, 3) := by decide +kernel
theorem dX10_seat_8 : decode cX10_seat 8 = .ok (.ifCond .eq 22, 3) := by decide +kernel
theorem dX10_seat_11 : decode cX10_seat 11 = .ok (.iload_n 2, 1) := by decide +kernel
theorem dX10_seat_12 : decode cX10_seat 12 = .ok (.ifCond .lt 18, 3) := by decide +kernel
theorem dX10_seat_15 : decode cX10_seat 15 = .ok (.iload_n 2, 1) := by decide +kernel
theorem dX10_seat_16 : decode cX10_seat 16 = .ok (.bipush 24, 2) := by decide +kernel
theorem dX10_seat_18 : decode cX10_seat 18 = .ok (.if_icmp .gt 12, 3) := by decide +kernel
theorem dX10_seat_21 : decode cX10_seat 21 = .ok (.iload_n 3, 1) := by decide +kernel
theorem dX10_seat_22 : decode cX10_seat 22 = .ok (.ifCond .lt 8, 3) := by decide +kernel
theorem dX10_seat_25 : decode cX10_seat 25 = .ok (.iload_n 3, 1) := by decide +kernel
theorem dX10_seat_26 : decode cX10_seat 26 = .ok (.iconst 1, 1) := by decide +kernel
theorem dX10_seat_27 : decode cX10_seat 27 = .ok (.if_icmp .le 5, 3) := by decide +kernel
theorem dX10_seat_30 : decode cX10_seat 30 = .ok (.iconst (-1), 1) := by decide +kernel
theorem dX10_seat_31 : decode cX10_seat 31 = .ok (.ireturn, 1) := by decide +kernel
theorem dX10_seat_32 : decode cX10_seat 32 = .ok (.aload_n 0, 1) := by decide +kernel
theorem dX10_seat_33 : decode cX10_seat 33 = .ok (.getfield 19, 3) := by decide +kernel
theorem dX10_seat_36 : decode cX10_seat 36 = .ok (.aload_n 0, 1) := by decide +kernel
theorem dX10_seat_37 : decode cX10_seat 37 = .ok (.getfield 10, 3) := by decide +kernel
theorem dX10_seat_40 : decode cX10_seat 40 = .ok (.iload_n 1, 1) := by decide +kernel
theorem dX10_seat_41 : decode cX10_seat 41 = .ok (.iload_n 2, 1) := by decide +kernel
theorem dX10_seat_42 : decode cX10_seat 42 = .ok (.invokevirtual 218, 3) := by decide +kernel
theorem dX10_seat_45 : decode cX10_seat 45 = .ok (.istore 4, 2) := by decide +kernel
theorem dX10_seat_47 : decode cX10_seat 47 = .ok (.iload_n 3, 1) := by decide +kernel
theorem dX10_seat_48 : decode cX10_seat 48 = .ok (.ifCond .ne 8, 3) := by decide +kernel
theorem dX10_seat_51 : decode cX10_seat 51 = .ok (.iload 4, 2) := by decide +kernel
theorem dX10_seat_53 : decode cX10_seat 53 = .ok (.goto 10, 3) := by decide +kernel
theorem dX10_seat_56 : decode cX10_seat 56 = .ok (.aload_n 0, 1) := by decide +kernel
theorem dX10_seat_57 : decode cX10_seat 57 = .ok (.getfield 19, 3) := by decide +kernel
theorem dX10_seat_60 : decode cX10_seat 60 = .ok (.getfield 221, 3) := by decide +kernel
theorem dX10_seat_63 : decode cX10_seat 63 = .ok (.ireturn, 1) := by decide +kernel
theorem dX10_judge_0 : decode cX10_judge 0 = .ok (.iload_n 1, 1) := by decide +kernel
theorem dX10_judge_1 : decode cX10_judge 1 = .ok (.invokestatic 88, 3) := by decide +kernel
theorem dX10_judge_4 : decode cX10_judge 4 = .ok (.ifCond .eq 10, 3) := by decide +kernel
theorem dX10_judge_7 : decode cX10_judge 7 = .ok (.iload_n 2, 1) := by decide +kernel
theorem dX10_judge_8 : decode cX10_judge 8 = .ok (.invokestatic 76, 3) := by decide +kernel
theorem dX10_judge_11 : decode cX10_judge 11 = .ok (.ifCond .ne 5, 3) := by decide +kernel
theorem dX10_judge_14 : decode cX10_judge 14 = .ok (.iconst (-1), 1) := by decide +kernel
theorem dX10_judge_15 : decode cX10_judge 15 = .ok (.ireturn, 1) := by decide +kernel
theorem dX10_judge_16 : decode cX10_judge 16 = .ok (.aload_n 0, 1) := by decide +kernel
theorem dX10_judge_17 : decode cX10_judge 17 = .ok (.getfield 47, 3) := by decide +kernel
theorem dX10_judge_20 : decode cX10_judge 20 = .ok (.iload_n 1, 1) := by decide +kernel
theorem dX10_judge_21 : decode cX10_judge 21 = .ok (.iconst 1, 1) := by decide +kernel
theorem dX10_judge_22 : decode cX10_judge 22 = .ok (.invokevirtual 224, 3) := by decide +kernel
theorem dX10_judge_25 : decode cX10_judge 25 = .ok (.istore_n 3, 1) := by decide +kernel
theorem dX10_judge_26 : decode cX10_judge 26 = .ok (.iload_n 3, 1) := by decide +kernel
theorem dX10_judge_27 : decode cX10_judge 27 = .ok (.ifCond .eq 7, 3) := by decide +kernel
theorem dX10_judge_30 : decode cX10_judge 30 = .ok (.iload_n 3, 1) := by decide +kernel
theorem dX10_judge_31 : decode cX10_judge 31 = .ok (.goto 33, 3) := by decide +kernel
theorem dX10_judge_34 : decode cX10_judge 34 = .ok (.aload_n 0, 1) := by decide +kernel
theorem dX10_judge_35 : decode cX10_judge 35 = .ok (.getfield 19, 3) := by decide +kernel
theorem dX10_judge_38 : decode cX10_judge 38 = .ok (.aload_n 0, 1) := by decide +kernel
theorem dX10_judge_39 : decode cX10_judge 39 = .ok (.getfield 10, 3) := by decide +kernel
theorem dX10_judge_42 : decode cX10_judge 42 = .ok (.aload_n 0, 1) := by decide +kernel
theorem dX10_judge_43 : decode cX10_judge 43 = .ok (.getfield 47, 3) := by decide +kernel
theorem dX10_judge_46 : decode cX10_judge 46 = .ok (.getfield 102, 3) := by decide +kernel
theorem dX10_judge_49 : decode cX10_judge 49 = .ok (.iload_n 1, 1) := by decide +kernel
theorem dX10_judge_50 : decode cX10_judge 50 = .ok (.aaload, 1) := by decide +kernel
theorem dX10_judge_51 : decode cX10_judge 51 = .ok (.aload_n 0, 1) := by decide +kernel
theorem dX10_judge_52 : decode cX10_judge 52 = .ok (.getfield 47, 3) := by decide +kernel
theorem dX10_judge_55 : decode cX10_judge 55 = .ok (.getfield 227, 3) := by decide +kernel
theorem dX10_judge_58 : decode cX10_judge 58 = .ok (.iload_n 1, 1) := by decide +kernel
theorem dX10_judge_59 : decode cX10_judge 59 = .ok (.iaload, 1) := by decide +kernel
theorem dX10_judge_60 : decode cX10_judge 60 = .ok (.iload_n 2, 1) := by decide +kernel
theorem dX10_judge_61 : decode cX10_judge 61 = .ok (.invokevirtual 230, 3) := by decide +kernel
theorem dX10_judge_64 : decode cX10_judge 64 = .ok (.ireturn, 1) := by decide +kernel
theorem dX10_seen_0 : decode cX10_seen 0 = .ok (.iload_n 1, 1) := by decide +kernel
theorem dX10_seen_1 : decode cX10_seen 1 = .ok (.invokestatic 88, 3) := by decide +kernel
theorem dX10_seen_4 : decode cX10_seen 4 = .ok (.ifCond .eq 36, 3) := by decide +kernel
theorem dX10_seen_7 : decode cX10_seen 7 = .ok (.iload_n 2, 1) := by decide +kernel
theorem dX10_seen_8 : decode cX10_seen 8 = .ok (.ifCond .lt 32, 3) := by decide +kernel
theorem dX10_seen_11 : decode cX10_seen 11 = .ok (.iload_n 2, 1) := by decide +kernel
theorem dX10_seen_12 : decode cX10_seen 12 = .ok (.bipush 100, 2) := by decide +kernel
theorem dX10_seen_14 : decode cX10_seen 14 = .ok (.idiv, 1) := by decide +kernel
theorem dX10_seen_15 : decode cX10_seen 15 = .ok (.invokestatic 76, 3) := by decide +kernel
theorem dX10_seen_18 : decode cX10_seen 18 = .ok (.ifCond .eq 22, 3) := by decide +kernel
theorem dX10_seen_21 : decode cX10_seen 21 = .ok (.iload_n 2, 1) := by decide +kernel
theorem dX10_seen_22 : decode cX10_seen 22 = .ok (.bipush 100, 2) := by decide +kernel
theorem dX10_seen_24 : decode cX10_seen 24 = .ok (.irem, 1) := by decide +kernel
theorem dX10_seen_25 : decode cX10_seen 25 = .ok (.invokestatic 76, 3) := by decide +kernel
theorem dX10_seen_28 : decode cX10_seen 28 = .ok (.ifCond .eq 12, 3) := by decide +kernel
theorem dX10_seen_31 : decode cX10_seen 31 = .ok (.iload_n 3, 1) := by decide +kernel
theorem dX10_seen_32 : decode cX10_seen 32 = .ok (.ifCond .lt 8, 3) := by decide +kernel
theorem dX10_seen_35 : decode cX10_seen 35 = .ok (.iload_n 3, 1) := by decide +kernel
theorem dX10_seen_36 : decode cX10_seen 36 = .ok (.iconst 2, 1) := by decide +kernel
theorem dX10_seen_37 : decode cX10_seen 37 = .ok (.if_icmp .le 5, 3) := by decide +kernel
theorem dX10_seen_40 : decode cX10_seen 40 = .ok (.iconst (-1), 1) := by decide +kernel
theorem dX10_seen_41 : decode cX10_seen 41 = .ok (.ireturn, 1) := by decide +kernel
theorem dX10_seen_42 : decode cX10_seen 42 = .ok (.aload_n 0, 1) := by decide +kernel
theorem dX10_seen_43 : decode cX10_seen 43 = .ok (.getfield 47, 3) := by decide +kernel
theorem dX10_seen_46 : decode cX10_seen 46 = .ok (.iload_n 1, 1) := by decide +kernel
theorem dX10_seen_47 : decode cX10_seen 47 = .ok (.iconst 1, 1) := by decide +kernel
theorem dX10_seen_48 : decode cX10_seen 48 = .ok (.invokevirtual 224, 3) := by decide +kernel
theorem dX10_seen_51 : decode cX10_seen 51 = .ok (.istore 4, 2) := by decide +kernel
theorem dX10_seen_53 : decode cX10_seen 53 = .ok (.iload 4, 2) := by decide +kernel
theorem dX10_seen_55 : decode cX10_seen 55 = .ok (.ifCond .eq 6, 3) := by decide +kernel
theorem dX10_seen_58 : decode cX10_seen 58 = .ok (.iload 4, 2) := by decide +kernel
theorem dX10_seen_60 : decode cX10_seen 60 = .ok (.ireturn, 1) := by decide +kernel
theorem dX10_seen_61 : decode cX10_seen 61 = .ok (.aload_n 0, 1) := by decide +kernel
theorem dX10_seen_62 : decode cX10_seen 62 = .ok (.getfield 47, 3) := by decide +kernel
theorem dX10_seen_65 : decode cX10_seen 65 = .ok (.getfield 102, 3) := by decide +kernel
theorem dX10_seen_68 : decode cX10_seen 68 = .ok (.iload_n 1, 1) := by decide +kernel
theorem dX10_seen_69 : decode cX10_seen 69 = .ok (.aaload, 1) := by decide +kernel
theorem dX10_seen_70 : decode cX10_seen 70 = .ok (.astore 5, 2) := by decide +kernel
theorem dX10_seen_72 : decode cX10_seen 72 = .ok (.aload_n 0, 1) := by decide +kernel
theorem dX10_seen_73 : decode cX10_seen 73 = .ok (.getfield 47, 3) := by decide +kernel
theorem dX10_seen_76 : decode cX10_seen 76 = .ok (.getfield 227, 3) := by decide +kernel
theorem dX10_seen_79 : decode cX10_seen 79 = .ok (.iload_n 1, 1) := by decide +kernel
theorem dX10_seen_80 : decode cX10_seen 80 = .ok (.iaload, 1) := by decide +kernel
theorem dX10_seen_81 : decode cX10_seen 81 = .ok (.istore 6, 2) := by decide +kernel
theorem dX10_seen_83 : decode cX10_seen 83 = .ok (.iload_n 3, 1) := by decide +kernel
theorem dX10_seen_84 : decode cX10_seen 84 = .ok (.ifCond .ne 27, 3) := by decide +kernel
theorem dX10_seen_87 : decode cX10_seen 87 = .ok (.aload_n 0, 1) := by decide +kernel
theorem dX10_seen_88 : decode cX10_seen 88 = .ok (.getfield 19, 3) := by decide +kernel
theorem dX10_seen_91 : decode cX10_seen 91 = .ok (.aload_n 0, 1) := by decide +kernel
theorem dX10_seen_92 : decode cX10_seen 92 = .ok (.getfield 10, 3) := by decide +kernel
theorem dX10_seen_95 : decode cX10_seen 95 = .ok (.aload 5, 2) := by decide +kernel
theorem dX10_seen_97 : decode cX10_seen 97 = .ok (.iload 6, 2) := by decide +kernel
theorem dX10_seen_99 : decode cX10_seen 99 = .ok (.iload_n 2, 1) := by decide +kernel
theorem dX10_seen_100 : decode cX10_seen 100 = .ok (.bipush 100, 2) := by decide +kernel
theorem dX10_seen_102 : decode cX10_seen 102 = .ok (.idiv, 1) := by decide +kernel
theorem dX10_seen_103 : decode cX10_seen 103 = .ok (.iload_n 2, 1) := by decide +kernel
theorem dX10_seen_104 : decode cX10_seen 104 = .ok (.bipush 100, 2) := by decide +kernel
theorem dX10_seen_106 : decode cX10_seen 106 = .ok (.irem, 1) := by decide +kernel
theorem dX10_seen_107 : decode cX10_seen 107 = .ok (.invokevirtual 234, 3) := by decide +kernel
theorem dX10_seen_110 : decode cX10_seen 110 = .ok (.ireturn, 1) := by decide +kernel
theorem dX10_seen_111 : decode cX10_seen 111 = .ok (.aload_n 0, 1) := by decide +kernel
theorem dX10_seen_112 : decode cX10_seen 112 = .ok (.getfield 19, 3) := by decide +kernel
theorem dX10_seen_115 : decode cX10_seen 115 = .ok (.aload_n 0, 1) := by decide +kernel
theorem dX10_seen_116 : decode cX10_seen 116 = .ok (.getfield 10, 3) := by decide +kernel
theorem dX10_seen_119 : decode cX10_seen 119 = .ok (.aload 5, 2) := by decide +kernel
theorem dX10_seen_121 : decode cX10_seen 121 = .ok (.iload 6, 2) := by decide +kernel
theorem dX10_seen_123 : decode cX10_seen 123 = .ok (.iload_n 2, 1) := by decide +kernel
theorem dX10_seen_124 : decode cX10_seen 124 = .ok (.bipush 100, 2) := by decide +kernel
theorem dX10_seen_126 : decode cX10_seen 126 = .ok (.idiv, 1) := by decide +kernel
theorem dX10_seen_127 : decode cX10_seen 127 = .ok (.iload_n 2, 1) := by decide +kernel
theorem dX10_seen_128 : decode cX10_seen 128 = .ok (.bipush 100, 2) := by decide +kernel
theorem dX10_seen_130 : decode cX10_seen 130 = .ok (.irem, 1) := by decide +kernel
theorem dX10_seen_131 : decode cX10_seen 131 = .ok (.invokevirtual 238, 3) := by decide +kernel
theorem dX10_seen_134 : decode cX10_seen 134 = .ok (.istore 7, 2) := by decide +kernel
theorem dX10_seen_136 : decode cX10_seen 136 = .ok (.iload_n 3, 1) := by decide +kernel
theorem dX10_seen_137 : decode cX10_seen 137 = .ok (.iconst 1, 1) := by decide +kernel
theorem dX10_seen_138 : decode cX10_seen 138 = .ok (.if_icmp .ne 8, 3) := by decide +kernel
theorem dX10_seen_141 : decode cX10_seen 141 = .ok (.iload 7, 2) := by decide +kernel
theorem dX10_seen_143 : decode cX10_seen 143 = .ok (.goto 10, 3) := by decide +kernel
theorem dX10_seen_146 : decode cX10_seen 146 = .ok (.aload_n 0, 1) := by decide +kernel
theorem dX10_seen_147 : decode cX10_seen 147 = .ok (.getfield 19, 3) := by decide +kernel
theorem dX10_seen_150 : decode cX10_seen 150 = .ok (.getfield 241, 3) := by decide +kernel
theorem dX10_seen_153 : decode cX10_seen 153 = .ok (.ireturn, 1) := by decide +kernel
theorem dX10_bets_0 : decode cX10_bets 0 = .ok (.iload_n 1, 1) := by decide +kernel
theorem dX10_bets_1 : decode cX10_bets 1 = .ok (.invokestatic 88, 3) := by decide +kernel
theorem dX10_bets_4 : decode cX10_bets 4 = .ok (.ifCond .eq 12, 3) := by decide +kernel
theorem dX10_bets_7 : decode cX10_bets 7 = .ok (.iload_n 2, 1) := by decide +kernel
theorem dX10_bets_8 : decode cX10_bets 8 = .ok (.ifCond .lt 8, 3) := by decide +kernel
theorem dX10_bets_11 : decode cX10_bets 11 = .ok (.iload_n 2, 1) := by decide +kernel
theorem dX10_bets_12 : decode cX10_bets 12 = .ok (.iconst 1, 1) := by decide +kernel
theorem dX10_bets_13 : decode cX10_bets 13 = .ok (.if_icmp .le 5, 3) := by decide +kernel
theorem dX10_bets_16 : decode cX10_bets 16 = .ok (.iconst (-1), 1) := by decide +kernel
theorem dX10_bets_17 : decode cX10_bets 17 = .ok (.ireturn, 1) := by decide +kernel
theorem dX10_bets_18 : decode cX10_bets 18 = .ok (.aload_n 0, 1) := by decide +kernel
theorem dX10_bets_19 : decode cX10_bets 19 = .ok (.getfield 47, 3) := by decide +kernel
theorem dX10_bets_22 : decode cX10_bets 22 = .ok (.iload_n 1, 1) := by decide +kernel
theorem dX10_bets_23 : decode cX10_bets 23 = .ok (.iconst 1, 1) := by decide +kernel
theorem dX10_bets_24 : decode cX10_bets 24 = .ok (.invokevirtual 224, 3) := by decide +kernel
theorem dX10_bets_27 : decode cX10_bets 27 = .ok (.istore_n 3, 1) := by decide +kernel
theorem dX10_bets_28 : decode cX10_bets 28 = .ok (.iload_n 3, 1) := by decide +kernel
theorem dX10_bets_29 : decode cX10_bets 29 = .ok (.ifCond .eq 5, 3) := by decide +kernel
theorem dX10_bets_32 : decode cX10_bets 32 = .ok (.iload_n 3, 1) := by decide +kernel
theorem dX10_bets_33 : decode cX10_bets 33 = .ok (.ireturn, 1) := by decide +kernel
theorem dX10_bets_34 : decode cX10_bets 34 = .ok (.aload_n 0, 1) := by decide +kernel
theorem dX10_bets_35 : decode cX10_bets 35 = .ok (.getfield 54, 3) := by decide +kernel
theorem dX10_bets_38 : decode cX10_bets 38 = .ok (.aload_n 0, 1) := by decide +kernel
theorem dX10_bets_39 : decode cX10_bets 39 = .ok (.getfield 47, 3) := by decide +kernel
theorem dX10_bets_42 : decode cX10_bets 42 = .ok (.getfield 102, 3) := by decide +kernel
theorem dX10_bets_45 : decode cX10_bets 45 = .ok (.iload_n 1, 1) := by decide +kernel
theorem dX10_bets_46 : decode cX10_bets 46 = .ok (.aaload, 1) := by decide +kernel
theorem dX10_bets_47 : decode cX10_bets 47 = .ok (.aload_n 0, 1) := by decide +kernel
theorem dX10_bets_48 : decode cX10_bets 48 = .ok (.getfield 47, 3) := by decide +kernel
theorem dX10_bets_51 : decode cX10_bets 51 = .ok (.getfield 227, 3) := by decide +kernel
theorem dX10_bets_54 : decode cX10_bets 54 = .ok (.iload_n 1, 1) := by decide +kernel
theorem dX10_bets_55 : decode cX10_bets 55 = .ok (.iaload, 1) := by decide +kernel
theorem dX10_bets_56 : decode cX10_bets 56 = .ok (.invokevirtual 244, 3) := by decide +kernel
theorem dX10_bets_59 : decode cX10_bets 59 = .ok (.iload_n 2, 1) := by decide +kernel
theorem dX10_bets_60 : decode cX10_bets 60 = .ok (.iconst 1, 1) := by decide +kernel
theorem dX10_bets_61 : decode cX10_bets 61 = .ok (.if_icmp .ne 11, 3) := by decide +kernel
theorem dX10_bets_64 : decode cX10_bets 64 = .ok (.aload_n 0, 1) := by decide +kernel
theorem dX10_bets_65 : decode cX10_bets 65 = .ok (.getfield 54, 3) := by decide +kernel
theorem dX10_bets_68 : decode cX10_bets 68 = .ok (.getfield 247, 3) := by decide +kernel
theorem dX10_bets_71 : decode cX10_bets 71 = .ok (.ireturn, 1) := by decide +kernel
theorem dX10_bets_72 : decode cX10_bets 72 = .ok (.aload_n 0, 1) := by decide +kernel
theorem dX10_bets_73 : decode cX10_bets 73 = .ok (.getfield 54, 3) := by decide +kernel
theorem dX10_bets_76 : decode cX10_bets 76 = .ok (.invokevirtual 250, 3) := by decide +kernel
theorem dX10_bets_79 : decode cX10_bets 79 = .ok (.ifCond .eq 7, 3) := by decide +kernel
theorem dX10_bets_82 : decode cX10_bets 82 = .ok (.iconst 1, 1) := by decide +kernel
theorem dX10_bets_83 : decode cX10_bets 83 = .ok (.goto 4, 3) := by decide +kernel
theorem dX10_bets_86 : decode cX10_bets 86 = .ok (.iconst 0, 1) := by decide +kernel
theorem dX10_bets_87 : decode cX10_bets 87 = .ok (.ireturn, 1) := by decide +kernel
theorem dX10_margin_0 : decode cX10_margin 0 = .ok (.iload_n 1, 1) := by decide +kernel
theorem dX10_margin_1 : decode cX10_margin 1 = .ok (.invokestatic 88, 3) := by decide +kernel
theorem dX10_margin_4 : decode cX10_margin 4 = .ok (.ifCond .eq 24, 3) := by decide +kernel
theorem dX10_margin_7 : decode cX10_margin 7 = .ok (.iload_n 2, 1) := by decide +kernel
theorem dX10_margin_8 : decode cX10_margin 8 = .ok (.ifCond .lt 20, 3) := by decide +kernel
theorem dX10_margin_11 : decode cX10_margin 11 = .ok (.iload_n 2, 1) := by decide +kernel
theorem dX10_margin_12 : decode cX10_margin 12 = .ok (.iconst 1, 1) := by decide +kernel
theorem dX10_margin_13 : decode cX10_margin 13 = .ok (.if_icmp .gt 15, 3) := by decide +kernel
theorem dX10_margin_16 : decode cX10_margin 16 = .ok (.aload_n 0, 1) := by decide +kernel
theorem dX10_margin_17 : decode cX10_margin 17 = .ok (.getfield 47, 3) := by decide +kernel
theorem dX10_margin_20 : decode cX10_margin 20 = .ok (.iload_n 1, 1) := by decide +kernel
theorem dX10_margin_21 : decode cX10_margin 21 = .ok (.iconst 1, 1) := by decide +kernel
theorem dX10_margin_22 : decode cX10_margin 22 = .ok (.invokevirtual 94, 3) := by decide +kernel
theorem dX10_margin_25 : decode cX10_margin 25 = .ok (.ifCond .ne 7, 3) := by decide +kernel
theorem dX10_margin_28 : decode cX10_margin 28 = .ok (.ldc2_w 204, 3) := by decide +kernel
theorem dX10_margin_31 : decode cX10_margin 31 = .ok (.lreturn, 1) := by decide +kernel
theorem dX10_margin_32 : decode cX10_margin 32 = .ok (.aload_n 0, 1) := by decide +kernel
theorem dX10_margin_33 : decode cX10_margin 33 = .ok (.getfield 54, 3) := by decide +kernel
theorem dX10_margin_36 : decode cX10_margin 36 = .ok (.aload_n 0, 1) := by decide +kernel
theorem dX10_margin_37 : decode cX10_margin 37 = .ok (.getfield 47, 3) := by decide +kernel
theorem dX10_margin_40 : decode cX10_margin 40 = .ok (.getfield 102, 3) := by decide +kernel
theorem dX10_margin_43 : decode cX10_margin 43 = .ok (.iload_n 1, 1) := by decide +kernel
theorem dX10_margin_44 : decode cX10_margin 44 = .ok (.aaload, 1) := by decide +kernel
theorem dX10_margin_45 : decode cX10_margin 45 = .ok (.aload_n 0, 1) := by decide +kernel
theorem dX10_margin_46 : decode cX10_margin 46 = .ok (.getfield 47, 3) := by decide +kernel
theorem dX10_margin_49 : decode cX10_margin 49 = .ok (.getfield 227, 3) := by decide +kernel
theorem dX10_margin_52 : decode cX10_margin 52 = .ok (.iload_n 1, 1) := by decide +kernel
theorem dX10_margin_53 : decode cX10_margin 53 = .ok (.iaload, 1) := by decide +kernel
theorem dX10_margin_54 : decode cX10_margin 54 = .ok (.invokevirtual 244, 3) := by decide +kernel
theorem dX10_margin_57 : decode cX10_margin 57 = .ok (.iload_n 2, 1) := by decide +kernel
theorem dX10_margin_58 : decode cX10_margin 58 = .ok (.ifCond .ne 13, 3) := by decide +kernel
theorem dX10_margin_61 : decode cX10_margin 61 = .ok (.aload_n 0, 1) := by decide +kernel
theorem dX10_margin_62 : decode cX10_margin 62 = .ok (.getfield 54, 3) := by decide +kernel
theorem dX10_margin_65 : decode cX10_margin 65 = .ok (.getfield 253, 3) := by decide +kernel
theorem dX10_margin_68 : decode cX10_margin 68 = .ok (.goto 10, 3) := by decide +kernel
theorem dX10_margin_71 : decode cX10_margin 71 = .ok (.aload_n 0, 1) := by decide +kernel
theorem dX10_margin_72 : decode cX10_margin 72 = .ok (.getfield 54, 3) := by decide +kernel
theorem dX10_margin_75 : decode cX10_margin 75 = .ok (.getfield 257, 3) := by decide +kernel
theorem dX10_margin_78 : decode cX10_margin 78 = .ok (.lreturn, 1) := by decide +kernel
theorem dX10_byTurns_0 : decode cX10_byTurns 0 = .ok (.iload_n 1, 1) := by decide +kernel
theorem dX10_byTurns_1 : decode cX10_byTurns 1 = .ok (.ifCond .lt 42, 3) := by decide +kernel
theorem dX10_byTurns_4 : decode cX10_byTurns 4 = .ok (.aload_n 0, 1) := by decide +kernel
theorem dX10_byTurns_5 : decode cX10_byTurns 5 = .ok (.getfield 10, 3) := by decide +kernel
theorem dX10_byTurns_8 : decode cX10_byTurns 8 = .ok (.iload_n 1, 1) := by decide +kernel
theorem dX10_byTurns_9 : decode cX10_byTurns 9 = .ok (.bipush 10, 2) := by decide +kernel
theorem dX10_byTurns_11 : decode cX10_byTurns 11 = .ok (.idiv, 1) := by decide +kernel
theorem dX10_byTurns_12 : decode cX10_byTurns 12 = .ok (.invokevirtual 168, 3) := by decide +kernel
theorem dX10_byTurns_15 : decode cX10_byTurns 15 = .ok (.ifCond .eq 28, 3) := by decide +kernel
theorem dX10_byTurns_18 : decode cX10_byTurns 18 = .ok (.aload_n 0, 1) := by decide +kernel
theorem dX10_byTurns_19 : decode cX10_byTurns 19 = .ok (.getfield 10, 3) := by decide +kernel
theorem dX10_byTurns_22 : decode cX10_byTurns 22 = .ok (.iload_n 1, 1) := by decide +kernel
theorem dX10_byTurns_23 : decode cX10_byTurns 23 = .ok (.bipush 10, 2) := by decide +kernel
theorem dX10_byTurns_25 : decode cX10_byTurns 25 = .ok (.irem, 1) := by decide +kernel
theorem dX10_byTurns_26 : decode cX10_byTurns 26 = .ok (.invokevirtual 168, 3) := by decide +kernel
theorem dX10_byTurns_29 : decode cX10_byTurns 29 = .ok (.ifCond .eq 14, 3) := by decide +kernel
theorem dX10_byTurns_32 : decode cX10_byTurns 32 = .ok (.iload_n 1, 1) := by decide +kernel
theorem dX10_byTurns_33 : decode cX10_byTurns 33 = .ok (.bipush 10, 2) := by decide +kernel
theorem dX10_byTurns_35 : decode cX10_byTurns 35 = .ok (.idiv, 1) := by decide +kernel
theorem dX10_byTurns_36 : decode cX10_byTurns 36 = .ok (.iload_n 1, 1) := by decide +kernel
theorem dX10_byTurns_37 : decode cX10_byTurns 37 = .ok (.bipush 10, 2) := by decide +kernel
theorem dX10_byTurns_39 : decode cX10_byTurns 39 = .ok (.irem, 1) := by decide +kernel
theorem dX10_byTurns_40 : decode cX10_byTurns 40 = .ok (.if_icmp .ne 6, 3) := by decide +kernel
theorem dX10_byTurns_43 : decode cX10_byTurns 43 = .ok (.ldc 206, 2) := by decide +kernel
theorem dX10_byTurns_45 : decode cX10_byTurns 45 = .ok (.ireturn, 1) := by decide +kernel
theorem dX10_byTurns_46 : decode cX10_byTurns 46 = .ok (.iload_n 2, 1) := by decide +kernel
theorem dX10_byTurns_47 : decode cX10_byTurns 47 = .ok (.bipush 10, 2) := by decide +kernel
theorem dX10_byTurns_49 : decode cX10_byTurns 49 = .ok (.idiv, 1) := by decide +kernel
theorem dX10_byTurns_50 : decode cX10_byTurns 50 = .ok (.bipush 10, 2) := by decide +kernel
theorem dX10_byTurns_52 : decode cX10_byTurns 52 = .ok (.irem, 1) := by decide +kernel
theorem dX10_byTurns_53 : decode cX10_byTurns 53 = .ok (.istore 4, 2) := by decide +kernel
theorem dX10_byTurns_55 : decode cX10_byTurns 55 = .ok (.iload_n 2, 1) := by decide +kernel
theorem dX10_byTurns_56 : decode cX10_byTurns 56 = .ok (.ifCond .lt 42, 3) := by decide +kernel
theorem dX10_byTurns_59 : decode cX10_byTurns 59 = .ok (.iload_n 2, 1) := by decide +kernel
theorem dX10_byTurns_60 : decode cX10_byTurns 60 = .ok (.bipush 100, 2) := by decide +kernel
theorem dX10_byTurns_62 : decode cX10_byTurns 62 = .ok (.idiv, 1) := by decide +kernel
theorem dX10_byTurns_63 : decode cX10_byTurns 63 = .ok (.bipush 6, 2) := by decide +kernel
theorem dX10_byTurns_65 : decode cX10_byTurns 65 = .ok (.if_icmp .ge 33, 3) := by decide +kernel
theorem dX10_byTurns_68 : decode cX10_byTurns 68 = .ok (.iload 4, 2) := by decide +kernel
theorem dX10_byTurns_70 : decode cX10_byTurns 70 = .ok (.iconst 1, 1) := by decide +kernel
theorem dX10_byTurns_71 : decode cX10_byTurns 71 = .ok (.if_icmp .lt 27, 3) := by decide +kernel
theorem dX10_byTurns_74 : decode cX10_byTurns 74 = .ok (.iload 4, 2) := by decide +kernel
theorem dX10_byTurns_76 : decode cX10_byTurns 76 = .ok (.iconst 3, 1) := by decide +kernel
theorem dX10_byTurns_77 : decode cX10_byTurns 77 = .ok (.if_icmp .gt 21, 3) := by decide +kernel
theorem dX10_byTurns_80 : decode cX10_byTurns 80 = .ok (.iload_n 2, 1) := by decide +kernel
theorem dX10_byTurns_81 : decode cX10_byTurns 81 = .ok (.bipush 10, 2) := by decide +kernel
theorem dX10_byTurns_83 : decode cX10_byTurns 83 = .ok (.irem, 1) := by decide +kernel
theorem dX10_byTurns_84 : decode cX10_byTurns 84 = .ok (.bipush 6, 2) := by decide +kernel
theorem dX10_byTurns_86 : decode cX10_byTurns 86 = .ok (.if_icmp .gt 12, 3) := by decide +kernel
theorem dX10_byTurns_89 : decode cX10_byTurns 89 = .ok (.iload_n 3, 1) := by decide +kernel
theorem dX10_byTurns_90 : decode cX10_byTurns 90 = .ok (.ifCond .lt 8, 3) := by decide +kernel
theorem dX10_byTurns_93 : decode cX10_byTurns 93 = .ok (.iload_n 3, 1) := by decide +kernel
theorem dX10_byTurns_94 : decode cX10_byTurns 94 = .ok (.iconst 1, 1) := by decide +kernel
theorem dX10_byTurns_95 : decode cX10_byTurns 95 = .ok (.if_icmp .le 6, 3) := by decide +kernel
theorem dX10_byTurns_98 : decode cX10_byTurns 98 = .ok (.ldc 206, 2) := by decide +kernel
theorem dX10_byTurns_100 : decode cX10_byTurns 100 = .ok (.ireturn, 1) := by decide +kernel
theorem dX10_byTurns_101 : decode cX10_byTurns 101 = .ok (.aload_n 0, 1) := by decide +kernel
theorem dX10_byTurns_102 : decode cX10_byTurns 102 = .ok (.getfield 26, 3) := by decide +kernel
theorem dX10_byTurns_105 : decode cX10_byTurns 105 = .ok (.aload_n 0, 1) := by decide +kernel
theorem dX10_byTurns_106 : decode cX10_byTurns 106 = .ok (.getfield 10, 3) := by decide +kernel
theorem dX10_byTurns_109 : decode cX10_byTurns 109 = .ok (.iload_n 1, 1) := by decide +kernel
theorem dX10_byTurns_110 : decode cX10_byTurns 110 = .ok (.bipush 10, 2) := by decide +kernel
theorem dX10_byTurns_112 : decode cX10_byTurns 112 = .ok (.idiv, 1) := by decide +kernel
theorem dX10_byTurns_113 : decode cX10_byTurns 113 = .ok (.iload_n 1, 1) := by decide +kernel
theorem dX10_byTurns_114 : decode cX10_byTurns 114 = .ok (.bipush 10, 2) := by decide +kernel
theorem dX10_byTurns_116 : decode cX10_byTurns 116 = .ok (.irem, 1) := by decide +kernel
theorem dX10_byTurns_117 : decode cX10_byTurns 117 = .ok (.iload_n 2, 1) := by decide +kernel
theorem dX10_byTurns_118 : decode cX10_byTurns 118 = .ok (.bipush 100, 2) := by decide +kernel
theorem dX10_byTurns_120 : decode cX10_byTurns 120 = .ok (.idiv, 1) := by decide +kernel
theorem dX10_byTurns_121 : decode cX10_byTurns 121 = .ok (.iload 4, 2) := by decide +kernel
theorem dX10_byTurns_123 : decode cX10_byTurns 123 = .ok (.iload_n 2, 1) := by decide +kernel
theorem dX10_byTurns_124 : decode cX10_byTurns 124 = .ok (.bipush 10, 2) := by decide +kernel
theorem dX10_byTurns_126 : decode cX10_byTurns 126 = .ok (.irem, 1) := by decide +kernel
theorem dX10_byTurns_127 : decode cX10_byTurns 127 = .ok (.invokevirtual 260, 3) := by decide +kernel
theorem dX10_byTurns_130 : decode cX10_byTurns 130 = .ok (.istore 5, 2) := by decide +kernel
theorem dX10_byTurns_132 : decode cX10_byTurns 132 = .ok (.iload_n 3, 1) := by decide +kernel
theorem dX10_byTurns_133 : decode cX10_byTurns 133 = .ok (.ifCond .ne 8, 3) := by decide +kernel
theorem dX10_byTurns_136 : decode cX10_byTurns 136 = .ok (.iload 5, 2) := by decide +kernel
theorem dX10_byTurns_138 : decode cX10_byTurns 138 = .ok (.goto 10, 3) := by decide +kernel
theorem dX10_byTurns_141 : decode cX10_byTurns 141 = .ok (.aload_n 0, 1) := by decide +kernel
theorem dX10_byTurns_142 : decode cX10_byTurns 142 = .ok (.getfield 26, 3) := by decide +kernel
theorem dX10_byTurns_145 : decode cX10_byTurns 145 = .ok (.getfield 264, 3) := by decide +kernel
theorem dX10_byTurns_148 : decode cX10_byTurns 148 = .ok (.ireturn, 1) := by decide +kernel
theorem dX10_drawn_0 : decode cX10_drawn 0 = .ok (.iload_n 2, 1) := by decide +kernel
theorem dX10_drawn_1 : decode cX10_drawn 1 = .ok (.sipush 10000, 3) := by decide +kernel
theorem dX10_drawn_4 : decode cX10_drawn 4 = .ok (.idiv, 1) := by decide +kernel
theorem dX10_drawn_5 : decode cX10_drawn 5 = .ok (.istore 4, 2) := by decide +kernel
theorem dX10_drawn_7 : decode cX10_drawn 7 = .ok (.iload_n 2, 1) := by decide +kernel
theorem dX10_drawn_8 : decode cX10_drawn 8 = .ok (.bipush 100, 2) := by decide +kernel
theorem dX10_drawn_10 : decode cX10_drawn 10 = .ok (.idiv, 1) := by decide +kernel
theorem dX10_drawn_11 : decode cX10_drawn 11 = .ok (.bipush 100, 2) := by decide +kernel
theorem dX10_drawn_13 : decode cX10_drawn 13 = .ok (.irem, 1) := by decide +kernel
theorem dX10_drawn_14 : decode cX10_drawn 14 = .ok (.istore 5, 2) := by decide +kernel
theorem dX10_drawn_16 : decode cX10_drawn 16 = .ok (.iload_n 2, 1) := by decide +kernel
theorem dX10_drawn_17 : decode cX10_drawn 17 = .ok (.ifCond .lt 38, 3) := by decide +kernel
theorem dX10_drawn_20 : decode cX10_drawn 20 = .ok (.iload 4, 2) := by decide +kernel
theorem dX10_drawn_22 : decode cX10_drawn 22 = .ok (.iconst 1, 1) := by decide +kernel
theorem dX10_drawn_23 : decode cX10_drawn 23 = .ok (.if_icmp .lt 32, 3) := by decide +kernel
theorem dX10_drawn_26 : decode cX10_drawn 26 = .ok (.iload 4, 2) := by decide +kernel
theorem dX10_drawn_28 : decode cX10_drawn 28 = .ok (.bipush 30, 2) := by decide +kernel
theorem dX10_drawn_30 : decode cX10_drawn 30 = .ok (.if_icmp .gt 25, 3) := by decide +kernel
theorem dX10_drawn_33 : decode cX10_drawn 33 = .ok (.iload 5, 2) := by decide +kernel
theorem dX10_drawn_35 : decode cX10_drawn 35 = .ok (.iconst 1, 1) := by decide +kernel
theorem dX10_drawn_36 : decode cX10_drawn 36 = .ok (.if_icmp .lt 19, 3) := by decide +kernel
theorem dX10_drawn_39 : decode cX10_drawn 39 = .ok (.iload 5, 2) := by decide +kernel
theorem dX10_drawn_41 : decode cX10_drawn 41 = .ok (.bipush 40, 2) := by decide +kernel
theorem dX10_drawn_43 : decode cX10_drawn 43 = .ok (.if_icmp .gt 12, 3) := by decide +kernel
theorem dX10_drawn_46 : decode cX10_drawn 46 = .ok (.iload_n 2, 1) := by decide +kernel
theorem dX10_drawn_47 : decode cX10_drawn 47 = .ok (.bipush 100, 2) := by decide +kernel
theorem dX10_drawn_49 : decode cX10_drawn 49 = .ok (.irem, 1) := by decide +kernel
theorem dX10_drawn_50 : decode cX10_drawn 50 = .ok (.bipush 12, 2) := by decide +kernel
theorem dX10_drawn_52 : decode cX10_drawn 52 = .ok (.if_icmp .le 5, 3) := by decide +kernel
theorem dX10_drawn_55 : decode cX10_drawn 55 = .ok (.iconst (-1), 1) := by decide +kernel
theorem dX10_drawn_56 : decode cX10_drawn 56 = .ok (.ireturn, 1) := by decide +kernel
theorem dX10_drawn_57 : decode cX10_drawn 57 = .ok (.iload_n 3, 1) := by decide +kernel
theorem dX10_drawn_58 : decode cX10_drawn 58 = .ok (.iconst (-1), 1) := by decide +kernel
theorem dX10_drawn_59 : decode cX10_drawn 59 = .ok (.if_icmp .eq 16, 3) := by decide +kernel
theorem dX10_drawn_62 : decode cX10_drawn 62 = .ok (.aload_n 0, 1) := by decide +kernel
theorem dX10_drawn_63 : decode cX10_drawn 63 = .ok (.getfield 10, 3) := by decide +kernel
theorem dX10_drawn_66 : decode cX10_drawn 66 = .ok (.iload_n 3, 1) := by decide +kernel
theorem dX10_drawn_67 : decode cX10_drawn 67 = .ok (.invokevirtual 168, 3) := by decide +kernel
theorem dX10_drawn_70 : decode cX10_drawn 70 = .ok (.ifCond .ne 5, 3) := by decide +kernel
theorem dX10_drawn_73 : decode cX10_drawn 73 = .ok (.iconst (-1), 1) := by decide +kernel
theorem dX10_drawn_74 : decode cX10_drawn 74 = .ok (.ireturn, 1) := by decide +kernel
theorem dX10_drawn_75 : decode cX10_drawn 75 = .ok (.aload_n 0, 1) := by decide +kernel
theorem dX10_drawn_76 : decode cX10_drawn 76 = .ok (.getfield 19, 3) := by decide +kernel
theorem dX10_drawn_79 : decode cX10_drawn 79 = .ok (.aload_n 0, 1) := by decide +kernel
theorem dX10_drawn_80 : decode cX10_drawn 80 = .ok (.getfield 10, 3) := by decide +kernel
theorem dX10_drawn_83 : decode cX10_drawn 83 = .ok (.iload_n 1, 1) := by decide +kernel
theorem dX10_drawn_84 : decode cX10_drawn 84 = .ok (.iload 4, 2) := by decide +kernel
theorem dX10_drawn_86 : decode cX10_drawn 86 = .ok (.iload 5, 2) := by decide +kernel
theorem dX10_drawn_88 : decode cX10_drawn 88 = .ok (.iload_n 2, 1) := by decide +kernel
theorem dX10_drawn_89 : decode cX10_drawn 89 = .ok (.bipush 100, 2) := by decide +kernel
theorem dX10_drawn_91 : decode cX10_drawn 91 = .ok (.irem, 1) := by decide +kernel
theorem dX10_drawn_92 : decode cX10_drawn 92 = .ok (.iload_n 3, 1) := by decide +kernel
theorem dX10_drawn_93 : decode cX10_drawn 93 = .ok (.invokevirtual 267, 3) := by decide +kernel
theorem dX10_drawn_96 : decode cX10_drawn 96 = .ok (.ireturn, 1) := by decide +kernel
theorem dX10_hour_0 : decode cX10_hour 0 = .ok (.aload_n 0, 1) := by decide +kernel
theorem dX10_hour_1 : decode cX10_hour 1 = .ok (.getfield 10, 3) := by decide +kernel
theorem dX10_hour_4 : decode cX10_hour 4 = .ok (.getfield 151, 3) := by decide +kernel
theorem dX10_hour_7 : decode cX10_hour 7 = .ok (.aload_n 0, 1) := by decide +kernel
theorem dX10_hour_8 : decode cX10_hour 8 = .ok (.getfield 10, 3) := by decide +kernel
theorem dX10_hour_11 : decode cX10_hour 11 = .ok (.getfield 142, 3) := by decide +kernel
theorem dX10_hour_14 : decode cX10_hour 14 = .ok (.aload_n 0, 1) := by decide +kernel
theorem dX10_hour_15 : decode cX10_hour 15 = .ok (.getfield 10, 3) := by decide +kernel
theorem dX10_hour_18 : decode cX10_hour 18 = .ok (.getfield 128, 3) := by decide +kernel
theorem dX10_hour_21 : decode cX10_hour 21 = .ok (.invokevirtual 270, 3) := by decide +kernel
theorem dX10_hour_24 : decode cX10_hour 24 = .ok (.aload_n 0, 1) := by decide +kernel
theorem dX10_hour_25 : decode cX10_hour 25 = .ok (.getfield 58, 3) := by decide +kernel
theorem dX10_hour_28 : decode cX10_hour 28 = .ok (.iconst 0, 1) := by decide +kernel
theorem dX10_hour_29 : decode cX10_hour 29 = .ok (.dup2, 1) := by decide +kernel
theorem dX10_hour_30 : decode cX10_hour 30 = .ok (.iaload, 1) := by decide +kernel
theorem dX10_hour_31 : decode cX10_hour 31 = .ok (.iconst 1, 1) := by decide +kernel
theorem dX10_hour_32 : decode cX10_hour 32 = .ok (.iadd, 1) := by decide +kernel
theorem dX10_hour_33 : decode cX10_hour 33 = .ok (.iastore, 1) := by decide +kernel
theorem dX10_hour_34 : decode cX10_hour 34 = .ok (.aload_n 0, 1) := by decide +kernel
theorem dX10_hour_35 : decode cX10_hour 35 = .ok (.getfield 58, 3) := by decide +kernel
theorem dX10_hour_38 : decode cX10_hour 38 = .ok (.iconst 1, 1) := by decide +kernel
theorem dX10_hour_39 : decode cX10_hour 39 = .ok (.dup2, 1) := by decide +kernel
theorem dX10_hour_40 : decode cX10_hour 40 = .ok (.iaload, 1) := by decide +kernel
theorem dX10_hour_41 : decode cX10_hour 41 = .ok (.aload_n 0, 1) := by decide +kernel
theorem dX10_hour_42 : decode cX10_hour 42 = .ok (.getfield 10, 3) := by decide +kernel
theorem dX10_hour_45 : decode cX10_hour 45 = .ok (.getfield 151, 3) := by decide +kernel
theorem dX10_hour_48 : decode cX10_hour 48 = .ok (.getfield 274, 3) := by decide +kernel
theorem dX10_hour_51 : decode cX10_hour 51 = .ok (.iadd, 1) := by decide +kernel
theorem dX10_hour_52 : decode cX10_hour 52 = .ok (.iastore, 1) := by decide +kernel
theorem dX10_hour_53 : decode cX10_hour 53 = .ok (.aload_n 0, 1) := by decide +kernel
theorem dX10_hour_54 : decode cX10_hour 54 = .ok (.getfield 58, 3) := by decide +kernel
theorem dX10_hour_57 : decode cX10_hour 57 = .ok (.iconst 2, 1) := by decide +kernel
theorem dX10_hour_58 : decode cX10_hour 58 = .ok (.dup2, 1) := by decide +kernel
theorem dX10_hour_59 : decode cX10_hour 59 = .ok (.iaload, 1) := by decide +kernel
theorem dX10_hour_60 : decode cX10_hour 60 = .ok (.aload_n 0, 1) := by decide +kernel
theorem dX10_hour_61 : decode cX10_hour 61 = .ok (.getfield 10, 3) := by decide +kernel
theorem dX10_hour_64 : decode cX10_hour 64 = .ok (.getfield 151, 3) := by decide +kernel
theorem dX10_hour_67 : decode cX10_hour 67 = .ok (.getfield 277, 3) := by decide +kernel
theorem dX10_hour_70 : decode cX10_hour 70 = .ok (.iadd, 1) := by decide +kernel
theorem dX10_hour_71 : decode cX10_hour 71 = .ok (.iastore, 1) := by decide +kernel
theorem dX10_hour_72 : decode cX10_hour 72 = .ok (.aload_n 0, 1) := by decide +kernel
theorem dX10_hour_73 : decode cX10_hour 73 = .ok (.getfield 10, 3) := by decide +kernel
theorem dX10_hour_76 : decode cX10_hour 76 = .ok (.getfield 151, 3) := by decide +kernel
theorem dX10_hour_79 : decode cX10_hour 79 = .ok (.getfield 274, 3) := by decide +kernel
theorem dX10_hour_82 : decode cX10_hour 82 = .ok (.ireturn, 1) := by decide +kernel
theorem dX10_pour_0 : decode cX10_pour 0 = .ok (.iload_n 1, 1) := by decide +kernel
theorem dX10_pour_1 : decode cX10_pour 1 = .ok (.invokestatic 76, 3) := by decide +kernel
theorem dX10_pour_4 : decode cX10_pour 4 = .ok (.ifCond .eq 15, 3) := by decide +kernel
theorem dX10_pour_7 : decode cX10_pour 7 = .ok (.iload_n 2, 1) := by decide +kernel
theorem dX10_pour_8 : decode cX10_pour 8 = .ok (.iconst 1, 1) := by decide +kernel
theorem dX10_pour_9 : decode cX10_pour 9 = .ok (.if_icmp .lt 10, 3) := by decide +kernel
theorem dX10_pour_12 : decode cX10_pour 12 = .ok (.iload_n 2, 1) := by decide +kernel
theorem dX10_pour_13 : decode cX10_pour 13 = .ok (.sipush 9999, 3) := by decide +kernel
theorem dX10_pour_16 : decode cX10_pour 16 = .ok (.if_icmp .le 5, 3) := by decide +kernel
theorem dX10_pour_19 : decode cX10_pour 19 = .ok (.iconst (-1), 1) := by decide +kernel
theorem dX10_pour_20 : decode cX10_pour 20 = .ok (.ireturn, 1) := by decide +kernel
theorem dX10_pour_21 : decode cX10_pour 21 = .ok (.aload_n 0, 1) := by decide +kernel
theorem dX10_pour_22 : decode cX10_pour 22 = .ok (.getfield 58, 3) := by decide +kernel
theorem dX10_pour_25 : decode cX10_pour 25 = .ok (.iconst 3, 1) := by decide +kernel
theorem dX10_pour_26 : decode cX10_pour 26 = .ok (.dup2, 1) := by decide +kernel
theorem dX10_pour_27 : decode cX10_pour 27 = .ok (.iaload, 1) := by decide +kernel
theorem dX10_pour_28 : decode cX10_pour 28 = .ok (.iload_n 2, 1) := by decide +kernel
theorem dX10_pour_29 : decode cX10_pour 29 = .ok (.iadd, 1) := by decide +kernel
theorem dX10_pour_30 : decode cX10_pour 30 = .ok (.iastore, 1) := by decide +kernel
theorem dX10_pour_31 : decode cX10_pour 31 = .ok (.aload_n 0, 1) := by decide +kernel
theorem dX10_pour_32 : decode cX10_pour 32 = .ok (.getfield 10, 3) := by decide +kernel
theorem dX10_pour_35 : decode cX10_pour 35 = .ok (.getfield 151, 3) := by decide +kernel
theorem dX10_pour_38 : decode cX10_pour 38 = .ok (.iload_n 1, 1) := by decide +kernel
theorem dX10_pour_39 : decode cX10_pour 39 = .ok (.iload_n 2, 1) := by decide +kernel
theorem dX10_pour_40 : decode cX10_pour 40 = .ok (.invokevirtual 280, 3) := by decide +kernel
theorem dX10_pour_43 : decode cX10_pour 43 = .ok (.ireturn, 1) := by decide +kernel
theorem dX10_hang_0 : decode cX10_hang 0 = .ok (.iload_n 1, 1) := by decide +kernel
theorem dX10_hang_1 : decode cX10_hang 1 = .ok (.invokestatic 76, 3) := by decide +kernel
theorem dX10_hang_4 : decode cX10_hang 4 = .ok (.ifCond .eq 12, 3) := by decide +kernel
theorem dX10_hang_7 : decode cX10_hang 7 = .ok (.iload_n 2, 1) := by decide +kernel
theorem dX10_hang_8 : decode cX10_hang 8 = .ok (.ifCond .lt 8, 3) := by decide +kernel
theorem dX10_hang_11 : decode cX10_hang 11 = .ok (.iload_n 2, 1) := by decide +kernel
theorem dX10_hang_12 : decode cX10_hang 12 = .ok (.iconst 3, 1) := by decide +kernel
theorem dX10_hang_13 : decode cX10_hang 13 = .ok (.if_icmp .lt 5, 3) := by decide +kernel
theorem dX10_hang_16 : decode cX10_hang 16 = .ok (.iconst (-1), 1) := by decide +kernel
theorem dX10_hang_17 : decode cX10_hang 17 = .ok (.ireturn, 1) := by decide +kernel
theorem dX10_hang_18 : decode cX10_hang 18 = .ok (.aload_n 0, 1) := by decide +kernel
theorem dX10_hang_19 : decode cX10_hang 19 = .ok (.getfield 10, 3) := by decide +kernel
theorem dX10_hang_22 : decode cX10_hang 22 = .ok (.getfield 151, 3) := by decide +kernel
theorem dX10_hang_25 : decode cX10_hang 25 = .ok (.getfield 283, 3) := by decide +kernel
theorem dX10_hang_28 : decode cX10_hang 28 = .ok (.iload_n 1, 1) := by decide +kernel
theorem dX10_hang_29 : decode cX10_hang 29 = .ok (.iaload, 1) := by decide +kernel
theorem dX10_hang_30 : decode cX10_hang 30 = .ok (.istore_n 3, 1) := by decide +kernel
theorem dX10_hang_31 : decode cX10_hang 31 = .ok (.aload_n 0, 1) := by decide +kernel
theorem dX10_hang_32 : decode cX10_hang 32 = .ok (.getfield 10, 3) := by decide +kernel
theorem dX10_hang_35 : decode cX10_hang 35 = .ok (.getfield 151, 3) := by decide +kernel
theorem dX10_hang_38 : decode cX10_hang 38 = .ok (.getfield 283, 3) := by decide +kernel
theorem dX10_hang_41 : decode cX10_hang 41 = .ok (.iload_n 1, 1) := by decide +kernel
theorem dX10_hang_42 : decode cX10_hang 42 = .ok (.iload_n 2, 1) := by decide +kernel
theorem dX10_hang_43 : decode cX10_hang 43 = .ok (.iastore, 1) := by decide +kernel
theorem dX10_hang_44 : decode cX10_hang 44 = .ok (.aload_n 0, 1) := by decide +kernel
theorem dX10_hang_45 : decode cX10_hang 45 = .ok (.getfield 58, 3) := by decide +kernel
theorem dX10_hang_48 : decode cX10_hang 48 = .ok (.iconst 4, 1) := by decide +kernel
theorem dX10_hang_49 : decode cX10_hang 49 = .ok (.dup2, 1) := by decide +kernel
theorem dX10_hang_50 : decode cX10_hang 50 = .ok (.iaload, 1) := by decide +kernel
theorem dX10_hang_51 : decode cX10_hang 51 = .ok (.iconst 1, 1) := by decide +kernel
theorem dX10_hang_52 : decode cX10_hang 52 = .ok (.iadd, 1) := by decide +kernel
theorem dX10_hang_53 : decode cX10_hang 53 = .ok (.iastore, 1) := by decide +kernel
theorem dX10_hang_54 : decode cX10_hang 54 = .ok (.iload_n 3, 1) := by decide +kernel
theorem dX10_hang_55 : decode cX10_hang 55 = .ok (.ireturn, 1) := by decide +kernel
theorem dX10_moves_0 : decode cX10_moves 0 = .ok (.aload_n 0, 1) := by decide +kernel
theorem dX10_moves_1 : decode cX10_moves 1 = .ok (.getfield 10, 3) := by decide +kernel
theorem dX10_moves_4 : decode cX10_moves 4 = .ok (.iload_n 1, 1) := by decide +kernel
theorem dX10_moves_5 : decode cX10_moves 5 = .ok (.invokevirtual 168, 3) := by decide +kernel
theorem dX10_moves_8 : decode cX10_moves 8 = .ok (.ifCond .eq 10, 3) := by decide +kernel
theorem dX10_moves_11 : decode cX10_moves 11 = .ok (.iload_n 2, 1) := by decide +kernel
theorem dX10_moves_12 : decode cX10_moves 12 = .ok (.invokestatic 76, 3) := by decide +kernel
theorem dX10_moves_15 : decode cX10_moves 15 = .ok (.ifCond .ne 5, 3) := by decide +kernel
theorem dX10_moves_18 : decode cX10_moves 18 = .ok (.iconst (-1), 1) := by decide +kernel
theorem dX10_moves_19 : decode cX10_moves 19 = .ok (.ireturn, 1) := by decide +kernel
theorem dX10_moves_20 : decode cX10_moves 20 = .ok (.aload_n 0, 1) := by decide +kernel
theorem dX10_moves_21 : decode cX10_moves 21 = .ok (.getfield 10, 3) := by decide +kernel
theorem dX10_moves_24 : decode cX10_moves 24 = .ok (.getfield 151, 3) := by decide +kernel
theorem dX10_moves_27 : decode cX10_moves 27 = .ok (.getfield 286, 3) := by decide +kernel
theorem dX10_moves_30 : decode cX10_moves 30 = .ok (.iload_n 1, 1) := by decide +kernel
theorem dX10_moves_31 : decode cX10_moves 31 = .ok (.iaload, 1) := by decide +kernel
theorem dX10_moves_32 : decode cX10_moves 32 = .ok (.istore_n 3, 1) := by decide +kernel
theorem dX10_moves_33 : decode cX10_moves 33 = .ok (.aload_n 0, 1) := by decide +kernel
theorem dX10_moves_34 : decode cX10_moves 34 = .ok (.getfield 10, 3) := by decide +kernel
theorem dX10_moves_37 : decode cX10_moves 37 = .ok (.getfield 151, 3) := by decide +kernel
theorem dX10_moves_40 : decode cX10_moves 40 = .ok (.getfield 286, 3) := by decide +kernel
theorem dX10_moves_43 : decode cX10_moves 43 = .ok (.iload_n 1, 1) := by decide +kernel
theorem dX10_moves_44 : decode cX10_moves 44 = .ok (.iload_n 2, 1) := by decide +kernel
theorem dX10_moves_45 : decode cX10_moves 45 = .ok (.iastore, 1) := by decide +kernel
theorem dX10_moves_46 : decode cX10_moves 46 = .ok (.iload_n 3, 1) := by decide +kernel
theorem dX10_moves_47 : decode cX10_moves 47 = .ok (.ireturn, 1) := by decide +kernel
theorem dX10_led_0 : decode cX10_led 0 = .ok (.iload_n 1, 1) := by decide +kernel
theorem dX10_led_1 : decode cX10_led 1 = .ok (.ifCond .lt 17, 3) := by decide +kernel
theorem dX10_led_4 : decode cX10_led 4 = .ok (.iload_n 1, 1) := by decide +kernel
theorem dX10_led_5 : decode cX10_led 5 = .ok (.iconst 5, 1) := by decide +kernel
theorem dX10_led_6 : decode cX10_led 6 = .ok (.if_icmp .ge 12, 3) := by decide +kernel
theorem dX10_led_9 : decode cX10_led 9 = .ok (.aload_n 0, 1) := by decide +kernel
theorem dX10_led_10 : decode cX10_led 10 = .ok (.getfield 58, 3) := by decide +kernel
theorem dX10_led_13 : decode cX10_led 13 = .ok (.iload_n 1, 1) := by decide +kernel
theorem dX10_led_14 : decode cX10_led 14 = .ok (.iaload, 1) := by decide +kernel
theorem dX10_led_15 : decode cX10_led 15 = .ok (.goto 4, 3) := by decide +kernel
theorem dX10_led_18 : decode cX10_led 18 = .ok (.iconst (-1), 1) := by decide +kernel
theorem dX10_led_19 : decode cX10_led 19 = .ok (.ireturn, 1) := by decide +kernel
theorem dX10_image_0 : decode cX10_image 0 = .ok (.aload_n 0, 1) := by decide +kernel
theorem dX10_image_1 : decode cX10_image 1 = .ok (.getfield 65, 3) := by decide +kernel
theorem dX10_image_4 : decode cX10_image 4 = .ok (.aload_n 0, 1) := by decide +kernel
theorem dX10_image_5 : decode cX10_image 5 = .ok (.getfield 10, 3) := by decide +kernel
theorem dX10_image_8 : decode cX10_image 8 = .ok (.getfield 151, 3) := by decide +kernel
theorem dX10_image_11 : decode cX10_image 11 = .ok (.aload_n 0, 1) := by decide +kernel
theorem dX10_image_12 : decode cX10_image 12 = .ok (.getfield 10, 3) := by decide +kernel
theorem dX10_image_15 : decode cX10_image 15 = .ok (.getfield 142, 3) := by decide +kernel
theorem dX10_image_18 : decode cX10_image 18 = .ok (.getfield 289, 3) := by decide +kernel
theorem dX10_image_21 : decode cX10_image 21 = .ok (.invokevirtual 292, 3) := by decide +kernel
theorem dX10_image_24 : decode cX10_image 24 = .ok (.aload_n 0, 1) := by decide +kernel
theorem dX10_image_25 : decode cX10_image 25 = .ok (.getfield 58, 3) := by decide +kernel
theorem dX10_image_28 : decode cX10_image 28 = .ok (.iconst 0, 1) := by decide +kernel
theorem dX10_image_29 : decode cX10_image 29 = .ok (.aload_n 0, 1) := by decide +kernel
theorem dX10_image_30 : decode cX10_image 30 = .ok (.getfield 69, 3) := by decide +kernel
theorem dX10_image_33 : decode cX10_image 33 = .ok (.iconst 0, 1) := by decide +kernel
theorem dX10_image_34 : decode cX10_image 34 = .ok (.iconst 5, 1) := by decide +kernel
theorem dX10_image_35 : decode cX10_image 35 = .ok (.invokestatic 296, 3) := by decide +kernel
theorem dX10_image_38 : decode cX10_image 38 = .ok (.aload_n 0, 1) := by decide +kernel
theorem dX10_image_39 : decode cX10_image 39 = .ok (.aload_n 0, 1) := by decide +kernel
theorem dX10_image_40 : decode cX10_image 40 = .ok (.getfield 10, 3) := by decide +kernel
theorem dX10_image_43 : decode cX10_image 43 = .ok (.getfield 142, 3) := by decide +kernel
theorem dX10_image_46 : decode cX10_image 46 = .ok (.getfield 289, 3) := by decide +kernel
theorem dX10_image_49 : decode cX10_image 49 = .ok (.putfield 72, 3) := by decide +kernel
theorem dX10_image_52 : decode cX10_image 52 = .ok (.aload_n 0, 1) := by decide +kernel
theorem dX10_image_53 : decode cX10_image 53 = .ok (.getfield 58, 3) := by decide +kernel
theorem dX10_image_56 : decode cX10_image 56 = .ok (.iconst 0, 1) := by decide +kernel
theorem dX10_image_57 : decode cX10_image 57 = .ok (.iaload, 1) := by decide +kernel
theorem dX10_image_58 : decode cX10_image 58 = .ok (.ireturn, 1) := by decide +kernel
theorem dX10_back_0 : decode cX10_back 0 = .ok (.aload_n 0, 1) := by decide +kernel
theorem dX10_back_1 : decode cX10_back 1 = .ok (.getfield 72, 3) := by decide +kernel
theorem dX10_back_4 : decode cX10_back 4 = .ok (.iconst (-1), 1) := by decide +kernel
theorem dX10_back_5 : decode cX10_back 5 = .ok (.if_icmp .ne 6, 3) := by decide +kernel
theorem dX10_back_8 : decode cX10_back 8 = .ok (.bipush (-5), 2) := by decide +kernel
theorem dX10_back_10 : decode cX10_back 10 = .ok (.ireturn, 1) := by decide +kernel
theorem dX10_back_11 : decode cX10_back 11 = .ok (.aload_n 0, 1) := by decide +kernel
theorem dX10_back_12 : decode cX10_back 12 = .ok (.getfield 10, 3) := by decide +kernel
theorem dX10_back_15 : decode cX10_back 15 = .ok (.getfield 151, 3) := by decide +kernel
theorem dX10_back_18 : decode cX10_back 18 = .ok (.aload_n 0, 1) := by decide +kernel
theorem dX10_back_19 : decode cX10_back 19 = .ok (.getfield 65, 3) := by decide +kernel
theorem dX10_back_22 : decode cX10_back 22 = .ok (.aload_n 0, 1) := by decide +kernel
theorem dX10_back_23 : decode cX10_back 23 = .ok (.getfield 72, 3) := by decide +kernel
theorem dX10_back_26 : decode cX10_back 26 = .ok (.invokevirtual 292, 3) := by decide +kernel
theorem dX10_back_29 : decode cX10_back 29 = .ok (.aload_n 0, 1) := by decide +kernel
theorem dX10_back_30 : decode cX10_back 30 = .ok (.getfield 69, 3) := by decide +kernel
theorem dX10_back_33 : decode cX10_back 33 = .ok (.iconst 0, 1) := by decide +kernel
theorem dX10_back_34 : decode cX10_back 34 = .ok (.aload_n 0, 1) := by decide +kernel
theorem dX10_back_35 : decode cX10_back 35 = .ok (.getfield 58, 3) := by decide +kernel
theorem dX10_back_38 : decode cX10_back 38 = .ok (.iconst 0, 1) := by decide +kernel
theorem dX10_back_39 : decode cX10_back 39 = .ok (.iconst 5, 1) := by decide +kernel
theorem dX10_back_40 : decode cX10_back 40 = .ok (.invokestatic 296, 3) := by decide +kernel
theorem dX10_back_43 : decode cX10_back 43 = .ok (.aload_n 0, 1) := by decide +kernel
theorem dX10_back_44 : decode cX10_back 44 = .ok (.getfield 58, 3) := by decide +kernel
theorem dX10_back_47 : decode cX10_back 47 = .ok (.iconst 0, 1) := by decide +kernel
theorem dX10_back_48 : decode cX10_back 48 = .ok (.iaload, 1) := by decide +kernel
theorem dX10_back_49 : decode cX10_back 49 = .ok (.ireturn, 1) := by decide +kernel
theorem dX10_undo_0 : decode cX10_undo 0 = .ok (.aload_n 0, 1) := by decide +kernel
theorem dX10_undo_1 : decode cX10_undo 1 = .ok (.getfield 33, 3) := by decide +kernel
theorem dX10_undo_4 : decode cX10_undo 4 = .ok (.invokevirtual 302, 3) := by decide +kernel
theorem dX10_undo_7 : decode cX10_undo 7 = .ok (.istore_n 1, 1) := by decide +kernel
theorem dX10_undo_8 : decode cX10_undo 8 = .ok (.iload_n 1, 1) := by decide +kernel
theorem dX10_undo_9 : decode cX10_undo 9 = .ok (.iconst (-1), 1) := by decide +kernel
theorem dX10_undo_10 : decode cX10_undo 10 = .ok (.if_icmp .ne 6, 3) := by decide +kernel
theorem dX10_undo_13 : decode cX10_undo 13 = .ok (.bipush (-5), 2) := by decide +kernel
theorem dX10_undo_15 : decode cX10_undo 15 = .ok (.ireturn, 1) := by decide +kernel
theorem dX10_undo_16 : decode cX10_undo 16 = .ok (.aload_n 0, 1) := by decide +kernel
theorem dX10_undo_17 : decode cX10_undo 17 = .ok (.getfield 10, 3) := by decide +kernel
theorem dX10_undo_20 : decode cX10_undo 20 = .ok (.aload_n 0, 1) := by decide +kernel
theorem dX10_undo_21 : decode cX10_undo 21 = .ok (.getfield 33, 3) := by decide +kernel
theorem dX10_undo_24 : decode cX10_undo 24 = .ok (.getfield 305, 3) := by decide +kernel
theorem dX10_undo_27 : decode cX10_undo 27 = .ok (.iload_n 1, 1) := by decide +kernel
theorem dX10_undo_28 : decode cX10_undo 28 = .ok (.iaload, 1) := by decide +kernel
theorem dX10_undo_29 : decode cX10_undo 29 = .ok (.aload_n 0, 1) := by decide +kernel
theorem dX10_undo_30 : decode cX10_undo 30 = .ok (.getfield 33, 3) := by decide +kernel
theorem dX10_undo_33 : decode cX10_undo 33 = .ok (.getfield 308, 3) := by decide +kernel
theorem dX10_undo_36 : decode cX10_undo 36 = .ok (.iload_n 1, 1) := by decide +kernel
theorem dX10_undo_37 : decode cX10_undo 37 = .ok (.iaload, 1) := by decide +kernel
theorem dX10_undo_38 : decode cX10_undo 38 = .ok (.aload_n 0, 1) := by decide +kernel
theorem dX10_undo_39 : decode cX10_undo 39 = .ok (.getfield 33, 3) := by decide +kernel
theorem dX10_undo_42 : decode cX10_undo 42 = .ok (.getfield 311, 3) := by decide +kernel
theorem dX10_undo_45 : decode cX10_undo 45 = .ok (.iload_n 1, 1) := by decide +kernel
theorem dX10_undo_46 : decode cX10_undo 46 = .ok (.iaload, 1) := by decide +kernel
theorem dX10_undo_47 : decode cX10_undo 47 = .ok (.invokevirtual 124, 3) := by decide +kernel
theorem dX10_undo_50 : decode cX10_undo 50 = .ok (.aload_n 0, 1) := by decide +kernel
theorem dX10_undo_51 : decode cX10_undo 51 = .ok (.getfield 33, 3) := by decide +kernel
theorem dX10_undo_54 : decode cX10_undo 54 = .ok (.getfield 314, 3) := by decide +kernel
theorem dX10_undo_57 : decode cX10_undo 57 = .ok (.ireturn, 1) := by decide +kernel
theorem dX10_redo_0 : decode cX10_redo 0 = .ok (.aload_n 0, 1) := by decide +kernel
theorem dX10_redo_1 : decode cX10_redo 1 = .ok (.getfield 33, 3) := by decide +kernel
theorem dX10_redo_4 : decode cX10_redo 4 = .ok (.invokevirtual 317, 3) := by decide +kernel
theorem dX10_redo_7 : decode cX10_redo 7 = .ok (.istore_n 1, 1) := by decide +kernel
theorem dX10_redo_8 : decode cX10_redo 8 = .ok (.iload_n 1, 1) := by decide +kernel
theorem dX10_redo_9 : decode cX10_redo 9 = .ok (.iconst (-1), 1) := by decide +kernel
theorem dX10_redo_10 : decode cX10_redo 10 = .ok (.if_icmp .ne 6, 3) := by decide +kernel
theorem dX10_redo_13 : decode cX10_redo 13 = .ok (.bipush (-5), 2) := by decide +kernel
theorem dX10_redo_15 : decode cX10_redo 15 = .ok (.ireturn, 1) := by decide +kernel
theorem dX10_redo_16 : decode cX10_redo 16 = .ok (.aload_n 0, 1) := by decide +kernel
theorem dX10_redo_17 : decode cX10_redo 17 = .ok (.getfield 10, 3) := by decide +kernel
theorem dX10_redo_20 : decode cX10_redo 20 = .ok (.aload_n 0, 1) := by decide +kernel
theorem dX10_redo_21 : decode cX10_redo 21 = .ok (.getfield 33, 3) := by decide +kernel
theorem dX10_redo_24 : decode cX10_redo 24 = .ok (.getfield 305, 3) := by decide +kernel
theorem dX10_redo_27 : decode cX10_redo 27 = .ok (.iload_n 1, 1) := by decide +kernel
theorem dX10_redo_28 : decode cX10_redo 28 = .ok (.iaload, 1) := by decide +kernel
theorem dX10_redo_29 : decode cX10_redo 29 = .ok (.aload_n 0, 1) := by decide +kernel
theorem dX10_redo_30 : decode cX10_redo 30 = .ok (.getfield 33, 3) := by decide +kernel
theorem dX10_redo_33 : decode cX10_redo 33 = .ok (.getfield 308, 3) := by decide +kernel
theorem dX10_redo_36 : decode cX10_redo 36 = .ok (.iload_n 1, 1) := by decide +kernel
theorem dX10_redo_37 : decode cX10_redo 37 = .ok (.iaload, 1) := by decide +kernel
theorem dX10_redo_38 : decode cX10_redo 38 = .ok (.aload_n 0, 1) := by decide +kernel
theorem dX10_redo_39 : decode cX10_redo 39 = .ok (.getfield 33, 3) := by decide +kernel
theorem dX10_redo_42 : decode cX10_redo 42 = .ok (.getfield 320, 3) := by decide +kernel
theorem dX10_redo_45 : decode cX10_redo 45 = .ok (.iload_n 1, 1) := by decide +kernel
theorem dX10_redo_46 : decode cX10_redo 46 = .ok (.iaload, 1) := by decide +kernel
theorem dX10_redo_47 : decode cX10_redo 47 = .ok (.invokevirtual 124, 3) := by decide +kernel
theorem dX10_redo_50 : decode cX10_redo 50 = .ok (.aload_n 0, 1) := by decide +kernel
theorem dX10_redo_51 : decode cX10_redo 51 = .ok (.getfield 33, 3) := by decide +kernel
theorem dX10_redo_54 : decode cX10_redo 54 = .ok (.invokevirtual 323, 3) := by decide +kernel
theorem dX10_redo_57 : decode cX10_redo 57 = .ok (.ireturn, 1) := by decide +kernel
theorem dX10_body_0 : decode cX10_body 0 = .ok (.iload_n 1, 1) := by decide +kernel
theorem dX10_body_1 : decode cX10_body 1 = .ok (.invokestatic 326, 3) := by decide +kernel
theorem dX10_body_4 : decode cX10_body 4 = .ok (.ifCond .eq 14, 3) := by decide +kernel
theorem dX10_body_7 : decode cX10_body 7 = .ok (.aload_n 0, 1) := by decide +kernel
theorem dX10_body_8 : decode cX10_body 8 = .ok (.getfield 40, 3) := by decide +kernel
theorem dX10_body_11 : decode cX10_body 11 = .ok (.iload_n 1, 1) := by decide +kernel
theorem dX10_body_12 : decode cX10_body 12 = .ok (.invokevirtual 329, 3) := by decide +kernel
theorem dX10_body_15 : decode cX10_body 15 = .ok (.goto 4, 3) := by decide +kernel
theorem dX10_body_18 : decode cX10_body 18 = .ok (.iconst (-1), 1) := by decide +kernel
theorem dX10_body_19 : decode cX10_body 19 = .ok (.ireturn, 1) := by decide +kernel
theorem dX10_act_0 : decode cX10_act 0 = .ok (.aload_n 0, 1) := by decide +kernel
theorem dX10_act_1 : decode cX10_act 1 = .ok (.getfield 40, 3) := by decide +kernel
theorem dX10_act_4 : decode cX10_act 4 = .ok (.iload_n 1, 1) := by decide +kernel
theorem dX10_act_5 : decode cX10_act 5 = .ok (.iload_n 2, 1) := by decide +kernel
theorem dX10_act_6 : decode cX10_act 6 = .ok (.iload_n 3, 1) := by decide +kernel
theorem dX10_act_7 : decode cX10_act 7 = .ok (.invokevirtual 332, 3) := by decide +kernel
theorem dX10_act_10 : decode cX10_act 10 = .ok (.ireturn, 1) := by decide +kernel
theorem dX10_trace_0 : decode cX10_trace 0 = .ok (.iload_n 1, 1) := by decide +kernel
theorem dX10_trace_1 : decode cX10_trace 1 = .ok (.ifCond .lt 26, 3) := by decide +kernel
theorem dX10_trace_4 : decode cX10_trace 4 = .ok (.iload_n 1, 1) := by decide +kernel
theorem dX10_trace_5 : decode cX10_trace 5 = .ok (.aload_n 0, 1) := by decide +kernel
theorem dX10_trace_6 : decode cX10_trace 6 = .ok (.getfield 40, 3) := by decide +kernel
theorem dX10_trace_9 : decode cX10_trace 9 = .ok (.invokevirtual 335, 3) := by decide +kernel
theorem dX10_trace_12 : decode cX10_trace 12 = .ok (.if_icmp .ge 15, 3) := by decide +kernel
theorem dX10_trace_15 : decode cX10_trace 15 = .ok (.aload_n 0, 1) := by decide +kernel
theorem dX10_trace_16 : decode cX10_trace 16 = .ok (.getfield 40, 3) := by decide +kernel
theorem dX10_trace_19 : decode cX10_trace 19 = .ok (.getfield 338, 3) := by decide +kernel
theorem dX10_trace_22 : decode cX10_trace 22 = .ok (.iload_n 1, 1) := by decide +kernel
theorem dX10_trace_23 : decode cX10_trace 23 = .ok (.iaload, 1) := by decide +kernel
theorem dX10_trace_24 : decode cX10_trace 24 = .ok (.goto 4, 3) := by decide +kernel
theorem dX10_trace_27 : decode cX10_trace 27 = .ok (.iconst (-1), 1) := by decide +kernel
theorem dX10_trace_28 : decode cX10_trace 28 = .ok (.ireturn, 1) := by decide +kernel
theorem dX10_keep_0 : decode cX10_keep 0 = .ok (.iload_n 1, 1) := by decide +kernel
theorem dX10_keep_1 : decode cX10_keep 1 = .ok (.invokestatic 88, 3) := by decide +kernel
theorem dX10_keep_4 : decode cX10_keep 4 = .ok (.ifCond .eq 19, 3) := by decide +kernel
theorem dX10_keep_7 : decode cX10_keep 7 = .ok (.iload_n 2, 1) := by decide +kernel
theorem dX10_keep_8 : decode cX10_keep 8 = .ok (.iconst (-1), 1) := by decide +kernel
theorem dX10_keep_9 : decode cX10_keep 9 = .ok (.if_icmp .eq 16, 3) := by decide +kernel
theorem dX10_keep_12 : decode cX10_keep 12 = .ok (.aload_n 0, 1) := by decide +kernel
theorem dX10_keep_13 : decode cX10_keep 13 = .ok (.getfield 40, 3) := by decide +kernel
theorem dX10_keep_16 : decode cX10_keep 16 = .ok (.iload_n 2, 1) := by decide +kernel
theorem dX10_keep_17 : decode cX10_keep 17 = .ok (.invokevirtual 341, 3) := by decide +kernel
theorem dX10_keep_20 : decode cX10_keep 20 = .ok (.ifCond .ne 5, 3) := by decide +kernel
theorem dX10_keep_23 : decode cX10_keep 23 = .ok (.iconst (-1), 1) := by decide +kernel
theorem dX10_keep_24 : decode cX10_keep 24 = .ok (.ireturn, 1) := by decide +kernel
theorem dX10_keep_25 : decode cX10_keep 25 = .ok (.iload_n 2, 1) := by decide +kernel
theorem dX10_keep_26 : decode cX10_keep 26 = .ok (.iconst (-1), 1) := by decide +kernel
theorem dX10_keep_27 : decode cX10_keep 27 = .ok (.if_icmp .ne 14, 3) := by decide +kernel
theorem dX10_keep_30 : decode cX10_keep 30 = .ok (.aload_n 0, 1) := by decide +kernel
theorem dX10_keep_31 : decode cX10_keep 31 = .ok (.getfield 47, 3) := by decide +kernel
theorem dX10_keep_34 : decode cX10_keep 34 = .ok (.iload_n 1, 1) := by decide +kernel
theorem dX10_keep_35 : decode cX10_keep 35 = .ok (.invokevirtual 344, 3) := by decide +kernel
theorem dX10_keep_38 : decode cX10_keep 38 = .ok (.goto 12, 3) := by decide +kernel
theorem dX10_keep_41 : decode cX10_keep 41 = .ok (.aload_n 0, 1) := by decide +kernel
theorem dX10_keep_42 : decode cX10_keep 42 = .ok (.getfield 47, 3) := by decide +kernel
theorem dX10_keep_45 : decode cX10_keep 45 = .ok (.iload_n 1, 1) := by decide +kernel
theorem dX10_keep_46 : decode cX10_keep 46 = .ok (.iload_n 2, 1) := by decide +kernel
theorem dX10_keep_47 : decode cX10_keep 47 = .ok (.invokevirtual 348, 3) := by decide +kernel
theorem dX10_keep_50 : decode cX10_keep 50 = .ok (.iconst 1, 1) := by decide +kernel
theorem dX10_keep_51 : decode cX10_keep 51 = .ok (.ireturn, 1) := by decide +kernel
theorem dX10_row_0 : decode cX10_row 0 = .ok (.iload_n 1, 1) := by decide +kernel
theorem dX10_row_1 : decode cX10_row 1 = .ok (.invokestatic 88, 3) := by decide +kernel
theorem dX10_row_4 : decode cX10_row 4 = .ok (.ifCond .eq 16, 3) := by decide +kernel
theorem dX10_row_7 : decode cX10_row 7 = .ok (.iload_n 2, 1) := by decide +kernel
theorem dX10_row_8 : decode cX10_row 8 = .ok (.invokestatic 352, 3) := by decide +kernel
theorem dX10_row_11 : decode cX10_row 11 = .ok (.ifCond .eq 9, 3) := by decide +kernel
theorem dX10_row_14 : decode cX10_row 14 = .ok (.iload_n 3, 1) := by decide +kernel
theorem dX10_row_15 : decode cX10_row 15 = .ok (.bipush 60, 2) := by decide +kernel
theorem dX10_row_17 : decode cX10_row 17 = .ok (.if_icmp .le 5, 3) := by decide +kernel
theorem dX10_row_20 : decode cX10_row 20 = .ok (.iconst (-1), 1) := by decide +kernel
theorem dX10_row_21 : decode cX10_row 21 = .ok (.ireturn, 1) := by decide +kernel
theorem dX10_row_22 : decode cX10_row 22 = .ok (.iload_n 3, 1) := by decide +kernel
theorem dX10_row_23 : decode cX10_row 23 = .ok (.ifCond .ge 6, 3) := by decide +kernel
theorem dX10_row_26 : decode cX10_row 26 = .ok (.bipush (-14), 2) := by decide +kernel
theorem dX10_row_28 : decode cX10_row 28 = .ok (.ireturn, 1) := by decide +kernel
theorem dX10_row_29 : decode cX10_row 29 = .ok (.aload_n 0, 1) := by decide +kernel
theorem dX10_row_30 : decode cX10_row 30 = .ok (.getfield 47, 3) := by decide +kernel
theorem dX10_row_33 : decode cX10_row 33 = .ok (.iload_n 1, 1) := by decide +kernel
theorem dX10_row_34 : decode cX10_row 34 = .ok (.iload_n 2, 1) := by decide +kernel
theorem dX10_row_35 : decode cX10_row 35 = .ok (.iload_n 3, 1) := by decide +kernel
theorem dX10_row_36 : decode cX10_row 36 = .ok (.invokevirtual 355, 3) := by decide +kernel
theorem dX10_row_39 : decode cX10_row 39 = .ok (.iconst 1, 1) := by decide +kernel
theorem dX10_row_40 : decode cX10_row 40 = .ok (.ireturn, 1) := by decide +kernel
theorem dX10_put_0 : decode cX10_put 0 = .ok (.iload_n 1, 1) := by decide +kernel
theorem dX10_put_1 : decode cX10_put 1 = .ok (.invokestatic 88, 3) := by decide +kernel
theorem dX10_put_4 : decode cX10_put 4 = .ok (.ifCond .ne 5, 3) := by decide +kernel
theorem dX10_put_7 : decode cX10_put 7 = .ok (.iconst (-1), 1) := by decide +kernel
theorem dX10_put_8 : decode cX10_put 8 = .ok (.ireturn, 1) := by decide +kernel
theorem dX10_put_9 : decode cX10_put 9 = .ok (.aload_n 0, 1) := by decide +kernel
theorem dX10_put_10 : decode cX10_put 10 = .ok (.getfield 47, 3) := by decide +kernel
theorem dX10_put_13 : decode cX10_put 13 = .ok (.iload_n 1, 1) := by decide +kernel
theorem dX10_put_14 : decode cX10_put 14 = .ok (.iload_n 2, 1) := by decide +kernel
theorem dX10_put_15 : decode cX10_put 15 = .ok (.invokevirtual 358, 3) := by decide +kernel
theorem dX10_put_18 : decode cX10_put 18 = .ok (.istore 5, 2) := by decide +kernel
theorem dX10_put_20 : decode cX10_put 20 = .ok (.iload 5, 2) := by decide +kernel
theorem dX10_put_22 : decode cX10_put 22 = .ok (.ifCond .eq 6, 3) := by decide +kernel
theorem dX10_put_25 : decode cX10_put 25 = .ok (.iload 5, 2) := by decide +kernel
theorem dX10_put_27 : decode cX10_put 27 = .ok (.ireturn, 1) := by decide +kernel
theorem dX10_put_28 : decode cX10_put 28 = .ok (.aload_n 0, 1) := by decide +kernel
theorem dX10_put_29 : decode cX10_put 29 = .ok (.getfield 47, 3) := by decide +kernel
theorem dX10_put_32 : decode cX10_put 32 = .ok (.getfield 102, 3) := by decide +kernel
theorem dX10_put_35 : decode cX10_put 35 = .ok (.iload_n 1, 1) := by decide +kernel
theorem dX10_put_36 : decode cX10_put 36 = .ok (.aaload, 1) := by decide +kernel
theorem dX10_put_37 : decode cX10_put 37 = .ok (.iload_n 2, 1) := by decide +kernel
theorem dX10_put_38 : decode cX10_put 38 = .ok (.aload_n 0, 1) := by decide +kernel
theorem dX10_put_39 : decode cX10_put 39 = .ok (.getfield 47, 3) := by decide +kernel
theorem dX10_put_42 : decode cX10_put 42 = .ok (.getfield 361, 3) := by decide +kernel
theorem dX10_put_45 : decode cX10_put 45 = .ok (.iload_n 1, 1) := by decide +kernel
theorem dX10_put_46 : decode cX10_put 46 = .ok (.iaload, 1) := by decide +kernel
theorem dX10_put_47 : decode cX10_put 47 = .ok (.lload_n 3, 1) := by decide +kernel
theorem dX10_put_48 : decode cX10_put 48 = .ok (.invokestatic 364, 3) := by decide +kernel
theorem dX10_put_51 : decode cX10_put 51 = .ok (.lastore, 1) := by decide +kernel
theorem dX10_put_52 : decode cX10_put 52 = .ok (.iconst 1, 1) := by decide +kernel
theorem dX10_put_53 : decode cX10_put 53 = .ok (.ireturn, 1) := by decide +kernel
theorem dX10_element_0 : decode cX10_element 0 = .ok (.iload_n 1, 1) := by decide +kernel
theorem dX10_element_1 : decode cX10_element 1 = .ok (.invokestatic 88, 3) := by decide +kernel
theorem dX10_element_4 : decode cX10_element 4 = .ok (.ifCond .eq 15, 3) := by decide +kernel
theorem dX10_element_7 : decode cX10_element 7 = .ok (.aload_n 0, 1) := by decide +kernel
theorem dX10_element_8 : decode cX10_element 8 = .ok (.getfield 47, 3) := by decide +kernel
theorem dX10_element_11 : decode cX10_element 11 = .ok (.iload_n 1, 1) := by decide +kernel
theorem dX10_element_12 : decode cX10_element 12 = .ok (.iload_n 2, 1) := by decide +kernel
theorem dX10_element_13 : decode cX10_element 13 = .ok (.invokevirtual 358, 3) := by decide +kernel
theorem dX10_element_16 : decode cX10_element 16 = .ok (.ifCond .eq 7, 3) := by decide +kernel
theorem dX10_element_19 : decode cX10_element 19 = .ok (.ldc2_w 204, 3) := by decide +kernel
theorem dX10_element_22 : decode cX10_element 22 = .ok (.lreturn, 1) := by decide +kernel
theorem dX10_element_23 : decode cX10_element 23 = .ok (.aload_n 0, 1) := by decide +kernel
theorem dX10_element_24 : decode cX10_element 24 = .ok (.getfield 47, 3) := by decide +kernel
theorem dX10_element_27 : decode cX10_element 27 = .ok (.getfield 102, 3) := by decide +kernel
theorem dX10_element_30 : decode cX10_element 30 = .ok (.iload_n 1, 1) := by decide +kernel
theorem dX10_element_31 : decode cX10_element 31 = .ok (.aaload, 1) := by decide +kernel
theorem dX10_element_32 : decode cX10_element 32 = .ok (.iload_n 2, 1) := by decide +kernel
theorem dX10_element_33 : decode cX10_element 33 = .ok (.laload, 1) := by decide +kernel
theorem dX10_element_34 : decode cX10_element 34 = .ok (.lreturn, 1) := by decide +kernel
theorem dX10_shift_0 : decode cX10_shift 0 = .ok (.iload_n 1, 1) := by decide +kernel
theorem dX10_shift_1 : decode cX10_shift 1 = .ok (.invokestatic 88, 3) := by decide +kernel
theorem dX10_shift_4 : decode cX10_shift 4 = .ok (.ifCond .eq 10, 3) := by decide +kernel
theorem dX10_shift_7 : decode cX10_shift 7 = .ok (.iload_n 3, 1) := by decide +kernel
theorem dX10_shift_8 : decode cX10_shift 8 = .ok (.invokestatic 88, 3) := by decide +kernel
theorem dX10_shift_11 : decode cX10_shift 11 = .ok (.ifCond .ne 5, 3) := by decide +kernel
theorem dX10_shift_14 : decode cX10_shift 14 = .ok (.iconst (-1), 1) := by decide +kernel
theorem dX10_shift_15 : decode cX10_shift 15 = .ok (.ireturn, 1) := by decide +kernel
theorem dX10_shift_16 : decode cX10_shift 16 = .ok (.aload_n 0, 1) := by decide +kernel
theorem dX10_shift_17 : decode cX10_shift 17 = .ok (.getfield 47, 3) := by decide +kernel
theorem dX10_shift_20 : decode cX10_shift 20 = .ok (.iload_n 1, 1) := by decide +kernel
theorem dX10_shift_21 : decode cX10_shift 21 = .ok (.invokevirtual 91, 3) := by decide +kernel
theorem dX10_shift_24 : decode cX10_shift 24 = .ok (.ifCond .ne 14, 3) := by decide +kernel
theorem dX10_shift_27 : decode cX10_shift 27 = .ok (.aload_n 0, 1) := by decide +kernel
theorem dX10_shift_28 : decode cX10_shift 28 = .ok (.getfield 47, 3) := by decide +kernel
theorem dX10_shift_31 : decode cX10_shift 31 = .ok (.iload_n 3, 1) := by decide +kernel
theorem dX10_shift_32 : decode cX10_shift 32 = .ok (.invokevirtual 91, 3) := by decide +kernel
theorem dX10_shift_35 : decode cX10_shift 35 = .ok (.ifCond .eq 6, 3) := by decide +kernel
theorem dX10_shift_38 : decode cX10_shift 38 = .ok (.bipush (-11), 2) := by decide +kernel
theorem dX10_shift_40 : decode cX10_shift 40 = .ok (.ireturn, 1) := by decide +kernel
theorem dX10_shift_41 : decode cX10_shift 41 = .ok (.aload_n 0, 1) := by decide +kernel
theorem dX10_shift_42 : decode cX10_shift 42 = .ok (.getfield 47, 3) := by decide +kernel
theorem dX10_shift_45 : decode cX10_shift 45 = .ok (.iload_n 1, 1) := by decide +kernel
theorem dX10_shift_46 : decode cX10_shift 46 = .ok (.invokevirtual 368, 3) := by decide +kernel
theorem dX10_shift_49 : decode cX10_shift 49 = .ok (.ifCond .eq 23, 3) := by decide +kernel
theorem dX10_shift_52 : decode cX10_shift 52 = .ok (.aload_n 0, 1) := by decide +kernel
theorem dX10_shift_53 : decode cX10_shift 53 = .ok (.getfield 47, 3) := by decide +kernel
theorem dX10_shift_56 : decode cX10_shift 56 = .ok (.iload_n 3, 1) := by decide +kernel
theorem dX10_shift_57 : decode cX10_shift 57 = .ok (.aload_n 0, 1) := by decide +kernel
theorem dX10_shift_58 : decode cX10_shift 58 = .ok (.getfield 47, 3) := by decide +kernel
theorem dX10_shift_61 : decode cX10_shift 61 = .ok (.getfield 361, 3) := by decide +kernel
theorem dX10_shift_64 : decode cX10_shift 64 = .ok (.iload_n 1, 1) := by decide +kernel
theorem dX10_shift_65 : decode cX10_shift 65 = .ok (.iaload, 1) := by decide +kernel
theorem dX10_shift_66 : decode cX10_shift 66 = .ok (.invokevirtual 94, 3) := by decide +kernel
theorem dX10_shift_69 : decode cX10_shift 69 = .ok (.ifCond .ne 6, 3) := by decide +kernel
theorem dX10_shift_72 : decode cX10_shift 72 = .ok (.bipush (-12), 2) := by decide +kernel
theorem dX10_shift_74 : decode cX10_shift 74 = .ok (.ireturn, 1) := by decide +kernel
theorem dX10_shift_75 : decode cX10_shift 75 = .ok (.aload_n 0, 1) := by decide +kernel
theorem dX10_shift_76 : decode cX10_shift 76 = .ok (.getfield 47, 3) := by decide +kernel
theorem dX10_shift_79 : decode cX10_shift 79 = .ok (.iload_n 1, 1) := by decide +kernel
theorem dX10_shift_80 : decode cX10_shift 80 = .ok (.iload_n 2, 1) := by decide +kernel
theorem dX10_shift_81 : decode cX10_shift 81 = .ok (.iload 5, 2) := by decide +kernel
theorem dX10_shift_83 : decode cX10_shift 83 = .ok (.invokevirtual 98, 3) := by decide +kernel
theorem dX10_shift_86 : decode cX10_shift 86 = .ok (.ifCond .eq 18, 3) := by decide +kernel
theorem dX10_shift_89 : decode cX10_shift 89 = .ok (.aload_n 0, 1) := by decide +kernel
theorem dX10_shift_90 : decode cX10_shift 90 = .ok (.getfield 47, 3) := by decide +kernel
theorem dX10_shift_93 : decode cX10_shift 93 = .ok (.iload_n 3, 1) := by decide +kernel
theorem dX10_shift_94 : decode cX10_shift 94 = .ok (.iload 4, 2) := by decide +kernel
theorem dX10_shift_96 : decode cX10_shift 96 = .ok (.iload 5, 2) := by decide +kernel
theorem dX10_shift_98 : decode cX10_shift 98 = .ok (.invokevirtual 98, 3) := by decide +kernel
theorem dX10_shift_101 : decode cX10_shift 101 = .ok (.ifCond .ne 6, 3) := by decide +kernel
theorem dX10_shift_104 : decode cX10_shift 104 = .ok (.bipush (-13), 2) := by decide +kernel
theorem dX10_shift_106 : decode cX10_shift 106 = .ok (.ireturn, 1) := by decide +kernel
theorem dX10_shift_107 : decode cX10_shift 107 = .ok (.aload_n 0, 1) := by decide +kernel
theorem dX10_shift_108 : decode cX10_shift 108 = .ok (.getfield 47, 3) := by decide +kernel
theorem dX10_shift_111 : decode cX10_shift 111 = .ok (.getfield 102, 3) := by decide +kernel
theorem dX10_shift_114 : decode cX10_shift 114 = .ok (.iload_n 1, 1) := by decide +kernel
theorem dX10_shift_115 : decode cX10_shift 115 = .ok (.aaload, 1) := by decide +kernel
theorem dX10_shift_116 : decode cX10_shift 116 = .ok (.iload_n 2, 1) := by decide +kernel
theorem dX10_shift_117 : decode cX10_shift 117 = .ok (.aload_n 0, 1) := by decide +kernel
theorem dX10_shift_118 : decode cX10_shift 118 = .ok (.getfield 47, 3) := by decide +kernel
theorem dX10_shift_121 : decode cX10_shift 121 = .ok (.getfield 102, 3) := by decide +kernel
theorem dX10_shift_124 : decode cX10_shift 124 = .ok (.iload_n 3, 1) := by decide +kernel
theorem dX10_shift_125 : decode cX10_shift 125 = .ok (.aaload, 1) := by decide +kernel
theorem dX10_shift_126 : decode cX10_shift 126 = .ok (.iload 4, 2) := by decide +kernel
theorem dX10_shift_128 : decode cX10_shift 128 = .ok (.iload 5, 2) := by decide +kernel
theorem dX10_shift_130 : decode cX10_shift 130 = .ok (.invokestatic 296, 3) := by decide +kernel
theorem dX10_shift_133 : decode cX10_shift 133 = .ok (.iload 5, 2) := by decide +kernel
theorem dX10_shift_135 : decode cX10_shift 135 = .ok (.ireturn, 1) := by decide +kernel
theorem dX10_taken_0 : decode cX10_taken 0 = .ok (.iload_n 1, 1) := by decide +kernel
theorem dX10_taken_1 : decode cX10_taken 1 = .ok (.invokestatic 88, 3) := by decide +kernel
theorem dX10_taken_4 : decode cX10_taken 4 = .ok (.ifCond .eq 10, 3) := by decide +kernel
theorem dX10_taken_7 : decode cX10_taken 7 = .ok (.iload_n 2, 1) := by decide +kernel
theorem dX10_taken_8 : decode cX10_taken 8 = .ok (.invokestatic 326, 3) := by decide +kernel
theorem dX10_taken_11 : decode cX10_taken 11 = .ok (.ifCond .ne 5, 3) := by decide +kernel
theorem dX10_taken_14 : decode cX10_taken 14 = .ok (.iconst (-1), 1) := by decide +kernel
theorem dX10_taken_15 : decode cX10_taken 15 = .ok (.ireturn, 1) := by decide +kernel
theorem dX10_taken_16 : decode cX10_taken 16 = .ok (.aload_n 0, 1) := by decide +kernel
theorem dX10_taken_17 : decode cX10_taken 17 = .ok (.getfield 47, 3) := by decide +kernel
theorem dX10_taken_20 : decode cX10_taken 20 = .ok (.iload_n 1, 1) := by decide +kernel
theorem dX10_taken_21 : decode cX10_taken 21 = .ok (.invokevirtual 91, 3) := by decide +kernel
theorem dX10_taken_24 : decode cX10_taken 24 = .ok (.ifCond .eq 6, 3) := by decide +kernel
theorem dX10_taken_27 : decode cX10_taken 27 = .ok (.bipush (-11), 2) := by decide +kernel
theorem dX10_taken_29 : decode cX10_taken 29 = .ok (.ireturn, 1) := by decide +kernel
theorem dX10_taken_30 : decode cX10_taken 30 = .ok (.aload_n 0, 1) := by decide +kernel
theorem dX10_taken_31 : decode cX10_taken 31 = .ok (.getfield 47, 3) := by decide +kernel
theorem dX10_taken_34 : decode cX10_taken 34 = .ok (.iload_n 1, 1) := by decide +kernel
theorem dX10_taken_35 : decode cX10_taken 35 = .ok (.invokevirtual 368, 3) := by decide +kernel
theorem dX10_taken_38 : decode cX10_taken 38 = .ok (.ifCond .eq 6, 3) := by decide +kernel
theorem dX10_taken_41 : decode cX10_taken 41 = .ok (.bipush (-12), 2) := by decide +kernel
theorem dX10_taken_43 : decode cX10_taken 43 = .ok (.ireturn, 1) := by decide +kernel
theorem dX10_taken_44 : decode cX10_taken 44 = .ok (.aload_n 0, 1) := by decide +kernel
theorem dX10_taken_45 : decode cX10_taken 45 = .ok (.getfield 40, 3) := by decide +kernel
theorem dX10_taken_48 : decode cX10_taken 48 = .ok (.aload_n 0, 1) := by decide +kernel
theorem dX10_taken_49 : decode cX10_taken 49 = .ok (.getfield 47, 3) := by decide +kernel
theorem dX10_taken_52 : decode cX10_taken 52 = .ok (.getfield 227, 3) := by decide +kernel
theorem dX10_taken_55 : decode cX10_taken 55 = .ok (.iload_n 1, 1) := by decide +kernel
theorem dX10_taken_56 : decode cX10_taken 56 = .ok (.iaload, 1) := by decide +kernel
theorem dX10_taken_57 : decode cX10_taken 57 = .ok (.invokevirtual 371, 3) := by decide +kernel
theorem dX10_taken_60 : decode cX10_taken 60 = .ok (.istore_n 3, 1) := by decide +kernel
theorem dX10_taken_61 : decode cX10_taken 61 = .ok (.iload_n 3, 1) := by decide +kernel
theorem dX10_taken_62 : decode cX10_taken 62 = .ok (.iload_n 2, 1) := by decide +kernel
theorem dX10_taken_63 : decode cX10_taken 63 = .ok (.invokestatic 374, 3) := by decide +kernel
theorem dX10_taken_66 : decode cX10_taken 66 = .ok (.ifCond .eq 7, 3) := by decide +kernel
theorem dX10_taken_69 : decode cX10_taken 69 = .ok (.iload_n 3, 1) := by decide +kernel
theorem dX10_taken_70 : decode cX10_taken 70 = .ok (.goto 5, 3) := by decide +kernel
theorem dX10_taken_73 : decode cX10_taken 73 = .ok (.bipush (-12), 2) := by decide +kernel
theorem dX10_taken_75 : decode cX10_taken 75 = .ok (.ireturn, 1) := by decide +kernel
theorem dX10_count_0 : decode cX10_count 0 = .ok (.iload_n 1, 1) := by decide +kernel
theorem dX10_count_1 : decode cX10_count 1 = .ok (.tableswitch 96 0 5 #[39, 50, 61, 72, 80, 88], 39) := by decide +kernel
theorem dX10_count_40 : decode cX10_count 40 = .ok (.aload_n 0, 1) := by decide +kernel
theorem dX10_count_41 : decode cX10_count 41 = .ok (.getfield 10, 3) := by decide +kernel
theorem dX10_count_44 : decode cX10_count 44 = .ok (.getfield 142, 3) := by decide +kernel
theorem dX10_count_47 : decode cX10_count 47 = .ok (.getfield 289, 3) := by decide +kernel
theorem dX10_count_50 : decode cX10_count 50 = .ok (.ireturn, 1) := by decide +kernel
theorem dX10_count_51 : decode cX10_count 51 = .ok (.aload_n 0, 1) := by decide +kernel
theorem dX10_count_52 : decode cX10_count 52 = .ok (.getfield 10, 3) := by decide +kernel
theorem dX10_count_55 : decode cX10_count 55 = .ok (.getfield 151, 3) := by decide +kernel
theorem dX10_count_58 : decode cX10_count 58 = .ok (.invokevirtual 377, 3) := by decide +kernel
theorem dX10_count_61 : decode cX10_count 61 = .ok (.ireturn, 1) := by decide +kernel
theorem dX10_count_62 : decode cX10_count 62 = .ok (.aload_n 0, 1) := by decide +kernel
theorem dX10_count_63 : decode cX10_count 63 = .ok (.getfield 10, 3) := by decide +kernel
theorem dX10_count_66 : decode cX10_count 66 = .ok (.getfield 128, 3) := by decide +kernel
theorem dX10_count_69 : decode cX10_count 69 = .ok (.getfield 380, 3) := by decide +kernel
theorem dX10_count_72 : decode cX10_count 72 = .ok (.ireturn, 1) := by decide +kernel
theorem dX10_count_73 : decode cX10_count 73 = .ok (.aload_n 0, 1) := by decide +kernel
theorem dX10_count_74 : decode cX10_count 74 = .ok (.getfield 33, 3) := by decide +kernel
theorem dX10_count_77 : decode cX10_count 77 = .ok (.getfield 314, 3) := by decide +kernel
theorem dX10_count_80 : decode cX10_count 80 = .ok (.ireturn, 1) := by decide +kernel
theorem dX10_count_81 : decode cX10_count 81 = .ok (.aload_n 0, 1) := by decide +kernel
theorem dX10_count_82 : decode cX10_count 82 = .ok (.getfield 40, 3) := by decide +kernel
theorem dX10_count_85 : decode cX10_count 85 = .ok (.getfield 383, 3) := by decide +kernel
theorem dX10_count_88 : decode cX10_count 88 = .ok (.ireturn, 1) := by decide +kernel
theorem dX10_count_89 : decode cX10_count 89 = .ok (.aload_n 0, 1) := by decide +kernel
theorem dX10_count_90 : decode cX10_count 90 = .ok (.getfield 40, 3) := by decide +kernel
theorem dX10_count_93 : decode cX10_count 93 = .ok (.getfield 386, 3) := by decide +kernel
theorem dX10_count_96 : decode cX10_count 96 = .ok (.ireturn, 1) := by decide +kernel
theorem dX10_count_97 : decode cX10_count 97 = .ok (.iconst (-1), 1) := by decide +kernel
theorem dX10_count_98 : decode cX10_count 98 = .ok (.ireturn, 1) := by decide +kernel
theorem dX10_isCell_0 : decode cX10_isCell 0 = .ok (.iload_n 0, 1) := by decide +kernel
theorem dX10_isCell_1 : decode cX10_isCell 1 = .ok (.ifCond .lt 13, 3) := by decide +kernel
theorem dX10_isCell_4 : decode cX10_isCell 4 = .ok (.iload_n 0, 1) := by decide +kernel
theorem dX10_isCell_5 : decode cX10_isCell 5 = .ok (.bipush 36, 2) := by decide +kernel
theorem dX10_isCell_7 : decode cX10_isCell 7 = .ok (.if_icmp .ge 7, 3) := by decide +kernel
theorem dX10_isCell_10 : decode cX10_isCell 10 = .ok (.iconst 1, 1) := by decide +kernel
theorem dX10_isCell_11 : decode cX10_isCell 11 = .ok (.goto 4, 3) := by decide +kernel
theorem dX10_isCell_14 : decode cX10_isCell 14 = .ok (.iconst 0, 1) := by decide +kernel
theorem dX10_isCell_15 : decode cX10_isCell 15 = .ok (.ireturn, 1) := by decide +kernel
theorem dX10_isThinkable_0 : decode cX10_isThinkable 0 = .ok (.iload_n 0, 1) := by decide +kernel
theorem dX10_isThinkable_1 : decode cX10_isThinkable 1 = .ok (.ifCond .lt 13, 3) := by decide +kernel
theorem dX10_isThinkable_4 : decode cX10_isThinkable 4 = .ok (.iload_n 0, 1) := by decide +kernel
theorem dX10_isThinkable_5 : decode cX10_isThinkable 5 = .ok (.bipush 48, 2) := by decide +kernel
theorem dX10_isThinkable_7 : decode cX10_isThinkable 7 = .ok (.if_icmp .gt 7, 3) := by decide +kernel
theorem dX10_isThinkable_10 : decode cX10_isThinkable 10 = .ok (.iconst 1, 1) := by decide +kernel
theorem dX10_isThinkable_11 : decode cX10_isThinkable 11 = .ok (.goto 4, 3) := by decide +kernel
theorem dX10_isThinkable_14 : decode cX10_isThinkable 14 = .ok (.iconst 0, 1) := by decide +kernel
theorem dX10_isThinkable_15 : decode cX10_isThinkable 15 = .ok (.ireturn, 1) := by decide +kernel
theorem dX11_init_0 : decode cX11_init 0 = .ok (.aload_n 0, 1) := by decide +kernel
theorem dX11_init_1 : decode cX11_init 1 = .ok (.invokespecial 3, 3) := by decide +kernel
theorem dX11_init_4 : decode cX11_init 4 = .ok (.aload_n 0, 1) := by decide +kernel
theorem dX11_init_5 : decode cX11_init 5 = .ok (.bipush 36, 2) := by decide +kernel
theorem dX11_init_7 : decode cX11_init 7 = .ok (.newarray .int, 2) := by decide +kernel
theorem dX11_init_9 : decode cX11_init 9 = .ok (.putfield 9, 3) := by decide +kernel
theorem dX11_init_12 : decode cX11_init 12 = .ok (.aload_n 0, 1) := by decide +kernel
theorem dX11_init_13 : decode cX11_init 13 = .ok (.bipush 36, 2) := by decide +kernel
theorem dX11_init_15 : decode cX11_init 15 = .ok (.newarray .int, 2) := by decide +kernel
theorem dX11_init_17 : decode cX11_init 17 = .ok (.putfield 15, 3) := by decide +kernel
theorem dX11_init_20 : decode cX11_init 20 = .ok (.aload_n 0, 1) := by decide +kernel
theorem dX11_init_21 : decode cX11_init 21 = .ok (.bipush 36, 2) := by decide +kernel
theorem dX11_init_23 : decode cX11_init 23 = .ok (.newarray .int, 2) := by decide +kernel
theorem dX11_init_25 : decode cX11_init 25 = .ok (.putfield 18, 3) := by decide +kernel
theorem dX11_init_28 : decode cX11_init 28 = .ok (.aload_n 0, 1) := by decide +kernel
theorem dX11_init_29 : decode cX11_init 29 = .ok (.bipush 32, 2) := by decide +kernel
theorem dX11_init_31 : decode cX11_init 31 = .ok (.newarray .int, 2) := by decide +kernel
theorem dX11_init_33 : decode cX11_init 33 = .ok (.putfield 21, 3) := by decide +kernel
theorem dX11_init_36 : decode cX11_init 36 = .ok (.aload_n 0, 1) := by decide +kernel
theorem dX11_init_37 : decode cX11_init 37 = .ok (.bipush 120, 2) := by decide +kernel
theorem dX11_init_39 : decode cX11_init 39 = .ok (.newarray .int, 2) := by decide +kernel
theorem dX11_init_41 : decode cX11_init 41 = .ok (.putfield 24, 3) := by decide +kernel
theorem dX11_init_44 : decode cX11_init 44 = .ok (.aload_n 0, 1) := by decide +kernel
theorem dX11_init_45 : decode cX11_init 45 = .ok (.bipush 60, 2) := by decide +kernel
theorem dX11_init_47 : decode cX11_init 47 = .ok (.newarray .int, 2) := by decide +kernel
theorem dX11_init_49 : decode cX11_init 49 = .ok (.putfield 27, 3) := by decide +kernel
theorem dX11_init_52 : decode cX11_init 52 = .ok (.aload_n 0, 1) := by decide +kernel
theorem dX11_init_53 : decode cX11_init 53 = .ok (.bipush 60, 2) := by decide +kernel
theorem dX11_init_55 : decode cX11_init 55 = .ok (.newarray .int, 2) := by decide +kernel
theorem dX11_init_57 : decode cX11_init 57 = .ok (.putfield 30, 3) := by decide +kernel
theorem dX11_init_60 : decode cX11_init 60 = .ok (.aload_n 0, 1) := by decide +kernel
theorem dX11_init_61 : decode cX11_init 61 = .ok (.bipush 60, 2) := by decide +kernel
theorem dX11_init_63 : decode cX11_init 63 = .ok (.newarray .int, 2) := by decide +kernel
theorem dX11_init_65 : decode cX11_init 65 = .ok (.putfield 33, 3) := by decide +kernel
theorem dX11_init_68 : decode cX11_init 68 = .ok (.aload_n 0, 1) := by decide +kernel
theorem dX11_init_69 : decode cX11_init 69 = .ok (.sipush 200, 3) := by decide +kernel
theorem dX11_init_72 : decode cX11_init 72 = .ok (.newarray .int, 2) := by decide +kernel
theorem dX11_init_74 : decode cX11_init 74 = .ok (.putfield 36, 3) := by decide +kernel
theorem dX11_init_77 : decode cX11_init 77 = .ok (.aload_n 0, 1) := by decide +kernel
theorem dX11_init_78 : decode cX11_init 78 = .ok (.bipush 61, 2) := by decide +kernel
theorem dX11_init_80 : decode cX11_init 80 = .ok (.newarray .int, 2) := by decide +kernel
theorem dX11_init_82 : decode cX11_init 82 = .ok (.putfield 39, 3) := by decide +kernel
theorem dX11_init_85 : decode cX11_init 85 = .ok (.aload_n 0, 1) := by decide +kernel
theorem dX11_init_86 : decode cX11_init 86 = .ok (.bipush 61, 2) := by decide +kernel
theorem dX11_init_88 : decode cX11_init 88 = .ok (.newarray .int, 2) := by decide +kernel
theorem dX11_init_90 : decode cX11_init 90 = .ok (.putfield 42, 3) := by decide +kernel
theorem dX11_init_93 : decode cX11_init 93 = .ok (.aload_n 0, 1) := by decide +kernel
theorem dX11_init_94 : decode cX11_init 94 = .ok (.bipush 61, 2) := by decide +kernel
theorem dX11_init_96 : decode cX11_init 96 = .ok (.newarray .int, 2) := by decide +kernel
theorem dX11_init_98 : decode cX11_init 98 = .ok (.putfield 45, 3) := by decide +kernel
theorem dX11_init_101 : decode cX11_init 101 = .ok (.aload_n 0, 1) := by decide +kernel
theorem dX11_init_102 : decode cX11_init 102 = .ok (.sipush 200, 3) := by decide +kernel
theorem dX11_init_105 : decode cX11_init 105 = .ok (.newarray .int, 2) := by decide +kernel
theorem dX11_init_107 : decode cX11_init 107 = .ok (.putfield 48, 3) := by decide +kernel
theorem dX11_init_110 : decode cX11_init 110 = .ok (.aload_n 0, 1) := by decide +kernel
theorem dX11_init_111 : decode cX11_init 111 = .ok (.sipush 200, 3) := by decide +kernel
theorem dX11_init_114 : decode cX11_init 114 = .ok (.newarray .int, 2) := by decide +kernel
theorem dX11_init_116 : decode cX11_init 116 = .ok (.putfield 51, 3) := by decide +kernel
theorem dX11_init_119 : decode cX11_init 119 = .ok (.aload_n 0, 1) := by decide +kernel
theorem dX11_init_120 : decode cX11_init 120 = .ok (.bipush 6, 2) := by decide +kernel
theorem dX11_init_122 : decode cX11_init 122 = .ok (.newarray .int, 2) := by decide +kernel
theorem dX11_init_124 : decode cX11_init 124 = .ok (.putfield 54, 3) := by decide +kernel
theorem dX11_init_127 : decode cX11_init 127 = .ok (.aload_n 0, 1) := by decide +kernel
theorem dX11_init_128 : decode cX11_init 128 = .ok (.iconst 5, 1) := by decide +kernel
theorem dX11_init_129 : decode cX11_init 129 = .ok (.newarray .int, 2) := by decide +kernel
theorem dX11_init_131 : decode cX11_init 131 = .ok (.putfield 57, 3) := by decide +kernel
theorem dX11_init_134 : decode cX11_init 134 = .ok (.aload_n 0, 1) := by decide +kernel
theorem dX11_init_135 : decode cX11_init 135 = .ok (.bipush 105, 2) := by decide +kernel
theorem dX11_init_137 : decode cX11_init 137 = .ok (.newarray .int, 2) := by decide +kernel
theorem dX11_init_139 : decode cX11_init 139 = .ok (.putfield 60, 3) := by decide +kernel
theorem dX11_init_142 : decode cX11_init 142 = .ok (.aload_n 0, 1) := by decide +kernel
theorem dX11_init_143 : decode cX11_init 143 = .ok (.iconst 5, 1) := by decide +kernel
theorem dX11_init_144 : decode cX11_init 144 = .ok (.newarray .int, 2) := by decide +kernel
theorem dX11_init_146 : decode cX11_init 146 = .ok (.putfield 63, 3) := by decide +kernel
theorem dX11_init_149 : decode cX11_init 149 = .ok (.aload_n 0, 1) := by decide +kernel
theorem dX11_init_150 : decode cX11_init 150 = .ok (.sipush 160, 3) := by decide +kernel
theorem dX11_init_153 : decode cX11_init 153 = .ok (.newarray .int, 2) := by decide +kernel
theorem dX11_init_155 : decode cX11_init 155 = .ok (.putfield 66, 3) := by decide +kernel
theorem dX11_init_158 : decode cX11_init 158 = .ok (.aload_n 0, 1) := by decide +kernel
theorem dX11_init_159 : decode cX11_init 159 = .ok (.bipush 50, 2) := by decide +kernel
theorem dX11_init_161 : decode cX11_init 161 = .ok (.newarray .int, 2) := by decide +kernel
theorem dX11_init_163 : decode cX11_init 163 = .ok (.putfield 69, 3) := by decide +kernel
theorem dX11_init_166 : decode cX11_init 166 = .ok (.aload_n 0, 1) := by decide +kernel
theorem dX11_init_167 : decode cX11_init 167 = .ok (.bipush 24, 2) := by decide +kernel
theorem dX11_init_169 : decode cX11_init 169 = .ok (.newarray .int, 2) := by decide +kernel
theorem dX11_init_171 : decode cX11_init 171 = .ok (.putfield 72, 3) := by decide +kernel
theorem dX11_init_174 : decode cX11_init 174 = .ok (.aload_n 0, 1) := by decide +kernel
theorem dX11_init_175 : decode cX11_init 175 = .ok (.bipush 6, 2) := by decide +kernel
theorem dX11_init_177 : decode cX11_init 177 = .ok (.newarray .int, 2) := by decide +kernel
theorem dX11_init_179 : decode cX11_init 179 = .ok (.putfield 75, 3) := by decide +kernel
theorem dX11_init_182 : decode cX11_init 182 = .ok (.aload_n 0, 1) := by decide +kernel
theorem dX11_init_183 : decode cX11_init 183 = .ok (.bipush 6, 2) := by decide +kernel
theorem dX11_init_185 : decode cX11_init 185 = .ok (.newarray .int, 2) := by decide +kernel
theorem dX11_init_187 : decode cX11_init 187 = .ok (.putfield 78, 3) := by decide +kernel
theorem dX11_init_190 : decode cX11_init 190 = .ok (.aload_n 0, 1) := by decide +kernel
theorem dX11_init_191 : decode cX11_init 191 = .ok (.sipush 360, 3) := by decide +kernel
theorem dX11_init_194 : decode cX11_init 194 = .ok (.newarray .long, 2) := by decide +kernel
theorem dX11_init_196 : decode cX11_init 196 = .ok (.putfield 81, 3) := by decide +kernel
theorem dX11_init_199 : decode cX11_init 199 = .ok (.aload_n 0, 1) := by decide +kernel
theorem dX11_init_200 : decode cX11_init 200 = .ok (.bipush 36, 2) := by decide +kernel
theorem dX11_init_202 : decode cX11_init 202 = .ok (.newarray .int, 2) := by decide +kernel
theorem dX11_init_204 : decode cX11_init 204 = .ok (.putfield 85, 3) := by decide +kernel
theorem dX11_init_207 : decode cX11_init 207 = .ok (.aload_n 0, 1) := by decide +kernel
theorem dX11_init_208 : decode cX11_init 208 = .ok (.bipush 105, 2) := by decide +kernel
theorem dX11_init_210 : decode cX11_init 210 = .ok (.newarray .int, 2) := by decide +kernel
theorem dX11_init_212 : decode cX11_init 212 = .ok (.putfield 88, 3) := by decide +kernel
theorem dX11_init_215 : decode cX11_init 215 = .ok (.aload_n 0, 1) := by decide +kernel
theorem dX11_init_216 : decode cX11_init 216 = .ok (.bipush 105, 2) := by decide +kernel
theorem dX11_init_218 : decode cX11_init 218 = .ok (.newarray .int, 2) := by decide +kernel
theorem dX11_init_220 : decode cX11_init 220 = .ok (.putfield 91, 3) := by decide +kernel
theorem dX11_init_223 : decode cX11_init 223 = .ok (.aload_n 0, 1) := by decide +kernel
theorem dX11_init_224 : decode cX11_init 224 = .ok (.bipush 105, 2) := by decide +kernel
theorem dX11_init_226 : decode cX11_init 226 = .ok (.newarray .int, 2) := by decide +kernel
theorem dX11_init_228 : decode cX11_init 228 = .ok (.putfield 94, 3) := by decide +kernel
theorem dX11_init_231 : decode cX11_init 231 = .ok (.iconst 0, 1) := by decide +kernel
theorem dX11_init_232 : decode cX11_init 232 = .ok (.istore_n 1, 1) := by decide +kernel
theorem dX11_init_233 : decode cX11_init 233 = .ok (.iload_n 1, 1) := by decide +kernel
theorem dX11_init_234 : decode cX11_init 234 = .ok (.bipush 6, 2) := by decide +kernel
theorem dX11_init_236 : decode cX11_init 236 = .ok (.if_icmp .ge 16, 3) := by decide +kernel
theorem dX11_init_239 : decode cX11_init 239 = .ok (.aload_n 0, 1) := by decide +kernel
theorem dX11_init_240 : decode cX11_init 240 = .ok (.getfield 75, 3) := by decide +kernel
theorem dX11_init_243 : decode cX11_init 243 = .ok (.iload_n 1, 1) := by decide +kernel
theorem dX11_init_244 : decode cX11_init 244 = .ok (.iconst (-1), 1) := by decide +kernel
theorem dX11_init_245 : decode cX11_init 245 = .ok (.iastore, 1) := by decide +kernel
theorem dX11_init_246 : decode cX11_init 246 = .ok (.iinc 1 1, 3) := by decide +kernel
theorem dX11_init_249 : decode cX11_init 249 = .ok (.goto (-16), 3) := by decide +kernel
theorem dX11_init_252 : decode cX11_init 252 = .ok (.return_, 1) := by decide +kernel
theorem dX11_within_0 : decode cX11_within 0 = .ok (.iload_n 0, 1) := by decide +kernel
theorem dX11_within_1 : decode cX11_within 1 = .ok (.iload_n 1, 1) := by decide +kernel
theorem dX11_within_2 : decode cX11_within 2 = .ok (.if_icmp .lt 12, 3) := by decide +kernel
theorem dX11_within_5 : decode cX11_within 5 = .ok (.iload_n 0, 1) := by decide +kernel
theorem dX11_within_6 : decode cX11_within 6 = .ok (.iload_n 2, 1) := by decide +kernel
theorem dX11_within_7 : decode cX11_within 7 = .ok (.if_icmp .gt 7, 3) := by decide +kernel
theorem dX11_within_10 : decode cX11_within 10 = .ok (.iconst 1, 1) := by decide +kernel
theorem dX11_within_11 : decode cX11_within 11 = .ok (.goto 4, 3) := by decide +kernel
theorem dX11_within_14 : decode cX11_within 14 = .ok (.iconst 0, 1) := by decide +kernel
theorem dX11_within_15 : decode cX11_within 15 = .ok (.ireturn, 1) := by decide +kernel
theorem dX11_isCell_0 : decode cX11_isCell 0 = .ok (.iload_n 0, 1) := by decide +kernel
theorem dX11_isCell_1 : decode cX11_isCell 1 = .ok (.iconst 0, 1) := by decide +kernel
theorem dX11_isCell_2 : decode cX11_isCell 2 = .ok (.bipush 35, 2) := by decide +kernel
theorem dX11_isCell_4 : decode cX11_isCell 4 = .ok (.invokestatic 97, 3) := by decide +kernel
theorem dX11_isCell_7 : decode cX11_isCell 7 = .ok (.ireturn, 1) := by decide +kernel
theorem dX11_isOne_0 : decode cX11_isOne 0 = .ok (.iload_n 1, 1) := by decide +kernel
theorem dX11_isOne_1 : decode cX11_isOne 1 = .ok (.iconst 0, 1) := by decide +kernel
theorem dX11_isOne_2 : decode cX11_isOne 2 = .ok (.aload_n 0, 1) := by decide +kernel
theorem dX11_isOne_3 : decode cX11_isOne 3 = .ok (.getfield 101, 3) := by decide +kernel
theorem dX11_isOne_6 : decode cX11_isOne 6 = .ok (.iconst 1, 1) := by decide +kernel
theorem dX11_isOne_7 : decode cX11_isOne 7 = .ok (.isub, 1) := by decide +kernel
theorem dX11_isOne_8 : decode cX11_isOne 8 = .ok (.invokestatic 97, 3) := by decide +kernel
theorem dX11_isOne_11 : decode cX11_isOne 11 = .ok (.ireturn, 1) := by decide +kernel
theorem dX11_isTime_0 : decode cX11_isTime 0 = .ok (.iload_n 0, 1) := by decide +kernel
theorem dX11_isTime_1 : decode cX11_isTime 1 = .ok (.iconst 0, 1) := by decide +kernel
theorem dX11_isTime_2 : decode cX11_isTime 2 = .ok (.bipush 48, 2) := by decide +kernel
theorem dX11_isTime_4 : decode cX11_isTime 4 = .ok (.invokestatic 97, 3) := by decide +kernel
theorem dX11_isTime_7 : decode cX11_isTime 7 = .ok (.ireturn, 1) := by decide +kernel
theorem dX11_isShelf_0 : decode cX11_isShelf 0 = .ok (.iload_n 0, 1) := by decide +kernel
theorem dX11_isShelf_1 : decode cX11_isShelf 1 = .ok (.iconst 0, 1) := by decide +kernel
theorem dX11_isShelf_2 : decode cX11_isShelf 2 = .ok (.iconst 5, 1) := by decide +kernel
theorem dX11_isShelf_3 : decode cX11_isShelf 3 = .ok (.invokestatic 97, 3) := by decide +kernel
theorem dX11_isShelf_6 : decode cX11_isShelf 6 = .ok (.ireturn, 1) := by decide +kernel
theorem dX11_newOne_0 : decode cX11_newOne 0 = .ok (.aload_n 0, 1) := by decide +kernel
theorem dX11_newOne_1 : decode cX11_newOne 1 = .ok (.getfield 21, 3) := by decide +kernel
theorem dX11_newOne_4 : decode cX11_newOne 4 = .ok (.aload_n 0, 1) := by decide +kernel
theorem dX11_newOne_5 : decode cX11_newOne 5 = .ok (.getfield 101, 3) := by decide +kernel
theorem dX11_newOne_8 : decode cX11_newOne 8 = .ok (.iload_n 1, 1) := by decide +kernel
theorem dX11_newOne_9 : decode cX11_newOne 9 = .ok (.iastore, 1) := by decide +kernel
theorem dX11_newOne_10 : decode cX11_newOne 10 = .ok (.aload_n 0, 1) := by decide +kernel
theorem dX11_newOne_11 : decode cX11_newOne 11 = .ok (.getfield 21, 3) := by decide +kernel
theorem dX11_newOne_14 : decode cX11_newOne 14 = .ok (.bipush 8, 2) := by decide +kernel
theorem dX11_newOne_16 : decode cX11_newOne 16 = .ok (.aload_n 0, 1) := by decide +kernel
theorem dX11_newOne_17 : decode cX11_newOne 17 = .ok (.getfield 101, 3) := by decide +kernel
theorem dX11_newOne_20 : decode cX11_newOne 20 = .ok (.iadd, 1) := by decide +kernel
theorem dX11_newOne_21 : decode cX11_newOne 21 = .ok (.iload_n 2, 1) := by decide +kernel
theorem dX11_newOne_22 : decode cX11_newOne 22 = .ok (.iastore, 1) := by decide +kernel
theorem dX11_newOne_23 : decode cX11_newOne 23 = .ok (.aload_n 0, 1) := by decide +kernel
theorem dX11_newOne_24 : decode cX11_newOne 24 = .ok (.getfield 21, 3) := by decide +kernel
theorem dX11_newOne_27 : decode cX11_newOne 27 = .ok (.bipush 16, 2) := by decide +kernel
theorem dX11_newOne_29 : decode cX11_newOne 29 = .ok (.aload_n 0, 1) := by decide +kernel
theorem dX11_newOne_30 : decode cX11_newOne 30 = .ok (.getfield 101, 3) := by decide +kernel
theorem dX11_newOne_33 : decode cX11_newOne 33 = .ok (.iadd, 1) := by decide +kernel
theorem dX11_newOne_34 : decode cX11_newOne 34 = .ok (.iload_n 3, 1) := by decide +kernel
theorem dX11_newOne_35 : decode cX11_newOne 35 = .ok (.iastore, 1) := by decide +kernel
theorem dX11_newOne_36 : decode cX11_newOne 36 = .ok (.aload_n 0, 1) := by decide +kernel
theorem dX11_newOne_37 : decode cX11_newOne 37 = .ok (.getfield 21, 3) := by decide +kernel
theorem dX11_newOne_40 : decode cX11_newOne 40 = .ok (.bipush 24, 2) := by decide +kernel
theorem dX11_newOne_42 : decode cX11_newOne 42 = .ok (.aload_n 0, 1) := by decide +kernel
theorem dX11_newOne_43 : decode cX11_newOne 43 = .ok (.getfield 101, 3) := by decide +kernel
theorem dX11_newOne_46 : decode cX11_newOne 46 = .ok (.iadd, 1) := by decide +kernel
theorem dX11_newOne_47 : decode cX11_newOne 47 = .ok (.iconst 0, 1) := by decide +kernel
theorem dX11_newOne_48 : decode cX11_newOne 48 = .ok (.iastore, 1) := by decide +kernel
theorem dX11_newOne_49 : decode cX11_newOne 49 = .ok (.aload_n 0, 1) := by decide +kernel
theorem dX11_newOne_50 : decode cX11_newOne 50 = .ok (.dup, 1) := by decide +kernel
theorem dX11_newOne_51 : decode cX11_newOne 51 = .ok (.getfield 101, 3) := by decide +kernel
theorem dX11_newOne_54 : decode cX11_newOne 54 = .ok (.dup_x1, 1) := by decide +kernel
theorem dX11_newOne_55 : decode cX11_newOne 55 = .ok (.iconst 1, 1) := by decide +kernel
theorem dX11_newOne_56 : decode cX11_newOne 56 = .ok (.iadd, 1) := by decide +kernel
theorem dX11_newOne_57 : decode cX11_newOne 57 = .ok (.putfield 101, 3) := by decide +kernel
theorem dX11_newOne_60 : decode cX11_newOne 60 = .ok (.ireturn, 1) := by decide +kernel
theorem dX11_person_0 : decode cX11_person 0 = .ok (.iload_n 1, 1) := by decide +kernel
theorem dX11_person_1 : decode cX11_person 1 = .ok (.invokestatic 105, 3) := by decide +kernel
theorem dX11_person_4 : decode cX11_person 4 = .ok (.ifCond .ne 5, 3) := by decide +kernel
theorem dX11_person_7 : decode cX11_person 7 = .ok (.iconst (-1), 1) := by decide +kernel
theorem dX11_person_8 : decode cX11_person 8 = .ok (.ireturn, 1) := by decide +kernel
theorem dX11_person_9 : decode cX11_person 9 = .ok (.aload_n 0, 1) := by decide +kernel
theorem dX11_person_10 : decode cX11_person 10 = .ok (.getfield 101, 3) := by decide +kernel
theorem dX11_person_13 : decode cX11_person 13 = .ok (.bipush 8, 2) := by decide +kernel
theorem dX11_person_15 : decode cX11_person 15 = .ok (.if_icmp .ne 8, 3) := by decide +kernel
theorem dX11_person_18 : decode cX11_person 18 = .ok (.bipush (-3), 2) := by decide +kernel
theorem dX11_person_20 : decode cX11_person 20 = .ok (.goto 10, 3) := by decide +kernel
theorem dX11_person_23 : decode cX11_person 23 = .ok (.aload_n 0, 1) := by decide +kernel
theorem dX11_person_24 : decode cX11_person 24 = .ok (.iload_n 1, 1) := by decide +kernel
theorem dX11_person_25 : decode cX11_person 25 = .ok (.iconst 5, 1) := by decide +kernel
theorem dX11_person_26 : decode cX11_person 26 = .ok (.iconst 0, 1) := by decide +kernel
theorem dX11_person_27 : decode cX11_person 27 = .ok (.invokevirtual 109, 3) := by decide +kernel
theorem dX11_person_30 : decode cX11_person 30 = .ok (.ireturn, 1) := by decide +kernel
theorem dX11_people_0 : decode cX11_people 0 = .ok (.iload_n 1, 1) := by decide +kernel
theorem dX11_people_1 : decode cX11_people 1 = .ok (.invokestatic 113, 3) := by decide +kernel
theorem dX11_people_4 : decode cX11_people 4 = .ok (.ifCond .eq 13, 3) := by decide +kernel
theorem dX11_people_7 : decode cX11_people 7 = .ok (.iload_n 3, 1) := by decide +kernel
theorem dX11_people_8 : decode cX11_people 8 = .ok (.iconst 1, 1) := by decide +kernel
theorem dX11_people_9 : decode cX11_people 9 = .ok (.bipush 8, 2) := by decide +kernel
theorem dX11_people_11 : decode cX11_people 11 = .ok (.invokestatic 97, 3) := by decide +kernel
theorem dX11_people_14 : decode cX11_people 14 = .ok (.ifCond .ne 5, 3) := by decide +kernel
theorem dX11_people_17 : decode cX11_people 17 = .ok (.iconst (-1), 1) := by decide +kernel
theorem dX11_people_18 : decode cX11_people 18 = .ok (.ireturn, 1) := by decide +kernel
theorem dX11_people_19 : decode cX11_people 19 = .ok (.aload_n 0, 1) := by decide +kernel
theorem dX11_people_20 : decode cX11_people 20 = .ok (.getfield 75, 3) := by decide +kernel
theorem dX11_people_23 : decode cX11_people 23 = .ok (.iload_n 1, 1) := by decide +kernel
theorem dX11_people_24 : decode cX11_people 24 = .ok (.iaload, 1) := by decide +kernel
theorem dX11_people_25 : decode cX11_people 25 = .ok (.iconst (-1), 1) := by decide +kernel
theorem dX11_people_26 : decode cX11_people 26 = .ok (.if_icmp .ne 5, 3) := by decide +kernel
theorem dX11_people_29 : decode cX11_people 29 = .ok (.iconst 0, 1) := by decide +kernel
theorem dX11_people_30 : decode cX11_people 30 = .ok (.ireturn, 1) := by decide +kernel
theorem dX11_people_31 : decode cX11_people 31 = .ok (.aload_n 0, 1) := by decide +kernel
theorem dX11_people_32 : decode cX11_people 32 = .ok (.getfield 75, 3) := by decide +kernel
theorem dX11_people_35 : decode cX11_people 35 = .ok (.iload_n 1, 1) := by decide +kernel
theorem dX11_people_36 : decode cX11_people 36 = .ok (.iaload, 1) := by decide +kernel
theorem dX11_people_37 : decode cX11_people 37 = .ok (.ifCond .eq 6, 3) := by decide +kernel
theorem dX11_people_40 : decode cX11_people 40 = .ok (.bipush (-12), 2) := by decide +kernel
theorem dX11_people_42 : decode cX11_people 42 = .ok (.ireturn, 1) := by decide +kernel
theorem dX11_people_43 : decode cX11_people 43 = .ok (.iconst 0, 1) := by decide +kernel
theorem dX11_people_44 : decode cX11_people 44 = .ok (.istore 4, 2) := by decide +kernel
theorem dX11_people_46 : decode cX11_people 46 = .ok (.iconst 0, 1) := by decide +kernel
theorem dX11_people_47 : decode cX11_people 47 = .ok (.istore 5, 2) := by decide +kernel
theorem dX11_people_49 : decode cX11_people 49 = .ok (.iload 5, 2) := by decide +kernel
theorem dX11_people_51 : decode cX11_people 51 = .ok (.iload_n 3, 1) := by decide +kernel
theorem dX11_people_52 : decode cX11_people 52 = .ok (.if_icmp .ge 146, 3) := by decide +kernel
theorem dX11_people_55 : decode cX11_people 55 = .ok (.iload_n 2, 1) := by decide +kernel
theorem dX11_people_56 : decode cX11_people 56 = .ok (.i2l, 1) := by decide +kernel
theorem dX11_people_57 : decode cX11_people 57 = .ok (.ldc2_w 116, 3) := by decide +kernel
theorem dX11_people_60 : decode cX11_people 60 = .ok (.iload 5, 2) := by decide +kernel
theorem dX11_people_62 : decode cX11_people 62 = .ok (.i2l, 1) := by decide +kernel
theorem dX11_people_63 : decode cX11_people 63 = .ok (.lmul, 1) := by decide +kernel
theorem dX11_people_64 : decode cX11_people 64 = .ok (.ladd, 1) := by decide +kernel
theorem dX11_people_65 : decode cX11_people 65 = .ok (.lstore 6, 2) := by decide +kernel
theorem dX11_people_67 : decode cX11_people 67 = .ok (.lload 6, 2) := by decide +kernel
theorem dX11_people_69 : decode cX11_people 69 = .ok (.lconst 0, 1) := by decide +kernel
theorem dX11_people_70 : decode cX11_people 70 = .ok (.lcmp, 1) := by decide +kernel
theorem dX11_people_71 : decode cX11_people 71 = .ok (.ifCond .lt 29, 3) := by decide +kernel
theorem dX11_people_74 : decode cX11_people 74 = .ok (.lload 6, 2) := by decide +kernel
theorem dX11_people_76 : decode cX11_people 76 = .ok (.ldc2_w 116, 3) := by decide +kernel
theorem dX11_people_79 : decode cX11_people 79 = .ok (.ladd, 1) := by decide +kernel
theorem dX11_people_80 : decode cX11_people 80 = .ok (.aload_n 0, 1) := by decide +kernel
theorem dX11_people_81 : decode cX11_people 81 = .ok (.getfield 78, 3) := by decide +kernel
theorem dX11_people_84 : decode cX11_people 84 = .ok (.iload_n 1, 1) := by decide +kernel
theorem dX11_people_85 : decode cX11_people 85 = .ok (.iaload, 1) := by decide +kernel
theorem dX11_people_86 : decode cX11_people 86 = .ok (.i2l, 1) := by decide +kernel
theorem dX11_people_87 : decode cX11_people 87 = .ok (.lcmp, 1) := by decide +kernel
theorem dX11_people_88 : decode cX11_people 88 = .ok (.ifCond .gt 12, 3) := by decide +kernel
theorem dX11_people_91 : decode cX11_people 91 = .ok (.aload_n 0, 1) := by decide +kernel
theorem dX11_people_92 : decode cX11_people 92 = .ok (.getfield 101, 3) := by decide +kernel
theorem dX11_people_95 : decode cX11_people 95 = .ok (.bipush 8, 2) := by decide +kernel
theorem dX11_people_97 : decode cX11_people 97 = .ok (.if_icmp .ne 6, 3) := by decide +kernel
theorem dX11_people_100 : decode cX11_people 100 = .ok (.iload 4, 2) := by decide +kernel
theorem dX11_people_102 : decode cX11_people 102 = .ok (.ireturn, 1) := by decide +kernel
theorem dX11_people_103 : decode cX11_people 103 = .ok (.lload 6, 2) := by decide +kernel
theorem dX11_people_105 : decode cX11_people 105 = .ok (.l2i, 1) := by decide +kernel
theorem dX11_people_106 : decode cX11_people 106 = .ok (.istore 8, 2) := by decide +kernel
theorem dX11_people_108 : decode cX11_people 108 = .ok (.aload_n 0, 1) := by decide +kernel
theorem dX11_people_109 : decode cX11_people 109 = .ok (.iload_n 1, 1) := by decide +kernel
theorem dX11_people_110 : decode cX11_people 110 = .ok (.iload 8, 2) := by decide +kernel
theorem dX11_people_112 : decode cX11_people 112 = .ok (.invokevirtual 118, 3) := by decide +kernel
theorem dX11_people_115 : decode cX11_people 115 = .ok (.invokestatic 105, 3) := by decide +kernel
theorem dX11_people_118 : decode cX11_people 118 = .ok (.ifCond .eq 38, 3) := by decide +kernel
theorem dX11_people_121 : decode cX11_people 121 = .ok (.aload_n 0, 1) := by decide +kernel
theorem dX11_people_122 : decode cX11_people 122 = .ok (.iload_n 1, 1) := by decide +kernel
theorem dX11_people_123 : decode cX11_people 123 = .ok (.iload 8, 2) := by decide +kernel
theorem dX11_people_125 : decode cX11_people 125 = .ok (.iconst 1, 1) := by decide +kernel
theorem dX11_people_126 : decode cX11_people 126 = .ok (.iadd, 1) := by decide +kernel
theorem dX11_people_127 : decode cX11_people 127 = .ok (.invokevirtual 118, 3) := by decide +kernel
theorem dX11_people_130 : decode cX11_people 130 = .ok (.iconst 0, 1) := by decide +kernel
theorem dX11_people_131 : decode cX11_people 131 = .ok (.bipush 99, 2) := by decide +kernel
theorem dX11_people_133 : decode cX11_people 133 = .ok (.invokestatic 97, 3) := by decide +kernel
theorem dX11_people_136 : decode cX11_people 136 = .ok (.ifCond .eq 20, 3) := by decide +kernel
theorem dX11_people_139 : decode cX11_people 139 = .ok (.aload_n 0, 1) := by decide +kernel
theorem dX11_people_140 : decode cX11_people 140 = .ok (.iload_n 1, 1) := by decide +kernel
theorem dX11_people_141 : decode cX11_people 141 = .ok (.iload 8, 2) := by decide +kernel
theorem dX11_people_143 : decode cX11_people 143 = .ok (.iconst 2, 1) := by decide +kernel
theorem dX11_people_144 : decode cX11_people 144 = .ok (.iadd, 1) := by decide +kernel
theorem dX11_people_145 : decode cX11_people 145 = .ok (.invokevirtual 118, 3) := by decide +kernel
theorem dX11_people_148 : decode cX11_people 148 = .ok (.iconst 0, 1) := by decide +kernel
theorem dX11_people_149 : decode cX11_people 149 = .ok (.iconst 1, 1) := by decide +kernel
theorem dX11_people_150 : decode cX11_people 150 = .ok (.invokestatic 97, 3) := by decide +kernel
theorem dX11_people_153 : decode cX11_people 153 = .ok (.ifCond .ne 6, 3) := by decide +kernel
theorem dX11_people_156 : decode cX11_people 156 = .ok (.iload 4, 2) := by decide +kernel
theorem dX11_people_158 : decode cX11_people 158 = .ok (.ireturn, 1) := by decide +kernel
theorem dX11_people_159 : decode cX11_people 159 = .ok (.aload_n 0, 1) := by decide +kernel
theorem dX11_people_160 : decode cX11_people 160 = .ok (.aload_n 0, 1) := by decide +kernel
theorem dX11_people_161 : decode cX11_people 161 = .ok (.iload_n 1, 1) := by decide +kernel
theorem dX11_people_162 : decode cX11_people 162 = .ok (.iload 8, 2) := by decide +kernel
theorem dX11_people_164 : decode cX11_people 164 = .ok (.invokevirtual 118, 3) := by decide +kernel
theorem dX11_people_167 : decode cX11_people 167 = .ok (.aload_n 0, 1) := by decide +kernel
theorem dX11_people_168 : decode cX11_people 168 = .ok (.iload_n 1, 1) := by decide +kernel
theorem dX11_people_169 : decode cX11_people 169 = .ok (.iload 8, 2) := by decide +kernel
theorem dX11_people_171 : decode cX11_people 171 = .ok (.iconst 1, 1) := by decide +kernel
theorem dX11_people_172 : decode cX11_people 172 = .ok (.iadd, 1) := by decide +kernel
theorem dX11_people_173 : decode cX11_people 173 = .ok (.invokevirtual 118, 3) := by decide +kernel
theorem dX11_people_176 : decode cX11_people 176 = .ok (.aload_n 0, 1) := by decide +kernel
theorem dX11_people_177 : decode cX11_people 177 = .ok (.iload_n 1, 1) := by decide +kernel
theorem dX11_people_178 : decode cX11_people 178 = .ok (.iload 8, 2) := by decide +kernel
theorem dX11_people_180 : decode cX11_people 180 = .ok (.iconst 2, 1) := by decide +kernel
theorem dX11_people_181 : decode cX11_people 181 = .ok (.iadd, 1) := by decide +kernel
theorem dX11_people_182 : decode cX11_people 182 = .ok (.invokevirtual 118, 3) := by decide +kernel
theorem dX11_people_185 : decode cX11_people 185 = .ok (.invokevirtual 109, 3) := by decide +kernel
theorem dX11_people_188 : decode cX11_people 188 = .ok (.pop, 1) := by decide +kernel
theorem dX11_people_189 : decode cX11_people 189 = .ok (.iinc 4 1, 3) := by decide +kernel
theorem dX11_people_192 : decode cX11_people 192 = .ok (.iinc 5 1, 3) := by decide +kernel
theorem dX11_people_195 : decode cX11_people 195 = .ok (.goto (-146), 3) := by decide +kernel
theorem dX11_people_198 : decode cX11_people 198 = .ok (.iload 4, 2) := by decide +kernel
theorem dX11_people_200 : decode cX11_people 200 = .ok (.ireturn, 1) := by decide +kernel
theorem dX11_toldAt_0 : decode cX11_toldAt 0 = .ok (.aload_n 0, 1) := by decide +kernel
theorem dX11_toldAt_1 : decode cX11_toldAt 1 = .ok (.getfield 81, 3) := by decide +kernel
theorem dX11_toldAt_4 : decode cX11_toldAt 4 = .ok (.bipush 60, 2) := by decide +kernel
theorem dX11_toldAt_6 : decode cX11_toldAt 6 = .ok (.iload_n 1, 1) := by decide +kernel
theorem dX11_toldAt_7 : decode cX11_toldAt 7 = .ok (.imul, 1) := by decide +kernel
theorem dX11_toldAt_8 : decode cX11_toldAt 8 = .ok (.iload_n 2, 1) := by decide +kernel
theorem dX11_toldAt_9 : decode cX11_toldAt 9 = .ok (.iadd, 1) := by decide +kernel
theorem dX11_toldAt_10 : decode cX11_toldAt 10 = .ok (.laload, 1) := by decide +kernel
theorem dX11_toldAt_11 : decode cX11_toldAt 11 = .ok (.l2i, 1) := by decide +kernel
theorem dX11_toldAt_12 : decode cX11_toldAt 12 = .ok (.ireturn, 1) := by decide +kernel
theorem dX11_isOf_0 : decode cX11_isOf 0 = .ok (.iload_n 2, 1) := by decide +kernel
theorem dX11_isOf_1 : decode cX11_isOf 1 = .ok (.iconst 0, 1) := by decide +kernel
theorem dX11_isOf_2 : decode cX11_isOf 2 = .ok (.iconst 2, 1) := by decide +kernel
theorem dX11_isOf_3 : decode cX11_isOf 3 = .ok (.invokestatic 97, 3) := by decide +kernel
theorem dX11_isOf_6 : decode cX11_isOf 6 = .ok (.ifCond .eq 10, 3) := by decide +kernel
theorem dX11_isOf_9 : decode cX11_isOf 9 = .ok (.iload_n 1, 1) := by decide +kernel
theorem dX11_isOf_10 : decode cX11_isOf 10 = .ok (.invokestatic 105, 3) := by decide +kernel
theorem dX11_isOf_13 : decode cX11_isOf 13 = .ok (.goto 36, 3) := by decide +kernel
theorem dX11_isOf_16 : decode cX11_isOf 16 = .ok (.iload_n 2, 1) := by decide +kernel
theorem dX11_isOf_17 : decode cX11_isOf 17 = .ok (.iconst 3, 1) := by decide +kernel
theorem dX11_isOf_18 : decode cX11_isOf 18 = .ok (.bipush 6, 2) := by decide +kernel
theorem dX11_isOf_20 : decode cX11_isOf 20 = .ok (.invokestatic 97, 3) := by decide +kernel
theorem dX11_isOf_23 : decode cX11_isOf 23 = .ok (.ifCond .eq 11, 3) := by decide +kernel
theorem dX11_isOf_26 : decode cX11_isOf 26 = .ok (.aload_n 0, 1) := by decide +kernel
theorem dX11_isOf_27 : decode cX11_isOf 27 = .ok (.iload_n 1, 1) := by decide +kernel
theorem dX11_isOf_28 : decode cX11_isOf 28 = .ok (.invokevirtual 122, 3) := by decide +kernel
theorem dX11_isOf_31 : decode cX11_isOf 31 = .ok (.goto 18, 3) := by decide +kernel
theorem dX11_isOf_34 : decode cX11_isOf 34 = .ok (.iload_n 2, 1) := by decide +kernel
theorem dX11_isOf_35 : decode cX11_isOf 35 = .ok (.bipush 7, 2) := by decide +kernel
theorem dX11_isOf_37 : decode cX11_isOf 37 = .ok (.if_icmp .ne 11, 3) := by decide +kernel
theorem dX11_isOf_40 : decode cX11_isOf 40 = .ok (.iload_n 1, 1) := by decide +kernel
theorem dX11_isOf_41 : decode cX11_isOf 41 = .ok (.ifCond .ne 7, 3) := by decide +kernel
theorem dX11_isOf_44 : decode cX11_isOf 44 = .ok (.iconst 1, 1) := by decide +kernel
theorem dX11_isOf_45 : decode cX11_isOf 45 = .ok (.goto 4, 3) := by decide +kernel
theorem dX11_isOf_48 : decode cX11_isOf 48 = .ok (.iconst 0, 1) := by decide +kernel
theorem dX11_isOf_49 : decode cX11_isOf 49 = .ok (.ireturn, 1) := by decide +kernel
theorem dX11_isFit_0 : decode cX11_isFit 0 = .ok (.iload_n 0, 1) := by decide +kernel
theorem dX11_isFit_1 : decode cX11_isFit 1 = .ok (.tableswitch 87 0 6 #[43, 51, 60, 67, 72, 80, 51], 43) := by decide +kernel
theorem dX11_isFit_44 : decode cX11_isFit 44 = .ok (.iload_n 1, 1) := by decide +kernel
theorem dX11_isFit_45 : decode cX11_isFit 45 = .ok (.iconst 0, 1) := by decide +kernel
theorem dX11_isFit_46 : decode cX11_isFit 46 = .ok (.bipush 9, 2) := by decide +kernel
theorem dX11_isFit_48 : decode cX11_isFit 48 = .ok (.invokestatic 97, 3) := by decide +kernel
theorem dX11_isFit_51 : decode cX11_isFit 51 = .ok (.ireturn, 1) := by decide +kernel
theorem dX11_isFit_52 : decode cX11_isFit 52 = .ok (.iload_n 1, 1) := by decide +kernel
theorem dX11_isFit_53 : decode cX11_isFit 53 = .ok (.iconst 0, 1) := by decide +kernel
theorem dX11_isFit_54 : decode cX11_isFit 54 = .ok (.sipush 9999, 3) := by decide +kernel
theorem dX11_isFit_57 : decode cX11_isFit 57 = .ok (.invokestatic 97, 3) := by decide +kernel
theorem dX11_isFit_60 : decode cX11_isFit 60 = .ok (.ireturn, 1) := by decide +kernel
theorem dX11_isFit_61 : decode cX11_isFit 61 = .ok (.iload_n 1, 1) := by decide +kernel
theorem dX11_isFit_62 : decode cX11_isFit 62 = .ok (.iconst 0, 1) := by decide +kernel
theorem dX11_isFit_63 : decode cX11_isFit 63 = .ok (.iconst 2, 1) := by decide +kernel
theorem dX11_isFit_64 : decode cX11_isFit 64 = .ok (.invokestatic 97, 3) := by decide +kernel
theorem dX11_isFit_67 : decode cX11_isFit 67 = .ok (.ireturn, 1) := by decide +kernel
theorem dX11_isFit_68 : decode cX11_isFit 68 = .ok (.iload_n 1, 1) := by decide +kernel
theorem dX11_isFit_69 : decode cX11_isFit 69 = .ok (.invokestatic 105, 3) := by decide +kernel
theorem dX11_isFit_72 : decode cX11_isFit 72 = .ok (.ireturn, 1) := by decide +kernel
theorem dX11_isFit_73 : decode cX11_isFit 73 = .ok (.iload_n 1, 1) := by decide +kernel
theorem dX11_isFit_74 : decode cX11_isFit 74 = .ok (.iconst 0, 1) := by decide +kernel
theorem dX11_isFit_75 : decode cX11_isFit 75 = .ok (.bipush 99, 2) := by decide +kernel
theorem dX11_isFit_77 : decode cX11_isFit 77 = .ok (.invokestatic 97, 3) := by decide +kernel
theorem dX11_isFit_80 : decode cX11_isFit 80 = .ok (.ireturn, 1) := by decide +kernel
theorem dX11_isFit_81 : decode cX11_isFit 81 = .ok (.iload_n 1, 1) := by decide +kernel
theorem dX11_isFit_82 : decode cX11_isFit 82 = .ok (.iconst 0, 1) := by decide +kernel
theorem dX11_isFit_83 : decode cX11_isFit 83 = .ok (.iconst 1, 1) := by decide +kernel
theorem dX11_isFit_84 : decode cX11_isFit 84 = .ok (.invokestatic 97, 3) := by decide +kernel
theorem dX11_isFit_87 : decode cX11_isFit 87 = .ok (.ireturn, 1) := by decide +kernel
theorem dX11_isFit_88 : decode cX11_isFit 88 = .ok (.iload_n 1, 1) := by decide +kernel
theorem dX11_isFit_89 : decode cX11_isFit 89 = .ok (.iconst 0, 1) := by decide +kernel
theorem dX11_isFit_90 : decode cX11_isFit 90 = .ok (.bipush 23, 2) := by decide +kernel
theorem dX11_isFit_92 : decode cX11_isFit 92 = .ok (.invokestatic 97, 3) := by decide +kernel
theorem dX11_isFit_95 : decode cX11_isFit 95 = .ok (.ireturn, 1) := by decide +kernel
theorem dX11_get_0 : decode cX11_get 0 = .ok (.iload_n 2, 1) := by decide +kernel
theorem dX11_get_1 : decode cX11_get 1 = .ok (.tableswitch 73 0 7 #[47, 54, 61, 73, 73, 73, 73, 68], 47) := by decide +kernel
theorem dX11_get_48 : decode cX11_get 48 = .ok (.aload_n 0, 1) := by decide +kernel
theorem dX11_get_49 : decode cX11_get 49 = .ok (.getfield 9, 3) := by decide +kernel
theorem dX11_get_52 : decode cX11_get 52 = .ok (.iload_n 1, 1) := by decide +kernel
theorem dX11_get_53 : decode cX11_get 53 = .ok (.iaload, 1) := by decide +kernel
theorem dX11_get_54 : decode cX11_get 54 = .ok (.ireturn, 1) := by decide +kernel
theorem dX11_get_55 : decode cX11_get 55 = .ok (.aload_n 0, 1) := by decide +kernel
theorem dX11_get_56 : decode cX11_get 56 = .ok (.getfield 15, 3) := by decide +kernel
theorem dX11_get_59 : decode cX11_get 59 = .ok (.iload_n 1, 1) := by decide +kernel
theorem dX11_get_60 : decode cX11_get 60 = .ok (.iaload, 1) := by decide +kernel
theorem dX11_get_61 : decode cX11_get 61 = .ok (.ireturn, 1) := by decide +kernel
theorem dX11_get_62 : decode cX11_get 62 = .ok (.aload_n 0, 1) := by decide +kernel
theorem dX11_get_63 : decode cX11_get 63 = .ok (.getfield 18, 3) := by decide +kernel
theorem dX11_get_66 : decode cX11_get 66 = .ok (.iload_n 1, 1) := by decide +kernel
theorem dX11_get_67 : decode cX11_get 67 = .ok (.iaload, 1) := by decide +kernel
theorem dX11_get_68 : decode cX11_get 68 = .ok (.ireturn, 1) := by decide +kernel
theorem dX11_get_69 : decode cX11_get 69 = .ok (.aload_n 0, 1) := by decide +kernel
theorem dX11_get_70 : decode cX11_get 70 = .ok (.getfield 125, 3) := by decide +kernel
theorem dX11_get_73 : decode cX11_get 73 = .ok (.ireturn, 1) := by decide +kernel
theorem dX11_get_74 : decode cX11_get 74 = .ok (.aload_n 0, 1) := by decide +kernel
theorem dX11_get_75 : decode cX11_get 75 = .ok (.getfield 21, 3) := by decide +kernel
theorem dX11_get_78 : decode cX11_get 78 = .ok (.bipush 8, 2) := by decide +kernel
theorem dX11_get_80 : decode cX11_get 80 = .ok (.iload_n 2, 1) := by decide +kernel
theorem dX11_get_81 : decode cX11_get 81 = .ok (.iconst 3, 1) := by decide +kernel
theorem dX11_get_82 : decode cX11_get 82 = .ok (.isub, 1) := by decide +kernel
theorem dX11_get_83 : decode cX11_get 83 = .ok (.imul, 1) := by decide +kernel
theorem dX11_get_84 : decode cX11_get 84 = .ok (.iload_n 1, 1) := by decide +kernel
theorem dX11_get_85 : decode cX11_get 85 = .ok (.iadd, 1) := by decide +kernel
theorem dX11_get_86 : decode cX11_get 86 = .ok (.iaload, 1) := by decide +kernel
theorem dX11_get_87 : decode cX11_get 87 = .ok (.ireturn, 1) := by decide +kernel
theorem dX11_becomes_0 : decode cX11_becomes 0 = .ok (.iload_n 2, 1) := by decide +kernel
theorem dX11_becomes_1 : decode cX11_becomes 1 = .ok (.tableswitch 77 0 7 #[47, 55, 63, 77, 77, 77, 77, 71], 47) := by decide +kernel
theorem dX11_becomes_48 : decode cX11_becomes 48 = .ok (.aload_n 0, 1) := by decide +kernel
theorem dX11_becomes_49 : decode cX11_becomes 49 = .ok (.getfield 9, 3) := by decide +kernel
theorem dX11_becomes_52 : decode cX11_becomes 52 = .ok (.iload_n 1, 1) := by decide +kernel
theorem dX11_becomes_53 : decode cX11_becomes 53 = .ok (.iload_n 3, 1) := by decide +kernel
theorem dX11_becomes_54 : decode cX11_becomes 54 = .ok (.iastore, 1) := by decide +kernel
theorem dX11_becomes_55 : decode cX11_becomes 55 = .ok (.return_, 1) := by decide +kernel
theorem dX11_becomes_56 : decode cX11_becomes 56 = .ok (.aload_n 0, 1) := by decide +kernel
theorem dX11_becomes_57 : decode cX11_becomes 57 = .ok (.getfield 15, 3) := by decide +kernel
theorem dX11_becomes_60 : decode cX11_becomes 60 = .ok (.iload_n 1, 1) := by decide +kernel
theorem dX11_becomes_61 : decode cX11_becomes 61 = .ok (.iload_n 3, 1) := by decide +kernel
theorem dX11_becomes_62 : decode cX11_becomes 62 = .ok (.iastore, 1) := by decide +kernel
theorem dX11_becomes_63 : decode cX11_becomes 63 = .ok (.return_, 1) := by decide +kernel
theorem dX11_becomes_64 : decode cX11_becomes 64 = .ok (.aload_n 0, 1) := by decide +kernel
theorem dX11_becomes_65 : decode cX11_becomes 65 = .ok (.getfield 18, 3) := by decide +kernel
theorem dX11_becomes_68 : decode cX11_becomes 68 = .ok (.iload_n 1, 1) := by decide +kernel
theorem dX11_becomes_69 : decode cX11_becomes 69 = .ok (.iload_n 3, 1) := by decide +kernel
theorem dX11_becomes_70 : decode cX11_becomes 70 = .ok (.iastore, 1) := by decide +kernel
theorem dX11_becomes_71 : decode cX11_becomes 71 = .ok (.return_, 1) := by decide +kernel
theorem dX11_becomes_72 : decode cX11_becomes 72 = .ok (.aload_n 0, 1) := by decide +kernel
theorem dX11_becomes_73 : decode cX11_becomes 73 = .ok (.iload_n 3, 1) := by decide +kernel
theorem dX11_becomes_74 : decode cX11_becomes 74 = .ok (.putfield 125, 3) := by decide +kernel
theorem dX11_becomes_77 : decode cX11_becomes 77 = .ok (.return_, 1) := by decide +kernel
theorem dX11_becomes_78 : decode cX11_becomes 78 = .ok (.aload_n 0, 1) := by decide +kernel
theorem dX11_becomes_79 : decode cX11_becomes 79 = .ok (.getfield 21, 3) := by decide +kernel
theorem dX11_becomes_82 : decode cX11_becomes 82 = .ok (.bipush 8, 2) := by decide +kernel
theorem dX11_becomes_84 : decode cX11_becomes 84 = .ok (.iload_n 2, 1) := by decide +kernel
theorem dX11_becomes_85 : decode cX11_becomes 85 = .ok (.iconst 3, 1) := by decide +kernel
theorem dX11_becomes_86 : decode cX11_becomes 86 = .ok (.isub, 1) := by decide +kernel
theorem dX11_becomes_87 : decode cX11_becomes 87 = .ok (.imul, 1) := by decide +kernel
theorem dX11_becomes_88 : decode cX11_becomes 88 = .ok (.iload_n 1, 1) := by decide +kernel
theorem dX11_becomes_89 : decode cX11_becomes 89 = .ok (.iadd, 1) := by decide +kernel
theorem dX11_becomes_90 : decode cX11_becomes 90 = .ok (.iload_n 3, 1) := by decide +kernel
theorem dX11_becomes_91 : decode cX11_becomes 91 = .ok (.iastore, 1) := by decide +kernel
theorem dX11_becomes_92 : decode cX11_becomes 92 = .ok (.return_, 1) := by decide +kernel
theorem dX11_mend_0 : decode cX11_mend 0 = .ok (.aload_n 0, 1) := by decide +kernel
theorem dX11_mend_1 : decode cX11_mend 1 = .ok (.iload_n 1, 1) := by decide +kernel
theorem dX11_mend_2 : decode cX11_mend 2 = .ok (.iload_n 2, 1) := by decide +kernel
theorem dX11_mend_3 : decode cX11_mend 3 = .ok (.invokevirtual 128, 3) := by decide +kernel
theorem dX11_mend_6 : decode cX11_mend 6 = .ok (.ifCond .eq 11, 3) := by decide +kernel
theorem dX11_mend_9 : decode cX11_mend 9 = .ok (.iload_n 2, 1) := by decide +kernel
theorem dX11_mend_10 : decode cX11_mend 10 = .ok (.iload_n 3, 1) := by decide +kernel
theorem dX11_mend_11 : decode cX11_mend 11 = .ok (.invokestatic 132, 3) := by decide +kernel
theorem dX11_mend_14 : decode cX11_mend 14 = .ok (.ifCond .ne 5, 3) := by decide +kernel
theorem dX11_mend_17 : decode cX11_mend 17 = .ok (.iconst (-1), 1) := by decide +kernel
theorem dX11_mend_18 : decode cX11_mend 18 = .ok (.ireturn, 1) := by decide +kernel
theorem dX11_mend_19 : decode cX11_mend 19 = .ok (.aload_n 0, 1) := by decide +kernel
theorem dX11_mend_20 : decode cX11_mend 20 = .ok (.iload_n 1, 1) := by decide +kernel
theorem dX11_mend_21 : decode cX11_mend 21 = .ok (.iload_n 2, 1) := by decide +kernel
theorem dX11_mend_22 : decode cX11_mend 22 = .ok (.invokevirtual 135, 3) := by decide +kernel
theorem dX11_mend_25 : decode cX11_mend 25 = .ok (.istore 4, 2) := by decide +kernel
theorem dX11_mend_27 : decode cX11_mend 27 = .ok (.iload 4, 2) := by decide +kernel
theorem dX11_mend_29 : decode cX11_mend 29 = .ok (.iload_n 3, 1) := by decide +kernel
theorem dX11_mend_30 : decode cX11_mend 30 = .ok (.if_icmp .ne 6, 3) := by decide +kernel
theorem dX11_mend_33 : decode cX11_mend 33 = .ok (.iload 4, 2) := by decide +kernel
theorem dX11_mend_35 : decode cX11_mend 35 = .ok (.ireturn, 1) := by decide +kernel
theorem dX11_mend_36 : decode cX11_mend 36 = .ok (.aload_n 0, 1) := by decide +kernel
theorem dX11_mend_37 : decode cX11_mend 37 = .ok (.iload_n 1, 1) := by decide +kernel
theorem dX11_mend_38 : decode cX11_mend 38 = .ok (.iload_n 2, 1) := by decide +kernel
theorem dX11_mend_39 : decode cX11_mend 39 = .ok (.iload_n 3, 1) := by decide +kernel
theorem dX11_mend_40 : decode cX11_mend 40 = .ok (.invokevirtual 138, 3) := by decide +kernel
theorem dX11_mend_43 : decode cX11_mend 43 = .ok (.aload_n 0, 1) := by decide +kernel
theorem dX11_mend_44 : decode cX11_mend 44 = .ok (.getfield 142, 3) := by decide +kernel
theorem dX11_mend_47 : decode cX11_mend 47 = .ok (.bipush 40, 2) := by decide +kernel
theorem dX11_mend_49 : decode cX11_mend 49 = .ok (.if_icmp .ne 46, 3) := by decide +kernel
theorem dX11_mend_52 : decode cX11_mend 52 = .ok (.iconst 0, 1) := by decide +kernel
theorem dX11_mend_53 : decode cX11_mend 53 = .ok (.istore 5, 2) := by decide +kernel
theorem dX11_mend_55 : decode cX11_mend 55 = .ok (.iload 5, 2) := by decide +kernel
theorem dX11_mend_57 : decode cX11_mend 57 = .ok (.sipush 156, 3) := by decide +kernel
theorem dX11_mend_60 : decode cX11_mend 60 = .ok (.if_icmp .ge 25, 3) := by decide +kernel
theorem dX11_mend_63 : decode cX11_mend 63 = .ok (.aload_n 0, 1) := by decide +kernel
theorem dX11_mend_64 : decode cX11_mend 64 = .ok (.getfield 66, 3) := by decide +kernel
theorem dX11_mend_67 : decode cX11_mend 67 = .ok (.iload 5, 2) := by decide +kernel
theorem dX11_mend_69 : decode cX11_mend 69 = .ok (.aload_n 0, 1) := by decide +kernel
theorem dX11_mend_70 : decode cX11_mend 70 = .ok (.getfield 66, 3) := by decide +kernel
theorem dX11_mend_73 : decode cX11_mend 73 = .ok (.iload 5, 2) := by decide +kernel
theorem dX11_mend_75 : decode cX11_mend 75 = .ok (.iconst 4, 1) := by decide +kernel
theorem dX11_mend_76 : decode cX11_mend 76 = .ok (.iadd, 1) := by decide +kernel
theorem dX11_mend_77 : decode cX11_mend 77 = .ok (.iaload, 1) := by decide +kernel
theorem dX11_mend_78 : decode cX11_mend 78 = .ok (.iastore, 1) := by decide +kernel
theorem dX11_mend_79 : decode cX11_mend 79 = .ok (.iinc 5 1, 3) := by decide +kernel
theorem dX11_mend_82 : decode cX11_mend 82 = .ok (.goto (-27), 3) := by decide +kernel
theorem dX11_mend_85 : decode cX11_mend 85 = .ok (.aload_n 0, 1) := by decide +kernel
theorem dX11_mend_86 : decode cX11_mend 86 = .ok (.dup, 1) := by decide +kernel
theorem dX11_mend_87 : decode cX11_mend 87 = .ok (.getfield 142, 3) := by decide +kernel
theorem dX11_mend_90 : decode cX11_mend 90 = .ok (.iconst 1, 1) := by decide +kernel
theorem dX11_mend_91 : decode cX11_mend 91 = .ok (.isub, 1) := by decide +kernel
theorem dX11_mend_92 : decode cX11_mend 92 = .ok (.putfield 142, 3) := by decide +kernel
theorem dX11_mend_95 : decode cX11_mend 95 = .ok (.aload_n 0, 1) := by decide +kernel
theorem dX11_mend_96 : decode cX11_mend 96 = .ok (.getfield 66, 3) := by decide +kernel
theorem dX11_mend_99 : decode cX11_mend 99 = .ok (.iconst 4, 1) := by decide +kernel
theorem dX11_mend_100 : decode cX11_mend 100 = .ok (.aload_n 0, 1) := by decide +kernel
theorem dX11_mend_101 : decode cX11_mend 101 = .ok (.getfield 142, 3) := by decide +kernel
theorem dX11_mend_104 : decode cX11_mend 104 = .ok (.imul, 1) := by decide +kernel
theorem dX11_mend_105 : decode cX11_mend 105 = .ok (.iload_n 1, 1) := by decide +kernel
theorem dX11_mend_106 : decode cX11_mend 106 = .ok (.iastore, 1) := by decide +kernel
theorem dX11_mend_107 : decode cX11_mend 107 = .ok (.aload_n 0, 1) := by decide +kernel
theorem dX11_mend_108 : decode cX11_mend 108 = .ok (.getfield 66, 3) := by decide +kernel
theorem dX11_mend_111 : decode cX11_mend 111 = .ok (.iconst 4, 1) := by decide +kernel
theorem dX11_mend_112 : decode cX11_mend 112 = .ok (.aload_n 0, 1) := by decide +kernel
theorem dX11_mend_113 : decode cX11_mend 113 = .ok (.getfield 142, 3) := by decide +kernel
theorem dX11_mend_116 : decode cX11_mend 116 = .ok (.imul, 1) := by decide +kernel
theorem dX11_mend_117 : decode cX11_mend 117 = .ok (.iconst 1, 1) := by decide +kernel
theorem dX11_mend_118 : decode cX11_mend 118 = .ok (.iadd, 1) := by decide +kernel
theorem dX11_mend_119 : decode cX11_mend 119 = .ok (.iload_n 2, 1) := by decide +kernel
theorem dX11_mend_120 : decode cX11_mend 120 = .ok (.iastore, 1) := by decide +kernel
theorem dX11_mend_121 : decode cX11_mend 121 = .ok (.aload_n 0, 1) := by decide +kernel
theorem dX11_mend_122 : decode cX11_mend 122 = .ok (.getfield 66, 3) := by decide +kernel
theorem dX11_mend_125 : decode cX11_mend 125 = .ok (.iconst 4, 1) := by decide +kernel
theorem dX11_mend_126 : decode cX11_mend 126 = .ok (.aload_n 0, 1) := by decide +kernel
theorem dX11_mend_127 : decode cX11_mend 127 = .ok (.getfield 142, 3) := by decide +kernel
theorem dX11_mend_130 : decode cX11_mend 130 = .ok (.imul, 1) := by decide +kernel
theorem dX11_mend_131 : decode cX11_mend 131 = .ok (.iconst 2, 1) := by decide +kernel
theorem dX11_mend_132 : decode cX11_mend 132 = .ok (.iadd, 1) := by decide +kernel
theorem dX11_mend_133 : decode cX11_mend 133 = .ok (.iload 4, 2) := by decide +kernel
theorem dX11_mend_135 : decode cX11_mend 135 = .ok (.iastore, 1) := by decide +kernel
theorem dX11_mend_136 : decode cX11_mend 136 = .ok (.aload_n 0, 1) := by decide +kernel
theorem dX11_mend_137 : decode cX11_mend 137 = .ok (.getfield 66, 3) := by decide +kernel
theorem dX11_mend_140 : decode cX11_mend 140 = .ok (.iconst 4, 1) := by decide +kernel
theorem dX11_mend_141 : decode cX11_mend 141 = .ok (.aload_n 0, 1) := by decide +kernel
theorem dX11_mend_142 : decode cX11_mend 142 = .ok (.getfield 142, 3) := by decide +kernel
theorem dX11_mend_145 : decode cX11_mend 145 = .ok (.imul, 1) := by decide +kernel
theorem dX11_mend_146 : decode cX11_mend 146 = .ok (.iconst 3, 1) := by decide +kernel
theorem dX11_mend_147 : decode cX11_mend 147 = .ok (.iadd, 1) := by decide +kernel
theorem dX11_mend_148 : decode cX11_mend 148 = .ok (.iload_n 3, 1) := by decide +kernel
theorem dX11_mend_149 : decode cX11_mend 149 = .ok (.iastore, 1) := by decide +kernel
theorem dX11_mend_150 : decode cX11_mend 150 = .ok (.aload_n 0, 1) := by decide +kernel
theorem dX11_mend_151 : decode cX11_mend 151 = .ok (.dup, 1) := by decide +kernel
theorem dX11_mend_152 : decode cX11_mend 152 = .ok (.getfield 142, 3) := by decide +kernel
theorem dX11_mend_155 : decode cX11_mend 155 = .ok (.iconst 1, 1) := by decide +kernel
theorem dX11_mend_156 : decode cX11_mend 156 = .ok (.iadd, 1) := by decide +kernel
theorem dX11_mend_157 : decode cX11_mend 157 = .ok (.putfield 142, 3) := by decide +kernel
theorem dX11_mend_160 : decode cX11_mend 160 = .ok (.aload_n 0, 1) := by decide +kernel
theorem dX11_mend_161 : decode cX11_mend 161 = .ok (.aload_n 0, 1) := by decide +kernel
theorem dX11_mend_162 : decode cX11_mend 162 = .ok (.getfield 142, 3) := by decide +kernel
theorem dX11_mend_165 : decode cX11_mend 165 = .ok (.putfield 145, 3) := by decide +kernel
theorem dX11_mend_168 : decode cX11_mend 168 = .ok (.iload 4, 2) := by decide +kernel
theorem dX11_mend_170 : decode cX11_mend 170 = .ok (.ireturn, 1) := by decide +kernel
theorem dX11_of_0 : decode cX11_of 0 = .ok (.aload_n 0, 1) := by decide +kernel
theorem dX11_of_1 : decode cX11_of 1 = .ok (.iload_n 1, 1) := by decide +kernel
theorem dX11_of_2 : decode cX11_of 2 = .ok (.iload_n 2, 1) := by decide +kernel
theorem dX11_of_3 : decode cX11_of 3 = .ok (.invokevirtual 128, 3) := by decide +kernel
theorem dX11_of_6 : decode cX11_of 6 = .ok (.ifCond .eq 12, 3) := by decide +kernel
theorem dX11_of_9 : decode cX11_of 9 = .ok (.aload_n 0, 1) := by decide +kernel
theorem dX11_of_10 : decode cX11_of 10 = .ok (.iload_n 1, 1) := by decide +kernel
theorem dX11_of_11 : decode cX11_of 11 = .ok (.iload_n 2, 1) := by decide +kernel
theorem dX11_of_12 : decode cX11_of 12 = .ok (.invokevirtual 135, 3) := by decide +kernel
theorem dX11_of_15 : decode cX11_of 15 = .ok (.goto 4, 3) := by decide +kernel
theorem dX11_of_18 : decode cX11_of 18 = .ok (.iconst (-1), 1) := by decide +kernel
theorem dX11_of_19 : decode cX11_of 19 = .ok (.ireturn, 1) := by decide +kernel
theorem dX11_undo_0 : decode cX11_undo 0 = .ok (.aload_n 0, 1) := by decide +kernel
theorem dX11_undo_1 : decode cX11_undo 1 = .ok (.getfield 142, 3) := by decide +kernel
theorem dX11_undo_4 : decode cX11_undo 4 = .ok (.ifCond .ne 6, 3) := by decide +kernel
theorem dX11_undo_7 : decode cX11_undo 7 = .ok (.bipush (-5), 2) := by decide +kernel
theorem dX11_undo_9 : decode cX11_undo 9 = .ok (.ireturn, 1) := by decide +kernel
theorem dX11_undo_10 : decode cX11_undo 10 = .ok (.aload_n 0, 1) := by decide +kernel
theorem dX11_undo_11 : decode cX11_undo 11 = .ok (.dup, 1) := by decide +kernel
theorem dX11_undo_12 : decode cX11_undo 12 = .ok (.getfield 142, 3) := by decide +kernel
theorem dX11_undo_15 : decode cX11_undo 15 = .ok (.iconst 1, 1) := by decide +kernel
theorem dX11_undo_16 : decode cX11_undo 16 = .ok (.isub, 1) := by decide +kernel
theorem dX11_undo_17 : decode cX11_undo 17 = .ok (.putfield 142, 3) := by decide +kernel
theorem dX11_undo_20 : decode cX11_undo 20 = .ok (.aload_n 0, 1) := by decide +kernel
theorem dX11_undo_21 : decode cX11_undo 21 = .ok (.aload_n 0, 1) := by decide +kernel
theorem dX11_undo_22 : decode cX11_undo 22 = .ok (.getfield 66, 3) := by decide +kernel
theorem dX11_undo_25 : decode cX11_undo 25 = .ok (.iconst 4, 1) := by decide +kernel
theorem dX11_undo_26 : decode cX11_undo 26 = .ok (.aload_n 0, 1) := by decide +kernel
theorem dX11_undo_27 : decode cX11_undo 27 = .ok (.getfield 142, 3) := by decide +kernel
theorem dX11_undo_30 : decode cX11_undo 30 = .ok (.imul, 1) := by decide +kernel
theorem dX11_undo_31 : decode cX11_undo 31 = .ok (.iaload, 1) := by decide +kernel
theorem dX11_undo_32 : decode cX11_undo 32 = .ok (.aload_n 0, 1) := by decide +kernel
theorem dX11_undo_33 : decode cX11_undo 33 = .ok (.getfield 66, 3) := by decide +kernel
theorem dX11_undo_36 : decode cX11_undo 36 = .ok (.iconst 4, 1) := by decide +kernel
theorem dX11_undo_37 : decode cX11_undo 37 = .ok (.aload_n 0, 1) := by decide +kernel
theorem dX11_undo_38 : decode cX11_undo 38 = .ok (.getfield 142, 3) := by decide +kernel
theorem dX11_undo_41 : decode cX11_undo 41 = .ok (.imul, 1) := by decide +kernel
theorem dX11_undo_42 : decode cX11_undo 42 = .ok (.iconst 1, 1) := by decide +kernel
theorem dX11_undo_43 : decode cX11_undo 43 = .ok (.iadd, 1) := by decide +kernel
theorem dX11_undo_44 : decode cX11_undo 44 = .ok (.iaload, 1) := by decide +kernel
theorem dX11_undo_45 : decode cX11_undo 45 = .ok (.aload_n 0, 1) := by decide +kernel
theorem dX11_undo_46 : decode cX11_undo 46 = .ok (.getfield 66, 3) := by decide +kernel
theorem dX11_undo_49 : decode cX11_undo 49 = .ok (.iconst 4, 1) := by decide +kernel
theorem dX11_undo_50 : decode cX11_undo 50 = .ok (.aload_n 0, 1) := by decide +kernel
theorem dX11_undo_51 : decode cX11_undo 51 = .ok (.getfield 142, 3) := by decide +kernel
theorem dX11_undo_54 : decode cX11_undo 54 = .ok (.imul, 1) := by decide +kernel
theorem dX11_undo_55 : decode cX11_undo 55 = .ok (.iconst 2, 1) := by decide +kernel
theorem dX11_undo_56 : decode cX11_undo 56 = .ok (.iadd, 1) := by decide +kernel
theorem dX11_undo_57 : decode cX11_undo 57 = .ok (.iaload, 1) := by decide +kernel
theorem dX11_undo_58 : decode cX11_undo 58 = .ok (.invokevirtual 138, 3) := by decide +kernel
theorem dX11_undo_61 : decode cX11_undo 61 = .ok (.aload_n 0, 1) := by decide +kernel
theorem dX11_undo_62 : decode cX11_undo 62 = .ok (.getfield 142, 3) := by decide +kernel
theorem dX11_undo_65 : decode cX11_undo 65 = .ok (.ireturn, 1) := by decide +kernel
theorem dX11_redo_0 : decode cX11_redo 0 = .ok (.aload_n 0, 1) := by decide +kernel
theorem dX11_redo_1 : decode cX11_redo 1 = .ok (.getfield 142, 3) := by decide +kernel
theorem dX11_redo_4 : decode cX11_redo 4 = .ok (.aload_n 0, 1) := by decide +kernel
theorem dX11_redo_5 : decode cX11_redo 5 = .ok (.getfield 145, 3) := by decide +kernel
theorem dX11_redo_8 : decode cX11_redo 8 = .ok (.if_icmp .ne 6, 3) := by decide +kernel
theorem dX11_redo_11 : decode cX11_redo 11 = .ok (.bipush (-5), 2) := by decide +kernel
theorem dX11_redo_13 : decode cX11_redo 13 = .ok (.ireturn, 1) := by decide +kernel
theorem dX11_redo_14 : decode cX11_redo 14 = .ok (.aload_n 0, 1) := by decide +kernel
theorem dX11_redo_15 : decode cX11_redo 15 = .ok (.aload_n 0, 1) := by decide +kernel
theorem dX11_redo_16 : decode cX11_redo 16 = .ok (.getfield 66, 3) := by decide +kernel
theorem dX11_redo_19 : decode cX11_redo 19 = .ok (.iconst 4, 1) := by decide +kernel
theorem dX11_redo_20 : decode cX11_redo 20 = .ok (.aload_n 0, 1) := by decide +kernel
theorem dX11_redo_21 : decode cX11_redo 21 = .ok (.getfield 142, 3) := by decide +kernel
theorem dX11_redo_24 : decode cX11_redo 24 = .ok (.imul, 1) := by decide +kernel
theorem dX11_redo_25 : decode cX11_redo 25 = .ok (.iaload, 1) := by decide +kernel
theorem dX11_redo_26 : decode cX11_redo 26 = .ok (.aload_n 0, 1) := by decide +kernel
theorem dX11_redo_27 : decode cX11_redo 27 = .ok (.getfield 66, 3) := by decide +kernel
theorem dX11_redo_30 : decode cX11_redo 30 = .ok (.iconst 4, 1) := by decide +kernel
theorem dX11_redo_31 : decode cX11_redo 31 = .ok (.aload_n 0, 1) := by decide +kernel
theorem dX11_redo_32 : decode cX11_redo 32 = .ok (.getfield 142, 3) := by decide +kernel
theorem dX11_redo_35 : decode cX11_redo 35 = .ok (.imul, 1) := by decide +kernel
theorem dX11_redo_36 : decode cX11_redo 36 = .ok (.iconst 1, 1) := by decide +kernel
theorem dX11_redo_37 : decode cX11_redo 37 = .ok (.iadd, 1) := by decide +kernel
theorem dX11_redo_38 : decode cX11_redo 38 = .ok (.iaload, 1) := by decide +kernel
theorem dX11_redo_39 : decode cX11_redo 39 = .ok (.aload_n 0, 1) := by decide +kernel
theorem dX11_redo_40 : decode cX11_redo 40 = .ok (.getfield 66, 3) := by decide +kernel
theorem dX11_redo_43 : decode cX11_redo 43 = .ok (.iconst 4, 1) := by decide +kernel
theorem dX11_redo_44 : decode cX11_redo 44 = .ok (.aload_n 0, 1) := by decide +kernel
theorem dX11_redo_45 : decode cX11_redo 45 = .ok (.getfield 142, 3) := by decide +kernel
theorem dX11_redo_48 : decode cX11_redo 48 = .ok (.imul, 1) := by decide +kernel
theorem dX11_redo_49 : decode cX11_redo 49 = .ok (.iconst 3, 1) := by decide +kernel
theorem dX11_redo_50 : decode cX11_redo 50 = .ok (.iadd, 1) := by decide +kernel
theorem dX11_redo_51 : decode cX11_redo 51 = .ok (.iaload, 1) := by decide +kernel
theorem dX11_redo_52 : decode cX11_redo 52 = .ok (.invokevirtual 138, 3) := by decide +kernel
theorem dX11_redo_55 : decode cX11_redo 55 = .ok (.aload_n 0, 1) := by decide +kernel
theorem dX11_redo_56 : decode cX11_redo 56 = .ok (.dup, 1) := by decide +kernel
theorem dX11_redo_57 : decode cX11_redo 57 = .ok (.getfield 142, 3) := by decide +kernel
theorem dX11_redo_60 : decode cX11_redo 60 = .ok (.iconst 1, 1) := by decide +kernel
theorem dX11_redo_61 : decode cX11_redo 61 = .ok (.iadd, 1) := by decide +kernel
theorem dX11_redo_62 : decode cX11_redo 62 = .ok (.putfield 142, 3) := by decide +kernel
theorem dX11_redo_65 : decode cX11_redo 65 = .ok (.aload_n 0, 1) := by decide +kernel
theorem dX11_redo_66 : decode cX11_redo 66 = .ok (.getfield 145, 3) := by decide +kernel
theorem dX11_redo_69 : decode cX11_redo 69 = .ok (.aload_n 0, 1) := by decide +kernel
theorem dX11_redo_70 : decode cX11_redo 70 = .ok (.getfield 142, 3) := by decide +kernel
theorem dX11_redo_73 : decode cX11_redo 73 = .ok (.isub, 1) := by decide +kernel
theorem dX11_redo_74 : decode cX11_redo 74 = .ok (.ireturn, 1) := by decide +kernel
theorem dX11_feed_0 : decode cX11_feed 0 = .ok (.iload_n 1, 1) := by decide +kernel
theorem dX11_feed_1 : decode cX11_feed 1 = .ok (.iconst 0, 1) := by decide +kernel
theorem dX11_feed_2 : decode cX11_feed 2 = .ok (.sipush 255, 3) := by decide +kernel
theorem dX11_feed_5 : decode cX11_feed 5 = .ok (.invokestatic 97, 3) := by decide +kernel
theorem dX11_feed_8 : decode cX11_feed 8 = .ok (.ifCond .ne 5, 3) := by decide +kernel
theorem dX11_feed_11 : decode cX11_feed 11 = .ok (.iconst (-1), 1) := by decide +kernel
theorem dX11_feed_12 : decode cX11_feed 12 = .ok (.ireturn, 1) := by decide +kernel
theorem dX11_feed_13 : decode cX11_feed 13 = .ok (.aload_n 0, 1) := by decide +kernel
theorem dX11_feed_14 : decode cX11_feed 14 = .ok (.getfield 148, 3) := by decide +kernel
theorem dX11_feed_17 : decode cX11_feed 17 = .ok (.bipush 120, 2) := by decide +kernel
theorem dX11_feed_19 : decode cX11_feed 19 = .ok (.if_icmp .ne 6, 3) := by decide +kernel
theorem dX11_feed_22 : decode cX11_feed 22 = .ok (.bipush (-3), 2) := by decide +kernel
theorem dX11_feed_24 : decode cX11_feed 24 = .ok (.ireturn, 1) := by decide +kernel
theorem dX11_feed_25 : decode cX11_feed 25 = .ok (.aload_n 0, 1) := by decide +kernel
theorem dX11_feed_26 : decode cX11_feed 26 = .ok (.getfield 24, 3) := by decide +kernel
theorem dX11_feed_29 : decode cX11_feed 29 = .ok (.aload_n 0, 1) := by decide +kernel
theorem dX11_feed_30 : decode cX11_feed 30 = .ok (.dup, 1) := by decide +kernel
theorem dX11_feed_31 : decode cX11_feed 31 = .ok (.getfield 148, 3) := by decide +kernel
theorem dX11_feed_34 : decode cX11_feed 34 = .ok (.dup_x1, 1) := by decide +kernel
theorem dX11_feed_35 : decode cX11_feed 35 = .ok (.iconst 1, 1) := by decide +kernel
theorem dX11_feed_36 : decode cX11_feed 36 = .ok (.iadd, 1) := by decide +kernel
theorem dX11_feed_37 : decode cX11_feed 37 = .ok (.putfield 148, 3) := by decide +kernel
theorem dX11_feed_40 : decode cX11_feed 40 = .ok (.iload_n 1, 1) := by decide +kernel
theorem dX11_feed_41 : decode cX11_feed 41 = .ok (.iastore, 1) := by decide +kernel
theorem dX11_feed_42 : decode cX11_feed 42 = .ok (.aload_n 0, 1) := by decide +kernel
theorem dX11_feed_43 : decode cX11_feed 43 = .ok (.getfield 148, 3) := by decide +kernel
theorem dX11_feed_46 : decode cX11_feed 46 = .ok (.ireturn, 1) := by decide +kernel
theorem dX11_sign_0 : decode cX11_sign 0 = .ok (.aload_n 0, 1) := by decide +kernel
theorem dX11_sign_1 : decode cX11_sign 1 = .ok (.getfield 151, 3) := by decide +kernel
theorem dX11_sign_4 : decode cX11_sign 4 = .ok (.aload_n 0, 1) := by decide +kernel
theorem dX11_sign_5 : decode cX11_sign 5 = .ok (.getfield 148, 3) := by decide +kernel
theorem dX11_sign_8 : decode cX11_sign 8 = .ok (.if_icmp .ge 15, 3) := by decide +kernel
theorem dX11_sign_11 : decode cX11_sign 11 = .ok (.aload_n 0, 1) := by decide +kernel
theorem dX11_sign_12 : decode cX11_sign 12 = .ok (.getfield 24, 3) := by decide +kernel
theorem dX11_sign_15 : decode cX11_sign 15 = .ok (.aload_n 0, 1) := by decide +kernel
theorem dX11_sign_16 : decode cX11_sign 16 = .ok (.getfield 151, 3) := by decide +kernel
theorem dX11_sign_19 : decode cX11_sign 19 = .ok (.iaload, 1) := by decide +kernel
theorem dX11_sign_20 : decode cX11_sign 20 = .ok (.goto 4, 3) := by decide +kernel
theorem dX11_sign_23 : decode cX11_sign 23 = .ok (.iconst (-1), 1) := by decide +kernel
theorem dX11_sign_24 : decode cX11_sign 24 = .ok (.ireturn, 1) := by decide +kernel
theorem dX11_is_0 : decode cX11_is 0 = .ok (.aload_n 0, 1) := by decide +kernel
theorem dX11_is_1 : decode cX11_is 1 = .ok (.invokevirtual 154, 3) := by decide +kernel
theorem dX11_is_4 : decode cX11_is 4 = .ok (.iload_n 1, 1) := by decide +kernel
theorem dX11_is_5 : decode cX11_is 5 = .ok (.if_icmp .eq 5, 3) := by decide +kernel
theorem dX11_is_8 : decode cX11_is 8 = .ok (.iconst 0, 1) := by decide +kernel
theorem dX11_is_9 : decode cX11_is 9 = .ok (.ireturn, 1) := by decide +kernel
theorem dX11_is_10 : decode cX11_is 10 = .ok (.aload_n 0, 1) := by decide +kernel
theorem dX11_is_11 : decode cX11_is 11 = .ok (.dup, 1) := by decide +kernel
theorem dX11_is_12 : decode cX11_is 12 = .ok (.getfield 151, 3) := by decide +kernel
theorem dX11_is_15 : decode cX11_is 15 = .ok (.iconst 1, 1) := by decide +kernel
theorem dX11_is_16 : decode cX11_is 16 = .ok (.iadd, 1) := by decide +kernel
theorem dX11_is_17 : decode cX11_is 17 = .ok (.putfield 151, 3) := by decide +kernel
theorem dX11_is_20 : decode cX11_is 20 = .ok (.iconst 1, 1) := by decide +kernel
theorem dX11_is_21 : decode cX11_is 21 = .ok (.ireturn, 1) := by decide +kernel
theorem dX11_codes_0 : decode cX11_codes 0 = .ok (.aload_n 0, 1) := by decide +kernel
theorem dX11_codes_1 : decode cX11_codes 1 = .ok (.getfield 48, 3) := by decide +kernel
theorem dX11_codes_4 : decode cX11_codes 4 = .ok (.aload_n 0, 1) := by decide +kernel
theorem dX11_codes_5 : decode cX11_codes 5 = .ok (.dup, 1) := by decide +kernel
theorem dX11_codes_6 : decode cX11_codes 6 = .ok (.getfield 158, 3) := by decide +kernel
theorem dX11_codes_9 : decode cX11_codes 9 = .ok (.dup_x1, 1) := by decide +kernel
theorem dX11_codes_10 : decode cX11_codes 10 = .ok (.iconst 1, 1) := by decide +kernel
theorem dX11_codes_11 : decode cX11_codes 11 = .ok (.iadd, 1) := by decide +kernel
theorem dX11_codes_12 : decode cX11_codes 12 = .ok (.putfield 158, 3) := by decide +kernel
theorem dX11_codes_15 : decode cX11_codes 15 = .ok (.iload_n 1, 1) := by decide +kernel
theorem dX11_codes_16 : decode cX11_codes 16 = .ok (.iastore, 1) := by decide +kernel
theorem dX11_codes_17 : decode cX11_codes 17 = .ok (.iconst 1, 1) := by decide +kernel
theorem dX11_codes_18 : decode cX11_codes 18 = .ok (.ireturn, 1) := by decide +kernel
theorem dX11_isDigit_0 : decode cX11_isDigit 0 = .ok (.aload_n 0, 1) := by decide +kernel
theorem dX11_isDigit_1 : decode cX11_isDigit 1 = .ok (.invokevirtual 154, 3) := by decide +kernel
theorem dX11_isDigit_4 : decode cX11_isDigit 4 = .ok (.bipush 48, 2) := by decide +kernel
theorem dX11_isDigit_6 : decode cX11_isDigit 6 = .ok (.if_icmp .lt 16, 3) := by decide +kernel
theorem dX11_isDigit_9 : decode cX11_isDigit 9 = .ok (.aload_n 0, 1) := by decide +kernel
theorem dX11_isDigit_10 : decode cX11_isDigit 10 = .ok (.invokevirtual 154, 3) := by decide +kernel
theorem dX11_isDigit_13 : decode cX11_isDigit 13 = .ok (.bipush 57, 2) := by decide +kernel
theorem dX11_isDigit_15 : decode cX11_isDigit 15 = .ok (.if_icmp .gt 7, 3) := by decide +kernel
theorem dX11_isDigit_18 : decode cX11_isDigit 18 = .ok (.iconst 1, 1) := by decide +kernel
theorem dX11_isDigit_19 : decode cX11_isDigit 19 = .ok (.goto 4, 3) := by decide +kernel
theorem dX11_isDigit_22 : decode cX11_isDigit 22 = .ok (.iconst 0, 1) := by decide +kernel
theorem dX11_isDigit_23 : decode cX11_isDigit 23 = .ok (.ireturn, 1) := by decide +kernel
theorem dX11_nameOf_0 : decode cX11_nameOf 0 = .ok (.iload_n 0, 1) := by decide +kernel
theorem dX11_nameOf_1 : decode cX11_nameOf 1 = .ok (.tableswitch 95 99 115 #[93, 95, 95, 95, 95, 87, 95, 95, 95, 83, 95, 95, 91, 89, 95, 95, 85], 83) := by decide +kernel
theorem dX11_nameOf_84 : decode cX11_nameOf 84 = .ok (.iconst 0, 1) := by decide +kernel
theorem dX11_nameOf_85 : decode cX11_nameOf 85 = .ok (.ireturn, 1) := by decide +kernel
theorem dX11_nameOf_86 : decode cX11_nameOf 86 = .ok (.iconst 1, 1) := by decide +kernel
theorem dX11_nameOf_87 : decode cX11_nameOf 87 = .ok (.ireturn, 1) := by decide +kernel
theorem dX11_nameOf_88 : decode cX11_nameOf 88 = .ok (.iconst 2, 1) := by decide +kernel
theorem dX11_nameOf_89 : decode cX11_nameOf 89 = .ok (.ireturn, 1) := by decide +kernel
theorem dX11_nameOf_90 : decode cX11_nameOf 90 = .ok (.iconst 3, 1) := by decide +kernel
theorem dX11_nameOf_91 : decode cX11_nameOf 91 = .ok (.ireturn, 1) := by decide +kernel
theorem dX11_nameOf_92 : decode cX11_nameOf 92 = .ok (.iconst 4, 1) := by decide +kernel
theorem dX11_nameOf_93 : decode cX11_nameOf 93 = .ok (.ireturn, 1) := by decide +kernel
theorem dX11_nameOf_94 : decode cX11_nameOf 94 = .ok (.iconst 5, 1) := by decide +kernel
theorem dX11_nameOf_95 : decode cX11_nameOf 95 = .ok (.ireturn, 1) := by decide +kernel
theorem dX11_nameOf_96 : decode cX11_nameOf 96 = .ok (.iconst (-1), 1) := by decide +kernel
theorem dX11_nameOf_97 : decode cX11_nameOf 97 = .ok (.ireturn, 1) := by decide +kernel
theorem dX11_isO_0 : decode cX11_isO 0 = .ok (.aload_n 0, 1) := by decide +kernel
theorem dX11_isO_1 : decode cX11_isO 1 = .ok (.invokevirtual 161, 3) := by decide +kernel
theorem dX11_isO_4 : decode cX11_isO 4 = .ok (.ifCond .eq 62, 3) := by decide +kernel
theorem dX11_isO_7 : decode cX11_isO 7 = .ok (.iconst 0, 1) := by decide +kernel
theorem dX11_isO_8 : decode cX11_isO 8 = .ok (.istore_n 1, 1) := by decide +kernel
theorem dX11_isO_9 : decode cX11_isO 9 = .ok (.iconst 0, 1) := by decide +kernel
theorem dX11_isO_10 : decode cX11_isO 10 = .ok (.istore_n 2, 1) := by decide +kernel
theorem dX11_isO_11 : decode cX11_isO 11 = .ok (.iload_n 2, 1) := by decide +kernel
theorem dX11_isO_12 : decode cX11_isO 12 = .ok (.iconst 4, 1) := by decide +kernel
theorem dX11_isO_13 : decode cX11_isO 13 = .ok (.if_icmp .ge 44, 3) := by decide +kernel
theorem dX11_isO_16 : decode cX11_isO 16 = .ok (.aload_n 0, 1) := by decide +kernel
theorem dX11_isO_17 : decode cX11_isO 17 = .ok (.invokevirtual 161, 3) := by decide +kernel
theorem dX11_isO_20 : decode cX11_isO 20 = .ok (.ifCond .eq 37, 3) := by decide +kernel
theorem dX11_isO_23 : decode cX11_isO 23 = .ok (.bipush 10, 2) := by decide +kernel
theorem dX11_isO_25 : decode cX11_isO 25 = .ok (.iload_n 1, 1) := by decide +kernel
theorem dX11_isO_26 : decode cX11_isO 26 = .ok (.imul, 1) := by decide +kernel
theorem dX11_isO_27 : decode cX11_isO 27 = .ok (.aload_n 0, 1) := by decide +kernel
theorem dX11_isO_28 : decode cX11_isO 28 = .ok (.getfield 24, 3) := by decide +kernel
theorem dX11_isO_31 : decode cX11_isO 31 = .ok (.aload_n 0, 1) := by decide +kernel
theorem dX11_isO_32 : decode cX11_isO 32 = .ok (.getfield 151, 3) := by decide +kernel
theorem dX11_isO_35 : decode cX11_isO 35 = .ok (.iaload, 1) := by decide +kernel
theorem dX11_isO_36 : decode cX11_isO 36 = .ok (.iadd, 1) := by decide +kernel
theorem dX11_isO_37 : decode cX11_isO 37 = .ok (.bipush 48, 2) := by decide +kernel
theorem dX11_isO_39 : decode cX11_isO 39 = .ok (.isub, 1) := by decide +kernel
theorem dX11_isO_40 : decode cX11_isO 40 = .ok (.istore_n 1, 1) := by decide +kernel
theorem dX11_isO_41 : decode cX11_isO 41 = .ok (.aload_n 0, 1) := by decide +kernel
theorem dX11_isO_42 : decode cX11_isO 42 = .ok (.dup, 1) := by decide +kernel
theorem dX11_isO_43 : decode cX11_isO 43 = .ok (.getfield 151, 3) := by decide +kernel
theorem dX11_isO_46 : decode cX11_isO 46 = .ok (.iconst 1, 1) := by decide +kernel
theorem dX11_isO_47 : decode cX11_isO 47 = .ok (.iadd, 1) := by decide +kernel
theorem dX11_isO_48 : decode cX11_isO 48 = .ok (.putfield 151, 3) := by decide +kernel
theorem dX11_isO_51 : decode cX11_isO 51 = .ok (.iinc 2 1, 3) := by decide +kernel
theorem dX11_isO_54 : decode cX11_isO 54 = .ok (.goto (-43), 3) := by decide +kernel
theorem dX11_isO_57 : decode cX11_isO 57 = .ok (.aload_n 0, 1) := by decide +kernel
theorem dX11_isO_58 : decode cX11_isO 58 = .ok (.bipush 18, 2) := by decide +kernel
theorem dX11_isO_60 : decode cX11_isO 60 = .ok (.iload_n 1, 1) := by decide +kernel
theorem dX11_isO_61 : decode cX11_isO 61 = .ok (.iadd, 1) := by decide +kernel
theorem dX11_isO_62 : decode cX11_isO 62 = .ok (.invokevirtual 165, 3) := by decide +kernel
theorem dX11_isO_65 : decode cX11_isO 65 = .ok (.ireturn, 1) := by decide +kernel
theorem dX11_isO_66 : decode cX11_isO 66 = .ok (.aload_n 0, 1) := by decide +kernel
theorem dX11_isO_67 : decode cX11_isO 67 = .ok (.invokevirtual 154, 3) := by decide +kernel
theorem dX11_isO_70 : decode cX11_isO 70 = .ok (.invokestatic 168, 3) := by decide +kernel
theorem dX11_isO_73 : decode cX11_isO 73 = .ok (.istore_n 1, 1) := by decide +kernel
theorem dX11_isO_74 : decode cX11_isO 74 = .ok (.iload_n 1, 1) := by decide +kernel
theorem dX11_isO_75 : decode cX11_isO 75 = .ok (.ifCond .lt 19, 3) := by decide +kernel
theorem dX11_isO_78 : decode cX11_isO 78 = .ok (.aload_n 0, 1) := by decide +kernel
theorem dX11_isO_79 : decode cX11_isO 79 = .ok (.dup, 1) := by decide +kernel
theorem dX11_isO_80 : decode cX11_isO 80 = .ok (.getfield 151, 3) := by decide +kernel
theorem dX11_isO_83 : decode cX11_isO 83 = .ok (.iconst 1, 1) := by decide +kernel
theorem dX11_isO_84 : decode cX11_isO 84 = .ok (.iadd, 1) := by decide +kernel
theorem dX11_isO_85 : decode cX11_isO 85 = .ok (.putfield 151, 3) := by decide +kernel
theorem dX11_isO_88 : decode cX11_isO 88 = .ok (.aload_n 0, 1) := by decide +kernel
theorem dX11_isO_89 : decode cX11_isO 89 = .ok (.iload_n 1, 1) := by decide +kernel
theorem dX11_isO_90 : decode cX11_isO 90 = .ok (.invokevirtual 165, 3) := by decide +kernel
theorem dX11_isO_93 : decode cX11_isO 93 = .ok (.ireturn, 1) := by decide +kernel
theorem dX11_isO_94 : decode cX11_isO 94 = .ok (.aload_n 0, 1) := by decide +kernel
theorem dX11_isO_95 : decode cX11_isO 95 = .ok (.getfield 172, 3) := by decide +kernel
theorem dX11_isO_98 : decode cX11_isO 98 = .ok (.bipush 6, 2) := by decide +kernel
theorem dX11_isO_100 : decode cX11_isO 100 = .ok (.if_icmp .ne 5, 3) := by decide +kernel
theorem dX11_isO_103 : decode cX11_isO 103 = .ok (.iconst 0, 1) := by decide +kernel
theorem dX11_isO_104 : decode cX11_isO 104 = .ok (.ireturn, 1) := by decide +kernel
theorem dX11_isO_105 : decode cX11_isO 105 = .ok (.aload_n 0, 1) := by decide +kernel
theorem dX11_isO_106 : decode cX11_isO 106 = .ok (.dup, 1) := by decide +kernel
theorem dX11_isO_107 : decode cX11_isO 107 = .ok (.getfield 172, 3) := by decide +kernel
theorem dX11_isO_110 : decode cX11_isO 110 = .ok (.iconst 1, 1) := by decide +kernel
theorem dX11_isO_111 : decode cX11_isO 111 = .ok (.iadd, 1) := by decide +kernel
theorem dX11_isO_112 : decode cX11_isO 112 = .ok (.putfield 172, 3) := by decide +kernel
theorem dX11_isO_115 : decode cX11_isO 115 = .ok (.aload_n 0, 1) := by decide +kernel
theorem dX11_isO_116 : decode cX11_isO 116 = .ok (.bipush 33, 2) := by decide +kernel
theorem dX11_isO_118 : decode cX11_isO 118 = .ok (.invokevirtual 175, 3) := by decide +kernel
theorem dX11_isO_121 : decode cX11_isO 121 = .ok (.ifCond .eq 28, 3) := by decide +kernel
theorem dX11_isO_124 : decode cX11_isO 124 = .ok (.aload_n 0, 1) := by decide +kernel
theorem dX11_isO_125 : decode cX11_isO 125 = .ok (.invokevirtual 178, 3) := by decide +kernel
theorem dX11_isO_128 : decode cX11_isO 128 = .ok (.ifCond .eq 16, 3) := by decide +kernel
theorem dX11_isO_131 : decode cX11_isO 131 = .ok (.aload_n 0, 1) := by decide +kernel
theorem dX11_isO_132 : decode cX11_isO 132 = .ok (.bipush 16, 2) := by decide +kernel
theorem dX11_isO_134 : decode cX11_isO 134 = .ok (.invokevirtual 165, 3) := by decide +kernel
theorem dX11_isO_137 : decode cX11_isO 137 = .ok (.ifCond .eq 7, 3) := by decide +kernel
theorem dX11_isO_140 : decode cX11_isO 140 = .ok (.iconst 1, 1) := by decide +kernel
theorem dX11_isO_141 : decode cX11_isO 141 = .ok (.goto 4, 3) := by decide +kernel
theorem dX11_isO_144 : decode cX11_isO 144 = .ok (.iconst 0, 1) := by decide +kernel
theorem dX11_isO_145 : decode cX11_isO 145 = .ok (.istore_n 2, 1) := by decide +kernel
theorem dX11_isO_146 : decode cX11_isO 146 = .ok (.goto 68, 3) := by decide +kernel
theorem dX11_isO_149 : decode cX11_isO 149 = .ok (.aload_n 0, 1) := by decide +kernel
theorem dX11_isO_150 : decode cX11_isO 150 = .ok (.bipush 45, 2) := by decide +kernel
theorem dX11_isO_152 : decode cX11_isO 152 = .ok (.invokevirtual 175, 3) := by decide +kernel
theorem dX11_isO_155 : decode cX11_isO 155 = .ok (.ifCond .eq 28, 3) := by decide +kernel
theorem dX11_isO_158 : decode cX11_isO 158 = .ok (.aload_n 0, 1) := by decide +kernel
theorem dX11_isO_159 : decode cX11_isO 159 = .ok (.invokevirtual 178, 3) := by decide +kernel
theorem dX11_isO_162 : decode cX11_isO 162 = .ok (.ifCond .eq 16, 3) := by decide +kernel
theorem dX11_isO_165 : decode cX11_isO 165 = .ok (.aload_n 0, 1) := by decide +kernel
theorem dX11_isO_166 : decode cX11_isO 166 = .ok (.bipush 17, 2) := by decide +kernel
theorem dX11_isO_168 : decode cX11_isO 168 = .ok (.invokevirtual 165, 3) := by decide +kernel
theorem dX11_isO_171 : decode cX11_isO 171 = .ok (.ifCond .eq 7, 3) := by decide +kernel
theorem dX11_isO_174 : decode cX11_isO 174 = .ok (.iconst 1, 1) := by decide +kernel
theorem dX11_isO_175 : decode cX11_isO 175 = .ok (.goto 4, 3) := by decide +kernel
theorem dX11_isO_178 : decode cX11_isO 178 = .ok (.iconst 0, 1) := by decide +kernel
theorem dX11_isO_179 : decode cX11_isO 179 = .ok (.istore_n 2, 1) := by decide +kernel
theorem dX11_isO_180 : decode cX11_isO 180 = .ok (.goto 34, 3) := by decide +kernel
theorem dX11_isO_183 : decode cX11_isO 183 = .ok (.aload_n 0, 1) := by decide +kernel
theorem dX11_isO_184 : decode cX11_isO 184 = .ok (.bipush 40, 2) := by decide +kernel
theorem dX11_isO_186 : decode cX11_isO 186 = .ok (.invokevirtual 175, 3) := by decide +kernel
theorem dX11_isO_189 : decode cX11_isO 189 = .ok (.ifCond .eq 23, 3) := by decide +kernel
theorem dX11_isO_192 : decode cX11_isO 192 = .ok (.aload_n 0, 1) := by decide +kernel
theorem dX11_isO_193 : decode cX11_isO 193 = .ok (.invokevirtual 181, 3) := by decide +kernel
theorem dX11_isO_196 : decode cX11_isO 196 = .ok (.ifCond .eq 16, 3) := by decide +kernel
theorem dX11_isO_199 : decode cX11_isO 199 = .ok (.aload_n 0, 1) := by decide +kernel
theorem dX11_isO_200 : decode cX11_isO 200 = .ok (.bipush 41, 2) := by decide +kernel
theorem dX11_isO_202 : decode cX11_isO 202 = .ok (.invokevirtual 175, 3) := by decide +kernel
theorem dX11_isO_205 : decode cX11_isO 205 = .ok (.ifCond .eq 7, 3) := by decide +kernel
theorem dX11_isO_208 : decode cX11_isO 208 = .ok (.iconst 1, 1) := by decide +kernel
theorem dX11_isO_209 : decode cX11_isO 209 = .ok (.goto 4, 3) := by decide +kernel
theorem dX11_isO_212 : decode cX11_isO 212 = .ok (.iconst 0, 1) := by decide +kernel
theorem dX11_isO_213 : decode cX11_isO 213 = .ok (.istore_n 2, 1) := by decide +kernel
theorem dX11_isO_214 : decode cX11_isO 214 = .ok (.aload_n 0, 1) := by decide +kernel
theorem dX11_isO_215 : decode cX11_isO 215 = .ok (.dup, 1) := by decide +kernel
theorem dX11_isO_216 : decode cX11_isO 216 = .ok (.getfield 172, 3) := by decide +kernel
theorem dX11_isO_219 : decode cX11_isO 219 = .ok (.iconst 1, 1) := by decide +kernel
theorem dX11_isO_220 : decode cX11_isO 220 = .ok (.isub, 1) := by decide +kernel
theorem dX11_isO_221 : decode cX11_isO 221 = .ok (.putfield 172, 3) := by decide +kernel
theorem dX11_isO_224 : decode cX11_isO 224 = .ok (.iload_n 2, 1) := by decide +kernel
theorem dX11_isO_225 : decode cX11_isO 225 = .ok (.ireturn, 1) := by decide +kernel
theorem dX11_isP_0 : decode cX11_isP 0 = .ok (.aload_n 0, 1) := by decide +kernel
theorem dX11_isP_1 : decode cX11_isP 1 = .ok (.invokevirtual 178, 3) := by decide +kernel
theorem dX11_isP_4 : decode cX11_isP 4 = .ok (.ifCond .ne 5, 3) := by decide +kernel
theorem dX11_isP_7 : decode cX11_isP 7 = .ok (.iconst 0, 1) := by decide +kernel
theorem dX11_isP_8 : decode cX11_isP 8 = .ok (.ireturn, 1) := by decide +kernel
theorem dX11_isP_9 : decode cX11_isP 9 = .ok (.aload_n 0, 1) := by decide +kernel
theorem dX11_isP_10 : decode cX11_isP 10 = .ok (.invokevirtual 154, 3) := by decide +kernel
theorem dX11_isP_13 : decode cX11_isP 13 = .ok (.bipush 42, 2) := by decide +kernel
theorem dX11_isP_15 : decode cX11_isP 15 = .ok (.if_icmp .ne 8, 3) := by decide +kernel
theorem dX11_isP_18 : decode cX11_isP 18 = .ok (.bipush 13, 2) := by decide +kernel
theorem dX11_isP_20 : decode cX11_isP 20 = .ok (.goto 32, 3) := by decide +kernel
theorem dX11_isP_23 : decode cX11_isP 23 = .ok (.aload_n 0, 1) := by decide +kernel
theorem dX11_isP_24 : decode cX11_isP 24 = .ok (.invokevirtual 154, 3) := by decide +kernel
theorem dX11_isP_27 : decode cX11_isP 27 = .ok (.bipush 47, 2) := by decide +kernel
theorem dX11_isP_29 : decode cX11_isP 29 = .ok (.if_icmp .ne 8, 3) := by decide +kernel
theorem dX11_isP_32 : decode cX11_isP 32 = .ok (.bipush 14, 2) := by decide +kernel
theorem dX11_isP_34 : decode cX11_isP 34 = .ok (.goto 18, 3) := by decide +kernel
theorem dX11_isP_37 : decode cX11_isP 37 = .ok (.aload_n 0, 1) := by decide +kernel
theorem dX11_isP_38 : decode cX11_isP 38 = .ok (.invokevirtual 154, 3) := by decide +kernel
theorem dX11_isP_41 : decode cX11_isP 41 = .ok (.bipush 37, 2) := by decide +kernel
theorem dX11_isP_43 : decode cX11_isP 43 = .ok (.if_icmp .ne 8, 3) := by decide +kernel
theorem dX11_isP_46 : decode cX11_isP 46 = .ok (.bipush 15, 2) := by decide +kernel
theorem dX11_isP_48 : decode cX11_isP 48 = .ok (.goto 4, 3) := by decide +kernel
theorem dX11_isP_51 : decode cX11_isP 51 = .ok (.iconst (-1), 1) := by decide +kernel
theorem dX11_isP_52 : decode cX11_isP 52 = .ok (.istore_n 1, 1) := by decide +kernel
theorem dX11_isP_53 : decode cX11_isP 53 = .ok (.iload_n 1, 1) := by decide +kernel
theorem dX11_isP_54 : decode cX11_isP 54 = .ok (.ifCond .ge 5, 3) := by decide +kernel
theorem dX11_isP_57 : decode cX11_isP 57 = .ok (.iconst 1, 1) := by decide +kernel
theorem dX11_isP_58 : decode cX11_isP 58 = .ok (.ireturn, 1) := by decide +kernel
theorem dX11_isP_59 : decode cX11_isP 59 = .ok (.aload_n 0, 1) := by decide +kernel
theorem dX11_isP_60 : decode cX11_isP 60 = .ok (.dup, 1) := by decide +kernel
theorem dX11_isP_61 : decode cX11_isP 61 = .ok (.getfield 151, 3) := by decide +kernel
theorem dX11_isP_64 : decode cX11_isP 64 = .ok (.iconst 1, 1) := by decide +kernel
theorem dX11_isP_65 : decode cX11_isP 65 = .ok (.iadd, 1) := by decide +kernel
theorem dX11_isP_66 : decode cX11_isP 66 = .ok (.putfield 151, 3) := by decide +kernel
theorem dX11_isP_69 : decode cX11_isP 69 = .ok (.aload_n 0, 1) := by decide +kernel
theorem dX11_isP_70 : decode cX11_isP 70 = .ok (.invokevirtual 178, 3) := by decide +kernel
theorem dX11_isP_73 : decode cX11_isP 73 = .ok (.ifCond .ne 5, 3) := by decide +kernel
theorem dX11_isP_76 : decode cX11_isP 76 = .ok (.iconst 0, 1) := by decide +kernel
theorem dX11_isP_77 : decode cX11_isP 77 = .ok (.ireturn, 1) := by decide +kernel
theorem dX11_isP_78 : decode cX11_isP 78 = .ok (.aload_n 0, 1) := by decide +kernel
theorem dX11_isP_79 : decode cX11_isP 79 = .ok (.iload_n 1, 1) := by decide +kernel
theorem dX11_isP_80 : decode cX11_isP 80 = .ok (.invokevirtual 165, 3) := by decide +kernel
theorem dX11_isP_83 : decode cX11_isP 83 = .ok (.pop, 1) := by decide +kernel
theorem dX11_isP_84 : decode cX11_isP 84 = .ok (.goto (-75), 3) := by decide +kernel
theorem dX11_isS_0 : decode cX11_isS 0 = .ok (.aload_n 0, 1) := by decide +kernel
theorem dX11_isS_1 : decode cX11_isS 1 = .ok (.invokevirtual 184, 3) := by decide +kernel
theorem dX11_isS_4 : decode cX11_isS 4 = .ok (.ifCond .ne 5, 3) := by decide +kernel
theorem dX11_isS_7 : decode cX11_isS 7 = .ok (.iconst 0, 1) := by decide +kernel
theorem dX11_isS_8 : decode cX11_isS 8 = .ok (.ireturn, 1) := by decide +kernel
theorem dX11_isS_9 : decode cX11_isS 9 = .ok (.aload_n 0, 1) := by decide +kernel
theorem dX11_isS_10 : decode cX11_isS 10 = .ok (.invokevirtual 154, 3) := by decide +kernel
theorem dX11_isS_13 : decode cX11_isS 13 = .ok (.bipush 43, 2) := by decide +kernel
theorem dX11_isS_15 : decode cX11_isS 15 = .ok (.if_icmp .ne 8, 3) := by decide +kernel
theorem dX11_isS_18 : decode cX11_isS 18 = .ok (.bipush 11, 2) := by decide +kernel
theorem dX11_isS_20 : decode cX11_isS 20 = .ok (.goto 18, 3) := by decide +kernel
theorem dX11_isS_23 : decode cX11_isS 23 = .ok (.aload_n 0, 1) := by decide +kernel
theorem dX11_isS_24 : decode cX11_isS 24 = .ok (.invokevirtual 154, 3) := by decide +kernel
theorem dX11_isS_27 : decode cX11_isS 27 = .ok (.bipush 45, 2) := by decide +kernel
theorem dX11_isS_29 : decode cX11_isS 29 = .ok (.if_icmp .ne 8, 3) := by decide +kernel
theorem dX11_isS_32 : decode cX11_isS 32 = .ok (.bipush 12, 2) := by decide +kernel
theorem dX11_isS_34 : decode cX11_isS 34 = .ok (.goto 4, 3) := by decide +kernel
theorem dX11_isS_37 : decode cX11_isS 37 = .ok (.iconst (-1), 1) := by decide +kernel
theorem dX11_isS_38 : decode cX11_isS 38 = .ok (.istore_n 1, 1) := by decide +kernel
theorem dX11_isS_39 : decode cX11_isS 39 = .ok (.iload_n 1, 1) := by decide +kernel
theorem dX11_isS_40 : decode cX11_isS 40 = .ok (.ifCond .ge 5, 3) := by decide +kernel
theorem dX11_isS_43 : decode cX11_isS 43 = .ok (.iconst 1, 1) := by decide +kernel
theorem dX11_isS_44 : decode cX11_isS 44 = .ok (.ireturn, 1) := by decide +kernel
theorem dX11_isS_45 : decode cX11_isS 45 = .ok (.aload_n 0, 1) := by decide +kernel
theorem dX11_isS_46 : decode cX11_isS 46 = .ok (.dup, 1) := by decide +kernel
theorem dX11_isS_47 : decode cX11_isS 47 = .ok (.getfield 151, 3) := by decide +kernel
theorem dX11_isS_50 : decode cX11_isS 50 = .ok (.iconst 1, 1) := by decide +kernel
theorem dX11_isS_51 : decode cX11_isS 51 = .ok (.iadd, 1) := by decide +kernel
theorem dX11_isS_52 : decode cX11_isS 52 = .ok (.putfield 151, 3) := by decide +kernel
theorem dX11_isS_55 : decode cX11_isS 55 = .ok (.aload_n 0, 1) := by decide +kernel
theorem dX11_isS_56 : decode cX11_isS 56 = .ok (.invokevirtual 184, 3) := by decide +kernel
theorem dX11_isS_59 : decode cX11_isS 59 = .ok (.ifCond .ne 5, 3) := by decide +kernel
theorem dX11_isS_62 : decode cX11_isS 62 = .ok (.iconst 0, 1) := by decide +kernel
theorem dX11_isS_63 : decode cX11_isS 63 = .ok (.ireturn, 1) := by decide +kernel
theorem dX11_isS_64 : decode cX11_isS 64 = .ok (.aload_n 0, 1) := by decide +kernel
theorem dX11_isS_65 : decode cX11_isS 65 = .ok (.iload_n 1, 1) := by decide +kernel
theorem dX11_isS_66 : decode cX11_isS 66 = .ok (.invokevirtual 165, 3) := by decide +kernel
theorem dX11_isS_69 : decode cX11_isS 69 = .ok (.pop, 1) := by decide +kernel
theorem dX11_isS_70 : decode cX11_isS 70 = .ok (.goto (-61), 3) := by decide +kernel
theorem dX11_isB_0 : decode cX11_isB 0 = .ok (.aload_n 0, 1) := by decide +kernel
theorem dX11_isB_1 : decode cX11_isB 1 = .ok (.invokevirtual 187, 3) := by decide +kernel
theorem dX11_isB_4 : decode cX11_isB 4 = .ok (.ifCond .ne 5, 3) := by decide +kernel
theorem dX11_isB_7 : decode cX11_isB 7 = .ok (.iconst 0, 1) := by decide +kernel
theorem dX11_isB_8 : decode cX11_isB 8 = .ok (.ireturn, 1) := by decide +kernel
theorem dX11_isB_9 : decode cX11_isB 9 = .ok (.aload_n 0, 1) := by decide +kernel
theorem dX11_isB_10 : decode cX11_isB 10 = .ok (.invokevirtual 154, 3) := by decide +kernel
theorem dX11_isB_13 : decode cX11_isB 13 = .ok (.bipush 60, 2) := by decide +kernel
theorem dX11_isB_15 : decode cX11_isB 15 = .ok (.if_icmp .ne 8, 3) := by decide +kernel
theorem dX11_isB_18 : decode cX11_isB 18 = .ok (.bipush 8, 2) := by decide +kernel
theorem dX11_isB_20 : decode cX11_isB 20 = .ok (.goto 32, 3) := by decide +kernel
theorem dX11_isB_23 : decode cX11_isB 23 = .ok (.aload_n 0, 1) := by decide +kernel
theorem dX11_isB_24 : decode cX11_isB 24 = .ok (.invokevirtual 154, 3) := by decide +kernel
theorem dX11_isB_27 : decode cX11_isB 27 = .ok (.bipush 61, 2) := by decide +kernel
theorem dX11_isB_29 : decode cX11_isB 29 = .ok (.if_icmp .ne 8, 3) := by decide +kernel
theorem dX11_isB_32 : decode cX11_isB 32 = .ok (.bipush 9, 2) := by decide +kernel
theorem dX11_isB_34 : decode cX11_isB 34 = .ok (.goto 18, 3) := by decide +kernel
theorem dX11_isB_37 : decode cX11_isB 37 = .ok (.aload_n 0, 1) := by decide +kernel
theorem dX11_isB_38 : decode cX11_isB 38 = .ok (.invokevirtual 154, 3) := by decide +kernel
theorem dX11_isB_41 : decode cX11_isB 41 = .ok (.bipush 62, 2) := by decide +kernel
theorem dX11_isB_43 : decode cX11_isB 43 = .ok (.if_icmp .ne 8, 3) := by decide +kernel
theorem dX11_isB_46 : decode cX11_isB 46 = .ok (.bipush 10, 2) := by decide +kernel
theorem dX11_isB_48 : decode cX11_isB 48 = .ok (.goto 4, 3) := by decide +kernel
theorem dX11_isB_51 : decode cX11_isB 51 = .ok (.iconst (-1), 1) := by decide +kernel
theorem dX11_isB_52 : decode cX11_isB 52 = .ok (.istore_n 1, 1) := by decide +kernel
theorem dX11_isB_53 : decode cX11_isB 53 = .ok (.iload_n 1, 1) := by decide +kernel
theorem dX11_isB_54 : decode cX11_isB 54 = .ok (.ifCond .ge 5, 3) := by decide +kernel
theorem dX11_isB_57 : decode cX11_isB 57 = .ok (.iconst 1, 1) := by decide +kernel
theorem dX11_isB_58 : decode cX11_isB 58 = .ok (.ireturn, 1) := by decide +kernel
theorem dX11_isB_59 : decode cX11_isB 59 = .ok (.aload_n 0, 1) := by decide +kernel
theorem dX11_isB_60 : decode cX11_isB 60 = .ok (.dup, 1) := by decide +kernel
theorem dX11_isB_61 : decode cX11_isB 61 = .ok (.getfield 151, 3) := by decide +kernel
theorem dX11_isB_64 : decode cX11_isB 64 = .ok (.iconst 1, 1) := by decide +kernel
theorem dX11_isB_65 : decode cX11_isB 65 = .ok (.iadd, 1) := by decide +kernel
theorem dX11_isB_66 : decode cX11_isB 66 = .ok (.putfield 151, 3) := by decide +kernel
theorem dX11_isB_69 : decode cX11_isB 69 = .ok (.aload_n 0, 1) := by decide +kernel
theorem dX11_isB_70 : decode cX11_isB 70 = .ok (.invokevirtual 187, 3) := by decide +kernel
theorem dX11_isB_73 : decode cX11_isB 73 = .ok (.ifCond .eq 15, 3) := by decide +kernel
theorem dX11_isB_76 : decode cX11_isB 76 = .ok (.aload_n 0, 1) := by decide +kernel
theorem dX11_isB_77 : decode cX11_isB 77 = .ok (.iload_n 1, 1) := by decide +kernel
theorem dX11_isB_78 : decode cX11_isB 78 = .ok (.invokevirtual 165, 3) := by decide +kernel
theorem dX11_isB_81 : decode cX11_isB 81 = .ok (.ifCond .eq 7, 3) := by decide +kernel
theorem dX11_isB_84 : decode cX11_isB 84 = .ok (.iconst 1, 1) := by decide +kernel
theorem dX11_isB_85 : decode cX11_isB 85 = .ok (.goto 4, 3) := by decide +kernel
theorem dX11_isB_88 : decode cX11_isB 88 = .ok (.iconst 0, 1) := by decide +kernel
theorem dX11_isB_89 : decode cX11_isB 89 = .ok (.ireturn, 1) := by decide +kernel
theorem dX11_isA_0 : decode cX11_isA 0 = .ok (.aload_n 0, 1) := by decide +kernel
theorem dX11_isA_1 : decode cX11_isA 1 = .ok (.invokevirtual 190, 3) := by decide +kernel
theorem dX11_isA_4 : decode cX11_isA 4 = .ok (.ifCond .ne 5, 3) := by decide +kernel
theorem dX11_isA_7 : decode cX11_isA 7 = .ok (.iconst 0, 1) := by decide +kernel
theorem dX11_isA_8 : decode cX11_isA 8 = .ok (.ireturn, 1) := by decide +kernel
theorem dX11_isA_9 : decode cX11_isA 9 = .ok (.aload_n 0, 1) := by decide +kernel
theorem dX11_isA_10 : decode cX11_isA 10 = .ok (.bipush 38, 2) := by decide +kernel
theorem dX11_isA_12 : decode cX11_isA 12 = .ok (.invokevirtual 175, 3) := by decide +kernel
theorem dX11_isA_15 : decode cX11_isA 15 = .ok (.ifCond .eq 22, 3) := by decide +kernel
theorem dX11_isA_18 : decode cX11_isA 18 = .ok (.aload_n 0, 1) := by decide +kernel
theorem dX11_isA_19 : decode cX11_isA 19 = .ok (.invokevirtual 190, 3) := by decide +kernel
theorem dX11_isA_22 : decode cX11_isA 22 = .ok (.ifCond .ne 5, 3) := by decide +kernel
theorem dX11_isA_25 : decode cX11_isA 25 = .ok (.iconst 0, 1) := by decide +kernel
theorem dX11_isA_26 : decode cX11_isA 26 = .ok (.ireturn, 1) := by decide +kernel
theorem dX11_isA_27 : decode cX11_isA 27 = .ok (.aload_n 0, 1) := by decide +kernel
theorem dX11_isA_28 : decode cX11_isA 28 = .ok (.bipush 7, 2) := by decide +kernel
theorem dX11_isA_30 : decode cX11_isA 30 = .ok (.invokevirtual 165, 3) := by decide +kernel
theorem dX11_isA_33 : decode cX11_isA 33 = .ok (.pop, 1) := by decide +kernel
theorem dX11_isA_34 : decode cX11_isA 34 = .ok (.goto (-25), 3) := by decide +kernel
theorem dX11_isA_37 : decode cX11_isA 37 = .ok (.iconst 1, 1) := by decide +kernel
theorem dX11_isA_38 : decode cX11_isA 38 = .ok (.ireturn, 1) := by decide +kernel
theorem dX11_isE_0 : decode cX11_isE 0 = .ok (.aload_n 0, 1) := by decide +kernel
theorem dX11_isE_1 : decode cX11_isE 1 = .ok (.invokevirtual 193, 3) := by decide +kernel
theorem dX11_isE_4 : decode cX11_isE 4 = .ok (.ifCond .ne 5, 3) := by decide +kernel
theorem dX11_isE_7 : decode cX11_isE 7 = .ok (.iconst 0, 1) := by decide +kernel
theorem dX11_isE_8 : decode cX11_isE 8 = .ok (.ireturn, 1) := by decide +kernel
theorem dX11_isE_9 : decode cX11_isE 9 = .ok (.aload_n 0, 1) := by decide +kernel
theorem dX11_isE_10 : decode cX11_isE 10 = .ok (.bipush 124, 2) := by decide +kernel
theorem dX11_isE_12 : decode cX11_isE 12 = .ok (.invokevirtual 175, 3) := by decide +kernel
theorem dX11_isE_15 : decode cX11_isE 15 = .ok (.ifCond .eq 22, 3) := by decide +kernel
theorem dX11_isE_18 : decode cX11_isE 18 = .ok (.aload_n 0, 1) := by decide +kernel
theorem dX11_isE_19 : decode cX11_isE 19 = .ok (.invokevirtual 193, 3) := by decide +kernel
theorem dX11_isE_22 : decode cX11_isE 22 = .ok (.ifCond .ne 5, 3) := by decide +kernel
theorem dX11_isE_25 : decode cX11_isE 25 = .ok (.iconst 0, 1) := by decide +kernel
theorem dX11_isE_26 : decode cX11_isE 26 = .ok (.ireturn, 1) := by decide +kernel
theorem dX11_isE_27 : decode cX11_isE 27 = .ok (.aload_n 0, 1) := by decide +kernel
theorem dX11_isE_28 : decode cX11_isE 28 = .ok (.bipush 6, 2) := by decide +kernel
theorem dX11_isE_30 : decode cX11_isE 30 = .ok (.invokevirtual 165, 3) := by decide +kernel
theorem dX11_isE_33 : decode cX11_isE 33 = .ok (.pop, 1) := by decide +kernel
theorem dX11_isE_34 : decode cX11_isE 34 = .ok (.goto (-25), 3) := by decide +kernel
theorem dX11_isE_37 : decode cX11_isE 37 = .ok (.iconst 1, 1) := by decide +kernel
theorem dX11_isE_38 : decode cX11_isE 38 = .ok (.ireturn, 1) := by decide +kernel
theorem dX11_isLine_0 : decode cX11_isLine 0 = .ok (.aload_n 0, 1) := by decide +kernel
theorem dX11_isLine_1 : decode cX11_isLine 1 = .ok (.getfield 39, 3) := by decide +kernel
theorem dX11_isLine_4 : decode cX11_isLine 4 = .ok (.aload_n 0, 1) := by decide +kernel
theorem dX11_isLine_5 : decode cX11_isLine 5 = .ok (.getfield 196, 3) := by decide +kernel
theorem dX11_isLine_8 : decode cX11_isLine 8 = .ok (.aload_n 0, 1) := by decide +kernel
theorem dX11_isLine_9 : decode cX11_isLine 9 = .ok (.getfield 158, 3) := by decide +kernel
theorem dX11_isLine_12 : decode cX11_isLine 12 = .ok (.iastore, 1) := by decide +kernel
theorem dX11_isLine_13 : decode cX11_isLine 13 = .ok (.aload_n 0, 1) := by decide +kernel
theorem dX11_isLine_14 : decode cX11_isLine 14 = .ok (.invokevirtual 181, 3) := by decide +kernel
theorem dX11_isLine_17 : decode cX11_isLine 17 = .ok (.ifCond .ne 5, 3) := by decide +kernel
theorem dX11_isLine_20 : decode cX11_isLine 20 = .ok (.iconst 0, 1) := by decide +kernel
theorem dX11_isLine_21 : decode cX11_isLine 21 = .ok (.ireturn, 1) := by decide +kernel
theorem dX11_isLine_22 : decode cX11_isLine 22 = .ok (.aload_n 0, 1) := by decide +kernel
theorem dX11_isLine_23 : decode cX11_isLine 23 = .ok (.getfield 42, 3) := by decide +kernel
theorem dX11_isLine_26 : decode cX11_isLine 26 = .ok (.aload_n 0, 1) := by decide +kernel
theorem dX11_isLine_27 : decode cX11_isLine 27 = .ok (.getfield 196, 3) := by decide +kernel
theorem dX11_isLine_30 : decode cX11_isLine 30 = .ok (.aload_n 0, 1) := by decide +kernel
theorem dX11_isLine_31 : decode cX11_isLine 31 = .ok (.getfield 39, 3) := by decide +kernel
theorem dX11_isLine_34 : decode cX11_isLine 34 = .ok (.aload_n 0, 1) := by decide +kernel
theorem dX11_isLine_35 : decode cX11_isLine 35 = .ok (.getfield 196, 3) := by decide +kernel
theorem dX11_isLine_38 : decode cX11_isLine 38 = .ok (.iaload, 1) := by decide +kernel
theorem dX11_isLine_39 : decode cX11_isLine 39 = .ok (.iastore, 1) := by decide +kernel
theorem dX11_isLine_40 : decode cX11_isLine 40 = .ok (.aload_n 0, 1) := by decide +kernel
theorem dX11_isLine_41 : decode cX11_isLine 41 = .ok (.bipush 63, 2) := by decide +kernel
theorem dX11_isLine_43 : decode cX11_isLine 43 = .ok (.invokevirtual 175, 3) := by decide +kernel
theorem dX11_isLine_46 : decode cX11_isLine 46 = .ok (.ifCond .eq 25, 3) := by decide +kernel
theorem dX11_isLine_49 : decode cX11_isLine 49 = .ok (.aload_n 0, 1) := by decide +kernel
theorem dX11_isLine_50 : decode cX11_isLine 50 = .ok (.getfield 42, 3) := by decide +kernel
theorem dX11_isLine_53 : decode cX11_isLine 53 = .ok (.aload_n 0, 1) := by decide +kernel
theorem dX11_isLine_54 : decode cX11_isLine 54 = .ok (.getfield 196, 3) := by decide +kernel
theorem dX11_isLine_57 : decode cX11_isLine 57 = .ok (.aload_n 0, 1) := by decide +kernel
theorem dX11_isLine_58 : decode cX11_isLine 58 = .ok (.getfield 158, 3) := by decide +kernel
theorem dX11_isLine_61 : decode cX11_isLine 61 = .ok (.iastore, 1) := by decide +kernel
theorem dX11_isLine_62 : decode cX11_isLine 62 = .ok (.aload_n 0, 1) := by decide +kernel
theorem dX11_isLine_63 : decode cX11_isLine 63 = .ok (.invokevirtual 181, 3) := by decide +kernel
theorem dX11_isLine_66 : decode cX11_isLine 66 = .ok (.ifCond .ne 5, 3) := by decide +kernel
theorem dX11_isLine_69 : decode cX11_isLine 69 = .ok (.iconst 0, 1) := by decide +kernel
theorem dX11_isLine_70 : decode cX11_isLine 70 = .ok (.ireturn, 1) := by decide +kernel
theorem dX11_isLine_71 : decode cX11_isLine 71 = .ok (.aload_n 0, 1) := by decide +kernel
theorem dX11_isLine_72 : decode cX11_isLine 72 = .ok (.getfield 45, 3) := by decide +kernel
theorem dX11_isLine_75 : decode cX11_isLine 75 = .ok (.aload_n 0, 1) := by decide +kernel
theorem dX11_isLine_76 : decode cX11_isLine 76 = .ok (.dup, 1) := by decide +kernel
theorem dX11_isLine_77 : decode cX11_isLine 77 = .ok (.getfield 196, 3) := by decide +kernel
theorem dX11_isLine_80 : decode cX11_isLine 80 = .ok (.dup_x1, 1) := by decide +kernel
theorem dX11_isLine_81 : decode cX11_isLine 81 = .ok (.iconst 1, 1) := by decide +kernel
theorem dX11_isLine_82 : decode cX11_isLine 82 = .ok (.iadd, 1) := by decide +kernel
theorem dX11_isLine_83 : decode cX11_isLine 83 = .ok (.putfield 196, 3) := by decide +kernel
theorem dX11_isLine_86 : decode cX11_isLine 86 = .ok (.aload_n 0, 1) := by decide +kernel
theorem dX11_isLine_87 : decode cX11_isLine 87 = .ok (.getfield 158, 3) := by decide +kernel
theorem dX11_isLine_90 : decode cX11_isLine 90 = .ok (.iastore, 1) := by decide +kernel
theorem dX11_isLine_91 : decode cX11_isLine 91 = .ok (.iconst 1, 1) := by decide +kernel
theorem dX11_isLine_92 : decode cX11_isLine 92 = .ok (.ireturn, 1) := by decide +kernel
theorem dX11_law_0 : decode cX11_law 0 = .ok (.aload_n 0, 1) := by decide +kernel
theorem dX11_law_1 : decode cX11_law 1 = .ok (.iconst 0, 1) := by decide +kernel
theorem dX11_law_2 : decode cX11_law 2 = .ok (.putfield 151, 3) := by decide +kernel
theorem dX11_law_5 : decode cX11_law 5 = .ok (.aload_n 0, 1) := by decide +kernel
theorem dX11_law_6 : decode cX11_law 6 = .ok (.iconst 0, 1) := by decide +kernel
theorem dX11_law_7 : decode cX11_law 7 = .ok (.putfield 172, 3) := by decide +kernel
theorem dX11_law_10 : decode cX11_law 10 = .ok (.aload_n 0, 1) := by decide +kernel
theorem dX11_law_11 : decode cX11_law 11 = .ok (.iconst 0, 1) := by decide +kernel
theorem dX11_law_12 : decode cX11_law 12 = .ok (.putfield 158, 3) := by decide +kernel
theorem dX11_law_15 : decode cX11_law 15 = .ok (.aload_n 0, 1) := by decide +kernel
theorem dX11_law_16 : decode cX11_law 16 = .ok (.iconst 0, 1) := by decide +kernel
theorem dX11_law_17 : decode cX11_law 17 = .ok (.putfield 196, 3) := by decide +kernel
theorem dX11_law_20 : decode cX11_law 20 = .ok (.aload_n 0, 1) := by decide +kernel
theorem dX11_law_21 : decode cX11_law 21 = .ok (.invokevirtual 199, 3) := by decide +kernel
theorem dX11_law_24 : decode cX11_law 24 = .ok (.istore_n 1, 1) := by decide +kernel
theorem dX11_law_25 : decode cX11_law 25 = .ok (.iload_n 1, 1) := by decide +kernel
theorem dX11_law_26 : decode cX11_law 26 = .ok (.ifCond .eq 20, 3) := by decide +kernel
theorem dX11_law_29 : decode cX11_law 29 = .ok (.aload_n 0, 1) := by decide +kernel
theorem dX11_law_30 : decode cX11_law 30 = .ok (.bipush 59, 2) := by decide +kernel
theorem dX11_law_32 : decode cX11_law 32 = .ok (.invokevirtual 175, 3) := by decide +kernel
theorem dX11_law_35 : decode cX11_law 35 = .ok (.ifCond .eq 11, 3) := by decide +kernel
theorem dX11_law_38 : decode cX11_law 38 = .ok (.aload_n 0, 1) := by decide +kernel
theorem dX11_law_39 : decode cX11_law 39 = .ok (.invokevirtual 199, 3) := by decide +kernel
theorem dX11_law_42 : decode cX11_law 42 = .ok (.istore_n 1, 1) := by decide +kernel
theorem dX11_law_43 : decode cX11_law 43 = .ok (.goto (-18), 3) := by decide +kernel
theorem dX11_law_46 : decode cX11_law 46 = .ok (.iload_n 1, 1) := by decide +kernel
theorem dX11_law_47 : decode cX11_law 47 = .ok (.ifCond .eq 18, 3) := by decide +kernel
theorem dX11_law_50 : decode cX11_law 50 = .ok (.aload_n 0, 1) := by decide +kernel
theorem dX11_law_51 : decode cX11_law 51 = .ok (.getfield 151, 3) := by decide +kernel
theorem dX11_law_54 : decode cX11_law 54 = .ok (.aload_n 0, 1) := by decide +kernel
theorem dX11_law_55 : decode cX11_law 55 = .ok (.getfield 148, 3) := by decide +kernel
theorem dX11_law_58 : decode cX11_law 58 = .ok (.if_icmp .ne 7, 3) := by decide +kernel
theorem dX11_law_61 : decode cX11_law 61 = .ok (.iconst 1, 1) := by decide +kernel
theorem dX11_law_62 : decode cX11_law 62 = .ok (.goto 4, 3) := by decide +kernel
theorem dX11_law_65 : decode cX11_law 65 = .ok (.iconst 0, 1) := by decide +kernel
theorem dX11_law_66 : decode cX11_law 66 = .ok (.istore_n 2, 1) := by decide +kernel
theorem dX11_law_67 : decode cX11_law 67 = .ok (.aload_n 0, 1) := by decide +kernel
theorem dX11_law_68 : decode cX11_law 68 = .ok (.iconst 0, 1) := by decide +kernel
theorem dX11_law_69 : decode cX11_law 69 = .ok (.putfield 148, 3) := by decide +kernel
theorem dX11_law_72 : decode cX11_law 72 = .ok (.iload_n 2, 1) := by decide +kernel
theorem dX11_law_73 : decode cX11_law 73 = .ok (.ifCond .ne 11, 3) := by decide +kernel
theorem dX11_law_76 : decode cX11_law 76 = .ok (.bipush (-100), 2) := by decide +kernel
theorem dX11_law_78 : decode cX11_law 78 = .ok (.aload_n 0, 1) := by decide +kernel
theorem dX11_law_79 : decode cX11_law 79 = .ok (.getfield 151, 3) := by decide +kernel
theorem dX11_law_82 : decode cX11_law 82 = .ok (.isub, 1) := by decide +kernel
theorem dX11_law_83 : decode cX11_law 83 = .ok (.ireturn, 1) := by decide +kernel
theorem dX11_law_84 : decode cX11_law 84 = .ok (.aload_n 0, 1) := by decide +kernel
theorem dX11_law_85 : decode cX11_law 85 = .ok (.iconst 1, 1) := by decide +kernel
theorem dX11_law_86 : decode cX11_law 86 = .ok (.putfield 202, 3) := by decide +kernel
theorem dX11_law_89 : decode cX11_law 89 = .ok (.aload_n 0, 1) := by decide +kernel
theorem dX11_law_90 : decode cX11_law 90 = .ok (.aload_n 0, 1) := by decide +kernel
theorem dX11_law_91 : decode cX11_law 91 = .ok (.getfield 196, 3) := by decide +kernel
theorem dX11_law_94 : decode cX11_law 94 = .ok (.putfield 206, 3) := by decide +kernel
theorem dX11_law_97 : decode cX11_law 97 = .ok (.iconst 0, 1) := by decide +kernel
theorem dX11_law_98 : decode cX11_law 98 = .ok (.istore_n 3, 1) := by decide +kernel
theorem dX11_law_99 : decode cX11_law 99 = .ok (.iload_n 3, 1) := by decide +kernel
theorem dX11_law_100 : decode cX11_law 100 = .ok (.aload_n 0, 1) := by decide +kernel
theorem dX11_law_101 : decode cX11_law 101 = .ok (.getfield 206, 3) := by decide +kernel
theorem dX11_law_104 : decode cX11_law 104 = .ok (.if_icmp .ge 45, 3) := by decide +kernel
theorem dX11_law_107 : decode cX11_law 107 = .ok (.aload_n 0, 1) := by decide +kernel
theorem dX11_law_108 : decode cX11_law 108 = .ok (.getfield 27, 3) := by decide +kernel
theorem dX11_law_111 : decode cX11_law 111 = .ok (.iload_n 3, 1) := by decide +kernel
theorem dX11_law_112 : decode cX11_law 112 = .ok (.aload_n 0, 1) := by decide +kernel
theorem dX11_law_113 : decode cX11_law 113 = .ok (.getfield 39, 3) := by decide +kernel
theorem dX11_law_116 : decode cX11_law 116 = .ok (.iload_n 3, 1) := by decide +kernel
theorem dX11_law_117 : decode cX11_law 117 = .ok (.iaload, 1) := by decide +kernel
theorem dX11_law_118 : decode cX11_law 118 = .ok (.iastore, 1) := by decide +kernel
theorem dX11_law_119 : decode cX11_law 119 = .ok (.aload_n 0, 1) := by decide +kernel
theorem dX11_law_120 : decode cX11_law 120 = .ok (.getfield 30, 3) := by decide +kernel
theorem dX11_law_123 : decode cX11_law 123 = .ok (.iload_n 3, 1) := by decide +kernel
theorem dX11_law_124 : decode cX11_law 124 = .ok (.aload_n 0, 1) := by decide +kernel
theorem dX11_law_125 : decode cX11_law 125 = .ok (.getfield 42, 3) := by decide +kernel
theorem dX11_law_128 : decode cX11_law 128 = .ok (.iload_n 3, 1) := by decide +kernel
theorem dX11_law_129 : decode cX11_law 129 = .ok (.iaload, 1) := by decide +kernel
theorem dX11_law_130 : decode cX11_law 130 = .ok (.iastore, 1) := by decide +kernel
theorem dX11_law_131 : decode cX11_law 131 = .ok (.aload_n 0, 1) := by decide +kernel
theorem dX11_law_132 : decode cX11_law 132 = .ok (.getfield 33, 3) := by decide +kernel
theorem dX11_law_135 : decode cX11_law 135 = .ok (.iload_n 3, 1) := by decide +kernel
theorem dX11_law_136 : decode cX11_law 136 = .ok (.aload_n 0, 1) := by decide +kernel
theorem dX11_law_137 : decode cX11_law 137 = .ok (.getfield 45, 3) := by decide +kernel
theorem dX11_law_140 : decode cX11_law 140 = .ok (.iload_n 3, 1) := by decide +kernel
theorem dX11_law_141 : decode cX11_law 141 = .ok (.iaload, 1) := by decide +kernel
theorem dX11_law_142 : decode cX11_law 142 = .ok (.iastore, 1) := by decide +kernel
theorem dX11_law_143 : decode cX11_law 143 = .ok (.iinc 3 1, 3) := by decide +kernel
theorem dX11_law_146 : decode cX11_law 146 = .ok (.goto (-47), 3) := by decide +kernel
theorem dX11_law_149 : decode cX11_law 149 = .ok (.iconst 0, 1) := by decide +kernel
theorem dX11_law_150 : decode cX11_law 150 = .ok (.istore_n 3, 1) := by decide +kernel
theorem dX11_law_151 : decode cX11_law 151 = .ok (.iload_n 3, 1) := by decide +kernel
theorem dX11_law_152 : decode cX11_law 152 = .ok (.aload_n 0, 1) := by decide +kernel
theorem dX11_law_153 : decode cX11_law 153 = .ok (.getfield 158, 3) := by decide +kernel
theorem dX11_law_156 : decode cX11_law 156 = .ok (.if_icmp .ge 21, 3) := by decide +kernel
theorem dX11_law_159 : decode cX11_law 159 = .ok (.aload_n 0, 1) := by decide +kernel
theorem dX11_law_160 : decode cX11_law 160 = .ok (.getfield 36, 3) := by decide +kernel
theorem dX11_law_163 : decode cX11_law 163 = .ok (.iload_n 3, 1) := by decide +kernel
theorem dX11_law_164 : decode cX11_law 164 = .ok (.aload_n 0, 1) := by decide +kernel
theorem dX11_law_165 : decode cX11_law 165 = .ok (.getfield 48, 3) := by decide +kernel
theorem dX11_law_168 : decode cX11_law 168 = .ok (.iload_n 3, 1) := by decide +kernel
theorem dX11_law_169 : decode cX11_law 169 = .ok (.iaload, 1) := by decide +kernel
theorem dX11_law_170 : decode cX11_law 170 = .ok (.iastore, 1) := by decide +kernel
theorem dX11_law_171 : decode cX11_law 171 = .ok (.iinc 3 1, 3) := by decide +kernel
theorem dX11_law_174 : decode cX11_law 174 = .ok (.goto (-23), 3) := by decide +kernel
theorem dX11_law_177 : decode cX11_law 177 = .ok (.iconst 1, 1) := by decide +kernel
theorem dX11_law_178 : decode cX11_law 178 = .ok (.ireturn, 1) := by decide +kernel
theorem dX11_both_0 : decode cX11_both 0 = .ok (.iload_n 0, 1) := by decide +kernel
theorem dX11_both_1 : decode cX11_both 1 = .ok (.tableswitch 136 6 14 #[51, 65, 79, 90, 101, 112, 116, 120, 124], 51) := by decide +kernel
theorem dX11_both_52 : decode cX11_both 52 = .ok (.iload_n 1, 1) := by decide +kernel
theorem dX11_both_53 : decode cX11_both 53 = .ok (.ifCond .ne 7, 3) := by decide +kernel
theorem dX11_both_56 : decode cX11_both 56 = .ok (.iload_n 2, 1) := by decide +kernel
theorem dX11_both_57 : decode cX11_both 57 = .ok (.ifCond .eq 7, 3) := by decide +kernel
theorem dX11_both_60 : decode cX11_both 60 = .ok (.iconst 1, 1) := by decide +kernel
theorem dX11_both_61 : decode cX11_both 61 = .ok (.goto 4, 3) := by decide +kernel
theorem dX11_both_64 : decode cX11_both 64 = .ok (.iconst 0, 1) := by decide +kernel
theorem dX11_both_65 : decode cX11_both 65 = .ok (.ireturn, 1) := by decide +kernel
theorem dX11_both_66 : decode cX11_both 66 = .ok (.iload_n 1, 1) := by decide +kernel
theorem dX11_both_67 : decode cX11_both 67 = .ok (.ifCond .eq 11, 3) := by decide +kernel
theorem dX11_both_70 : decode cX11_both 70 = .ok (.iload_n 2, 1) := by decide +kernel
theorem dX11_both_71 : decode cX11_both 71 = .ok (.ifCond .eq 7, 3) := by decide +kernel
theorem dX11_both_74 : decode cX11_both 74 = .ok (.iconst 1, 1) := by decide +kernel
theorem dX11_both_75 : decode cX11_both 75 = .ok (.goto 4, 3) := by decide +kernel
theorem dX11_both_78 : decode cX11_both 78 = .ok (.iconst 0, 1) := by decide +kernel
theorem dX11_both_79 : decode cX11_both 79 = .ok (.ireturn, 1) := by decide +kernel
theorem dX11_both_80 : decode cX11_both 80 = .ok (.iload_n 1, 1) := by decide +kernel
theorem dX11_both_81 : decode cX11_both 81 = .ok (.iload_n 2, 1) := by decide +kernel
theorem dX11_both_82 : decode cX11_both 82 = .ok (.if_icmp .ge 7, 3) := by decide +kernel
theorem dX11_both_85 : decode cX11_both 85 = .ok (.iconst 1, 1) := by decide +kernel
theorem dX11_both_86 : decode cX11_both 86 = .ok (.goto 4, 3) := by decide +kernel
theorem dX11_both_89 : decode cX11_both 89 = .ok (.iconst 0, 1) := by decide +kernel
theorem dX11_both_90 : decode cX11_both 90 = .ok (.ireturn, 1) := by decide +kernel
theorem dX11_both_91 : decode cX11_both 91 = .ok (.iload_n 1, 1) := by decide +kernel
theorem dX11_both_92 : decode cX11_both 92 = .ok (.iload_n 2, 1) := by decide +kernel
theorem dX11_both_93 : decode cX11_both 93 = .ok (.if_icmp .ne 7, 3) := by decide +kernel
theorem dX11_both_96 : decode cX11_both 96 = .ok (.iconst 1, 1) := by decide +kernel
theorem dX11_both_97 : decode cX11_both 97 = .ok (.goto 4, 3) := by decide +kernel
theorem dX11_both_100 : decode cX11_both 100 = .ok (.iconst 0, 1) := by decide +kernel
theorem dX11_both_101 : decode cX11_both 101 = .ok (.ireturn, 1) := by decide +kernel
theorem dX11_both_102 : decode cX11_both 102 = .ok (.iload_n 1, 1) := by decide +kernel
theorem dX11_both_103 : decode cX11_both 103 = .ok (.iload_n 2, 1) := by decide +kernel
theorem dX11_both_104 : decode cX11_both 104 = .ok (.if_icmp .le 7, 3) := by decide +kernel
theorem dX11_both_107 : decode cX11_both 107 = .ok (.iconst 1, 1) := by decide +kernel
theorem dX11_both_108 : decode cX11_both 108 = .ok (.goto 4, 3) := by decide +kernel
theorem dX11_both_111 : decode cX11_both 111 = .ok (.iconst 0, 1) := by decide +kernel
theorem dX11_both_112 : decode cX11_both 112 = .ok (.ireturn, 1) := by decide +kernel
theorem dX11_both_113 : decode cX11_both 113 = .ok (.iload_n 1, 1) := by decide +kernel
theorem dX11_both_114 : decode cX11_both 114 = .ok (.iload_n 2, 1) := by decide +kernel
theorem dX11_both_115 : decode cX11_both 115 = .ok (.iadd, 1) := by decide +kernel
theorem dX11_both_116 : decode cX11_both 116 = .ok (.ireturn, 1) := by decide +kernel
theorem dX11_both_117 : decode cX11_both 117 = .ok (.iload_n 1, 1) := by decide +kernel
theorem dX11_both_118 : decode cX11_both 118 = .ok (.iload_n 2, 1) := by decide +kernel
theorem dX11_both_119 : decode cX11_both 119 = .ok (.isub, 1) := by decide +kernel
theorem dX11_both_120 : decode cX11_both 120 = .ok (.ireturn, 1) := by decide +kernel
theorem dX11_both_121 : decode cX11_both 121 = .ok (.iload_n 1, 1) := by decide +kernel
theorem dX11_both_122 : decode cX11_both 122 = .ok (.iload_n 2, 1) := by decide +kernel
theorem dX11_both_123 : decode cX11_both 123 = .ok (.imul, 1) := by decide +kernel
theorem dX11_both_124 : decode cX11_both 124 = .ok (.ireturn, 1) := by decide +kernel
theorem dX11_both_125 : decode cX11_both 125 = .ok (.iload_n 2, 1) := by decide +kernel
theorem dX11_both_126 : decode cX11_both 126 = .ok (.ifCond .ne 7, 3) := by decide +kernel
theorem dX11_both_129 : decode cX11_both 129 = .ok (.iconst 0, 1) := by decide +kernel
theorem dX11_both_130 : decode cX11_both 130 = .ok (.goto 6, 3) := by decide +kernel
theorem dX11_both_133 : decode cX11_both 133 = .ok (.iload_n 1, 1) := by decide +kernel
theorem dX11_both_134 : decode cX11_both 134 = .ok (.iload_n 2, 1) := by decide +kernel
theorem dX11_both_135 : decode cX11_both 135 = .ok (.idiv, 1) := by decide +kernel
theorem dX11_both_136 : decode cX11_both 136 = .ok (.ireturn, 1) := by decide +kernel
theorem dX11_both_137 : decode cX11_both 137 = .ok (.iload_n 2, 1) := by decide +kernel
theorem dX11_both_138 : decode cX11_both 138 = .ok (.ifCond .ne 7, 3) := by decide +kernel
theorem dX11_both_141 : decode cX11_both 141 = .ok (.iconst 0, 1) := by decide +kernel
theorem dX11_both_142 : decode cX11_both 142 = .ok (.goto 6, 3) := by decide +kernel
theorem dX11_both_145 : decode cX11_both 145 = .ok (.iload_n 1, 1) := by decide +kernel
theorem dX11_both_146 : decode cX11_both 146 = .ok (.iload_n 2, 1) := by decide +kernel
theorem dX11_both_147 : decode cX11_both 147 = .ok (.irem, 1) := by decide +kernel
theorem dX11_both_148 : decode cX11_both 148 = .ok (.ireturn, 1) := by decide +kernel
theorem dX11_worked_0 : decode cX11_worked 0 = .ok (.iconst 0, 1) := by decide +kernel
theorem dX11_worked_1 : decode cX11_worked 1 = .ok (.istore_n 3, 1) := by decide +kernel
theorem dX11_worked_2 : decode cX11_worked 2 = .ok (.iload_n 1, 1) := by decide +kernel
theorem dX11_worked_3 : decode cX11_worked 3 = .ok (.istore 4, 2) := by decide +kernel
theorem dX11_worked_5 : decode cX11_worked 5 = .ok (.iload 4, 2) := by decide +kernel
theorem dX11_worked_7 : decode cX11_worked 7 = .ok (.iload_n 2, 1) := by decide +kernel
theorem dX11_worked_8 : decode cX11_worked 8 = .ok (.if_icmp .ge 155, 3) := by decide +kernel
theorem dX11_worked_11 : decode cX11_worked 11 = .ok (.aload_n 0, 1) := by decide +kernel
theorem dX11_worked_12 : decode cX11_worked 12 = .ok (.getfield 36, 3) := by decide +kernel
theorem dX11_worked_15 : decode cX11_worked 15 = .ok (.iload 4, 2) := by decide +kernel
theorem dX11_worked_17 : decode cX11_worked 17 = .ok (.iaload, 1) := by decide +kernel
theorem dX11_worked_18 : decode cX11_worked 18 = .ok (.istore 5, 2) := by decide +kernel
theorem dX11_worked_20 : decode cX11_worked 20 = .ok (.iload 5, 2) := by decide +kernel
theorem dX11_worked_22 : decode cX11_worked 22 = .ok (.bipush 18, 2) := by decide +kernel
theorem dX11_worked_24 : decode cX11_worked 24 = .ok (.if_icmp .ge 9, 3) := by decide +kernel
theorem dX11_worked_27 : decode cX11_worked 27 = .ok (.iload 5, 2) := by decide +kernel
theorem dX11_worked_29 : decode cX11_worked 29 = .ok (.iconst 5, 1) := by decide +kernel
theorem dX11_worked_30 : decode cX11_worked 30 = .ok (.if_icmp .gt 37, 3) := by decide +kernel
theorem dX11_worked_33 : decode cX11_worked 33 = .ok (.aload_n 0, 1) := by decide +kernel
theorem dX11_worked_34 : decode cX11_worked 34 = .ok (.getfield 51, 3) := by decide +kernel
theorem dX11_worked_37 : decode cX11_worked 37 = .ok (.iload_n 3, 1) := by decide +kernel
theorem dX11_worked_38 : decode cX11_worked 38 = .ok (.iinc 3 1, 3) := by decide +kernel
theorem dX11_worked_41 : decode cX11_worked 41 = .ok (.iload 5, 2) := by decide +kernel
theorem dX11_worked_43 : decode cX11_worked 43 = .ok (.bipush 18, 2) := by decide +kernel
theorem dX11_worked_45 : decode cX11_worked 45 = .ok (.if_icmp .lt 11, 3) := by decide +kernel
theorem dX11_worked_48 : decode cX11_worked 48 = .ok (.iload 5, 2) := by decide +kernel
theorem dX11_worked_50 : decode cX11_worked 50 = .ok (.bipush 18, 2) := by decide +kernel
theorem dX11_worked_52 : decode cX11_worked 52 = .ok (.isub, 1) := by decide +kernel
theorem dX11_worked_53 : decode cX11_worked 53 = .ok (.goto 10, 3) := by decide +kernel
theorem dX11_worked_56 : decode cX11_worked 56 = .ok (.aload_n 0, 1) := by decide +kernel
theorem dX11_worked_57 : decode cX11_worked 57 = .ok (.getfield 54, 3) := by decide +kernel
theorem dX11_worked_60 : decode cX11_worked 60 = .ok (.iload 5, 2) := by decide +kernel
theorem dX11_worked_62 : decode cX11_worked 62 = .ok (.iaload, 1) := by decide +kernel
theorem dX11_worked_63 : decode cX11_worked 63 = .ok (.iastore, 1) := by decide +kernel
theorem dX11_worked_64 : decode cX11_worked 64 = .ok (.goto 93, 3) := by decide +kernel
theorem dX11_worked_67 : decode cX11_worked 67 = .ok (.iload 5, 2) := by decide +kernel
theorem dX11_worked_69 : decode cX11_worked 69 = .ok (.bipush 16, 2) := by decide +kernel
theorem dX11_worked_71 : decode cX11_worked 71 = .ok (.if_icmp .eq 10, 3) := by decide +kernel
theorem dX11_worked_74 : decode cX11_worked 74 = .ok (.iload 5, 2) := by decide +kernel
theorem dX11_worked_76 : decode cX11_worked 76 = .ok (.bipush 17, 2) := by decide +kernel
theorem dX11_worked_78 : decode cX11_worked 78 = .ok (.if_icmp .ne 49, 3) := by decide +kernel
theorem dX11_worked_81 : decode cX11_worked 81 = .ok (.aload_n 0, 1) := by decide +kernel
theorem dX11_worked_82 : decode cX11_worked 82 = .ok (.getfield 51, 3) := by decide +kernel
theorem dX11_worked_85 : decode cX11_worked 85 = .ok (.iload_n 3, 1) := by decide +kernel
theorem dX11_worked_86 : decode cX11_worked 86 = .ok (.iconst 1, 1) := by decide +kernel
theorem dX11_worked_87 : decode cX11_worked 87 = .ok (.isub, 1) := by decide +kernel
theorem dX11_worked_88 : decode cX11_worked 88 = .ok (.iload 5, 2) := by decide +kernel
theorem dX11_worked_90 : decode cX11_worked 90 = .ok (.bipush 17, 2) := by decide +kernel
theorem dX11_worked_92 : decode cX11_worked 92 = .ok (.if_icmp .ne 15, 3) := by decide +kernel
theorem dX11_worked_95 : decode cX11_worked 95 = .ok (.aload_n 0, 1) := by decide +kernel
theorem dX11_worked_96 : decode cX11_worked 96 = .ok (.getfield 51, 3) := by decide +kernel
theorem dX11_worked_99 : decode cX11_worked 99 = .ok (.iload_n 3, 1) := by decide +kernel
theorem dX11_worked_100 : decode cX11_worked 100 = .ok (.iconst 1, 1) := by decide +kernel
theorem dX11_worked_101 : decode cX11_worked 101 = .ok (.isub, 1) := by decide +kernel
theorem dX11_worked_102 : decode cX11_worked 102 = .ok (.iaload, 1) := by decide +kernel
theorem dX11_worked_103 : decode cX11_worked 103 = .ok (.ineg, 1) := by decide +kernel
theorem dX11_worked_104 : decode cX11_worked 104 = .ok (.goto 19, 3) := by decide +kernel
theorem dX11_worked_107 : decode cX11_worked 107 = .ok (.aload_n 0, 1) := by decide +kernel
theorem dX11_worked_108 : decode cX11_worked 108 = .ok (.getfield 51, 3) := by decide +kernel
theorem dX11_worked_111 : decode cX11_worked 111 = .ok (.iload_n 3, 1) := by decide +kernel
theorem dX11_worked_112 : decode cX11_worked 112 = .ok (.iconst 1, 1) := by decide +kernel
theorem dX11_worked_113 : decode cX11_worked 113 = .ok (.isub, 1) := by decide +kernel
theorem dX11_worked_114 : decode cX11_worked 114 = .ok (.iaload, 1) := by decide +kernel
theorem dX11_worked_115 : decode cX11_worked 115 = .ok (.ifCond .ne 7, 3) := by decide +kernel
theorem dX11_worked_118 : decode cX11_worked 118 = .ok (.iconst 1, 1) := by decide +kernel
theorem dX11_worked_119 : decode cX11_worked 119 = .ok (.goto 4, 3) := by decide +kernel
theorem dX11_worked_122 : decode cX11_worked 122 = .ok (.iconst 0, 1) := by decide +kernel
theorem dX11_worked_123 : decode cX11_worked 123 = .ok (.iastore, 1) := by decide +kernel
theorem dX11_worked_124 : decode cX11_worked 124 = .ok (.goto 33, 3) := by decide +kernel
theorem dX11_worked_127 : decode cX11_worked 127 = .ok (.iinc 3 (-1), 3) := by decide +kernel
theorem dX11_worked_130 : decode cX11_worked 130 = .ok (.aload_n 0, 1) := by decide +kernel
theorem dX11_worked_131 : decode cX11_worked 131 = .ok (.getfield 51, 3) := by decide +kernel
theorem dX11_worked_134 : decode cX11_worked 134 = .ok (.iload_n 3, 1) := by decide +kernel
theorem dX11_worked_135 : decode cX11_worked 135 = .ok (.iconst 1, 1) := by decide +kernel
theorem dX11_worked_136 : decode cX11_worked 136 = .ok (.isub, 1) := by decide +kernel
theorem dX11_worked_137 : decode cX11_worked 137 = .ok (.iload 5, 2) := by decide +kernel
theorem dX11_worked_139 : decode cX11_worked 139 = .ok (.aload_n 0, 1) := by decide +kernel
theorem dX11_worked_140 : decode cX11_worked 140 = .ok (.getfield 51, 3) := by decide +kernel
theorem dX11_worked_143 : decode cX11_worked 143 = .ok (.iload_n 3, 1) := by decide +kernel
theorem dX11_worked_144 : decode cX11_worked 144 = .ok (.iconst 1, 1) := by decide +kernel
theorem dX11_worked_145 : decode cX11_worked 145 = .ok (.isub, 1) := by decide +kernel
theorem dX11_worked_146 : decode cX11_worked 146 = .ok (.iaload, 1) := by decide +kernel
theorem dX11_worked_147 : decode cX11_worked 147 = .ok (.aload_n 0, 1) := by decide +kernel
theorem dX11_worked_148 : decode cX11_worked 148 = .ok (.getfield 51, 3) := by decide +kernel
theorem dX11_worked_151 : decode cX11_worked 151 = .ok (.iload_n 3, 1) := by decide +kernel
theorem dX11_worked_152 : decode cX11_worked 152 = .ok (.iaload, 1) := by decide +kernel
theorem dX11_worked_153 : decode cX11_worked 153 = .ok (.invokestatic 209, 3) := by decide +kernel
theorem dX11_worked_156 : decode cX11_worked 156 = .ok (.iastore, 1) := by decide +kernel
theorem dX11_worked_157 : decode cX11_worked 157 = .ok (.iinc 4 1, 3) := by decide +kernel
theorem dX11_worked_160 : decode cX11_worked 160 = .ok (.goto (-155), 3) := by decide +kernel
theorem dX11_worked_163 : decode cX11_worked 163 = .ok (.aload_n 0, 1) := by decide +kernel
theorem dX11_worked_164 : decode cX11_worked 164 = .ok (.getfield 51, 3) := by decide +kernel
theorem dX11_worked_167 : decode cX11_worked 167 = .ok (.iconst 0, 1) := by decide +kernel
theorem dX11_worked_168 : decode cX11_worked 168 = .ok (.iaload, 1) := by decide +kernel
theorem dX11_worked_169 : decode cX11_worked 169 = .ok (.ireturn, 1) := by decide +kernel
theorem dX11_beside_0 : decode cX11_beside 0 = .ok (.iload_n 1, 1) := by decide +kernel
theorem dX11_beside_1 : decode cX11_beside 1 = .ok (.tableswitch 73 0 2 #[27, 42, 58], 27) := by decide +kernel
theorem dX11_beside_28 : decode cX11_beside 28 = .ok (.iload_n 0, 1) := by decide +kernel
theorem dX11_beside_29 : decode cX11_beside 29 = .ok (.bipush 6, 2) := by decide +kernel
theorem dX11_beside_31 : decode cX11_beside 31 = .ok (.if_icmp .ge 7, 3) := by decide +kernel
theorem dX11_beside_34 : decode cX11_beside 34 = .ok (.iconst (-1), 1) := by decide +kernel
theorem dX11_beside_35 : decode cX11_beside 35 = .ok (.goto 7, 3) := by decide +kernel
theorem dX11_beside_38 : decode cX11_beside 38 = .ok (.iload_n 0, 1) := by decide +kernel
theorem dX11_beside_39 : decode cX11_beside 39 = .ok (.bipush 6, 2) := by decide +kernel
theorem dX11_beside_41 : decode cX11_beside 41 = .ok (.isub, 1) := by decide +kernel
theorem dX11_beside_42 : decode cX11_beside 42 = .ok (.ireturn, 1) := by decide +kernel
theorem dX11_beside_43 : decode cX11_beside 43 = .ok (.iload_n 0, 1) := by decide +kernel
theorem dX11_beside_44 : decode cX11_beside 44 = .ok (.bipush 6, 2) := by decide +kernel
theorem dX11_beside_46 : decode cX11_beside 46 = .ok (.irem, 1) := by decide +kernel
theorem dX11_beside_47 : decode cX11_beside 47 = .ok (.iconst 5, 1) := by decide +kernel
theorem dX11_beside_48 : decode cX11_beside 48 = .ok (.if_icmp .ne 7, 3) := by decide +kernel
theorem dX11_beside_51 : decode cX11_beside 51 = .ok (.iconst (-1), 1) := by decide +kernel
theorem dX11_beside_52 : decode cX11_beside 52 = .ok (.goto 6, 3) := by decide +kernel
theorem dX11_beside_55 : decode cX11_beside 55 = .ok (.iload_n 0, 1) := by decide +kernel
theorem dX11_beside_56 : decode cX11_beside 56 = .ok (.iconst 1, 1) := by decide +kernel
theorem dX11_beside_57 : decode cX11_beside 57 = .ok (.iadd, 1) := by decide +kernel
theorem dX11_beside_58 : decode cX11_beside 58 = .ok (.ireturn, 1) := by decide +kernel
theorem dX11_beside_59 : decode cX11_beside 59 = .ok (.iload_n 0, 1) := by decide +kernel
theorem dX11_beside_60 : decode cX11_beside 60 = .ok (.bipush 30, 2) := by decide +kernel
theorem dX11_beside_62 : decode cX11_beside 62 = .ok (.if_icmp .lt 7, 3) := by decide +kernel
theorem dX11_beside_65 : decode cX11_beside 65 = .ok (.iconst (-1), 1) := by decide +kernel
theorem dX11_beside_66 : decode cX11_beside 66 = .ok (.goto 7, 3) := by decide +kernel
theorem dX11_beside_69 : decode cX11_beside 69 = .ok (.iload_n 0, 1) := by decide +kernel
theorem dX11_beside_70 : decode cX11_beside 70 = .ok (.bipush 6, 2) := by decide +kernel
theorem dX11_beside_72 : decode cX11_beside 72 = .ok (.iadd, 1) := by decide +kernel
theorem dX11_beside_73 : decode cX11_beside 73 = .ok (.ireturn, 1) := by decide +kernel
theorem dX11_beside_74 : decode cX11_beside 74 = .ok (.iload_n 0, 1) := by decide +kernel
theorem dX11_beside_75 : decode cX11_beside 75 = .ok (.bipush 6, 2) := by decide +kernel
theorem dX11_beside_77 : decode cX11_beside 77 = .ok (.irem, 1) := by decide +kernel
theorem dX11_beside_78 : decode cX11_beside 78 = .ok (.ifCond .ne 7, 3) := by decide +kernel
theorem dX11_beside_81 : decode cX11_beside 81 = .ok (.iconst (-1), 1) := by decide +kernel
theorem dX11_beside_82 : decode cX11_beside 82 = .ok (.goto 6, 3) := by decide +kernel
theorem dX11_beside_85 : decode cX11_beside 85 = .ok (.iload_n 0, 1) := by decide +kernel
theorem dX11_beside_86 : decode cX11_beside 86 = .ok (.iconst 1, 1) := by decide +kernel
theorem dX11_beside_87 : decode cX11_beside 87 = .ok (.isub, 1) := by decide +kernel
theorem dX11_beside_88 : decode cX11_beside 88 = .ok (.ireturn, 1) := by decide +kernel
theorem dX11_below_0 : decode cX11_below 0 = .ok (.iconst (-1), 1) := by decide +kernel
theorem dX11_below_1 : decode cX11_below 1 = .ok (.istore_n 2, 1) := by decide +kernel
theorem dX11_below_2 : decode cX11_below 2 = .ok (.iconst 0, 1) := by decide +kernel
theorem dX11_below_3 : decode cX11_below 3 = .ok (.istore_n 3, 1) := by decide +kernel
theorem dX11_below_4 : decode cX11_below 4 = .ok (.iload_n 3, 1) := by decide +kernel
theorem dX11_below_5 : decode cX11_below 5 = .ok (.iconst 4, 1) := by decide +kernel
theorem dX11_below_6 : decode cX11_below 6 = .ok (.if_icmp .ge 60, 3) := by decide +kernel
theorem dX11_below_9 : decode cX11_below 9 = .ok (.iload_n 1, 1) := by decide +kernel
theorem dX11_below_10 : decode cX11_below 10 = .ok (.iload_n 3, 1) := by decide +kernel
theorem dX11_below_11 : decode cX11_below 11 = .ok (.invokestatic 212, 3) := by decide +kernel
theorem dX11_below_14 : decode cX11_below 14 = .ok (.istore 4, 2) := by decide +kernel
theorem dX11_below_16 : decode cX11_below 16 = .ok (.iload 4, 2) := by decide +kernel
theorem dX11_below_18 : decode cX11_below 18 = .ok (.ifCond .lt 42, 3) := by decide +kernel
theorem dX11_below_21 : decode cX11_below 21 = .ok (.aload_n 0, 1) := by decide +kernel
theorem dX11_below_22 : decode cX11_below 22 = .ok (.getfield 9, 3) := by decide +kernel
theorem dX11_below_25 : decode cX11_below 25 = .ok (.iload 4, 2) := by decide +kernel
theorem dX11_below_27 : decode cX11_below 27 = .ok (.iaload, 1) := by decide +kernel
theorem dX11_below_28 : decode cX11_below 28 = .ok (.aload_n 0, 1) := by decide +kernel
theorem dX11_below_29 : decode cX11_below 29 = .ok (.getfield 9, 3) := by decide +kernel
theorem dX11_below_32 : decode cX11_below 32 = .ok (.iload_n 1, 1) := by decide +kernel
theorem dX11_below_33 : decode cX11_below 33 = .ok (.iaload, 1) := by decide +kernel
theorem dX11_below_34 : decode cX11_below 34 = .ok (.if_icmp .ge 26, 3) := by decide +kernel
theorem dX11_below_37 : decode cX11_below 37 = .ok (.iload_n 2, 1) := by decide +kernel
theorem dX11_below_38 : decode cX11_below 38 = .ok (.ifCond .lt 19, 3) := by decide +kernel
theorem dX11_below_41 : decode cX11_below 41 = .ok (.aload_n 0, 1) := by decide +kernel
theorem dX11_below_42 : decode cX11_below 42 = .ok (.getfield 9, 3) := by decide +kernel
theorem dX11_below_45 : decode cX11_below 45 = .ok (.iload 4, 2) := by decide +kernel
theorem dX11_below_47 : decode cX11_below 47 = .ok (.iaload, 1) := by decide +kernel
theorem dX11_below_48 : decode cX11_below 48 = .ok (.aload_n 0, 1) := by decide +kernel
theorem dX11_below_49 : decode cX11_below 49 = .ok (.getfield 9, 3) := by decide +kernel
theorem dX11_below_52 : decode cX11_below 52 = .ok (.iload_n 2, 1) := by decide +kernel
theorem dX11_below_53 : decode cX11_below 53 = .ok (.iaload, 1) := by decide +kernel
theorem dX11_below_54 : decode cX11_below 54 = .ok (.if_icmp .ge 6, 3) := by decide +kernel
theorem dX11_below_57 : decode cX11_below 57 = .ok (.iload 4, 2) := by decide +kernel
theorem dX11_below_59 : decode cX11_below 59 = .ok (.istore_n 2, 1) := by decide +kernel
theorem dX11_below_60 : decode cX11_below 60 = .ok (.iinc 3 1, 3) := by decide +kernel
theorem dX11_below_63 : decode cX11_below 63 = .ok (.goto (-59), 3) := by decide +kernel
theorem dX11_below_66 : decode cX11_below 66 = .ok (.iload_n 2, 1) := by decide +kernel
theorem dX11_below_67 : decode cX11_below 67 = .ok (.ireturn, 1) := by decide +kernel
theorem dX11_sitting_0 : decode cX11_sitting 0 = .ok (.iconst 0, 1) := by decide +kernel
theorem dX11_sitting_1 : decode cX11_sitting 1 = .ok (.istore_n 2, 1) := by decide +kernel
theorem dX11_sitting_2 : decode cX11_sitting 2 = .ok (.iconst 0, 1) := by decide +kernel
theorem dX11_sitting_3 : decode cX11_sitting 3 = .ok (.istore_n 3, 1) := by decide +kernel
theorem dX11_sitting_4 : decode cX11_sitting 4 = .ok (.iload_n 3, 1) := by decide +kernel
theorem dX11_sitting_5 : decode cX11_sitting 5 = .ok (.aload_n 0, 1) := by decide +kernel
theorem dX11_sitting_6 : decode cX11_sitting 6 = .ok (.getfield 101, 3) := by decide +kernel
theorem dX11_sitting_9 : decode cX11_sitting 9 = .ok (.if_icmp .ge 22, 3) := by decide +kernel
theorem dX11_sitting_12 : decode cX11_sitting 12 = .ok (.aload_n 0, 1) := by decide +kernel
theorem dX11_sitting_13 : decode cX11_sitting 13 = .ok (.getfield 21, 3) := by decide +kernel
theorem dX11_sitting_16 : decode cX11_sitting 16 = .ok (.iload_n 3, 1) := by decide +kernel
theorem dX11_sitting_17 : decode cX11_sitting 17 = .ok (.iaload, 1) := by decide +kernel
theorem dX11_sitting_18 : decode cX11_sitting 18 = .ok (.iload_n 1, 1) := by decide +kernel
theorem dX11_sitting_19 : decode cX11_sitting 19 = .ok (.if_icmp .ne 6, 3) := by decide +kernel
theorem dX11_sitting_22 : decode cX11_sitting 22 = .ok (.iinc 2 1, 3) := by decide +kernel
theorem dX11_sitting_25 : decode cX11_sitting 25 = .ok (.iinc 3 1, 3) := by decide +kernel
theorem dX11_sitting_28 : decode cX11_sitting 28 = .ok (.goto (-24), 3) := by decide +kernel
theorem dX11_sitting_31 : decode cX11_sitting 31 = .ok (.iload_n 2, 1) := by decide +kernel
theorem dX11_sitting_32 : decode cX11_sitting 32 = .ok (.ireturn, 1) := by decide +kernel
theorem dX11_byLaw_0 : decode cX11_byLaw 0 = .ok (.aload_n 0, 1) := by decide +kernel
theorem dX11_byLaw_1 : decode cX11_byLaw 1 = .ok (.getfield 54, 3) := by decide +kernel
theorem dX11_byLaw_4 : decode cX11_byLaw 4 = .ok (.iconst 0, 1) := by decide +kernel
theorem dX11_byLaw_5 : decode cX11_byLaw 5 = .ok (.aload_n 0, 1) := by decide +kernel
theorem dX11_byLaw_6 : decode cX11_byLaw 6 = .ok (.getfield 15, 3) := by decide +kernel
theorem dX11_byLaw_9 : decode cX11_byLaw 9 = .ok (.iload_n 1, 1) := by decide +kernel
theorem dX11_byLaw_10 : decode cX11_byLaw 10 = .ok (.iaload, 1) := by decide +kernel
theorem dX11_byLaw_11 : decode cX11_byLaw 11 = .ok (.iastore, 1) := by decide +kernel
theorem dX11_byLaw_12 : decode cX11_byLaw 12 = .ok (.aload_n 0, 1) := by decide +kernel
theorem dX11_byLaw_13 : decode cX11_byLaw 13 = .ok (.getfield 54, 3) := by decide +kernel
theorem dX11_byLaw_16 : decode cX11_byLaw 16 = .ok (.iconst 1, 1) := by decide +kernel
theorem dX11_byLaw_17 : decode cX11_byLaw 17 = .ok (.aload_n 0, 1) := by decide +kernel
theorem dX11_byLaw_18 : decode cX11_byLaw 18 = .ok (.getfield 18, 3) := by decide +kernel
theorem dX11_byLaw_21 : decode cX11_byLaw 21 = .ok (.iload_n 1, 1) := by decide +kernel
theorem dX11_byLaw_22 : decode cX11_byLaw 22 = .ok (.iaload, 1) := by decide +kernel
theorem dX11_byLaw_23 : decode cX11_byLaw 23 = .ok (.iastore, 1) := by decide +kernel
theorem dX11_byLaw_24 : decode cX11_byLaw 24 = .ok (.aload_n 0, 1) := by decide +kernel
theorem dX11_byLaw_25 : decode cX11_byLaw 25 = .ok (.getfield 54, 3) := by decide +kernel
theorem dX11_byLaw_28 : decode cX11_byLaw 28 = .ok (.iconst 2, 1) := by decide +kernel
theorem dX11_byLaw_29 : decode cX11_byLaw 29 = .ok (.aload_n 0, 1) := by decide +kernel
theorem dX11_byLaw_30 : decode cX11_byLaw 30 = .ok (.getfield 9, 3) := by decide +kernel
theorem dX11_byLaw_33 : decode cX11_byLaw 33 = .ok (.iload_n 1, 1) := by decide +kernel
theorem dX11_byLaw_34 : decode cX11_byLaw 34 = .ok (.iaload, 1) := by decide +kernel
theorem dX11_byLaw_35 : decode cX11_byLaw 35 = .ok (.aload_n 0, 1) := by decide +kernel
theorem dX11_byLaw_36 : decode cX11_byLaw 36 = .ok (.getfield 9, 3) := by decide +kernel
theorem dX11_byLaw_39 : decode cX11_byLaw 39 = .ok (.aload_n 0, 1) := by decide +kernel
theorem dX11_byLaw_40 : decode cX11_byLaw 40 = .ok (.iload_n 1, 1) := by decide +kernel
theorem dX11_byLaw_41 : decode cX11_byLaw 41 = .ok (.invokevirtual 215, 3) := by decide +kernel
theorem dX11_byLaw_44 : decode cX11_byLaw 44 = .ok (.iaload, 1) := by decide +kernel
theorem dX11_byLaw_45 : decode cX11_byLaw 45 = .ok (.isub, 1) := by decide +kernel
theorem dX11_byLaw_46 : decode cX11_byLaw 46 = .ok (.iastore, 1) := by decide +kernel
theorem dX11_byLaw_47 : decode cX11_byLaw 47 = .ok (.aload_n 0, 1) := by decide +kernel
theorem dX11_byLaw_48 : decode cX11_byLaw 48 = .ok (.getfield 54, 3) := by decide +kernel
theorem dX11_byLaw_51 : decode cX11_byLaw 51 = .ok (.iconst 3, 1) := by decide +kernel
theorem dX11_byLaw_52 : decode cX11_byLaw 52 = .ok (.aload_n 0, 1) := by decide +kernel
theorem dX11_byLaw_53 : decode cX11_byLaw 53 = .ok (.iload_n 1, 1) := by decide +kernel
theorem dX11_byLaw_54 : decode cX11_byLaw 54 = .ok (.invokevirtual 218, 3) := by decide +kernel
theorem dX11_byLaw_57 : decode cX11_byLaw 57 = .ok (.iastore, 1) := by decide +kernel
theorem dX11_byLaw_58 : decode cX11_byLaw 58 = .ok (.aload_n 0, 1) := by decide +kernel
theorem dX11_byLaw_59 : decode cX11_byLaw 59 = .ok (.getfield 54, 3) := by decide +kernel
theorem dX11_byLaw_62 : decode cX11_byLaw 62 = .ok (.iconst 4, 1) := by decide +kernel
theorem dX11_byLaw_63 : decode cX11_byLaw 63 = .ok (.aload_n 0, 1) := by decide +kernel
theorem dX11_byLaw_64 : decode cX11_byLaw 64 = .ok (.getfield 125, 3) := by decide +kernel
theorem dX11_byLaw_67 : decode cX11_byLaw 67 = .ok (.iastore, 1) := by decide +kernel
theorem dX11_byLaw_68 : decode cX11_byLaw 68 = .ok (.aload_n 0, 1) := by decide +kernel
theorem dX11_byLaw_69 : decode cX11_byLaw 69 = .ok (.getfield 54, 3) := by decide +kernel
theorem dX11_byLaw_72 : decode cX11_byLaw 72 = .ok (.iconst 5, 1) := by decide +kernel
theorem dX11_byLaw_73 : decode cX11_byLaw 73 = .ok (.iload_n 1, 1) := by decide +kernel
theorem dX11_byLaw_74 : decode cX11_byLaw 74 = .ok (.iastore, 1) := by decide +kernel
theorem dX11_byLaw_75 : decode cX11_byLaw 75 = .ok (.iconst 0, 1) := by decide +kernel
theorem dX11_byLaw_76 : decode cX11_byLaw 76 = .ok (.istore_n 2, 1) := by decide +kernel
theorem dX11_byLaw_77 : decode cX11_byLaw 77 = .ok (.iload_n 2, 1) := by decide +kernel
theorem dX11_byLaw_78 : decode cX11_byLaw 78 = .ok (.aload_n 0, 1) := by decide +kernel
theorem dX11_byLaw_79 : decode cX11_byLaw 79 = .ok (.getfield 206, 3) := by decide +kernel
theorem dX11_byLaw_82 : decode cX11_byLaw 82 = .ok (.if_icmp .ge 63, 3) := by decide +kernel
theorem dX11_byLaw_85 : decode cX11_byLaw 85 = .ok (.aload_n 0, 1) := by decide +kernel
theorem dX11_byLaw_86 : decode cX11_byLaw 86 = .ok (.getfield 30, 3) := by decide +kernel
theorem dX11_byLaw_89 : decode cX11_byLaw 89 = .ok (.iload_n 2, 1) := by decide +kernel
theorem dX11_byLaw_90 : decode cX11_byLaw 90 = .ok (.iaload, 1) := by decide +kernel
theorem dX11_byLaw_91 : decode cX11_byLaw 91 = .ok (.aload_n 0, 1) := by decide +kernel
theorem dX11_byLaw_92 : decode cX11_byLaw 92 = .ok (.getfield 27, 3) := by decide +kernel
theorem dX11_byLaw_95 : decode cX11_byLaw 95 = .ok (.iload_n 2, 1) := by decide +kernel
theorem dX11_byLaw_96 : decode cX11_byLaw 96 = .ok (.iaload, 1) := by decide +kernel
theorem dX11_byLaw_97 : decode cX11_byLaw 97 = .ok (.if_icmp .le 25, 3) := by decide +kernel
theorem dX11_byLaw_100 : decode cX11_byLaw 100 = .ok (.aload_n 0, 1) := by decide +kernel
theorem dX11_byLaw_101 : decode cX11_byLaw 101 = .ok (.aload_n 0, 1) := by decide +kernel
theorem dX11_byLaw_102 : decode cX11_byLaw 102 = .ok (.getfield 27, 3) := by decide +kernel
theorem dX11_byLaw_105 : decode cX11_byLaw 105 = .ok (.iload_n 2, 1) := by decide +kernel
theorem dX11_byLaw_106 : decode cX11_byLaw 106 = .ok (.iaload, 1) := by decide +kernel
theorem dX11_byLaw_107 : decode cX11_byLaw 107 = .ok (.aload_n 0, 1) := by decide +kernel
theorem dX11_byLaw_108 : decode cX11_byLaw 108 = .ok (.getfield 30, 3) := by decide +kernel
theorem dX11_byLaw_111 : decode cX11_byLaw 111 = .ok (.iload_n 2, 1) := by decide +kernel
theorem dX11_byLaw_112 : decode cX11_byLaw 112 = .ok (.iaload, 1) := by decide +kernel
theorem dX11_byLaw_113 : decode cX11_byLaw 113 = .ok (.invokevirtual 221, 3) := by decide +kernel
theorem dX11_byLaw_116 : decode cX11_byLaw 116 = .ok (.ifCond .ne 6, 3) := by decide +kernel
theorem dX11_byLaw_119 : decode cX11_byLaw 119 = .ok (.goto 20, 3) := by decide +kernel
theorem dX11_byLaw_122 : decode cX11_byLaw 122 = .ok (.aload_n 0, 1) := by decide +kernel
theorem dX11_byLaw_123 : decode cX11_byLaw 123 = .ok (.aload_n 0, 1) := by decide +kernel
theorem dX11_byLaw_124 : decode cX11_byLaw 124 = .ok (.getfield 30, 3) := by decide +kernel
theorem dX11_byLaw_127 : decode cX11_byLaw 127 = .ok (.iload_n 2, 1) := by decide +kernel
theorem dX11_byLaw_128 : decode cX11_byLaw 128 = .ok (.iaload, 1) := by decide +kernel
theorem dX11_byLaw_129 : decode cX11_byLaw 129 = .ok (.aload_n 0, 1) := by decide +kernel
theorem dX11_byLaw_130 : decode cX11_byLaw 130 = .ok (.getfield 33, 3) := by decide +kernel
theorem dX11_byLaw_133 : decode cX11_byLaw 133 = .ok (.iload_n 2, 1) := by decide +kernel
theorem dX11_byLaw_134 : decode cX11_byLaw 134 = .ok (.iaload, 1) := by decide +kernel
theorem dX11_byLaw_135 : decode cX11_byLaw 135 = .ok (.invokevirtual 221, 3) := by decide +kernel
theorem dX11_byLaw_138 : decode cX11_byLaw 138 = .ok (.ireturn, 1) := by decide +kernel
theorem dX11_byLaw_139 : decode cX11_byLaw 139 = .ok (.iinc 2 1, 3) := by decide +kernel
theorem dX11_byLaw_142 : decode cX11_byLaw 142 = .ok (.goto (-65), 3) := by decide +kernel
theorem dX11_byLaw_145 : decode cX11_byLaw 145 = .ok (.iconst 0, 1) := by decide +kernel
theorem dX11_byLaw_146 : decode cX11_byLaw 146 = .ok (.ireturn, 1) := by decide +kernel
theorem dX11_runsOut_0 : decode cX11_runsOut 0 = .ok (.aload_n 0, 1) := by decide +kernel
theorem dX11_runsOut_1 : decode cX11_runsOut 1 = .ok (.getfield 202, 3) := by decide +kernel
theorem dX11_runsOut_4 : decode cX11_runsOut 4 = .ok (.ifCond .eq 11, 3) := by decide +kernel
theorem dX11_runsOut_7 : decode cX11_runsOut 7 = .ok (.aload_n 0, 1) := by decide +kernel
theorem dX11_runsOut_8 : decode cX11_runsOut 8 = .ok (.iload_n 1, 1) := by decide +kernel
theorem dX11_runsOut_9 : decode cX11_runsOut 9 = .ok (.invokevirtual 224, 3) := by decide +kernel
theorem dX11_runsOut_12 : decode cX11_runsOut 12 = .ok (.goto 52, 3) := by decide +kernel
theorem dX11_runsOut_15 : decode cX11_runsOut 15 = .ok (.aload_n 0, 1) := by decide +kernel
theorem dX11_runsOut_16 : decode cX11_runsOut 16 = .ok (.getfield 18, 3) := by decide +kernel
theorem dX11_runsOut_19 : decode cX11_runsOut 19 = .ok (.iload_n 1, 1) := by decide +kernel
theorem dX11_runsOut_20 : decode cX11_runsOut 20 = .ok (.iaload, 1) := by decide +kernel
theorem dX11_runsOut_21 : decode cX11_runsOut 21 = .ok (.iconst 1, 1) := by decide +kernel
theorem dX11_runsOut_22 : decode cX11_runsOut 22 = .ok (.if_icmp .ne 15, 3) := by decide +kernel
theorem dX11_runsOut_25 : decode cX11_runsOut 25 = .ok (.aload_n 0, 1) := by decide +kernel
theorem dX11_runsOut_26 : decode cX11_runsOut 26 = .ok (.getfield 15, 3) := by decide +kernel
theorem dX11_runsOut_29 : decode cX11_runsOut 29 = .ok (.iload_n 1, 1) := by decide +kernel
theorem dX11_runsOut_30 : decode cX11_runsOut 30 = .ok (.iaload, 1) := by decide +kernel
theorem dX11_runsOut_31 : decode cX11_runsOut 31 = .ok (.bipush 20, 2) := by decide +kernel
theorem dX11_runsOut_33 : decode cX11_runsOut 33 = .ok (.isub, 1) := by decide +kernel
theorem dX11_runsOut_34 : decode cX11_runsOut 34 = .ok (.goto 30, 3) := by decide +kernel
theorem dX11_runsOut_37 : decode cX11_runsOut 37 = .ok (.aload_n 0, 1) := by decide +kernel
theorem dX11_runsOut_38 : decode cX11_runsOut 38 = .ok (.getfield 18, 3) := by decide +kernel
theorem dX11_runsOut_41 : decode cX11_runsOut 41 = .ok (.iload_n 1, 1) := by decide +kernel
theorem dX11_runsOut_42 : decode cX11_runsOut 42 = .ok (.iaload, 1) := by decide +kernel
theorem dX11_runsOut_43 : decode cX11_runsOut 43 = .ok (.iconst 2, 1) := by decide +kernel
theorem dX11_runsOut_44 : decode cX11_runsOut 44 = .ok (.if_icmp .ne 12, 3) := by decide +kernel
theorem dX11_runsOut_47 : decode cX11_runsOut 47 = .ok (.aload_n 0, 1) := by decide +kernel
theorem dX11_runsOut_48 : decode cX11_runsOut 48 = .ok (.getfield 15, 3) := by decide +kernel
theorem dX11_runsOut_51 : decode cX11_runsOut 51 = .ok (.iload_n 1, 1) := by decide +kernel
theorem dX11_runsOut_52 : decode cX11_runsOut 52 = .ok (.iaload, 1) := by decide +kernel
theorem dX11_runsOut_53 : decode cX11_runsOut 53 = .ok (.goto 11, 3) := by decide +kernel
theorem dX11_runsOut_56 : decode cX11_runsOut 56 = .ok (.aload_n 0, 1) := by decide +kernel
theorem dX11_runsOut_57 : decode cX11_runsOut 57 = .ok (.getfield 15, 3) := by decide +kernel
theorem dX11_runsOut_60 : decode cX11_runsOut 60 = .ok (.iload_n 1, 1) := by decide +kernel
theorem dX11_runsOut_61 : decode cX11_runsOut 61 = .ok (.iaload, 1) := by decide +kernel
theorem dX11_runsOut_62 : decode cX11_runsOut 62 = .ok (.iconst 2, 1) := by decide +kernel
theorem dX11_runsOut_63 : decode cX11_runsOut 63 = .ok (.idiv, 1) := by decide +kernel
theorem dX11_runsOut_64 : decode cX11_runsOut 64 = .ok (.istore_n 2, 1) := by decide +kernel
theorem dX11_runsOut_65 : decode cX11_runsOut 65 = .ok (.iconst 0, 1) := by decide +kernel
theorem dX11_runsOut_66 : decode cX11_runsOut 66 = .ok (.aload_n 0, 1) := by decide +kernel
theorem dX11_runsOut_67 : decode cX11_runsOut 67 = .ok (.getfield 15, 3) := by decide +kernel
theorem dX11_runsOut_70 : decode cX11_runsOut 70 = .ok (.iload_n 1, 1) := by decide +kernel
theorem dX11_runsOut_71 : decode cX11_runsOut 71 = .ok (.iaload, 1) := by decide +kernel
theorem dX11_runsOut_72 : decode cX11_runsOut 72 = .ok (.iload_n 2, 1) := by decide +kernel
theorem dX11_runsOut_73 : decode cX11_runsOut 73 = .ok (.invokestatic 227, 3) := by decide +kernel
theorem dX11_runsOut_76 : decode cX11_runsOut 76 = .ok (.invokestatic 232, 3) := by decide +kernel
theorem dX11_runsOut_79 : decode cX11_runsOut 79 = .ok (.ireturn, 1) := by decide +kernel
theorem dX11_runs_0 : decode cX11_runs 0 = .ok (.iload_n 1, 1) := by decide +kernel
theorem dX11_runs_1 : decode cX11_runs 1 = .ok (.invokestatic 105, 3) := by decide +kernel
theorem dX11_runs_4 : decode cX11_runs 4 = .ok (.ifCond .ne 5, 3) := by decide +kernel
theorem dX11_runs_7 : decode cX11_runs 7 = .ok (.iconst (-1), 1) := by decide +kernel
theorem dX11_runs_8 : decode cX11_runs 8 = .ok (.ireturn, 1) := by decide +kernel
theorem dX11_runs_9 : decode cX11_runs 9 = .ok (.aload_n 0, 1) := by decide +kernel
theorem dX11_runs_10 : decode cX11_runs 10 = .ok (.iload_n 1, 1) := by decide +kernel
theorem dX11_runs_11 : decode cX11_runs 11 = .ok (.invokevirtual 215, 3) := by decide +kernel
theorem dX11_runs_14 : decode cX11_runs 14 = .ok (.ifCond .ge 8, 3) := by decide +kernel
theorem dX11_runs_17 : decode cX11_runs 17 = .ok (.bipush (-2), 2) := by decide +kernel
theorem dX11_runs_19 : decode cX11_runs 19 = .ok (.goto 8, 3) := by decide +kernel
theorem dX11_runs_22 : decode cX11_runs 22 = .ok (.aload_n 0, 1) := by decide +kernel
theorem dX11_runs_23 : decode cX11_runs 23 = .ok (.iload_n 1, 1) := by decide +kernel
theorem dX11_runs_24 : decode cX11_runs 24 = .ok (.invokevirtual 235, 3) := by decide +kernel
theorem dX11_runs_27 : decode cX11_runs 27 = .ok (.ireturn, 1) := by decide +kernel
theorem dX11_passes_0 : decode cX11_passes 0 = .ok (.aload_n 0, 1) := by decide +kernel
theorem dX11_passes_1 : decode cX11_passes 1 = .ok (.iconst 0, 1) := by decide +kernel
theorem dX11_passes_2 : decode cX11_passes 2 = .ok (.putfield 238, 3) := by decide +kernel
theorem dX11_passes_5 : decode cX11_passes 5 = .ok (.aload_n 0, 1) := by decide +kernel
theorem dX11_passes_6 : decode cX11_passes 6 = .ok (.iconst 0, 1) := by decide +kernel
theorem dX11_passes_7 : decode cX11_passes 7 = .ok (.putfield 241, 3) := by decide +kernel
theorem dX11_passes_10 : decode cX11_passes 10 = .ok (.iconst 0, 1) := by decide +kernel
theorem dX11_passes_11 : decode cX11_passes 11 = .ok (.istore_n 1, 1) := by decide +kernel
theorem dX11_passes_12 : decode cX11_passes 12 = .ok (.iload_n 1, 1) := by decide +kernel
theorem dX11_passes_13 : decode cX11_passes 13 = .ok (.aload_n 0, 1) := by decide +kernel
theorem dX11_passes_14 : decode cX11_passes 14 = .ok (.getfield 101, 3) := by decide +kernel
theorem dX11_passes_17 : decode cX11_passes 17 = .ok (.if_icmp .ge 100, 3) := by decide +kernel
theorem dX11_passes_20 : decode cX11_passes 20 = .ok (.aload_n 0, 1) := by decide +kernel
theorem dX11_passes_21 : decode cX11_passes 21 = .ok (.getfield 21, 3) := by decide +kernel
theorem dX11_passes_24 : decode cX11_passes 24 = .ok (.bipush 16, 2) := by decide +kernel
theorem dX11_passes_26 : decode cX11_passes 26 = .ok (.iload_n 1, 1) := by decide +kernel
theorem dX11_passes_27 : decode cX11_passes 27 = .ok (.iadd, 1) := by decide +kernel
theorem dX11_passes_28 : decode cX11_passes 28 = .ok (.iaload, 1) := by decide +kernel
theorem dX11_passes_29 : decode cX11_passes 29 = .ok (.iconst 1, 1) := by decide +kernel
theorem dX11_passes_30 : decode cX11_passes 30 = .ok (.if_icmp .ne 6, 3) := by decide +kernel
theorem dX11_passes_33 : decode cX11_passes 33 = .ok (.goto 78, 3) := by decide +kernel
theorem dX11_passes_36 : decode cX11_passes 36 = .ok (.aload_n 0, 1) := by decide +kernel
theorem dX11_passes_37 : decode cX11_passes 37 = .ok (.getfield 21, 3) := by decide +kernel
theorem dX11_passes_40 : decode cX11_passes 40 = .ok (.iload_n 1, 1) := by decide +kernel
theorem dX11_passes_41 : decode cX11_passes 41 = .ok (.iaload, 1) := by decide +kernel
theorem dX11_passes_42 : decode cX11_passes 42 = .ok (.istore_n 2, 1) := by decide +kernel
theorem dX11_passes_43 : decode cX11_passes 43 = .ok (.aload_n 0, 1) := by decide +kernel
theorem dX11_passes_44 : decode cX11_passes 44 = .ok (.getfield 21, 3) := by decide +kernel
theorem dX11_passes_47 : decode cX11_passes 47 = .ok (.bipush 8, 2) := by decide +kernel
theorem dX11_passes_49 : decode cX11_passes 49 = .ok (.iload_n 1, 1) := by decide +kernel
theorem dX11_passes_50 : decode cX11_passes 50 = .ok (.iadd, 1) := by decide +kernel
theorem dX11_passes_51 : decode cX11_passes 51 = .ok (.iaload, 1) := by decide +kernel
theorem dX11_passes_52 : decode cX11_passes 52 = .ok (.aload_n 0, 1) := by decide +kernel
theorem dX11_passes_53 : decode cX11_passes 53 = .ok (.getfield 15, 3) := by decide +kernel
theorem dX11_passes_56 : decode cX11_passes 56 = .ok (.iload_n 2, 1) := by decide +kernel
theorem dX11_passes_57 : decode cX11_passes 57 = .ok (.iaload, 1) := by decide +kernel
theorem dX11_passes_58 : decode cX11_passes 58 = .ok (.sipush 9999, 3) := by decide +kernel
theorem dX11_passes_61 : decode cX11_passes 61 = .ok (.aload_n 0, 1) := by decide +kernel
theorem dX11_passes_62 : decode cX11_passes 62 = .ok (.getfield 21, 3) := by decide +kernel
theorem dX11_passes_65 : decode cX11_passes 65 = .ok (.bipush 24, 2) := by decide +kernel
theorem dX11_passes_67 : decode cX11_passes 67 = .ok (.iload_n 1, 1) := by decide +kernel
theorem dX11_passes_68 : decode cX11_passes 68 = .ok (.iadd, 1) := by decide +kernel
theorem dX11_passes_69 : decode cX11_passes 69 = .ok (.iaload, 1) := by decide +kernel
theorem dX11_passes_70 : decode cX11_passes 70 = .ok (.isub, 1) := by decide +kernel
theorem dX11_passes_71 : decode cX11_passes 71 = .ok (.invokestatic 227, 3) := by decide +kernel
theorem dX11_passes_74 : decode cX11_passes 74 = .ok (.invokestatic 227, 3) := by decide +kernel
theorem dX11_passes_77 : decode cX11_passes 77 = .ok (.istore_n 3, 1) := by decide +kernel
theorem dX11_passes_78 : decode cX11_passes 78 = .ok (.aload_n 0, 1) := by decide +kernel
theorem dX11_passes_79 : decode cX11_passes 79 = .ok (.getfield 15, 3) := by decide +kernel
theorem dX11_passes_82 : decode cX11_passes 82 = .ok (.iload_n 2, 1) := by decide +kernel
theorem dX11_passes_83 : decode cX11_passes 83 = .ok (.dup2, 1) := by decide +kernel
theorem dX11_passes_84 : decode cX11_passes 84 = .ok (.iaload, 1) := by decide +kernel
theorem dX11_passes_85 : decode cX11_passes 85 = .ok (.iload_n 3, 1) := by decide +kernel
theorem dX11_passes_86 : decode cX11_passes 86 = .ok (.isub, 1) := by decide +kernel
theorem dX11_passes_87 : decode cX11_passes 87 = .ok (.iastore, 1) := by decide +kernel
theorem dX11_passes_88 : decode cX11_passes 88 = .ok (.aload_n 0, 1) := by decide +kernel
theorem dX11_passes_89 : decode cX11_passes 89 = .ok (.getfield 21, 3) := by decide +kernel
theorem dX11_passes_92 : decode cX11_passes 92 = .ok (.bipush 24, 2) := by decide +kernel
theorem dX11_passes_94 : decode cX11_passes 94 = .ok (.iload_n 1, 1) := by decide +kernel
theorem dX11_passes_95 : decode cX11_passes 95 = .ok (.iadd, 1) := by decide +kernel
theorem dX11_passes_96 : decode cX11_passes 96 = .ok (.dup2, 1) := by decide +kernel
theorem dX11_passes_97 : decode cX11_passes 97 = .ok (.iaload, 1) := by decide +kernel
theorem dX11_passes_98 : decode cX11_passes 98 = .ok (.iload_n 3, 1) := by decide +kernel
theorem dX11_passes_99 : decode cX11_passes 99 = .ok (.iadd, 1) := by decide +kernel
theorem dX11_passes_100 : decode cX11_passes 100 = .ok (.iastore, 1) := by decide +kernel
theorem dX11_passes_101 : decode cX11_passes 101 = .ok (.aload_n 0, 1) := by decide +kernel
theorem dX11_passes_102 : decode cX11_passes 102 = .ok (.dup, 1) := by decide +kernel
theorem dX11_passes_103 : decode cX11_passes 103 = .ok (.getfield 238, 3) := by decide +kernel
theorem dX11_passes_106 : decode cX11_passes 106 = .ok (.iload_n 3, 1) := by decide +kernel
theorem dX11_passes_107 : decode cX11_passes 107 = .ok (.iadd, 1) := by decide +kernel
theorem dX11_passes_108 : decode cX11_passes 108 = .ok (.putfield 238, 3) := by decide +kernel
theorem dX11_passes_111 : decode cX11_passes 111 = .ok (.iinc 1 1, 3) := by decide +kernel
theorem dX11_passes_114 : decode cX11_passes 114 = .ok (.goto (-102), 3) := by decide +kernel
theorem dX11_passes_117 : decode cX11_passes 117 = .ok (.iconst 0, 1) := by decide +kernel
theorem dX11_passes_118 : decode cX11_passes 118 = .ok (.istore_n 1, 1) := by decide +kernel
theorem dX11_passes_119 : decode cX11_passes 119 = .ok (.iload_n 1, 1) := by decide +kernel
theorem dX11_passes_120 : decode cX11_passes 120 = .ok (.bipush 36, 2) := by decide +kernel
theorem dX11_passes_122 : decode cX11_passes 122 = .ok (.if_icmp .ge 32, 3) := by decide +kernel
theorem dX11_passes_125 : decode cX11_passes 125 = .ok (.aload_n 0, 1) := by decide +kernel
theorem dX11_passes_126 : decode cX11_passes 126 = .ok (.getfield 85, 3) := by decide +kernel
theorem dX11_passes_129 : decode cX11_passes 129 = .ok (.iload_n 1, 1) := by decide +kernel
theorem dX11_passes_130 : decode cX11_passes 130 = .ok (.aload_n 0, 1) := by decide +kernel
theorem dX11_passes_131 : decode cX11_passes 131 = .ok (.iload_n 1, 1) := by decide +kernel
theorem dX11_passes_132 : decode cX11_passes 132 = .ok (.invokevirtual 215, 3) := by decide +kernel
theorem dX11_passes_135 : decode cX11_passes 135 = .ok (.ifCond .ge 7, 3) := by decide +kernel
theorem dX11_passes_138 : decode cX11_passes 138 = .ok (.iconst 0, 1) := by decide +kernel
theorem dX11_passes_139 : decode cX11_passes 139 = .ok (.goto 8, 3) := by decide +kernel
theorem dX11_passes_142 : decode cX11_passes 142 = .ok (.aload_n 0, 1) := by decide +kernel
theorem dX11_passes_143 : decode cX11_passes 143 = .ok (.iload_n 1, 1) := by decide +kernel
theorem dX11_passes_144 : decode cX11_passes 144 = .ok (.invokevirtual 235, 3) := by decide +kernel
theorem dX11_passes_147 : decode cX11_passes 147 = .ok (.iastore, 1) := by decide +kernel
theorem dX11_passes_148 : decode cX11_passes 148 = .ok (.iinc 1 1, 3) := by decide +kernel
theorem dX11_passes_151 : decode cX11_passes 151 = .ok (.goto (-32), 3) := by decide +kernel
theorem dX11_passes_154 : decode cX11_passes 154 = .ok (.iconst 0, 1) := by decide +kernel
theorem dX11_passes_155 : decode cX11_passes 155 = .ok (.istore_n 1, 1) := by decide +kernel
theorem dX11_passes_156 : decode cX11_passes 156 = .ok (.iload_n 1, 1) := by decide +kernel
theorem dX11_passes_157 : decode cX11_passes 157 = .ok (.bipush 36, 2) := by decide +kernel
theorem dX11_passes_159 : decode cX11_passes 159 = .ok (.if_icmp .ge 70, 3) := by decide +kernel
theorem dX11_passes_162 : decode cX11_passes 162 = .ok (.aload_n 0, 1) := by decide +kernel
theorem dX11_passes_163 : decode cX11_passes 163 = .ok (.getfield 85, 3) := by decide +kernel
theorem dX11_passes_166 : decode cX11_passes 166 = .ok (.iload_n 1, 1) := by decide +kernel
theorem dX11_passes_167 : decode cX11_passes 167 = .ok (.iaload, 1) := by decide +kernel
theorem dX11_passes_168 : decode cX11_passes 168 = .ok (.ifCond .ne 6, 3) := by decide +kernel
theorem dX11_passes_171 : decode cX11_passes 171 = .ok (.goto 52, 3) := by decide +kernel
theorem dX11_passes_174 : decode cX11_passes 174 = .ok (.aload_n 0, 1) := by decide +kernel
theorem dX11_passes_175 : decode cX11_passes 175 = .ok (.getfield 15, 3) := by decide +kernel
theorem dX11_passes_178 : decode cX11_passes 178 = .ok (.iload_n 1, 1) := by decide +kernel
theorem dX11_passes_179 : decode cX11_passes 179 = .ok (.dup2, 1) := by decide +kernel
theorem dX11_passes_180 : decode cX11_passes 180 = .ok (.iaload, 1) := by decide +kernel
theorem dX11_passes_181 : decode cX11_passes 181 = .ok (.aload_n 0, 1) := by decide +kernel
theorem dX11_passes_182 : decode cX11_passes 182 = .ok (.getfield 85, 3) := by decide +kernel
theorem dX11_passes_185 : decode cX11_passes 185 = .ok (.iload_n 1, 1) := by decide +kernel
theorem dX11_passes_186 : decode cX11_passes 186 = .ok (.iaload, 1) := by decide +kernel
theorem dX11_passes_187 : decode cX11_passes 187 = .ok (.isub, 1) := by decide +kernel
theorem dX11_passes_188 : decode cX11_passes 188 = .ok (.iastore, 1) := by decide +kernel
theorem dX11_passes_189 : decode cX11_passes 189 = .ok (.aload_n 0, 1) := by decide +kernel
theorem dX11_passes_190 : decode cX11_passes 190 = .ok (.getfield 15, 3) := by decide +kernel
theorem dX11_passes_193 : decode cX11_passes 193 = .ok (.aload_n 0, 1) := by decide +kernel
theorem dX11_passes_194 : decode cX11_passes 194 = .ok (.iload_n 1, 1) := by decide +kernel
theorem dX11_passes_195 : decode cX11_passes 195 = .ok (.invokevirtual 215, 3) := by decide +kernel
theorem dX11_passes_198 : decode cX11_passes 198 = .ok (.dup2, 1) := by decide +kernel
theorem dX11_passes_199 : decode cX11_passes 199 = .ok (.iaload, 1) := by decide +kernel
theorem dX11_passes_200 : decode cX11_passes 200 = .ok (.aload_n 0, 1) := by decide +kernel
theorem dX11_passes_201 : decode cX11_passes 201 = .ok (.getfield 85, 3) := by decide +kernel
theorem dX11_passes_204 : decode cX11_passes 204 = .ok (.iload_n 1, 1) := by decide +kernel
theorem dX11_passes_205 : decode cX11_passes 205 = .ok (.iaload, 1) := by decide +kernel
theorem dX11_passes_206 : decode cX11_passes 206 = .ok (.iadd, 1) := by decide +kernel
theorem dX11_passes_207 : decode cX11_passes 207 = .ok (.iastore, 1) := by decide +kernel
theorem dX11_passes_208 : decode cX11_passes 208 = .ok (.aload_n 0, 1) := by decide +kernel
theorem dX11_passes_209 : decode cX11_passes 209 = .ok (.dup, 1) := by decide +kernel
theorem dX11_passes_210 : decode cX11_passes 210 = .ok (.getfield 241, 3) := by decide +kernel
theorem dX11_passes_213 : decode cX11_passes 213 = .ok (.aload_n 0, 1) := by decide +kernel
theorem dX11_passes_214 : decode cX11_passes 214 = .ok (.getfield 85, 3) := by decide +kernel
theorem dX11_passes_217 : decode cX11_passes 217 = .ok (.iload_n 1, 1) := by decide +kernel
theorem dX11_passes_218 : decode cX11_passes 218 = .ok (.iaload, 1) := by decide +kernel
theorem dX11_passes_219 : decode cX11_passes 219 = .ok (.iadd, 1) := by decide +kernel
theorem dX11_passes_220 : decode cX11_passes 220 = .ok (.putfield 241, 3) := by decide +kernel
theorem dX11_passes_223 : decode cX11_passes 223 = .ok (.iinc 1 1, 3) := by decide +kernel
theorem dX11_passes_226 : decode cX11_passes 226 = .ok (.goto (-70), 3) := by decide +kernel
theorem dX11_passes_229 : decode cX11_passes 229 = .ok (.iconst 0, 1) := by decide +kernel
theorem dX11_passes_230 : decode cX11_passes 230 = .ok (.istore_n 1, 1) := by decide +kernel
theorem dX11_passes_231 : decode cX11_passes 231 = .ok (.iload_n 1, 1) := by decide +kernel
theorem dX11_passes_232 : decode cX11_passes 232 = .ok (.bipush 36, 2) := by decide +kernel
theorem dX11_passes_234 : decode cX11_passes 234 = .ok (.if_icmp .ge 27, 3) := by decide +kernel
theorem dX11_passes_237 : decode cX11_passes 237 = .ok (.aload_n 0, 1) := by decide +kernel
theorem dX11_passes_238 : decode cX11_passes 238 = .ok (.getfield 15, 3) := by decide +kernel
theorem dX11_passes_241 : decode cX11_passes 241 = .ok (.iload_n 1, 1) := by decide +kernel
theorem dX11_passes_242 : decode cX11_passes 242 = .ok (.sipush 9999, 3) := by decide +kernel
theorem dX11_passes_245 : decode cX11_passes 245 = .ok (.aload_n 0, 1) := by decide +kernel
theorem dX11_passes_246 : decode cX11_passes 246 = .ok (.getfield 15, 3) := by decide +kernel
theorem dX11_passes_249 : decode cX11_passes 249 = .ok (.iload_n 1, 1) := by decide +kernel
theorem dX11_passes_250 : decode cX11_passes 250 = .ok (.iaload, 1) := by decide +kernel
theorem dX11_passes_251 : decode cX11_passes 251 = .ok (.invokestatic 227, 3) := by decide +kernel
theorem dX11_passes_254 : decode cX11_passes 254 = .ok (.iastore, 1) := by decide +kernel
theorem dX11_passes_255 : decode cX11_passes 255 = .ok (.iinc 1 1, 3) := by decide +kernel
theorem dX11_passes_258 : decode cX11_passes 258 = .ok (.goto (-27), 3) := by decide +kernel
theorem dX11_passes_261 : decode cX11_passes 261 = .ok (.aload_n 0, 1) := by decide +kernel
theorem dX11_passes_262 : decode cX11_passes 262 = .ok (.aload_n 0, 1) := by decide +kernel
theorem dX11_passes_263 : decode cX11_passes 263 = .ok (.getfield 125, 3) := by decide +kernel
theorem dX11_passes_266 : decode cX11_passes 266 = .ok (.iconst 1, 1) := by decide +kernel
theorem dX11_passes_267 : decode cX11_passes 267 = .ok (.iadd, 1) := by decide +kernel
theorem dX11_passes_268 : decode cX11_passes 268 = .ok (.bipush 24, 2) := by decide +kernel
theorem dX11_passes_270 : decode cX11_passes 270 = .ok (.irem, 1) := by decide +kernel
theorem dX11_passes_271 : decode cX11_passes 271 = .ok (.putfield 125, 3) := by decide +kernel
theorem dX11_passes_274 : decode cX11_passes 274 = .ok (.return_, 1) := by decide +kernel
theorem dX11_keeps_0 : decode cX11_keeps 0 = .ok (.iconst 0, 1) := by decide +kernel
theorem dX11_keeps_1 : decode cX11_keeps 1 = .ok (.istore_n 2, 1) := by decide +kernel
theorem dX11_keeps_2 : decode cX11_keeps 2 = .ok (.iload_n 2, 1) := by decide +kernel
theorem dX11_keeps_3 : decode cX11_keeps 3 = .ok (.bipush 36, 2) := by decide +kernel
theorem dX11_keeps_5 : decode cX11_keeps 5 = .ok (.if_icmp .ge 30, 3) := by decide +kernel
theorem dX11_keeps_8 : decode cX11_keeps 8 = .ok (.aload_n 1, 1) := by decide +kernel
theorem dX11_keeps_9 : decode cX11_keeps 9 = .ok (.iload_n 2, 1) := by decide +kernel
theorem dX11_keeps_10 : decode cX11_keeps 10 = .ok (.aload_n 0, 1) := by decide +kernel
theorem dX11_keeps_11 : decode cX11_keeps 11 = .ok (.getfield 15, 3) := by decide +kernel
theorem dX11_keeps_14 : decode cX11_keeps 14 = .ok (.iload_n 2, 1) := by decide +kernel
theorem dX11_keeps_15 : decode cX11_keeps 15 = .ok (.iaload, 1) := by decide +kernel
theorem dX11_keeps_16 : decode cX11_keeps 16 = .ok (.iastore, 1) := by decide +kernel
theorem dX11_keeps_17 : decode cX11_keeps 17 = .ok (.aload_n 1, 1) := by decide +kernel
theorem dX11_keeps_18 : decode cX11_keeps 18 = .ok (.bipush 36, 2) := by decide +kernel
theorem dX11_keeps_20 : decode cX11_keeps 20 = .ok (.iload_n 2, 1) := by decide +kernel
theorem dX11_keeps_21 : decode cX11_keeps 21 = .ok (.iadd, 1) := by decide +kernel
theorem dX11_keeps_22 : decode cX11_keeps 22 = .ok (.aload_n 0, 1) := by decide +kernel
theorem dX11_keeps_23 : decode cX11_keeps 23 = .ok (.getfield 18, 3) := by decide +kernel
theorem dX11_keeps_26 : decode cX11_keeps 26 = .ok (.iload_n 2, 1) := by decide +kernel
theorem dX11_keeps_27 : decode cX11_keeps 27 = .ok (.iaload, 1) := by decide +kernel
theorem dX11_keeps_28 : decode cX11_keeps 28 = .ok (.iastore, 1) := by decide +kernel
theorem dX11_keeps_29 : decode cX11_keeps 29 = .ok (.iinc 2 1, 3) := by decide +kernel
theorem dX11_keeps_32 : decode cX11_keeps 32 = .ok (.goto (-30), 3) := by decide +kernel
theorem dX11_keeps_35 : decode cX11_keeps 35 = .ok (.iconst 0, 1) := by decide +kernel
theorem dX11_keeps_36 : decode cX11_keeps 36 = .ok (.istore_n 2, 1) := by decide +kernel
theorem dX11_keeps_37 : decode cX11_keeps 37 = .ok (.iload_n 2, 1) := by decide +kernel
theorem dX11_keeps_38 : decode cX11_keeps 38 = .ok (.bipush 32, 2) := by decide +kernel
theorem dX11_keeps_40 : decode cX11_keeps 40 = .ok (.if_icmp .ge 21, 3) := by decide +kernel
theorem dX11_keeps_43 : decode cX11_keeps 43 = .ok (.aload_n 1, 1) := by decide +kernel
theorem dX11_keeps_44 : decode cX11_keeps 44 = .ok (.bipush 72, 2) := by decide +kernel
theorem dX11_keeps_46 : decode cX11_keeps 46 = .ok (.iload_n 2, 1) := by decide +kernel
theorem dX11_keeps_47 : decode cX11_keeps 47 = .ok (.iadd, 1) := by decide +kernel
theorem dX11_keeps_48 : decode cX11_keeps 48 = .ok (.aload_n 0, 1) := by decide +kernel
theorem dX11_keeps_49 : decode cX11_keeps 49 = .ok (.getfield 21, 3) := by decide +kernel
theorem dX11_keeps_52 : decode cX11_keeps 52 = .ok (.iload_n 2, 1) := by decide +kernel
theorem dX11_keeps_53 : decode cX11_keeps 53 = .ok (.iaload, 1) := by decide +kernel
theorem dX11_keeps_54 : decode cX11_keeps 54 = .ok (.iastore, 1) := by decide +kernel
theorem dX11_keeps_55 : decode cX11_keeps 55 = .ok (.iinc 2 1, 3) := by decide +kernel
theorem dX11_keeps_58 : decode cX11_keeps 58 = .ok (.goto (-21), 3) := by decide +kernel
theorem dX11_keeps_61 : decode cX11_keeps 61 = .ok (.aload_n 1, 1) := by decide +kernel
theorem dX11_keeps_62 : decode cX11_keeps 62 = .ok (.bipush 104, 2) := by decide +kernel
theorem dX11_keeps_64 : decode cX11_keeps 64 = .ok (.aload_n 0, 1) := by decide +kernel
theorem dX11_keeps_65 : decode cX11_keeps 65 = .ok (.getfield 125, 3) := by decide +kernel
theorem dX11_keeps_68 : decode cX11_keeps 68 = .ok (.iastore, 1) := by decide +kernel
theorem dX11_keeps_69 : decode cX11_keeps 69 = .ok (.return_, 1) := by decide +kernel
theorem dX11_laysBack_0 : decode cX11_laysBack 0 = .ok (.iconst 0, 1) := by decide +kernel
theorem dX11_laysBack_1 : decode cX11_laysBack 1 = .ok (.istore_n 2, 1) := by decide +kernel
theorem dX11_laysBack_2 : decode cX11_laysBack 2 = .ok (.iload_n 2, 1) := by decide +kernel
theorem dX11_laysBack_3 : decode cX11_laysBack 3 = .ok (.bipush 36, 2) := by decide +kernel
theorem dX11_laysBack_5 : decode cX11_laysBack 5 = .ok (.if_icmp .ge 30, 3) := by decide +kernel
theorem dX11_laysBack_8 : decode cX11_laysBack 8 = .ok (.aload_n 0, 1) := by decide +kernel
theorem dX11_laysBack_9 : decode cX11_laysBack 9 = .ok (.getfield 15, 3) := by decide +kernel
theorem dX11_laysBack_12 : decode cX11_laysBack 12 = .ok (.iload_n 2, 1) := by decide +kernel
theorem dX11_laysBack_13 : decode cX11_laysBack 13 = .ok (.aload_n 1, 1) := by decide +kernel
theorem dX11_laysBack_14 : decode cX11_laysBack 14 = .ok (.iload_n 2, 1) := by decide +kernel
theorem dX11_laysBack_15 : decode cX11_laysBack 15 = .ok (.iaload, 1) := by decide +kernel
theorem dX11_laysBack_16 : decode cX11_laysBack 16 = .ok (.iastore, 1) := by decide +kernel
theorem dX11_laysBack_17 : decode cX11_laysBack 17 = .ok (.aload_n 0, 1) := by decide +kernel
theorem dX11_laysBack_18 : decode cX11_laysBack 18 = .ok (.getfield 18, 3) := by decide +kernel
theorem dX11_laysBack_21 : decode cX11_laysBack 21 = .ok (.iload_n 2, 1) := by decide +kernel
theorem dX11_laysBack_22 : decode cX11_laysBack 22 = .ok (.aload_n 1, 1) := by decide +kernel
theorem dX11_laysBack_23 : decode cX11_laysBack 23 = .ok (.bipush 36, 2) := by decide +kernel
theorem dX11_laysBack_25 : decode cX11_laysBack 25 = .ok (.iload_n 2, 1) := by decide +kernel
theorem dX11_laysBack_26 : decode cX11_laysBack 26 = .ok (.iadd, 1) := by decide +kernel
theorem dX11_laysBack_27 : decode cX11_laysBack 27 = .ok (.iaload, 1) := by decide +kernel
theorem dX11_laysBack_28 : decode cX11_laysBack 28 = .ok (.iastore, 1) := by decide +kernel
theorem dX11_laysBack_29 : decode cX11_laysBack 29 = .ok (.iinc 2 1, 3) := by decide +kernel
theorem dX11_laysBack_32 : decode cX11_laysBack 32 = .ok (.goto (-30), 3) := by decide +kernel
theorem dX11_laysBack_35 : decode cX11_laysBack 35 = .ok (.iconst 0, 1) := by decide +kernel
theorem dX11_laysBack_36 : decode cX11_laysBack 36 = .ok (.istore_n 2, 1) := by decide +kernel
theorem dX11_laysBack_37 : decode cX11_laysBack 37 = .ok (.iload_n 2, 1) := by decide +kernel
theorem dX11_laysBack_38 : decode cX11_laysBack 38 = .ok (.bipush 32, 2) := by decide +kernel
theorem dX11_laysBack_40 : decode cX11_laysBack 40 = .ok (.if_icmp .ge 21, 3) := by decide +kernel
theorem dX11_laysBack_43 : decode cX11_laysBack 43 = .ok (.aload_n 0, 1) := by decide +kernel
theorem dX11_laysBack_44 : decode cX11_laysBack 44 = .ok (.getfield 21, 3) := by decide +kernel
theorem dX11_laysBack_47 : decode cX11_laysBack 47 = .ok (.iload_n 2, 1) := by decide +kernel
theorem dX11_laysBack_48 : decode cX11_laysBack 48 = .ok (.aload_n 1, 1) := by decide +kernel
theorem dX11_laysBack_49 : decode cX11_laysBack 49 = .ok (.bipush 72, 2) := by decide +kernel
theorem dX11_laysBack_51 : decode cX11_laysBack 51 = .ok (.iload_n 2, 1) := by decide +kernel
theorem dX11_laysBack_52 : decode cX11_laysBack 52 = .ok (.iadd, 1) := by decide +kernel
theorem dX11_laysBack_53 : decode cX11_laysBack 53 = .ok (.iaload, 1) := by decide +kernel
theorem dX11_laysBack_54 : decode cX11_laysBack 54 = .ok (.iastore, 1) := by decide +kernel
theorem dX11_laysBack_55 : decode cX11_laysBack 55 = .ok (.iinc 2 1, 3) := by decide +kernel
theorem dX11_laysBack_58 : decode cX11_laysBack 58 = .ok (.goto (-21), 3) := by decide +kernel
theorem dX11_laysBack_61 : decode cX11_laysBack 61 = .ok (.aload_n 0, 1) := by decide +kernel
theorem dX11_laysBack_62 : decode cX11_laysBack 62 = .ok (.aload_n 1, 1) := by decide +kernel
theorem dX11_laysBack_63 : decode cX11_laysBack 63 = .ok (.bipush 104, 2) := by decide +kernel
theorem dX11_laysBack_65 : decode cX11_laysBack 65 = .ok (.iaload, 1) := by decide +kernel
theorem dX11_laysBack_66 : decode cX11_laysBack 66 = .ok (.putfield 125, 3) := by decide +kernel
theorem dX11_laysBack_69 : decode cX11_laysBack 69 = .ok (.return_, 1) := by decide +kernel
theorem dX11_goesOn_0 : decode cX11_goesOn 0 = .ok (.iconst 0, 1) := by decide +kernel
theorem dX11_goesOn_1 : decode cX11_goesOn 1 = .ok (.istore_n 2, 1) := by decide +kernel
theorem dX11_goesOn_2 : decode cX11_goesOn 2 = .ok (.iload_n 2, 1) := by decide +kernel
theorem dX11_goesOn_3 : decode cX11_goesOn 3 = .ok (.iload_n 1, 1) := by decide +kernel
theorem dX11_goesOn_4 : decode cX11_goesOn 4 = .ok (.if_icmp .ge 13, 3) := by decide +kernel
theorem dX11_goesOn_7 : decode cX11_goesOn 7 = .ok (.aload_n 0, 1) := by decide +kernel
theorem dX11_goesOn_8 : decode cX11_goesOn 8 = .ok (.invokevirtual 244, 3) := by decide +kernel
theorem dX11_goesOn_11 : decode cX11_goesOn 11 = .ok (.iinc 2 1, 3) := by decide +kernel
theorem dX11_goesOn_14 : decode cX11_goesOn 14 = .ok (.goto (-12), 3) := by decide +kernel
theorem dX11_goesOn_17 : decode cX11_goesOn 17 = .ok (.return_, 1) := by decide +kernel
theorem dX11_has_0 : decode cX11_has 0 = .ok (.aload_n 0, 1) := by decide +kernel
theorem dX11_has_1 : decode cX11_has 1 = .ok (.getfield 21, 3) := by decide +kernel
theorem dX11_has_4 : decode cX11_has 4 = .ok (.bipush 24, 2) := by decide +kernel
theorem dX11_has_6 : decode cX11_has 6 = .ok (.iload_n 1, 1) := by decide +kernel
theorem dX11_has_7 : decode cX11_has 7 = .ok (.iadd, 1) := by decide +kernel
theorem dX11_has_8 : decode cX11_has 8 = .ok (.iaload, 1) := by decide +kernel
theorem dX11_has_9 : decode cX11_has 9 = .ok (.ireturn, 1) := by decide +kernel
theorem dX11_allLuck_0 : decode cX11_allLuck 0 = .ok (.iconst 0, 1) := by decide +kernel
theorem dX11_allLuck_1 : decode cX11_allLuck 1 = .ok (.istore_n 1, 1) := by decide +kernel
theorem dX11_allLuck_2 : decode cX11_allLuck 2 = .ok (.iconst 0, 1) := by decide +kernel
theorem dX11_allLuck_3 : decode cX11_allLuck 3 = .ok (.istore_n 2, 1) := by decide +kernel
theorem dX11_allLuck_4 : decode cX11_allLuck 4 = .ok (.iload_n 2, 1) := by decide +kernel
theorem dX11_allLuck_5 : decode cX11_allLuck 5 = .ok (.bipush 36, 2) := by decide +kernel
theorem dX11_allLuck_7 : decode cX11_allLuck 7 = .ok (.if_icmp .ge 18, 3) := by decide +kernel
theorem dX11_allLuck_10 : decode cX11_allLuck 10 = .ok (.iload_n 1, 1) := by decide +kernel
theorem dX11_allLuck_11 : decode cX11_allLuck 11 = .ok (.aload_n 0, 1) := by decide +kernel
theorem dX11_allLuck_12 : decode cX11_allLuck 12 = .ok (.getfield 15, 3) := by decide +kernel
theorem dX11_allLuck_15 : decode cX11_allLuck 15 = .ok (.iload_n 2, 1) := by decide +kernel
theorem dX11_allLuck_16 : decode cX11_allLuck 16 = .ok (.iaload, 1) := by decide +kernel
theorem dX11_allLuck_17 : decode cX11_allLuck 17 = .ok (.iadd, 1) := by decide +kernel
theorem dX11_allLuck_18 : decode cX11_allLuck 18 = .ok (.istore_n 1, 1) := by decide +kernel
theorem dX11_allLuck_19 : decode cX11_allLuck 19 = .ok (.iinc 2 1, 3) := by decide +kernel
theorem dX11_allLuck_22 : decode cX11_allLuck 22 = .ok (.goto (-18), 3) := by decide +kernel
theorem dX11_allLuck_25 : decode cX11_allLuck 25 = .ok (.iload_n 1, 1) := by decide +kernel
theorem dX11_allLuck_26 : decode cX11_allLuck 26 = .ok (.ireturn, 1) := by decide +kernel
theorem dX11_luckiest_0 : decode cX11_luckiest 0 = .ok (.iconst 0, 1) := by decide +kernel
theorem dX11_luckiest_1 : decode cX11_luckiest 1 = .ok (.istore_n 1, 1) := by decide +kernel
theorem dX11_luckiest_2 : decode cX11_luckiest 2 = .ok (.iconst 1, 1) := by decide +kernel
theorem dX11_luckiest_3 : decode cX11_luckiest 3 = .ok (.istore_n 2, 1) := by decide +kernel
theorem dX11_luckiest_4 : decode cX11_luckiest 4 = .ok (.iload_n 2, 1) := by decide +kernel
theorem dX11_luckiest_5 : decode cX11_luckiest 5 = .ok (.bipush 36, 2) := by decide +kernel
theorem dX11_luckiest_7 : decode cX11_luckiest 7 = .ok (.if_icmp .ge 26, 3) := by decide +kernel
theorem dX11_luckiest_10 : decode cX11_luckiest 10 = .ok (.aload_n 0, 1) := by decide +kernel
theorem dX11_luckiest_11 : decode cX11_luckiest 11 = .ok (.getfield 15, 3) := by decide +kernel
theorem dX11_luckiest_14 : decode cX11_luckiest 14 = .ok (.iload_n 2, 1) := by decide +kernel
theorem dX11_luckiest_15 : decode cX11_luckiest 15 = .ok (.iaload, 1) := by decide +kernel
theorem dX11_luckiest_16 : decode cX11_luckiest 16 = .ok (.aload_n 0, 1) := by decide +kernel
theorem dX11_luckiest_17 : decode cX11_luckiest 17 = .ok (.getfield 15, 3) := by decide +kernel
theorem dX11_luckiest_20 : decode cX11_luckiest 20 = .ok (.iload_n 1, 1) := by decide +kernel
theorem dX11_luckiest_21 : decode cX11_luckiest 21 = .ok (.iaload, 1) := by decide +kernel
theorem dX11_luckiest_22 : decode cX11_luckiest 22 = .ok (.if_icmp .le 5, 3) := by decide +kernel
theorem dX11_luckiest_25 : decode cX11_luckiest 25 = .ok (.iload_n 2, 1) := by decide +kernel
theorem dX11_luckiest_26 : decode cX11_luckiest 26 = .ok (.istore_n 1, 1) := by decide +kernel
theorem dX11_luckiest_27 : decode cX11_luckiest 27 = .ok (.iinc 2 1, 3) := by decide +kernel
theorem dX11_luckiest_30 : decode cX11_luckiest 30 = .ok (.goto (-26), 3) := by decide +kernel
theorem dX11_luckiest_33 : decode cX11_luckiest 33 = .ok (.iload_n 1, 1) := by decide +kernel
theorem dX11_luckiest_34 : decode cX11_luckiest 34 = .ok (.ireturn, 1) := by decide +kernel
theorem dX11_later_0 : decode cX11_later 0 = .ok (.iload_n 1, 1) := by decide +kernel
theorem dX11_later_1 : decode cX11_later 1 = .ok (.invokestatic 247, 3) := by decide +kernel
theorem dX11_later_4 : decode cX11_later 4 = .ok (.ifCond .eq 34, 3) := by decide +kernel
theorem dX11_later_7 : decode cX11_later 7 = .ok (.iload_n 3, 1) := by decide +kernel
theorem dX11_later_8 : decode cX11_later 8 = .ok (.iconst 0, 1) := by decide +kernel
theorem dX11_later_9 : decode cX11_later 9 = .ok (.iconst 1, 1) := by decide +kernel
theorem dX11_later_10 : decode cX11_later 10 = .ok (.invokestatic 97, 3) := by decide +kernel
theorem dX11_later_13 : decode cX11_later 13 = .ok (.ifCond .eq 25, 3) := by decide +kernel
theorem dX11_later_16 : decode cX11_later 16 = .ok (.iload_n 3, 1) := by decide +kernel
theorem dX11_later_17 : decode cX11_later 17 = .ok (.ifCond .ne 13, 3) := by decide +kernel
theorem dX11_later_20 : decode cX11_later 20 = .ok (.iload_n 2, 1) := by decide +kernel
theorem dX11_later_21 : decode cX11_later 21 = .ok (.invokestatic 105, 3) := by decide +kernel
theorem dX11_later_24 : decode cX11_later 24 = .ok (.ifCond .eq 14, 3) := by decide +kernel
theorem dX11_later_27 : decode cX11_later 27 = .ok (.goto 13, 3) := by decide +kernel
theorem dX11_later_30 : decode cX11_later 30 = .ok (.aload_n 0, 1) := by decide +kernel
theorem dX11_later_31 : decode cX11_later 31 = .ok (.iload_n 2, 1) := by decide +kernel
theorem dX11_later_32 : decode cX11_later 32 = .ok (.invokevirtual 122, 3) := by decide +kernel
theorem dX11_later_35 : decode cX11_later 35 = .ok (.ifCond .ne 5, 3) := by decide +kernel
theorem dX11_later_38 : decode cX11_later 38 = .ok (.iconst (-1), 1) := by decide +kernel
theorem dX11_later_39 : decode cX11_later 39 = .ok (.ireturn, 1) := by decide +kernel
theorem dX11_later_40 : decode cX11_later 40 = .ok (.aload_n 0, 1) := by decide +kernel
theorem dX11_later_41 : decode cX11_later 41 = .ok (.aload_n 0, 1) := by decide +kernel
theorem dX11_later_42 : decode cX11_later 42 = .ok (.getfield 88, 3) := by decide +kernel
theorem dX11_later_45 : decode cX11_later 45 = .ok (.invokevirtual 250, 3) := by decide +kernel
theorem dX11_later_48 : decode cX11_later 48 = .ok (.aload_n 0, 1) := by decide +kernel
theorem dX11_later_49 : decode cX11_later 49 = .ok (.iload_n 1, 1) := by decide +kernel
theorem dX11_later_50 : decode cX11_later 50 = .ok (.invokevirtual 254, 3) := by decide +kernel
theorem dX11_later_53 : decode cX11_later 53 = .ok (.iload_n 3, 1) := by decide +kernel
theorem dX11_later_54 : decode cX11_later 54 = .ok (.ifCond .ne 12, 3) := by decide +kernel
theorem dX11_later_57 : decode cX11_later 57 = .ok (.aload_n 0, 1) := by decide +kernel
theorem dX11_later_58 : decode cX11_later 58 = .ok (.getfield 15, 3) := by decide +kernel
theorem dX11_later_61 : decode cX11_later 61 = .ok (.iload_n 2, 1) := by decide +kernel
theorem dX11_later_62 : decode cX11_later 62 = .ok (.iaload, 1) := by decide +kernel
theorem dX11_later_63 : decode cX11_later 63 = .ok (.goto 8, 3) := by decide +kernel
theorem dX11_later_66 : decode cX11_later 66 = .ok (.aload_n 0, 1) := by decide +kernel
theorem dX11_later_67 : decode cX11_later 67 = .ok (.iload_n 2, 1) := by decide +kernel
theorem dX11_later_68 : decode cX11_later 68 = .ok (.invokevirtual 258, 3) := by decide +kernel
theorem dX11_later_71 : decode cX11_later 71 = .ok (.istore 4, 2) := by decide +kernel
theorem dX11_later_73 : decode cX11_later 73 = .ok (.aload_n 0, 1) := by decide +kernel
theorem dX11_later_74 : decode cX11_later 74 = .ok (.aload_n 0, 1) := by decide +kernel
theorem dX11_later_75 : decode cX11_later 75 = .ok (.getfield 88, 3) := by decide +kernel
theorem dX11_later_78 : decode cX11_later 78 = .ok (.invokevirtual 261, 3) := by decide +kernel
theorem dX11_later_81 : decode cX11_later 81 = .ok (.iload 4, 2) := by decide +kernel
theorem dX11_later_83 : decode cX11_later 83 = .ok (.ireturn, 1) := by decide +kernel
theorem dX11_all_0 : decode cX11_all 0 = .ok (.iload_n 1, 1) := by decide +kernel
theorem dX11_all_1 : decode cX11_all 1 = .ok (.invokestatic 247, 3) := by decide +kernel
theorem dX11_all_4 : decode cX11_all 4 = .ok (.ifCond .eq 12, 3) := by decide +kernel
theorem dX11_all_7 : decode cX11_all 7 = .ok (.iload_n 2, 1) := by decide +kernel
theorem dX11_all_8 : decode cX11_all 8 = .ok (.iconst 0, 1) := by decide +kernel
theorem dX11_all_9 : decode cX11_all 9 = .ok (.iconst 1, 1) := by decide +kernel
theorem dX11_all_10 : decode cX11_all 10 = .ok (.invokestatic 97, 3) := by decide +kernel
theorem dX11_all_13 : decode cX11_all 13 = .ok (.ifCond .ne 5, 3) := by decide +kernel
theorem dX11_all_16 : decode cX11_all 16 = .ok (.iconst (-1), 1) := by decide +kernel
theorem dX11_all_17 : decode cX11_all 17 = .ok (.ireturn, 1) := by decide +kernel
theorem dX11_all_18 : decode cX11_all 18 = .ok (.aload_n 0, 1) := by decide +kernel
theorem dX11_all_19 : decode cX11_all 19 = .ok (.aload_n 0, 1) := by decide +kernel
theorem dX11_all_20 : decode cX11_all 20 = .ok (.getfield 88, 3) := by decide +kernel
theorem dX11_all_23 : decode cX11_all 23 = .ok (.invokevirtual 250, 3) := by decide +kernel
theorem dX11_all_26 : decode cX11_all 26 = .ok (.aload_n 0, 1) := by decide +kernel
theorem dX11_all_27 : decode cX11_all 27 = .ok (.iload_n 1, 1) := by decide +kernel
theorem dX11_all_28 : decode cX11_all 28 = .ok (.invokevirtual 254, 3) := by decide +kernel
theorem dX11_all_31 : decode cX11_all 31 = .ok (.iload_n 2, 1) := by decide +kernel
theorem dX11_all_32 : decode cX11_all 32 = .ok (.ifCond .ne 10, 3) := by decide +kernel
theorem dX11_all_35 : decode cX11_all 35 = .ok (.aload_n 0, 1) := by decide +kernel
theorem dX11_all_36 : decode cX11_all 36 = .ok (.invokevirtual 264, 3) := by decide +kernel
theorem dX11_all_39 : decode cX11_all 39 = .ok (.goto 7, 3) := by decide +kernel
theorem dX11_all_42 : decode cX11_all 42 = .ok (.aload_n 0, 1) := by decide +kernel
theorem dX11_all_43 : decode cX11_all 43 = .ok (.invokevirtual 267, 3) := by decide +kernel
theorem dX11_all_46 : decode cX11_all 46 = .ok (.istore_n 3, 1) := by decide +kernel
theorem dX11_all_47 : decode cX11_all 47 = .ok (.aload_n 0, 1) := by decide +kernel
theorem dX11_all_48 : decode cX11_all 48 = .ok (.aload_n 0, 1) := by decide +kernel
theorem dX11_all_49 : decode cX11_all 49 = .ok (.getfield 88, 3) := by decide +kernel
theorem dX11_all_52 : decode cX11_all 52 = .ok (.invokevirtual 261, 3) := by decide +kernel
theorem dX11_all_55 : decode cX11_all 55 = .ok (.iload_n 3, 1) := by decide +kernel
theorem dX11_all_56 : decode cX11_all 56 = .ok (.ireturn, 1) := by decide +kernel
theorem dX11_isAsThen_0 : decode cX11_isAsThen 0 = .ok (.iconst 0, 1) := by decide +kernel
theorem dX11_isAsThen_1 : decode cX11_isAsThen 1 = .ok (.istore_n 1, 1) := by decide +kernel
theorem dX11_isAsThen_2 : decode cX11_isAsThen 2 = .ok (.iload_n 1, 1) := by decide +kernel
theorem dX11_isAsThen_3 : decode cX11_isAsThen 3 = .ok (.bipush 36, 2) := by decide +kernel
theorem dX11_isAsThen_5 : decode cX11_isAsThen 5 = .ok (.if_icmp .ge 26, 3) := by decide +kernel
theorem dX11_isAsThen_8 : decode cX11_isAsThen 8 = .ok (.aload_n 0, 1) := by decide +kernel
theorem dX11_isAsThen_9 : decode cX11_isAsThen 9 = .ok (.getfield 15, 3) := by decide +kernel
theorem dX11_isAsThen_12 : decode cX11_isAsThen 12 = .ok (.iload_n 1, 1) := by decide +kernel
theorem dX11_isAsThen_13 : decode cX11_isAsThen 13 = .ok (.iaload, 1) := by decide +kernel
theorem dX11_isAsThen_14 : decode cX11_isAsThen 14 = .ok (.aload_n 0, 1) := by decide +kernel
theorem dX11_isAsThen_15 : decode cX11_isAsThen 15 = .ok (.getfield 94, 3) := by decide +kernel
theorem dX11_isAsThen_18 : decode cX11_isAsThen 18 = .ok (.iload_n 1, 1) := by decide +kernel
theorem dX11_isAsThen_19 : decode cX11_isAsThen 19 = .ok (.iaload, 1) := by decide +kernel
theorem dX11_isAsThen_20 : decode cX11_isAsThen 20 = .ok (.if_icmp .eq 5, 3) := by decide +kernel
theorem dX11_isAsThen_23 : decode cX11_isAsThen 23 = .ok (.iconst 0, 1) := by decide +kernel
theorem dX11_isAsThen_24 : decode cX11_isAsThen 24 = .ok (.ireturn, 1) := by decide +kernel
theorem dX11_isAsThen_25 : decode cX11_isAsThen 25 = .ok (.iinc 1 1, 3) := by decide +kernel
theorem dX11_isAsThen_28 : decode cX11_isAsThen 28 = .ok (.goto (-26), 3) := by decide +kernel
theorem dX11_isAsThen_31 : decode cX11_isAsThen 31 = .ok (.iconst 0, 1) := by decide +kernel
theorem dX11_isAsThen_32 : decode cX11_isAsThen 32 = .ok (.istore_n 1, 1) := by decide +kernel
theorem dX11_isAsThen_33 : decode cX11_isAsThen 33 = .ok (.iload_n 1, 1) := by decide +kernel
theorem dX11_isAsThen_34 : decode cX11_isAsThen 34 = .ok (.aload_n 0, 1) := by decide +kernel
theorem dX11_isAsThen_35 : decode cX11_isAsThen 35 = .ok (.getfield 101, 3) := by decide +kernel
theorem dX11_isAsThen_38 : decode cX11_isAsThen 38 = .ok (.if_icmp .ge 28, 3) := by decide +kernel
theorem dX11_isAsThen_41 : decode cX11_isAsThen 41 = .ok (.aload_n 0, 1) := by decide +kernel
theorem dX11_isAsThen_42 : decode cX11_isAsThen 42 = .ok (.iload_n 1, 1) := by decide +kernel
theorem dX11_isAsThen_43 : decode cX11_isAsThen 43 = .ok (.invokevirtual 258, 3) := by decide +kernel
theorem dX11_isAsThen_46 : decode cX11_isAsThen 46 = .ok (.aload_n 0, 1) := by decide +kernel
theorem dX11_isAsThen_47 : decode cX11_isAsThen 47 = .ok (.getfield 94, 3) := by decide +kernel
theorem dX11_isAsThen_50 : decode cX11_isAsThen 50 = .ok (.bipush 96, 2) := by decide +kernel
theorem dX11_isAsThen_52 : decode cX11_isAsThen 52 = .ok (.iload_n 1, 1) := by decide +kernel
theorem dX11_isAsThen_53 : decode cX11_isAsThen 53 = .ok (.iadd, 1) := by decide +kernel
theorem dX11_isAsThen_54 : decode cX11_isAsThen 54 = .ok (.iaload, 1) := by decide +kernel
theorem dX11_isAsThen_55 : decode cX11_isAsThen 55 = .ok (.if_icmp .eq 5, 3) := by decide +kernel
theorem dX11_isAsThen_58 : decode cX11_isAsThen 58 = .ok (.iconst 0, 1) := by decide +kernel
theorem dX11_isAsThen_59 : decode cX11_isAsThen 59 = .ok (.ireturn, 1) := by decide +kernel
theorem dX11_isAsThen_60 : decode cX11_isAsThen 60 = .ok (.iinc 1 1, 3) := by decide +kernel
theorem dX11_isAsThen_63 : decode cX11_isAsThen 63 = .ok (.goto (-30), 3) := by decide +kernel
theorem dX11_isAsThen_66 : decode cX11_isAsThen 66 = .ok (.iconst 1, 1) := by decide +kernel
theorem dX11_isAsThen_67 : decode cX11_isAsThen 67 = .ok (.ireturn, 1) := by decide +kernel
theorem dX11_still_0 : decode cX11_still 0 = .ok (.aload_n 0, 1) := by decide +kernel
theorem dX11_still_1 : decode cX11_still 1 = .ok (.aload_n 0, 1) := by decide +kernel
theorem dX11_still_2 : decode cX11_still 2 = .ok (.getfield 88, 3) := by decide +kernel
theorem dX11_still_5 : decode cX11_still 5 = .ok (.invokevirtual 250, 3) := by decide +kernel
theorem dX11_still_8 : decode cX11_still 8 = .ok (.bipush (-2), 2) := by decide +kernel
theorem dX11_still_10 : decode cX11_still 10 = .ok (.istore_n 1, 1) := by decide +kernel
theorem dX11_still_11 : decode cX11_still 11 = .ok (.iconst 0, 1) := by decide +kernel
theorem dX11_still_12 : decode cX11_still 12 = .ok (.istore_n 2, 1) := by decide +kernel
theorem dX11_still_13 : decode cX11_still 13 = .ok (.iload_n 2, 1) := by decide +kernel
theorem dX11_still_14 : decode cX11_still 14 = .ok (.bipush 49, 2) := by decide +kernel
theorem dX11_still_16 : decode cX11_still 16 = .ok (.if_icmp .ge 36, 3) := by decide +kernel
theorem dX11_still_19 : decode cX11_still 19 = .ok (.iload_n 1, 1) := by decide +kernel
theorem dX11_still_20 : decode cX11_still 20 = .ok (.bipush (-2), 2) := by decide +kernel
theorem dX11_still_22 : decode cX11_still 22 = .ok (.if_icmp .ne 30, 3) := by decide +kernel
theorem dX11_still_25 : decode cX11_still 25 = .ok (.aload_n 0, 1) := by decide +kernel
theorem dX11_still_26 : decode cX11_still 26 = .ok (.aload_n 0, 1) := by decide +kernel
theorem dX11_still_27 : decode cX11_still 27 = .ok (.getfield 94, 3) := by decide +kernel
theorem dX11_still_30 : decode cX11_still 30 = .ok (.invokevirtual 250, 3) := by decide +kernel
theorem dX11_still_33 : decode cX11_still 33 = .ok (.aload_n 0, 1) := by decide +kernel
theorem dX11_still_34 : decode cX11_still 34 = .ok (.invokevirtual 244, 3) := by decide +kernel
theorem dX11_still_37 : decode cX11_still 37 = .ok (.aload_n 0, 1) := by decide +kernel
theorem dX11_still_38 : decode cX11_still 38 = .ok (.invokevirtual 270, 3) := by decide +kernel
theorem dX11_still_41 : decode cX11_still 41 = .ok (.ifCond .eq 5, 3) := by decide +kernel
theorem dX11_still_44 : decode cX11_still 44 = .ok (.iload_n 2, 1) := by decide +kernel
theorem dX11_still_45 : decode cX11_still 45 = .ok (.istore_n 1, 1) := by decide +kernel
theorem dX11_still_46 : decode cX11_still 46 = .ok (.iinc 2 1, 3) := by decide +kernel
theorem dX11_still_49 : decode cX11_still 49 = .ok (.goto (-36), 3) := by decide +kernel
theorem dX11_still_52 : decode cX11_still 52 = .ok (.aload_n 0, 1) := by decide +kernel
theorem dX11_still_53 : decode cX11_still 53 = .ok (.aload_n 0, 1) := by decide +kernel
theorem dX11_still_54 : decode cX11_still 54 = .ok (.getfield 88, 3) := by decide +kernel
theorem dX11_still_57 : decode cX11_still 57 = .ok (.invokevirtual 261, 3) := by decide +kernel
theorem dX11_still_60 : decode cX11_still 60 = .ok (.iload_n 1, 1) := by decide +kernel
theorem dX11_still_61 : decode cX11_still 61 = .ok (.ireturn, 1) := by decide +kernel
theorem dX11_rich_0 : decode cX11_rich 0 = .ok (.aload_n 0, 1) := by decide +kernel
theorem dX11_rich_1 : decode cX11_rich 1 = .ok (.iload_n 1, 1) := by decide +kernel
theorem dX11_rich_2 : decode cX11_rich 2 = .ok (.invokevirtual 122, 3) := by decide +kernel
theorem dX11_rich_5 : decode cX11_rich 5 = .ok (.ifCond .eq 14, 3) := by decide +kernel
theorem dX11_rich_8 : decode cX11_rich 8 = .ok (.iload_n 2, 1) := by decide +kernel
theorem dX11_rich_9 : decode cX11_rich 9 = .ok (.iconst 0, 1) := by decide +kernel
theorem dX11_rich_10 : decode cX11_rich 10 = .ok (.sipush 9999, 3) := by decide +kernel
theorem dX11_rich_13 : decode cX11_rich 13 = .ok (.invokestatic 97, 3) := by decide +kernel
theorem dX11_rich_16 : decode cX11_rich 16 = .ok (.ifCond .ne 5, 3) := by decide +kernel
theorem dX11_rich_19 : decode cX11_rich 19 = .ok (.iconst (-1), 1) := by decide +kernel
theorem dX11_rich_20 : decode cX11_rich 20 = .ok (.ireturn, 1) := by decide +kernel
theorem dX11_rich_21 : decode cX11_rich 21 = .ok (.aload_n 0, 1) := by decide +kernel
theorem dX11_rich_22 : decode cX11_rich 22 = .ok (.aload_n 0, 1) := by decide +kernel
theorem dX11_rich_23 : decode cX11_rich 23 = .ok (.getfield 88, 3) := by decide +kernel
theorem dX11_rich_26 : decode cX11_rich 26 = .ok (.invokevirtual 250, 3) := by decide +kernel
theorem dX11_rich_29 : decode cX11_rich 29 = .ok (.bipush (-2), 2) := by decide +kernel
theorem dX11_rich_31 : decode cX11_rich 31 = .ok (.istore_n 3, 1) := by decide +kernel
theorem dX11_rich_32 : decode cX11_rich 32 = .ok (.iconst 0, 1) := by decide +kernel
theorem dX11_rich_33 : decode cX11_rich 33 = .ok (.istore 4, 2) := by decide +kernel
theorem dX11_rich_35 : decode cX11_rich 35 = .ok (.iload 4, 2) := by decide +kernel
theorem dX11_rich_37 : decode cX11_rich 37 = .ok (.bipush 49, 2) := by decide +kernel
