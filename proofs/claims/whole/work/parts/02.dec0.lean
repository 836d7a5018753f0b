theorem dX0_init_0 : decode cX0_init 0 = .ok (.aload_n 0, 1) := by decide +kernel
theorem dX0_init_1 : decode cX0_init 1 = .ok (.invokespecial 3, 3) := by decide +kernel
theorem dX0_init_4 : decode cX0_init 4 = .ok (.aload_n 0, 1) := by decide +kernel
theorem dX0_init_5 : decode cX0_init 5 = .ok (.lconst 0, 1) := by decide +kernel
theorem dX0_init_6 : decode cX0_init 6 = .ok (.putfield 9, 3) := by decide +kernel
theorem dX0_init_9 : decode cX0_init 9 = .ok (.aload_n 0, 1) := by decide +kernel
theorem dX0_init_10 : decode cX0_init 10 = .ok (.lconst 1, 1) := by decide +kernel
theorem dX0_init_11 : decode cX0_init 11 = .ok (.putfield 15, 3) := by decide +kernel
theorem dX0_init_14 : decode cX0_init 14 = .ok (.aload_n 0, 1) := by decide +kernel
theorem dX0_init_15 : decode cX0_init 15 = .ok (.bipush (-2), 2) := by decide +kernel
theorem dX0_init_17 : decode cX0_init 17 = .ok (.putfield 18, 3) := by decide +kernel
theorem dX0_init_20 : decode cX0_init 20 = .ok (.return_, 1) := by decide +kernel
theorem dX0_read_0 : decode cX0_read 0 = .ok (.aload_n 0, 1) := by decide +kernel
theorem dX0_read_1 : decode cX0_read 1 = .ok (.lconst 0, 1) := by decide +kernel
theorem dX0_read_2 : decode cX0_read 2 = .ok (.putfield 9, 3) := by decide +kernel
theorem dX0_read_5 : decode cX0_read 5 = .ok (.aload_n 0, 1) := by decide +kernel
theorem dX0_read_6 : decode cX0_read 6 = .ok (.lconst 1, 1) := by decide +kernel
theorem dX0_read_7 : decode cX0_read 7 = .ok (.putfield 15, 3) := by decide +kernel
theorem dX0_read_10 : decode cX0_read 10 = .ok (.aload_n 0, 1) := by decide +kernel
theorem dX0_read_11 : decode cX0_read 11 = .ok (.bipush (-2), 2) := by decide +kernel
theorem dX0_read_13 : decode cX0_read 13 = .ok (.putfield 18, 3) := by decide +kernel
theorem dX0_read_16 : decode cX0_read 16 = .ok (.iload_n 2, 1) := by decide +kernel
theorem dX0_read_17 : decode cX0_read 17 = .ok (.bipush 6, 2) := by decide +kernel
theorem dX0_read_19 : decode cX0_read 19 = .ok (.invokestatic 22, 3) := by decide +kernel
theorem dX0_read_22 : decode cX0_read 22 = .ok (.istore_n 3, 1) := by decide +kernel
theorem dX0_read_23 : decode cX0_read 23 = .ok (.iconst 0, 1) := by decide +kernel
theorem dX0_read_24 : decode cX0_read 24 = .ok (.istore 4, 2) := by decide +kernel
theorem dX0_read_26 : decode cX0_read 26 = .ok (.iload 4, 2) := by decide +kernel
theorem dX0_read_28 : decode cX0_read 28 = .ok (.iload_n 3, 1) := by decide +kernel
theorem dX0_read_29 : decode cX0_read 29 = .ok (.if_icmp .ge 66, 3) := by decide +kernel
theorem dX0_read_32 : decode cX0_read 32 = .ok (.aload_n 1, 1) := by decide +kernel
theorem dX0_read_33 : decode cX0_read 33 = .ok (.iload 4, 2) := by decide +kernel
theorem dX0_read_35 : decode cX0_read 35 = .ok (.laload, 1) := by decide +kernel
theorem dX0_read_36 : decode cX0_read 36 = .ok (.lconst 1, 1) := by decide +kernel
theorem dX0_read_37 : decode cX0_read 37 = .ok (.lcmp, 1) := by decide +kernel
theorem dX0_read_38 : decode cX0_read 38 = .ok (.ifCond .lt 57, 3) := by decide +kernel
theorem dX0_read_41 : decode cX0_read 41 = .ok (.aload_n 1, 1) := by decide +kernel
theorem dX0_read_42 : decode cX0_read 42 = .ok (.iload 4, 2) := by decide +kernel
theorem dX0_read_44 : decode cX0_read 44 = .ok (.laload, 1) := by decide +kernel
theorem dX0_read_45 : decode cX0_read 45 = .ok (.ldc2_w 28, 3) := by decide +kernel
theorem dX0_read_48 : decode cX0_read 48 = .ok (.lcmp, 1) := by decide +kernel
theorem dX0_read_49 : decode cX0_read 49 = .ok (.ifCond .gt 46, 3) := by decide +kernel
theorem dX0_read_52 : decode cX0_read 52 = .ok (.aload_n 0, 1) := by decide +kernel
theorem dX0_read_53 : decode cX0_read 53 = .ok (.aload_n 1, 1) := by decide +kernel
theorem dX0_read_54 : decode cX0_read 54 = .ok (.iload 4, 2) := by decide +kernel
theorem dX0_read_56 : decode cX0_read 56 = .ok (.laload, 1) := by decide +kernel
theorem dX0_read_57 : decode cX0_read 57 = .ok (.invokevirtual 30, 3) := by decide +kernel
theorem dX0_read_60 : decode cX0_read 60 = .ok (.aload_n 0, 1) := by decide +kernel
theorem dX0_read_61 : decode cX0_read 61 = .ok (.getfield 18, 3) := by decide +kernel
theorem dX0_read_64 : decode cX0_read 64 = .ok (.bipush (-2), 2) := by decide +kernel
theorem dX0_read_66 : decode cX0_read 66 = .ok (.if_icmp .eq 17, 3) := by decide +kernel
theorem dX0_read_69 : decode cX0_read 69 = .ok (.aload_n 1, 1) := by decide +kernel
theorem dX0_read_70 : decode cX0_read 70 = .ok (.iload 4, 2) := by decide +kernel
theorem dX0_read_72 : decode cX0_read 72 = .ok (.laload, 1) := by decide +kernel
theorem dX0_read_73 : decode cX0_read 73 = .ok (.aload_n 1, 1) := by decide +kernel
theorem dX0_read_74 : decode cX0_read 74 = .ok (.aload_n 0, 1) := by decide +kernel
theorem dX0_read_75 : decode cX0_read 75 = .ok (.getfield 18, 3) := by decide +kernel
theorem dX0_read_78 : decode cX0_read 78 = .ok (.laload, 1) := by decide +kernel
theorem dX0_read_79 : decode cX0_read 79 = .ok (.lcmp, 1) := by decide +kernel
theorem dX0_read_80 : decode cX0_read 80 = .ok (.ifCond .le 9, 3) := by decide +kernel
theorem dX0_read_83 : decode cX0_read 83 = .ok (.aload_n 0, 1) := by decide +kernel
theorem dX0_read_84 : decode cX0_read 84 = .ok (.iload 4, 2) := by decide +kernel
theorem dX0_read_86 : decode cX0_read 86 = .ok (.putfield 18, 3) := by decide +kernel
theorem dX0_read_89 : decode cX0_read 89 = .ok (.iinc 4 1, 3) := by decide +kernel
theorem dX0_read_92 : decode cX0_read 92 = .ok (.goto (-66), 3) := by decide +kernel
theorem dX0_read_95 : decode cX0_read 95 = .ok (.return_, 1) := by decide +kernel
theorem dX0_isSure_0 : decode cX0_isSure 0 = .ok (.aload_n 0, 1) := by decide +kernel
theorem dX0_isSure_1 : decode cX0_isSure 1 = .ok (.getfield 18, 3) := by decide +kernel
theorem dX0_isSure_4 : decode cX0_isSure 4 = .ok (.bipush (-2), 2) := by decide +kernel
theorem dX0_isSure_6 : decode cX0_isSure 6 = .ok (.if_icmp .eq 19, 3) := by decide +kernel
theorem dX0_isSure_9 : decode cX0_isSure 9 = .ok (.aload_n 0, 1) := by decide +kernel
theorem dX0_isSure_10 : decode cX0_isSure 10 = .ok (.getfield 9, 3) := by decide +kernel
theorem dX0_isSure_13 : decode cX0_isSure 13 = .ok (.aload_n 0, 1) := by decide +kernel
theorem dX0_isSure_14 : decode cX0_isSure 14 = .ok (.getfield 15, 3) := by decide +kernel
theorem dX0_isSure_17 : decode cX0_isSure 17 = .ok (.lcmp, 1) := by decide +kernel
theorem dX0_isSure_18 : decode cX0_isSure 18 = .ok (.ifCond .ge 7, 3) := by decide +kernel
theorem dX0_isSure_21 : decode cX0_isSure 21 = .ok (.iconst 1, 1) := by decide +kernel
theorem dX0_isSure_22 : decode cX0_isSure 22 = .ok (.goto 4, 3) := by decide +kernel
theorem dX0_isSure_25 : decode cX0_isSure 25 = .ok (.iconst 0, 1) := by decide +kernel
theorem dX0_isSure_26 : decode cX0_isSure 26 = .ok (.ireturn, 1) := by decide +kernel
theorem dX0_add_0 : decode cX0_add 0 = .ok (.aload_n 0, 1) := by decide +kernel
theorem dX0_add_1 : decode cX0_add 1 = .ok (.aload_n 0, 1) := by decide +kernel
theorem dX0_add_2 : decode cX0_add 2 = .ok (.getfield 9, 3) := by decide +kernel
theorem dX0_add_5 : decode cX0_add 5 = .ok (.lload_n 1, 1) := by decide +kernel
theorem dX0_add_6 : decode cX0_add 6 = .ok (.lmul, 1) := by decide +kernel
theorem dX0_add_7 : decode cX0_add 7 = .ok (.ldc2_w 34, 3) := by decide +kernel
theorem dX0_add_10 : decode cX0_add 10 = .ok (.aload_n 0, 1) := by decide +kernel
theorem dX0_add_11 : decode cX0_add 11 = .ok (.getfield 15, 3) := by decide +kernel
theorem dX0_add_14 : decode cX0_add 14 = .ok (.lmul, 1) := by decide +kernel
theorem dX0_add_15 : decode cX0_add 15 = .ok (.ladd, 1) := by decide +kernel
theorem dX0_add_16 : decode cX0_add 16 = .ok (.putfield 9, 3) := by decide +kernel
theorem dX0_add_19 : decode cX0_add 19 = .ok (.aload_n 0, 1) := by decide +kernel
theorem dX0_add_20 : decode cX0_add 20 = .ok (.aload_n 0, 1) := by decide +kernel
theorem dX0_add_21 : decode cX0_add 21 = .ok (.getfield 15, 3) := by decide +kernel
theorem dX0_add_24 : decode cX0_add 24 = .ok (.lload_n 1, 1) := by decide +kernel
theorem dX0_add_25 : decode cX0_add 25 = .ok (.lmul, 1) := by decide +kernel
theorem dX0_add_26 : decode cX0_add 26 = .ok (.putfield 15, 3) := by decide +kernel
theorem dX0_add_29 : decode cX0_add 29 = .ok (.aload_n 0, 1) := by decide +kernel
theorem dX0_add_30 : decode cX0_add 30 = .ok (.getfield 9, 3) := by decide +kernel
theorem dX0_add_33 : decode cX0_add 33 = .ok (.aload_n 0, 1) := by decide +kernel
theorem dX0_add_34 : decode cX0_add 34 = .ok (.getfield 15, 3) := by decide +kernel
theorem dX0_add_37 : decode cX0_add 37 = .ok (.invokestatic 36, 3) := by decide +kernel
theorem dX0_add_40 : decode cX0_add 40 = .ok (.lstore_n 3, 1) := by decide +kernel
theorem dX0_add_41 : decode cX0_add 41 = .ok (.lload_n 3, 1) := by decide +kernel
theorem dX0_add_42 : decode cX0_add 42 = .ok (.lconst 1, 1) := by decide +kernel
theorem dX0_add_43 : decode cX0_add 43 = .ok (.lcmp, 1) := by decide +kernel
theorem dX0_add_44 : decode cX0_add 44 = .ok (.ifCond .le 23, 3) := by decide +kernel
theorem dX0_add_47 : decode cX0_add 47 = .ok (.aload_n 0, 1) := by decide +kernel
theorem dX0_add_48 : decode cX0_add 48 = .ok (.dup, 1) := by decide +kernel
theorem dX0_add_49 : decode cX0_add 49 = .ok (.getfield 9, 3) := by decide +kernel
theorem dX0_add_52 : decode cX0_add 52 = .ok (.lload_n 3, 1) := by decide +kernel
theorem dX0_add_53 : decode cX0_add 53 = .ok (.ldiv, 1) := by decide +kernel
theorem dX0_add_54 : decode cX0_add 54 = .ok (.putfield 9, 3) := by decide +kernel
theorem dX0_add_57 : decode cX0_add 57 = .ok (.aload_n 0, 1) := by decide +kernel
theorem dX0_add_58 : decode cX0_add 58 = .ok (.dup, 1) := by decide +kernel
theorem dX0_add_59 : decode cX0_add 59 = .ok (.getfield 15, 3) := by decide +kernel
theorem dX0_add_62 : decode cX0_add 62 = .ok (.lload_n 3, 1) := by decide +kernel
theorem dX0_add_63 : decode cX0_add 63 = .ok (.ldiv, 1) := by decide +kernel
theorem dX0_add_64 : decode cX0_add 64 = .ok (.putfield 15, 3) := by decide +kernel
theorem dX0_add_67 : decode cX0_add 67 = .ok (.return_, 1) := by decide +kernel
theorem dX0_commonDivisor_0 : decode cX0_commonDivisor 0 = .ok (.lload_n 0, 1) := by decide +kernel
theorem dX0_commonDivisor_1 : decode cX0_commonDivisor 1 = .ok (.lstore 4, 2) := by decide +kernel
theorem dX0_commonDivisor_3 : decode cX0_commonDivisor 3 = .ok (.lload_n 2, 1) := by decide +kernel
theorem dX0_commonDivisor_4 : decode cX0_commonDivisor 4 = .ok (.lstore 6, 2) := by decide +kernel
theorem dX0_commonDivisor_6 : decode cX0_commonDivisor 6 = .ok (.iconst 0, 1) := by decide +kernel
theorem dX0_commonDivisor_7 : decode cX0_commonDivisor 7 = .ok (.istore 8, 2) := by decide +kernel
theorem dX0_commonDivisor_9 : decode cX0_commonDivisor 9 = .ok (.iload 8, 2) := by decide +kernel
theorem dX0_commonDivisor_11 : decode cX0_commonDivisor 11 = .ok (.sipush 200, 3) := by decide +kernel
theorem dX0_commonDivisor_14 : decode cX0_commonDivisor 14 = .ok (.if_icmp .ge 31, 3) := by decide +kernel
theorem dX0_commonDivisor_17 : decode cX0_commonDivisor 17 = .ok (.lload 6, 2) := by decide +kernel
theorem dX0_commonDivisor_19 : decode cX0_commonDivisor 19 = .ok (.lconst 0, 1) := by decide +kernel
theorem dX0_commonDivisor_20 : decode cX0_commonDivisor 20 = .ok (.lcmp, 1) := by decide +kernel
theorem dX0_commonDivisor_21 : decode cX0_commonDivisor 21 = .ok (.ifCond .eq 24, 3) := by decide +kernel
theorem dX0_commonDivisor_24 : decode cX0_commonDivisor 24 = .ok (.lload 4, 2) := by decide +kernel
theorem dX0_commonDivisor_26 : decode cX0_commonDivisor 26 = .ok (.lload 6, 2) := by decide +kernel
theorem dX0_commonDivisor_28 : decode cX0_commonDivisor 28 = .ok (.lrem, 1) := by decide +kernel
theorem dX0_commonDivisor_29 : decode cX0_commonDivisor 29 = .ok (.lstore 9, 2) := by decide +kernel
theorem dX0_commonDivisor_31 : decode cX0_commonDivisor 31 = .ok (.lload 6, 2) := by decide +kernel
theorem dX0_commonDivisor_33 : decode cX0_commonDivisor 33 = .ok (.lstore 4, 2) := by decide +kernel
theorem dX0_commonDivisor_35 : decode cX0_commonDivisor 35 = .ok (.lload 9, 2) := by decide +kernel
theorem dX0_commonDivisor_37 : decode cX0_commonDivisor 37 = .ok (.lstore 6, 2) := by decide +kernel
theorem dX0_commonDivisor_39 : decode cX0_commonDivisor 39 = .ok (.iinc 8 1, 3) := by decide +kernel
theorem dX0_commonDivisor_42 : decode cX0_commonDivisor 42 = .ok (.goto (-33), 3) := by decide +kernel
theorem dX0_commonDivisor_45 : decode cX0_commonDivisor 45 = .ok (.lload 4, 2) := by decide +kernel
theorem dX0_commonDivisor_47 : decode cX0_commonDivisor 47 = .ok (.lreturn, 1) := by decide +kernel
theorem dX1_init_0 : decode cX1_init 0 = .ok (.aload_n 0, 1) := by decide +kernel
theorem dX1_init_1 : decode cX1_init 1 = .ok (.invokespecial 3, 3) := by decide +kernel
theorem dX1_init_4 : decode cX1_init 4 = .ok (.aload_n 0, 1) := by decide +kernel
theorem dX1_init_5 : decode cX1_init 5 = .ok (.iconst 0, 1) := by decide +kernel
theorem dX1_init_6 : decode cX1_init 6 = .ok (.putfield 9, 3) := by decide +kernel
theorem dX1_init_9 : decode cX1_init 9 = .ok (.aload_n 0, 1) := by decide +kernel
theorem dX1_init_10 : decode cX1_init 10 = .ok (.iconst 0, 1) := by decide +kernel
theorem dX1_init_11 : decode cX1_init 11 = .ok (.putfield 15, 3) := by decide +kernel
theorem dX1_init_14 : decode cX1_init 14 = .ok (.aload_n 0, 1) := by decide +kernel
theorem dX1_init_15 : decode cX1_init 15 = .ok (.bipush 24, 2) := by decide +kernel
theorem dX1_init_17 : decode cX1_init 17 = .ok (.newarray .int, 2) := by decide +kernel
theorem dX1_init_19 : decode cX1_init 19 = .ok (.putfield 18, 3) := by decide +kernel
theorem dX1_init_22 : decode cX1_init 22 = .ok (.aload_n 0, 1) := by decide +kernel
theorem dX1_init_23 : decode cX1_init 23 = .ok (.bipush 50, 2) := by decide +kernel
theorem dX1_init_25 : decode cX1_init 25 = .ok (.newarray .int, 2) := by decide +kernel
theorem dX1_init_27 : decode cX1_init 27 = .ok (.putfield 22, 3) := by decide +kernel
theorem dX1_init_30 : decode cX1_init 30 = .ok (.return_, 1) := by decide +kernel
theorem dX1_isKind_0 : decode cX1_isKind 0 = .ok (.iload_n 0, 1) := by decide +kernel
theorem dX1_isKind_1 : decode cX1_isKind 1 = .ok (.ifCond .lt 13, 3) := by decide +kernel
theorem dX1_isKind_4 : decode cX1_isKind 4 = .ok (.iload_n 0, 1) := by decide +kernel
theorem dX1_isKind_5 : decode cX1_isKind 5 = .ok (.bipush 8, 2) := by decide +kernel
theorem dX1_isKind_7 : decode cX1_isKind 7 = .ok (.if_icmp .ge 7, 3) := by decide +kernel
theorem dX1_isKind_10 : decode cX1_isKind 10 = .ok (.iconst 1, 1) := by decide +kernel
theorem dX1_isKind_11 : decode cX1_isKind 11 = .ok (.goto 4, 3) := by decide +kernel
theorem dX1_isKind_14 : decode cX1_isKind 14 = .ok (.iconst 0, 1) := by decide +kernel
theorem dX1_isKind_15 : decode cX1_isKind 15 = .ok (.ireturn, 1) := by decide +kernel
theorem dX1_isUnder_0 : decode cX1_isUnder 0 = .ok (.iload_n 0, 1) := by decide +kernel
theorem dX1_isUnder_1 : decode cX1_isUnder 1 = .ok (.istore_n 2, 1) := by decide +kernel
theorem dX1_isUnder_2 : decode cX1_isUnder 2 = .ok (.iconst 0, 1) := by decide +kernel
theorem dX1_isUnder_3 : decode cX1_isUnder 3 = .ok (.istore_n 3, 1) := by decide +kernel
theorem dX1_isUnder_4 : decode cX1_isUnder 4 = .ok (.iload_n 3, 1) := by decide +kernel
theorem dX1_isUnder_5 : decode cX1_isUnder 5 = .ok (.bipush 8, 2) := by decide +kernel
theorem dX1_isUnder_7 : decode cX1_isUnder 7 = .ok (.if_icmp .ge 24, 3) := by decide +kernel
theorem dX1_isUnder_10 : decode cX1_isUnder 10 = .ok (.iload_n 2, 1) := by decide +kernel
theorem dX1_isUnder_11 : decode cX1_isUnder 11 = .ok (.iload_n 1, 1) := by decide +kernel
theorem dX1_isUnder_12 : decode cX1_isUnder 12 = .ok (.if_icmp .eq 19, 3) := by decide +kernel
theorem dX1_isUnder_15 : decode cX1_isUnder 15 = .ok (.iload_n 2, 1) := by decide +kernel
theorem dX1_isUnder_16 : decode cX1_isUnder 16 = .ok (.ifCond .le 15, 3) := by decide +kernel
theorem dX1_isUnder_19 : decode cX1_isUnder 19 = .ok (.getstatic 25, 3) := by decide +kernel
theorem dX1_isUnder_22 : decode cX1_isUnder 22 = .ok (.iload_n 2, 1) := by decide +kernel
theorem dX1_isUnder_23 : decode cX1_isUnder 23 = .ok (.iaload, 1) := by decide +kernel
theorem dX1_isUnder_24 : decode cX1_isUnder 24 = .ok (.istore_n 2, 1) := by decide +kernel
theorem dX1_isUnder_25 : decode cX1_isUnder 25 = .ok (.iinc 3 1, 3) := by decide +kernel
theorem dX1_isUnder_28 : decode cX1_isUnder 28 = .ok (.goto (-24), 3) := by decide +kernel
theorem dX1_isUnder_31 : decode cX1_isUnder 31 = .ok (.iload_n 2, 1) := by decide +kernel
theorem dX1_isUnder_32 : decode cX1_isUnder 32 = .ok (.iload_n 1, 1) := by decide +kernel
theorem dX1_isUnder_33 : decode cX1_isUnder 33 = .ok (.if_icmp .ne 7, 3) := by decide +kernel
theorem dX1_isUnder_36 : decode cX1_isUnder 36 = .ok (.iconst 1, 1) := by decide +kernel
theorem dX1_isUnder_37 : decode cX1_isUnder 37 = .ok (.goto 4, 3) := by decide +kernel
theorem dX1_isUnder_40 : decode cX1_isUnder 40 = .ok (.iconst 0, 1) := by decide +kernel
theorem dX1_isUnder_41 : decode cX1_isUnder 41 = .ok (.ireturn, 1) := by decide +kernel
theorem dX1_isBody_0 : decode cX1_isBody 0 = .ok (.iload_n 1, 1) := by decide +kernel
theorem dX1_isBody_1 : decode cX1_isBody 1 = .ok (.ifCond .lt 15, 3) := by decide +kernel
theorem dX1_isBody_4 : decode cX1_isBody 4 = .ok (.iload_n 1, 1) := by decide +kernel
theorem dX1_isBody_5 : decode cX1_isBody 5 = .ok (.aload_n 0, 1) := by decide +kernel
theorem dX1_isBody_6 : decode cX1_isBody 6 = .ok (.getfield 9, 3) := by decide +kernel
theorem dX1_isBody_9 : decode cX1_isBody 9 = .ok (.if_icmp .ge 7, 3) := by decide +kernel
theorem dX1_isBody_12 : decode cX1_isBody 12 = .ok (.iconst 1, 1) := by decide +kernel
theorem dX1_isBody_13 : decode cX1_isBody 13 = .ok (.goto 4, 3) := by decide +kernel
theorem dX1_isBody_16 : decode cX1_isBody 16 = .ok (.iconst 0, 1) := by decide +kernel
theorem dX1_isBody_17 : decode cX1_isBody 17 = .ok (.ireturn, 1) := by decide +kernel
theorem dX1_kindOf_0 : decode cX1_kindOf 0 = .ok (.aload_n 0, 1) := by decide +kernel
theorem dX1_kindOf_1 : decode cX1_kindOf 1 = .ok (.iload_n 1, 1) := by decide +kernel
theorem dX1_kindOf_2 : decode cX1_kindOf 2 = .ok (.invokevirtual 28, 3) := by decide +kernel
theorem dX1_kindOf_5 : decode cX1_kindOf 5 = .ok (.ifCond .eq 12, 3) := by decide +kernel
theorem dX1_kindOf_8 : decode cX1_kindOf 8 = .ok (.aload_n 0, 1) := by decide +kernel
theorem dX1_kindOf_9 : decode cX1_kindOf 9 = .ok (.getfield 22, 3) := by decide +kernel
theorem dX1_kindOf_12 : decode cX1_kindOf 12 = .ok (.iload_n 1, 1) := by decide +kernel
theorem dX1_kindOf_13 : decode cX1_kindOf 13 = .ok (.iaload, 1) := by decide +kernel
theorem dX1_kindOf_14 : decode cX1_kindOf 14 = .ok (.goto 4, 3) := by decide +kernel
theorem dX1_kindOf_17 : decode cX1_kindOf 17 = .ok (.iconst (-1), 1) := by decide +kernel
theorem dX1_kindOf_18 : decode cX1_kindOf 18 = .ok (.ireturn, 1) := by decide +kernel
theorem dX1_made_0 : decode cX1_made 0 = .ok (.aload_n 0, 1) := by decide +kernel
theorem dX1_made_1 : decode cX1_made 1 = .ok (.getfield 9, 3) := by decide +kernel
theorem dX1_made_4 : decode cX1_made 4 = .ok (.bipush 50, 2) := by decide +kernel
theorem dX1_made_6 : decode cX1_made 6 = .ok (.if_icmp .lt 6, 3) := by decide +kernel
theorem dX1_made_9 : decode cX1_made 9 = .ok (.bipush (-3), 2) := by decide +kernel
theorem dX1_made_11 : decode cX1_made 11 = .ok (.ireturn, 1) := by decide +kernel
theorem dX1_made_12 : decode cX1_made 12 = .ok (.aload_n 0, 1) := by decide +kernel
theorem dX1_made_13 : decode cX1_made 13 = .ok (.getfield 22, 3) := by decide +kernel
theorem dX1_made_16 : decode cX1_made 16 = .ok (.aload_n 0, 1) := by decide +kernel
theorem dX1_made_17 : decode cX1_made 17 = .ok (.getfield 9, 3) := by decide +kernel
theorem dX1_made_20 : decode cX1_made 20 = .ok (.iload_n 1, 1) := by decide +kernel
theorem dX1_made_21 : decode cX1_made 21 = .ok (.iastore, 1) := by decide +kernel
theorem dX1_made_22 : decode cX1_made 22 = .ok (.aload_n 0, 1) := by decide +kernel
theorem dX1_made_23 : decode cX1_made 23 = .ok (.dup, 1) := by decide +kernel
theorem dX1_made_24 : decode cX1_made 24 = .ok (.getfield 9, 3) := by decide +kernel
theorem dX1_made_27 : decode cX1_made 27 = .ok (.iconst 1, 1) := by decide +kernel
theorem dX1_made_28 : decode cX1_made 28 = .ok (.iadd, 1) := by decide +kernel
theorem dX1_made_29 : decode cX1_made 29 = .ok (.putfield 9, 3) := by decide +kernel
theorem dX1_made_32 : decode cX1_made 32 = .ok (.aload_n 0, 1) := by decide +kernel
theorem dX1_made_33 : decode cX1_made 33 = .ok (.getfield 9, 3) := by decide +kernel
theorem dX1_made_36 : decode cX1_made 36 = .ok (.iconst 1, 1) := by decide +kernel
theorem dX1_made_37 : decode cX1_made 37 = .ok (.isub, 1) := by decide +kernel
theorem dX1_made_38 : decode cX1_made 38 = .ok (.ireturn, 1) := by decide +kernel
theorem dX1_traced_0 : decode cX1_traced 0 = .ok (.aload_n 0, 1) := by decide +kernel
theorem dX1_traced_1 : decode cX1_traced 1 = .ok (.getfield 15, 3) := by decide +kernel
theorem dX1_traced_4 : decode cX1_traced 4 = .ok (.bipush 24, 2) := by decide +kernel
theorem dX1_traced_6 : decode cX1_traced 6 = .ok (.invokestatic 32, 3) := by decide +kernel
theorem dX1_traced_9 : decode cX1_traced 9 = .ok (.ireturn, 1) := by decide +kernel
theorem dX1_acted_0 : decode cX1_acted 0 = .ok (.aload_n 0, 1) := by decide +kernel
theorem dX1_acted_1 : decode cX1_acted 1 = .ok (.iconst 0, 1) := by decide +kernel
theorem dX1_acted_2 : decode cX1_acted 2 = .ok (.putfield 15, 3) := by decide +kernel
theorem dX1_acted_5 : decode cX1_acted 5 = .ok (.aload_n 0, 1) := by decide +kernel
theorem dX1_acted_6 : decode cX1_acted 6 = .ok (.iload_n 1, 1) := by decide +kernel
theorem dX1_acted_7 : decode cX1_acted 7 = .ok (.invokevirtual 28, 3) := by decide +kernel
theorem dX1_acted_10 : decode cX1_acted 10 = .ok (.ifCond .eq 29, 3) := by decide +kernel
theorem dX1_acted_13 : decode cX1_acted 13 = .ok (.iload_n 2, 1) := by decide +kernel
theorem dX1_acted_14 : decode cX1_acted 14 = .ok (.ifCond .lt 25, 3) := by decide +kernel
theorem dX1_acted_17 : decode cX1_acted 17 = .ok (.iload_n 2, 1) := by decide +kernel
theorem dX1_acted_18 : decode cX1_acted 18 = .ok (.iconst 4, 1) := by decide +kernel
theorem dX1_acted_19 : decode cX1_acted 19 = .ok (.if_icmp .ge 20, 3) := by decide +kernel
theorem dX1_acted_22 : decode cX1_acted 22 = .ok (.aload_n 0, 1) := by decide +kernel
theorem dX1_acted_23 : decode cX1_acted 23 = .ok (.aload_n 0, 1) := by decide +kernel
theorem dX1_acted_24 : decode cX1_acted 24 = .ok (.getfield 22, 3) := by decide +kernel
theorem dX1_acted_27 : decode cX1_acted 27 = .ok (.iload_n 1, 1) := by decide +kernel
theorem dX1_acted_28 : decode cX1_acted 28 = .ok (.iaload, 1) := by decide +kernel
theorem dX1_acted_29 : decode cX1_acted 29 = .ok (.iload_n 2, 1) := by decide +kernel
theorem dX1_acted_30 : decode cX1_acted 30 = .ok (.iload_n 1, 1) := by decide +kernel
theorem dX1_acted_31 : decode cX1_acted 31 = .ok (.iload_n 3, 1) := by decide +kernel
theorem dX1_acted_32 : decode cX1_acted 32 = .ok (.iconst 0, 1) := by decide +kernel
theorem dX1_acted_33 : decode cX1_acted 33 = .ok (.invokevirtual 38, 3) := by decide +kernel
theorem dX1_acted_36 : decode cX1_acted 36 = .ok (.goto 4, 3) := by decide +kernel
theorem dX1_acted_39 : decode cX1_acted 39 = .ok (.iconst 0, 1) := by decide +kernel
theorem dX1_acted_40 : decode cX1_acted 40 = .ok (.ireturn, 1) := by decide +kernel
theorem dX1_from_0 : decode cX1_from 0 = .ok (.iload_n 1, 1) := by decide +kernel
theorem dX1_from_1 : decode cX1_from 1 = .ok (.istore 6, 2) := by decide +kernel
theorem dX1_from_3 : decode cX1_from 3 = .ok (.iconst 0, 1) := by decide +kernel
theorem dX1_from_4 : decode cX1_from 4 = .ok (.istore 7, 2) := by decide +kernel
theorem dX1_from_6 : decode cX1_from 6 = .ok (.iload 7, 2) := by decide +kernel
theorem dX1_from_8 : decode cX1_from 8 = .ok (.bipush 8, 2) := by decide +kernel
theorem dX1_from_10 : decode cX1_from 10 = .ok (.if_icmp .ge 35, 3) := by decide +kernel
theorem dX1_from_13 : decode cX1_from 13 = .ok (.iload 6, 2) := by decide +kernel
theorem dX1_from_15 : decode cX1_from 15 = .ok (.ifCond .le 30, 3) := by decide +kernel
theorem dX1_from_18 : decode cX1_from 18 = .ok (.getstatic 42, 3) := by decide +kernel
theorem dX1_from_21 : decode cX1_from 21 = .ok (.iconst 4, 1) := by decide +kernel
theorem dX1_from_22 : decode cX1_from 22 = .ok (.iload 6, 2) := by decide +kernel
theorem dX1_from_24 : decode cX1_from 24 = .ok (.imul, 1) := by decide +kernel
theorem dX1_from_25 : decode cX1_from 25 = .ok (.iload_n 2, 1) := by decide +kernel
theorem dX1_from_26 : decode cX1_from 26 = .ok (.iadd, 1) := by decide +kernel
theorem dX1_from_27 : decode cX1_from 27 = .ok (.iaload, 1) := by decide +kernel
theorem dX1_from_28 : decode cX1_from 28 = .ok (.ifCond .ne 17, 3) := by decide +kernel
theorem dX1_from_31 : decode cX1_from 31 = .ok (.getstatic 25, 3) := by decide +kernel
theorem dX1_from_34 : decode cX1_from 34 = .ok (.iload 6, 2) := by decide +kernel
theorem dX1_from_36 : decode cX1_from 36 = .ok (.iaload, 1) := by decide +kernel
theorem dX1_from_37 : decode cX1_from 37 = .ok (.istore 6, 2) := by decide +kernel
theorem dX1_from_39 : decode cX1_from 39 = .ok (.iinc 7 1, 3) := by decide +kernel
theorem dX1_from_42 : decode cX1_from 42 = .ok (.goto (-36), 3) := by decide +kernel
theorem dX1_from_45 : decode cX1_from 45 = .ok (.iload 6, 2) := by decide +kernel
theorem dX1_from_47 : decode cX1_from 47 = .ok (.ifCond .lt 10, 3) := by decide +kernel
theorem dX1_from_50 : decode cX1_from 50 = .ok (.iload 5, 2) := by decide +kernel
theorem dX1_from_52 : decode cX1_from 52 = .ok (.bipush 20, 2) := by decide +kernel
theorem dX1_from_54 : decode cX1_from 54 = .ok (.if_icmp .le 5, 3) := by decide +kernel
theorem dX1_from_57 : decode cX1_from 57 = .ok (.iconst 0, 1) := by decide +kernel
theorem dX1_from_58 : decode cX1_from 58 = .ok (.ireturn, 1) := by decide +kernel
theorem dX1_from_59 : decode cX1_from 59 = .ok (.getstatic 42, 3) := by decide +kernel
theorem dX1_from_62 : decode cX1_from 62 = .ok (.iconst 4, 1) := by decide +kernel
theorem dX1_from_63 : decode cX1_from 63 = .ok (.iload 6, 2) := by decide +kernel
theorem dX1_from_65 : decode cX1_from 65 = .ok (.imul, 1) := by decide +kernel
theorem dX1_from_66 : decode cX1_from 66 = .ok (.iload_n 2, 1) := by decide +kernel
theorem dX1_from_67 : decode cX1_from 67 = .ok (.iadd, 1) := by decide +kernel
theorem dX1_from_68 : decode cX1_from 68 = .ok (.iaload, 1) := by decide +kernel
theorem dX1_from_69 : decode cX1_from 69 = .ok (.istore 7, 2) := by decide +kernel
theorem dX1_from_71 : decode cX1_from 71 = .ok (.aload_n 0, 1) := by decide +kernel
theorem dX1_from_72 : decode cX1_from 72 = .ok (.getfield 15, 3) := by decide +kernel
theorem dX1_from_75 : decode cX1_from 75 = .ok (.bipush 24, 2) := by decide +kernel
theorem dX1_from_77 : decode cX1_from 77 = .ok (.if_icmp .ge 14, 3) := by decide +kernel
theorem dX1_from_80 : decode cX1_from 80 = .ok (.aload_n 0, 1) := by decide +kernel
theorem dX1_from_81 : decode cX1_from 81 = .ok (.getfield 18, 3) := by decide +kernel
theorem dX1_from_84 : decode cX1_from 84 = .ok (.aload_n 0, 1) := by decide +kernel
theorem dX1_from_85 : decode cX1_from 85 = .ok (.getfield 15, 3) := by decide +kernel
theorem dX1_from_88 : decode cX1_from 88 = .ok (.iload 7, 2) := by decide +kernel
theorem dX1_from_90 : decode cX1_from 90 = .ok (.iastore, 1) := by decide +kernel
theorem dX1_from_91 : decode cX1_from 91 = .ok (.aload_n 0, 1) := by decide +kernel
theorem dX1_from_92 : decode cX1_from 92 = .ok (.dup, 1) := by decide +kernel
theorem dX1_from_93 : decode cX1_from 93 = .ok (.getfield 15, 3) := by decide +kernel
theorem dX1_from_96 : decode cX1_from 96 = .ok (.iconst 1, 1) := by decide +kernel
theorem dX1_from_97 : decode cX1_from 97 = .ok (.iadd, 1) := by decide +kernel
theorem dX1_from_98 : decode cX1_from 98 = .ok (.putfield 15, 3) := by decide +kernel
theorem dX1_from_101 : decode cX1_from 101 = .ok (.iload 6, 2) := by decide +kernel
theorem dX1_from_103 : decode cX1_from 103 = .ok (.ifCond .ne 19, 3) := by decide +kernel
theorem dX1_from_106 : decode cX1_from 106 = .ok (.aload_n 0, 1) := by decide +kernel
theorem dX1_from_107 : decode cX1_from 107 = .ok (.iload 7, 2) := by decide +kernel
theorem dX1_from_109 : decode cX1_from 109 = .ok (.iload_n 3, 1) := by decide +kernel
theorem dX1_from_110 : decode cX1_from 110 = .ok (.iload 4, 2) := by decide +kernel
theorem dX1_from_112 : decode cX1_from 112 = .ok (.iload 5, 2) := by decide +kernel
theorem dX1_from_114 : decode cX1_from 114 = .ok (.iconst 1, 1) := by decide +kernel
theorem dX1_from_115 : decode cX1_from 115 = .ok (.iadd, 1) := by decide +kernel
theorem dX1_from_116 : decode cX1_from 116 = .ok (.invokevirtual 45, 3) := by decide +kernel
theorem dX1_from_119 : decode cX1_from 119 = .ok (.goto 22, 3) := by decide +kernel
theorem dX1_from_122 : decode cX1_from 122 = .ok (.aload_n 0, 1) := by decide +kernel
theorem dX1_from_123 : decode cX1_from 123 = .ok (.iload 7, 2) := by decide +kernel
theorem dX1_from_125 : decode cX1_from 125 = .ok (.getstatic 25, 3) := by decide +kernel
theorem dX1_from_128 : decode cX1_from 128 = .ok (.iload 6, 2) := by decide +kernel
theorem dX1_from_130 : decode cX1_from 130 = .ok (.iaload, 1) := by decide +kernel
theorem dX1_from_131 : decode cX1_from 131 = .ok (.iload_n 3, 1) := by decide +kernel
theorem dX1_from_132 : decode cX1_from 132 = .ok (.iload 4, 2) := by decide +kernel
theorem dX1_from_134 : decode cX1_from 134 = .ok (.iload 5, 2) := by decide +kernel
theorem dX1_from_136 : decode cX1_from 136 = .ok (.iconst 1, 1) := by decide +kernel
theorem dX1_from_137 : decode cX1_from 137 = .ok (.iadd, 1) := by decide +kernel
theorem dX1_from_138 : decode cX1_from 138 = .ok (.invokevirtual 49, 3) := by decide +kernel
theorem dX1_from_141 : decode cX1_from 141 = .ok (.ireturn, 1) := by decide +kernel
theorem dX1_own_0 : decode cX1_own 0 = .ok (.aload_n 0, 1) := by decide +kernel
theorem dX1_own_1 : decode cX1_own 1 = .ok (.aload_n 0, 1) := by decide +kernel
theorem dX1_own_2 : decode cX1_own 2 = .ok (.getfield 22, 3) := by decide +kernel
theorem dX1_own_5 : decode cX1_own 5 = .ok (.iload_n 2, 1) := by decide +kernel
theorem dX1_own_6 : decode cX1_own 6 = .ok (.iaload, 1) := by decide +kernel
theorem dX1_own_7 : decode cX1_own 7 = .ok (.iload_n 1, 1) := by decide +kernel
theorem dX1_own_8 : decode cX1_own 8 = .ok (.iload_n 2, 1) := by decide +kernel
theorem dX1_own_9 : decode cX1_own 9 = .ok (.iload_n 3, 1) := by decide +kernel
theorem dX1_own_10 : decode cX1_own 10 = .ok (.iload 4, 2) := by decide +kernel
theorem dX1_own_12 : decode cX1_own 12 = .ok (.invokevirtual 38, 3) := by decide +kernel
theorem dX1_own_15 : decode cX1_own 15 = .ok (.ireturn, 1) := by decide +kernel
theorem dX1_byShoe_0 : decode cX1_byShoe 0 = .ok (.iload_n 1, 1) := by decide +kernel
theorem dX1_byShoe_1 : decode cX1_byShoe 1 = .ok (.lookupswitch 71 #[(1, 35), (2, 39), (10, 59)], 35) := by decide +kernel
theorem dX1_byShoe_36 : decode cX1_byShoe 36 = .ok (.iload_n 3, 1) := by decide +kernel
theorem dX1_byShoe_37 : decode cX1_byShoe 37 = .ok (.iload_n 2, 1) := by decide +kernel
theorem dX1_byShoe_38 : decode cX1_byShoe 38 = .ok (.iadd, 1) := by decide +kernel
theorem dX1_byShoe_39 : decode cX1_byShoe 39 = .ok (.ireturn, 1) := by decide +kernel
theorem dX1_byShoe_40 : decode cX1_byShoe 40 = .ok (.aload_n 0, 1) := by decide +kernel
theorem dX1_byShoe_41 : decode cX1_byShoe 41 = .ok (.iconst 1, 1) := by decide +kernel
theorem dX1_byShoe_42 : decode cX1_byShoe 42 = .ok (.iload_n 2, 1) := by decide +kernel
theorem dX1_byShoe_43 : decode cX1_byShoe 43 = .ok (.iload_n 3, 1) := by decide +kernel
theorem dX1_byShoe_44 : decode cX1_byShoe 44 = .ok (.iload 4, 2) := by decide +kernel
theorem dX1_byShoe_46 : decode cX1_byShoe 46 = .ok (.invokevirtual 52, 3) := by decide +kernel
theorem dX1_byShoe_49 : decode cX1_byShoe 49 = .ok (.aload_n 0, 1) := by decide +kernel
theorem dX1_byShoe_50 : decode cX1_byShoe 50 = .ok (.iconst 2, 1) := by decide +kernel
theorem dX1_byShoe_51 : decode cX1_byShoe 51 = .ok (.iload_n 2, 1) := by decide +kernel
theorem dX1_byShoe_52 : decode cX1_byShoe 52 = .ok (.iconst 1, 1) := by decide +kernel
theorem dX1_byShoe_53 : decode cX1_byShoe 53 = .ok (.iload 4, 2) := by decide +kernel
theorem dX1_byShoe_55 : decode cX1_byShoe 55 = .ok (.invokevirtual 52, 3) := by decide +kernel
theorem dX1_byShoe_58 : decode cX1_byShoe 58 = .ok (.isub, 1) := by decide +kernel
theorem dX1_byShoe_59 : decode cX1_byShoe 59 = .ok (.ireturn, 1) := by decide +kernel
theorem dX1_byShoe_60 : decode cX1_byShoe 60 = .ok (.aload_n 0, 1) := by decide +kernel
theorem dX1_byShoe_61 : decode cX1_byShoe 61 = .ok (.iconst 0, 1) := by decide +kernel
theorem dX1_byShoe_62 : decode cX1_byShoe 62 = .ok (.iload_n 2, 1) := by decide +kernel
theorem dX1_byShoe_63 : decode cX1_byShoe 63 = .ok (.iload_n 3, 1) := by decide +kernel
theorem dX1_byShoe_64 : decode cX1_byShoe 64 = .ok (.iload 4, 2) := by decide +kernel
theorem dX1_byShoe_66 : decode cX1_byShoe 66 = .ok (.invokevirtual 52, 3) := by decide +kernel
theorem dX1_byShoe_69 : decode cX1_byShoe 69 = .ok (.iconst 2, 1) := by decide +kernel
theorem dX1_byShoe_70 : decode cX1_byShoe 70 = .ok (.imul, 1) := by decide +kernel
theorem dX1_byShoe_71 : decode cX1_byShoe 71 = .ok (.ireturn, 1) := by decide +kernel
theorem dX1_byShoe_72 : decode cX1_byShoe 72 = .ok (.iload_n 3, 1) := by decide +kernel
theorem dX1_byShoe_73 : decode cX1_byShoe 73 = .ok (.iload_n 2, 1) := by decide +kernel
theorem dX1_byShoe_74 : decode cX1_byShoe 74 = .ok (.ixor, 1) := by decide +kernel
theorem dX1_byShoe_75 : decode cX1_byShoe 75 = .ok (.ireturn, 1) := by decide +kernel
theorem dX1_byKind_0 : decode cX1_byKind 0 = .ok (.iload_n 1, 1) := by decide +kernel
theorem dX1_byKind_1 : decode cX1_byKind 1 = .ok (.lookupswitch 202 #[(20, 75), (30, 89), (40, 102), (41, 116), (50, 130), (60, 152), (70, 166), (80, 180)], 75) := by decide +kernel
theorem dX1_byKind_76 : decode cX1_byKind 76 = .ok (.aload_n 0, 1) := by decide +kernel
theorem dX1_byKind_77 : decode cX1_byKind 77 = .ok (.iload_n 2, 1) := by decide +kernel
theorem dX1_byKind_78 : decode cX1_byKind 78 = .ok (.iconst 0, 1) := by decide +kernel
theorem dX1_byKind_79 : decode cX1_byKind 79 = .ok (.iload_n 3, 1) := by decide +kernel
theorem dX1_byKind_80 : decode cX1_byKind 80 = .ok (.iload 4, 2) := by decide +kernel
theorem dX1_byKind_82 : decode cX1_byKind 82 = .ok (.iload 5, 2) := by decide +kernel
theorem dX1_byKind_84 : decode cX1_byKind 84 = .ok (.invokevirtual 38, 3) := by decide +kernel
theorem dX1_byKind_87 : decode cX1_byKind 87 = .ok (.iconst 3, 1) := by decide +kernel
theorem dX1_byKind_88 : decode cX1_byKind 88 = .ok (.iadd, 1) := by decide +kernel
theorem dX1_byKind_89 : decode cX1_byKind 89 = .ok (.ireturn, 1) := by decide +kernel
theorem dX1_byKind_90 : decode cX1_byKind 90 = .ok (.aload_n 0, 1) := by decide +kernel
theorem dX1_byKind_91 : decode cX1_byKind 91 = .ok (.iload_n 2, 1) := by decide +kernel
theorem dX1_byKind_92 : decode cX1_byKind 92 = .ok (.iconst 1, 1) := by decide +kernel
theorem dX1_byKind_93 : decode cX1_byKind 93 = .ok (.iload_n 3, 1) := by decide +kernel
theorem dX1_byKind_94 : decode cX1_byKind 94 = .ok (.iload 4, 2) := by decide +kernel
theorem dX1_byKind_96 : decode cX1_byKind 96 = .ok (.iload 5, 2) := by decide +kernel
theorem dX1_byKind_98 : decode cX1_byKind 98 = .ok (.invokevirtual 38, 3) := by decide +kernel
theorem dX1_byKind_101 : decode cX1_byKind 101 = .ok (.ineg, 1) := by decide +kernel
theorem dX1_byKind_102 : decode cX1_byKind 102 = .ok (.ireturn, 1) := by decide +kernel
theorem dX1_byKind_103 : decode cX1_byKind 103 = .ok (.aload_n 0, 1) := by decide +kernel
theorem dX1_byKind_104 : decode cX1_byKind 104 = .ok (.iload_n 2, 1) := by decide +kernel
theorem dX1_byKind_105 : decode cX1_byKind 105 = .ok (.iconst 2, 1) := by decide +kernel
theorem dX1_byKind_106 : decode cX1_byKind 106 = .ok (.iload_n 3, 1) := by decide +kernel
theorem dX1_byKind_107 : decode cX1_byKind 107 = .ok (.iload 4, 2) := by decide +kernel
theorem dX1_byKind_109 : decode cX1_byKind 109 = .ok (.iload 5, 2) := by decide +kernel
theorem dX1_byKind_111 : decode cX1_byKind 111 = .ok (.invokevirtual 38, 3) := by decide +kernel
theorem dX1_byKind_114 : decode cX1_byKind 114 = .ok (.iconst 3, 1) := by decide +kernel
theorem dX1_byKind_115 : decode cX1_byKind 115 = .ok (.imul, 1) := by decide +kernel
theorem dX1_byKind_116 : decode cX1_byKind 116 = .ok (.ireturn, 1) := by decide +kernel
theorem dX1_byKind_117 : decode cX1_byKind 117 = .ok (.aload_n 0, 1) := by decide +kernel
theorem dX1_byKind_118 : decode cX1_byKind 118 = .ok (.iload_n 2, 1) := by decide +kernel
theorem dX1_byKind_119 : decode cX1_byKind 119 = .ok (.iconst 1, 1) := by decide +kernel
theorem dX1_byKind_120 : decode cX1_byKind 120 = .ok (.iload_n 3, 1) := by decide +kernel
theorem dX1_byKind_121 : decode cX1_byKind 121 = .ok (.iload 4, 2) := by decide +kernel
theorem dX1_byKind_123 : decode cX1_byKind 123 = .ok (.iconst 1, 1) := by decide +kernel
theorem dX1_byKind_124 : decode cX1_byKind 124 = .ok (.iadd, 1) := by decide +kernel
theorem dX1_byKind_125 : decode cX1_byKind 125 = .ok (.iload 5, 2) := by decide +kernel
theorem dX1_byKind_127 : decode cX1_byKind 127 = .ok (.invokevirtual 38, 3) := by decide +kernel
theorem dX1_byKind_130 : decode cX1_byKind 130 = .ok (.ireturn, 1) := by decide +kernel
theorem dX1_byKind_131 : decode cX1_byKind 131 = .ok (.aload_n 0, 1) := by decide +kernel
theorem dX1_byKind_132 : decode cX1_byKind 132 = .ok (.iload_n 2, 1) := by decide +kernel
theorem dX1_byKind_133 : decode cX1_byKind 133 = .ok (.iconst 2, 1) := by decide +kernel
theorem dX1_byKind_134 : decode cX1_byKind 134 = .ok (.iload_n 3, 1) := by decide +kernel
theorem dX1_byKind_135 : decode cX1_byKind 135 = .ok (.iload 4, 2) := by decide +kernel
theorem dX1_byKind_137 : decode cX1_byKind 137 = .ok (.iload 5, 2) := by decide +kernel
theorem dX1_byKind_139 : decode cX1_byKind 139 = .ok (.invokevirtual 38, 3) := by decide +kernel
theorem dX1_byKind_142 : decode cX1_byKind 142 = .ok (.aload_n 0, 1) := by decide +kernel
theorem dX1_byKind_143 : decode cX1_byKind 143 = .ok (.iconst 0, 1) := by decide +kernel
theorem dX1_byKind_144 : decode cX1_byKind 144 = .ok (.iload_n 3, 1) := by decide +kernel
theorem dX1_byKind_145 : decode cX1_byKind 145 = .ok (.iconst 2, 1) := by decide +kernel
theorem dX1_byKind_146 : decode cX1_byKind 146 = .ok (.iload 5, 2) := by decide +kernel
theorem dX1_byKind_148 : decode cX1_byKind 148 = .ok (.invokevirtual 52, 3) := by decide +kernel
theorem dX1_byKind_151 : decode cX1_byKind 151 = .ok (.isub, 1) := by decide +kernel
theorem dX1_byKind_152 : decode cX1_byKind 152 = .ok (.ireturn, 1) := by decide +kernel
theorem dX1_byKind_153 : decode cX1_byKind 153 = .ok (.aload_n 0, 1) := by decide +kernel
theorem dX1_byKind_154 : decode cX1_byKind 154 = .ok (.iload_n 2, 1) := by decide +kernel
theorem dX1_byKind_155 : decode cX1_byKind 155 = .ok (.iconst 3, 1) := by decide +kernel
theorem dX1_byKind_156 : decode cX1_byKind 156 = .ok (.iload_n 3, 1) := by decide +kernel
theorem dX1_byKind_157 : decode cX1_byKind 157 = .ok (.iload 4, 2) := by decide +kernel
theorem dX1_byKind_159 : decode cX1_byKind 159 = .ok (.iload 5, 2) := by decide +kernel
theorem dX1_byKind_161 : decode cX1_byKind 161 = .ok (.invokevirtual 38, 3) := by decide +kernel
theorem dX1_byKind_164 : decode cX1_byKind 164 = .ok (.iconst 5, 1) := by decide +kernel
theorem dX1_byKind_165 : decode cX1_byKind 165 = .ok (.ixor, 1) := by decide +kernel
theorem dX1_byKind_166 : decode cX1_byKind 166 = .ok (.ireturn, 1) := by decide +kernel
theorem dX1_byKind_167 : decode cX1_byKind 167 = .ok (.aload_n 0, 1) := by decide +kernel
theorem dX1_byKind_168 : decode cX1_byKind 168 = .ok (.iload_n 2, 1) := by decide +kernel
theorem dX1_byKind_169 : decode cX1_byKind 169 = .ok (.iconst 0, 1) := by decide +kernel
theorem dX1_byKind_170 : decode cX1_byKind 170 = .ok (.iload_n 3, 1) := by decide +kernel
theorem dX1_byKind_171 : decode cX1_byKind 171 = .ok (.iload 4, 2) := by decide +kernel
theorem dX1_byKind_173 : decode cX1_byKind 173 = .ok (.iload 5, 2) := by decide +kernel
theorem dX1_byKind_175 : decode cX1_byKind 175 = .ok (.invokevirtual 38, 3) := by decide +kernel
theorem dX1_byKind_178 : decode cX1_byKind 178 = .ok (.iconst 2, 1) := by decide +kernel
theorem dX1_byKind_179 : decode cX1_byKind 179 = .ok (.imul, 1) := by decide +kernel
theorem dX1_byKind_180 : decode cX1_byKind 180 = .ok (.ireturn, 1) := by decide +kernel
theorem dX1_byKind_181 : decode cX1_byKind 181 = .ok (.aload_n 0, 1) := by decide +kernel
theorem dX1_byKind_182 : decode cX1_byKind 182 = .ok (.iload_n 2, 1) := by decide +kernel
theorem dX1_byKind_183 : decode cX1_byKind 183 = .ok (.iconst 1, 1) := by decide +kernel
theorem dX1_byKind_184 : decode cX1_byKind 184 = .ok (.iload_n 3, 1) := by decide +kernel
theorem dX1_byKind_185 : decode cX1_byKind 185 = .ok (.iload 4, 2) := by decide +kernel
theorem dX1_byKind_187 : decode cX1_byKind 187 = .ok (.iload 5, 2) := by decide +kernel
theorem dX1_byKind_189 : decode cX1_byKind 189 = .ok (.invokevirtual 38, 3) := by decide +kernel
theorem dX1_byKind_192 : decode cX1_byKind 192 = .ok (.aload_n 0, 1) := by decide +kernel
theorem dX1_byKind_193 : decode cX1_byKind 193 = .ok (.iconst 2, 1) := by decide +kernel
theorem dX1_byKind_194 : decode cX1_byKind 194 = .ok (.iload_n 3, 1) := by decide +kernel
theorem dX1_byKind_195 : decode cX1_byKind 195 = .ok (.iconst 2, 1) := by decide +kernel
theorem dX1_byKind_196 : decode cX1_byKind 196 = .ok (.iload 5, 2) := by decide +kernel
theorem dX1_byKind_198 : decode cX1_byKind 198 = .ok (.invokevirtual 52, 3) := by decide +kernel
theorem dX1_byKind_201 : decode cX1_byKind 201 = .ok (.iadd, 1) := by decide +kernel
theorem dX1_byKind_202 : decode cX1_byKind 202 = .ok (.ireturn, 1) := by decide +kernel
theorem dX1_byKind_203 : decode cX1_byKind 203 = .ok (.aload_n 0, 1) := by decide +kernel
theorem dX1_byKind_204 : decode cX1_byKind 204 = .ok (.iload_n 2, 1) := by decide +kernel
theorem dX1_byKind_205 : decode cX1_byKind 205 = .ok (.iconst 3, 1) := by decide +kernel
theorem dX1_byKind_206 : decode cX1_byKind 206 = .ok (.iload_n 3, 1) := by decide +kernel
theorem dX1_byKind_207 : decode cX1_byKind 207 = .ok (.iload 4, 2) := by decide +kernel
theorem dX1_byKind_209 : decode cX1_byKind 209 = .ok (.iload 5, 2) := by decide +kernel
theorem dX1_byKind_211 : decode cX1_byKind 211 = .ok (.invokevirtual 38, 3) := by decide +kernel
theorem dX1_byKind_214 : decode cX1_byKind 214 = .ok (.iconst 1, 1) := by decide +kernel
theorem dX1_byKind_215 : decode cX1_byKind 215 = .ok (.isub, 1) := by decide +kernel
theorem dX1_byKind_216 : decode cX1_byKind 216 = .ok (.ireturn, 1) := by decide +kernel
theorem dX2_init_0 : decode cX2_init 0 = .ok (.aload_n 0, 1) := by decide +kernel
theorem dX2_init_1 : decode cX2_init 1 = .ok (.invokespecial 3, 3) := by decide +kernel
theorem dX2_init_4 : decode cX2_init 4 = .ok (.aload_n 0, 1) := by decide +kernel
theorem dX2_init_5 : decode cX2_init 5 = .ok (.bipush 40, 2) := by decide +kernel
theorem dX2_init_7 : decode cX2_init 7 = .ok (.newarray .int, 2) := by decide +kernel
theorem dX2_init_9 : decode cX2_init 9 = .ok (.putfield 11, 3) := by decide +kernel
theorem dX2_init_12 : decode cX2_init 12 = .ok (.aload_n 0, 1) := by decide +kernel
theorem dX2_init_13 : decode cX2_init 13 = .ok (.bipush 40, 2) := by decide +kernel
theorem dX2_init_15 : decode cX2_init 15 = .ok (.newarray .int, 2) := by decide +kernel
theorem dX2_init_17 : decode cX2_init 17 = .ok (.putfield 15, 3) := by decide +kernel
theorem dX2_init_20 : decode cX2_init 20 = .ok (.aload_n 0, 1) := by decide +kernel
theorem dX2_init_21 : decode cX2_init 21 = .ok (.bipush 40, 2) := by decide +kernel
theorem dX2_init_23 : decode cX2_init 23 = .ok (.newarray .int, 2) := by decide +kernel
theorem dX2_init_25 : decode cX2_init 25 = .ok (.putfield 18, 3) := by decide +kernel
theorem dX2_init_28 : decode cX2_init 28 = .ok (.aload_n 0, 1) := by decide +kernel
theorem dX2_init_29 : decode cX2_init 29 = .ok (.bipush 40, 2) := by decide +kernel
theorem dX2_init_31 : decode cX2_init 31 = .ok (.newarray .int, 2) := by decide +kernel
theorem dX2_init_33 : decode cX2_init 33 = .ok (.putfield 21, 3) := by decide +kernel
theorem dX2_init_36 : decode cX2_init 36 = .ok (.aload_n 0, 1) := by decide +kernel
theorem dX2_init_37 : decode cX2_init 37 = .ok (.iconst 0, 1) := by decide +kernel
theorem dX2_init_38 : decode cX2_init 38 = .ok (.putfield 24, 3) := by decide +kernel
theorem dX2_init_41 : decode cX2_init 41 = .ok (.aload_n 0, 1) := by decide +kernel
theorem dX2_init_42 : decode cX2_init 42 = .ok (.iconst 0, 1) := by decide +kernel
theorem dX2_init_43 : decode cX2_init 43 = .ok (.putfield 28, 3) := by decide +kernel
theorem dX2_init_46 : decode cX2_init 46 = .ok (.return_, 1) := by decide +kernel
theorem dX2_note_0 : decode cX2_note 0 = .ok (.aload_n 0, 1) := by decide +kernel
theorem dX2_note_1 : decode cX2_note 1 = .ok (.getfield 24, 3) := by decide +kernel
theorem dX2_note_4 : decode cX2_note 4 = .ok (.bipush 40, 2) := by decide +kernel
theorem dX2_note_6 : decode cX2_note 6 = .ok (.if_icmp .lt 7, 3) := by decide +kernel
theorem dX2_note_9 : decode cX2_note 9 = .ok (.aload_n 0, 1) := by decide +kernel
theorem dX2_note_10 : decode cX2_note 10 = .ok (.invokevirtual 31, 3) := by decide +kernel
theorem dX2_note_13 : decode cX2_note 13 = .ok (.aload_n 0, 1) := by decide +kernel
theorem dX2_note_14 : decode cX2_note 14 = .ok (.getfield 11, 3) := by decide +kernel
theorem dX2_note_17 : decode cX2_note 17 = .ok (.aload_n 0, 1) := by decide +kernel
theorem dX2_note_18 : decode cX2_note 18 = .ok (.getfield 24, 3) := by decide +kernel
theorem dX2_note_21 : decode cX2_note 21 = .ok (.iload_n 1, 1) := by decide +kernel
theorem dX2_note_22 : decode cX2_note 22 = .ok (.iastore, 1) := by decide +kernel
theorem dX2_note_23 : decode cX2_note 23 = .ok (.aload_n 0, 1) := by decide +kernel
theorem dX2_note_24 : decode cX2_note 24 = .ok (.getfield 15, 3) := by decide +kernel
theorem dX2_note_27 : decode cX2_note 27 = .ok (.aload_n 0, 1) := by decide +kernel
theorem dX2_note_28 : decode cX2_note 28 = .ok (.getfield 24, 3) := by decide +kernel
theorem dX2_note_31 : decode cX2_note 31 = .ok (.iload_n 2, 1) := by decide +kernel
theorem dX2_note_32 : decode cX2_note 32 = .ok (.iastore, 1) := by decide +kernel
theorem dX2_note_33 : decode cX2_note 33 = .ok (.aload_n 0, 1) := by decide +kernel
theorem dX2_note_34 : decode cX2_note 34 = .ok (.getfield 18, 3) := by decide +kernel
theorem dX2_note_37 : decode cX2_note 37 = .ok (.aload_n 0, 1) := by decide +kernel
theorem dX2_note_38 : decode cX2_note 38 = .ok (.getfield 24, 3) := by decide +kernel
theorem dX2_note_41 : decode cX2_note 41 = .ok (.iload_n 3, 1) := by decide +kernel
theorem dX2_note_42 : decode cX2_note 42 = .ok (.iastore, 1) := by decide +kernel
theorem dX2_note_43 : decode cX2_note 43 = .ok (.aload_n 0, 1) := by decide +kernel
theorem dX2_note_44 : decode cX2_note 44 = .ok (.getfield 21, 3) := by decide +kernel
theorem dX2_note_47 : decode cX2_note 47 = .ok (.aload_n 0, 1) := by decide +kernel
theorem dX2_note_48 : decode cX2_note 48 = .ok (.getfield 24, 3) := by decide +kernel
theorem dX2_note_51 : decode cX2_note 51 = .ok (.iload 4, 2) := by decide +kernel
theorem dX2_note_53 : decode cX2_note 53 = .ok (.iastore, 1) := by decide +kernel
theorem dX2_note_54 : decode cX2_note 54 = .ok (.aload_n 0, 1) := by decide +kernel
theorem dX2_note_55 : decode cX2_note 55 = .ok (.dup, 1) := by decide +kernel
theorem dX2_note_56 : decode cX2_note 56 = .ok (.getfield 24, 3) := by decide +kernel
theorem dX2_note_59 : decode cX2_note 59 = .ok (.iconst 1, 1) := by decide +kernel
theorem dX2_note_60 : decode cX2_note 60 = .ok (.iadd, 1) := by decide +kernel
theorem dX2_note_61 : decode cX2_note 61 = .ok (.putfield 24, 3) := by decide +kernel
theorem dX2_note_64 : decode cX2_note 64 = .ok (.aload_n 0, 1) := by decide +kernel
theorem dX2_note_65 : decode cX2_note 65 = .ok (.aload_n 0, 1) := by decide +kernel
theorem dX2_note_66 : decode cX2_note 66 = .ok (.getfield 24, 3) := by decide +kernel
theorem dX2_note_69 : decode cX2_note 69 = .ok (.putfield 28, 3) := by decide +kernel
theorem dX2_note_72 : decode cX2_note 72 = .ok (.return_, 1) := by decide +kernel
theorem dX2_forgetOldest_0 : decode cX2_forgetOldest 0 = .ok (.aload_n 0, 1) := by decide +kernel
theorem dX2_forgetOldest_1 : decode cX2_forgetOldest 1 = .ok (.getfield 11, 3) := by decide +kernel
theorem dX2_forgetOldest_4 : decode cX2_forgetOldest 4 = .ok (.iconst 1, 1) := by decide +kernel
theorem dX2_forgetOldest_5 : decode cX2_forgetOldest 5 = .ok (.aload_n 0, 1) := by decide +kernel
theorem dX2_forgetOldest_6 : decode cX2_forgetOldest 6 = .ok (.getfield 11, 3) := by decide +kernel
theorem dX2_forgetOldest_9 : decode cX2_forgetOldest 9 = .ok (.iconst 0, 1) := by decide +kernel
theorem dX2_forgetOldest_10 : decode cX2_forgetOldest 10 = .ok (.bipush 39, 2) := by decide +kernel
theorem dX2_forgetOldest_12 : decode cX2_forgetOldest 12 = .ok (.invokestatic 34, 3) := by decide +kernel
theorem dX2_forgetOldest_15 : decode cX2_forgetOldest 15 = .ok (.aload_n 0, 1) := by decide +kernel
theorem dX2_forgetOldest_16 : decode cX2_forgetOldest 16 = .ok (.getfield 15, 3) := by decide +kernel
theorem dX2_forgetOldest_19 : decode cX2_forgetOldest 19 = .ok (.iconst 1, 1) := by decide +kernel
theorem dX2_forgetOldest_20 : decode cX2_forgetOldest 20 = .ok (.aload_n 0, 1) := by decide +kernel
theorem dX2_forgetOldest_21 : decode cX2_forgetOldest 21 = .ok (.getfield 15, 3) := by decide +kernel
theorem dX2_forgetOldest_24 : decode cX2_forgetOldest 24 = .ok (.iconst 0, 1) := by decide +kernel
theorem dX2_forgetOldest_25 : decode cX2_forgetOldest 25 = .ok (.bipush 39, 2) := by decide +kernel
theorem dX2_forgetOldest_27 : decode cX2_forgetOldest 27 = .ok (.invokestatic 34, 3) := by decide +kernel
theorem dX2_forgetOldest_30 : decode cX2_forgetOldest 30 = .ok (.aload_n 0, 1) := by decide +kernel
theorem dX2_forgetOldest_31 : decode cX2_forgetOldest 31 = .ok (.getfield 18, 3) := by decide +kernel
theorem dX2_forgetOldest_34 : decode cX2_forgetOldest 34 = .ok (.iconst 1, 1) := by decide +kernel
theorem dX2_forgetOldest_35 : decode cX2_forgetOldest 35 = .ok (.aload_n 0, 1) := by decide +kernel
theorem dX2_forgetOldest_36 : decode cX2_forgetOldest 36 = .ok (.getfield 18, 3) := by decide +kernel
theorem dX2_forgetOldest_39 : decode cX2_forgetOldest 39 = .ok (.iconst 0, 1) := by decide +kernel
theorem dX2_forgetOldest_40 : decode cX2_forgetOldest 40 = .ok (.bipush 39, 2) := by decide +kernel
theorem dX2_forgetOldest_42 : decode cX2_forgetOldest 42 = .ok (.invokestatic 34, 3) := by decide +kernel
theorem dX2_forgetOldest_45 : decode cX2_forgetOldest 45 = .ok (.aload_n 0, 1) := by decide +kernel
theorem dX2_forgetOldest_46 : decode cX2_forgetOldest 46 = .ok (.getfield 21, 3) := by decide +kernel
theorem dX2_forgetOldest_49 : decode cX2_forgetOldest 49 = .ok (.iconst 1, 1) := by decide +kernel
theorem dX2_forgetOldest_50 : decode cX2_forgetOldest 50 = .ok (.aload_n 0, 1) := by decide +kernel
theorem dX2_forgetOldest_51 : decode cX2_forgetOldest 51 = .ok (.getfield 21, 3) := by decide +kernel
theorem dX2_forgetOldest_54 : decode cX2_forgetOldest 54 = .ok (.iconst 0, 1) := by decide +kernel
theorem dX2_forgetOldest_55 : decode cX2_forgetOldest 55 = .ok (.bipush 39, 2) := by decide +kernel
theorem dX2_forgetOldest_57 : decode cX2_forgetOldest 57 = .ok (.invokestatic 34, 3) := by decide +kernel
theorem dX2_forgetOldest_60 : decode cX2_forgetOldest 60 = .ok (.aload_n 0, 1) := by decide +kernel
theorem dX2_forgetOldest_61 : decode cX2_forgetOldest 61 = .ok (.bipush 39, 2) := by decide +kernel
theorem dX2_forgetOldest_63 : decode cX2_forgetOldest 63 = .ok (.putfield 24, 3) := by decide +kernel
theorem dX2_forgetOldest_66 : decode cX2_forgetOldest 66 = .ok (.return_, 1) := by decide +kernel
theorem dX2_stepBack_0 : decode cX2_stepBack 0 = .ok (.aload_n 0, 1) := by decide +kernel
theorem dX2_stepBack_1 : decode cX2_stepBack 1 = .ok (.getfield 24, 3) := by decide +kernel
theorem dX2_stepBack_4 : decode cX2_stepBack 4 = .ok (.ifCond .gt 5, 3) := by decide +kernel
theorem dX2_stepBack_7 : decode cX2_stepBack 7 = .ok (.iconst (-1), 1) := by decide +kernel
theorem dX2_stepBack_8 : decode cX2_stepBack 8 = .ok (.ireturn, 1) := by decide +kernel
theorem dX2_stepBack_9 : decode cX2_stepBack 9 = .ok (.aload_n 0, 1) := by decide +kernel
theorem dX2_stepBack_10 : decode cX2_stepBack 10 = .ok (.dup, 1) := by decide +kernel
theorem dX2_stepBack_11 : decode cX2_stepBack 11 = .ok (.getfield 24, 3) := by decide +kernel
theorem dX2_stepBack_14 : decode cX2_stepBack 14 = .ok (.iconst 1, 1) := by decide +kernel
theorem dX2_stepBack_15 : decode cX2_stepBack 15 = .ok (.isub, 1) := by decide +kernel
theorem dX2_stepBack_16 : decode cX2_stepBack 16 = .ok (.putfield 24, 3) := by decide +kernel
theorem dX2_stepBack_19 : decode cX2_stepBack 19 = .ok (.aload_n 0, 1) := by decide +kernel
theorem dX2_stepBack_20 : decode cX2_stepBack 20 = .ok (.getfield 24, 3) := by decide +kernel
theorem dX2_stepBack_23 : decode cX2_stepBack 23 = .ok (.ireturn, 1) := by decide +kernel
theorem dX2_stepOn_0 : decode cX2_stepOn 0 = .ok (.aload_n 0, 1) := by decide +kernel
theorem dX2_stepOn_1 : decode cX2_stepOn 1 = .ok (.getfield 24, 3) := by decide +kernel
theorem dX2_stepOn_4 : decode cX2_stepOn 4 = .ok (.aload_n 0, 1) := by decide +kernel
theorem dX2_stepOn_5 : decode cX2_stepOn 5 = .ok (.getfield 28, 3) := by decide +kernel
theorem dX2_stepOn_8 : decode cX2_stepOn 8 = .ok (.if_icmp .lt 5, 3) := by decide +kernel
theorem dX2_stepOn_11 : decode cX2_stepOn 11 = .ok (.iconst (-1), 1) := by decide +kernel
theorem dX2_stepOn_12 : decode cX2_stepOn 12 = .ok (.ireturn, 1) := by decide +kernel
theorem dX2_stepOn_13 : decode cX2_stepOn 13 = .ok (.aload_n 0, 1) := by decide +kernel
theorem dX2_stepOn_14 : decode cX2_stepOn 14 = .ok (.dup, 1) := by decide +kernel
theorem dX2_stepOn_15 : decode cX2_stepOn 15 = .ok (.getfield 24, 3) := by decide +kernel
theorem dX2_stepOn_18 : decode cX2_stepOn 18 = .ok (.iconst 1, 1) := by decide +kernel
theorem dX2_stepOn_19 : decode cX2_stepOn 19 = .ok (.iadd, 1) := by decide +kernel
theorem dX2_stepOn_20 : decode cX2_stepOn 20 = .ok (.putfield 24, 3) := by decide +kernel
theorem dX2_stepOn_23 : decode cX2_stepOn 23 = .ok (.aload_n 0, 1) := by decide +kernel
theorem dX2_stepOn_24 : decode cX2_stepOn 24 = .ok (.getfield 24, 3) := by decide +kernel
theorem dX2_stepOn_27 : decode cX2_stepOn 27 = .ok (.iconst 1, 1) := by decide +kernel
theorem dX2_stepOn_28 : decode cX2_stepOn 28 = .ok (.isub, 1) := by decide +kernel
theorem dX2_stepOn_29 : decode cX2_stepOn 29 = .ok (.ireturn, 1) := by decide +kernel
theorem dX2_redoable_0 : decode cX2_redoable 0 = .ok (.aload_n 0, 1) := by decide +kernel
theorem dX2_redoable_1 : decode cX2_redoable 1 = .ok (.getfield 28, 3) := by decide +kernel
theorem dX2_redoable_4 : decode cX2_redoable 4 = .ok (.aload_n 0, 1) := by decide +kernel
theorem dX2_redoable_5 : decode cX2_redoable 5 = .ok (.getfield 24, 3) := by decide +kernel
theorem dX2_redoable_8 : decode cX2_redoable 8 = .ok (.isub, 1) := by decide +kernel
theorem dX2_redoable_9 : decode cX2_redoable 9 = .ok (.ireturn, 1) := by decide +kernel
theorem dX3_init_0 : decode cX3_init 0 = .ok (.aload_n 0, 1) := by decide +kernel
theorem dX3_init_1 : decode cX3_init 1 = .ok (.invokespecial 3, 3) := by decide +kernel
theorem dX3_init_4 : decode cX3_init 4 = .ok (.aload_n 0, 1) := by decide +kernel
theorem dX3_init_5 : decode cX3_init 5 = .ok (.iconst 0, 1) := by decide +kernel
theorem dX3_init_6 : decode cX3_init 6 = .ok (.putfield 9, 3) := by decide +kernel
theorem dX3_init_9 : decode cX3_init 9 = .ok (.aload_n 0, 1) := by decide +kernel
theorem dX3_init_10 : decode cX3_init 10 = .ok (.bipush 120, 2) := by decide +kernel
theorem dX3_init_12 : decode cX3_init 12 = .ok (.newarray .int, 2) := by decide +kernel
theorem dX3_init_14 : decode cX3_init 14 = .ok (.putfield 15, 3) := by decide +kernel
theorem dX3_init_17 : decode cX3_init 17 = .ok (.aload_n 0, 1) := by decide +kernel
theorem dX3_init_18 : decode cX3_init 18 = .ok (.iconst 0, 1) := by decide +kernel
theorem dX3_init_19 : decode cX3_init 19 = .ok (.putfield 19, 3) := by decide +kernel
theorem dX3_init_22 : decode cX3_init 22 = .ok (.aload_n 0, 1) := by decide +kernel
theorem dX3_init_23 : decode cX3_init 23 = .ok (.sipush 240, 3) := by decide +kernel
theorem dX3_init_26 : decode cX3_init 26 = .ok (.newarray .int, 2) := by decide +kernel
theorem dX3_init_28 : decode cX3_init 28 = .ok (.putfield 22, 3) := by decide +kernel
theorem dX3_init_31 : decode cX3_init 31 = .ok (.aload_n 0, 1) := by decide +kernel
theorem dX3_init_32 : decode cX3_init 32 = .ok (.iconst 0, 1) := by decide +kernel
theorem dX3_init_33 : decode cX3_init 33 = .ok (.putfield 25, 3) := by decide +kernel
theorem dX3_init_36 : decode cX3_init 36 = .ok (.aload_n 0, 1) := by decide +kernel
theorem dX3_init_37 : decode cX3_init 37 = .ok (.sipush 240, 3) := by decide +kernel
theorem dX3_init_40 : decode cX3_init 40 = .ok (.newarray .int, 2) := by decide +kernel
theorem dX3_init_42 : decode cX3_init 42 = .ok (.putfield 28, 3) := by decide +kernel
theorem dX3_init_45 : decode cX3_init 45 = .ok (.aload_n 0, 1) := by decide +kernel
theorem dX3_init_46 : decode cX3_init 46 = .ok (.iconst 0, 1) := by decide +kernel
theorem dX3_init_47 : decode cX3_init 47 = .ok (.putfield 31, 3) := by decide +kernel
theorem dX3_init_50 : decode cX3_init 50 = .ok (.aload_n 0, 1) := by decide +kernel
theorem dX3_init_51 : decode cX3_init 51 = .ok (.bipush 120, 2) := by decide +kernel
theorem dX3_init_53 : decode cX3_init 53 = .ok (.newarray .int, 2) := by decide +kernel
theorem dX3_init_55 : decode cX3_init 55 = .ok (.putfield 34, 3) := by decide +kernel
theorem dX3_init_58 : decode cX3_init 58 = .ok (.aload_n 0, 1) := by decide +kernel
theorem dX3_init_59 : decode cX3_init 59 = .ok (.iconst 0, 1) := by decide +kernel
theorem dX3_init_60 : decode cX3_init 60 = .ok (.putfield 37, 3) := by decide +kernel
theorem dX3_init_63 : decode cX3_init 63 = .ok (.aload_n 0, 1) := by decide +kernel
theorem dX3_init_64 : decode cX3_init 64 = .ok (.iconst 0, 1) := by decide +kernel
theorem dX3_init_65 : decode cX3_init 65 = .ok (.putfield 40, 3) := by decide +kernel
theorem dX3_init_68 : decode cX3_init 68 = .ok (.aload_n 0, 1) := by decide +kernel
theorem dX3_init_69 : decode cX3_init 69 = .ok (.iconst 0, 1) := by decide +kernel
theorem dX3_init_70 : decode cX3_init 70 = .ok (.putfield 43, 3) := by decide +kernel
theorem dX3_init_73 : decode cX3_init 73 = .ok (.aload_n 0, 1) := by decide +kernel
theorem dX3_init_74 : decode cX3_init 74 = .ok (.iconst 0, 1) := by decide +kernel
theorem dX3_init_75 : decode cX3_init 75 = .ok (.putfield 46, 3) := by decide +kernel
theorem dX3_init_78 : decode cX3_init 78 = .ok (.aload_n 0, 1) := by decide +kernel
theorem dX3_init_79 : decode cX3_init 79 = .ok (.iconst 0, 1) := by decide +kernel
theorem dX3_init_80 : decode cX3_init 80 = .ok (.putfield 49, 3) := by decide +kernel
theorem dX3_init_83 : decode cX3_init 83 = .ok (.aload_n 0, 1) := by decide +kernel
theorem dX3_init_84 : decode cX3_init 84 = .ok (.iconst 0, 1) := by decide +kernel
theorem dX3_init_85 : decode cX3_init 85 = .ok (.putfield 52, 3) := by decide +kernel
theorem dX3_init_88 : decode cX3_init 88 = .ok (.return_, 1) := by decide +kernel
theorem dX3_take_0 : decode cX3_take 0 = .ok (.aload_n 0, 1) := by decide +kernel
theorem dX3_take_1 : decode cX3_take 1 = .ok (.getfield 9, 3) := by decide +kernel
theorem dX3_take_4 : decode cX3_take 4 = .ok (.bipush 120, 2) := by decide +kernel
theorem dX3_take_6 : decode cX3_take 6 = .ok (.if_icmp .lt 6, 3) := by decide +kernel
theorem dX3_take_9 : decode cX3_take 9 = .ok (.bipush (-3), 2) := by decide +kernel
theorem dX3_take_11 : decode cX3_take 11 = .ok (.ireturn, 1) := by decide +kernel
theorem dX3_take_12 : decode cX3_take 12 = .ok (.aload_n 0, 1) := by decide +kernel
theorem dX3_take_13 : decode cX3_take 13 = .ok (.getfield 15, 3) := by decide +kernel
theorem dX3_take_16 : decode cX3_take 16 = .ok (.aload_n 0, 1) := by decide +kernel
theorem dX3_take_17 : decode cX3_take 17 = .ok (.getfield 9, 3) := by decide +kernel
theorem dX3_take_20 : decode cX3_take 20 = .ok (.iload_n 1, 1) := by decide +kernel
theorem dX3_take_21 : decode cX3_take 21 = .ok (.iastore, 1) := by decide +kernel
theorem dX3_take_22 : decode cX3_take 22 = .ok (.aload_n 0, 1) := by decide +kernel
theorem dX3_take_23 : decode cX3_take 23 = .ok (.dup, 1) := by decide +kernel
theorem dX3_take_24 : decode cX3_take 24 = .ok (.getfield 9, 3) := by decide +kernel
theorem dX3_take_27 : decode cX3_take 27 = .ok (.iconst 1, 1) := by decide +kernel
theorem dX3_take_28 : decode cX3_take 28 = .ok (.iadd, 1) := by decide +kernel
theorem dX3_take_29 : decode cX3_take 29 = .ok (.putfield 9, 3) := by decide +kernel
theorem dX3_take_32 : decode cX3_take 32 = .ok (.aload_n 0, 1) := by decide +kernel
theorem dX3_take_33 : decode cX3_take 33 = .ok (.getfield 9, 3) := by decide +kernel
theorem dX3_take_36 : decode cX3_take 36 = .ok (.ireturn, 1) := by decide +kernel
theorem dX3_isTold_0 : decode cX3_isTold 0 = .ok (.aload_n 0, 1) := by decide +kernel
theorem dX3_isTold_1 : decode cX3_isTold 1 = .ok (.getfield 31, 3) := by decide +kernel
theorem dX3_isTold_4 : decode cX3_isTold 4 = .ok (.ifCond .le 7, 3) := by decide +kernel
theorem dX3_isTold_7 : decode cX3_isTold 7 = .ok (.iconst 1, 1) := by decide +kernel
theorem dX3_isTold_8 : decode cX3_isTold 8 = .ok (.goto 4, 3) := by decide +kernel
theorem dX3_isTold_11 : decode cX3_isTold 11 = .ok (.iconst 0, 1) := by decide +kernel
theorem dX3_isTold_12 : decode cX3_isTold 12 = .ok (.ireturn, 1) := by decide +kernel
theorem dX3_read_0 : decode cX3_read 0 = .ok (.aload_n 0, 1) := by decide +kernel
theorem dX3_read_1 : decode cX3_read 1 = .ok (.iconst 0, 1) := by decide +kernel
theorem dX3_read_2 : decode cX3_read 2 = .ok (.putfield 19, 3) := by decide +kernel
theorem dX3_read_5 : decode cX3_read 5 = .ok (.aload_n 0, 1) := by decide +kernel
theorem dX3_read_6 : decode cX3_read 6 = .ok (.iconst 0, 1) := by decide +kernel
theorem dX3_read_7 : decode cX3_read 7 = .ok (.putfield 25, 3) := by decide +kernel
theorem dX3_read_10 : decode cX3_read 10 = .ok (.aload_n 0, 1) := by decide +kernel
theorem dX3_read_11 : decode cX3_read 11 = .ok (.invokevirtual 55, 3) := by decide +kernel
theorem dX3_read_14 : decode cX3_read 14 = .ok (.istore_n 1, 1) := by decide +kernel
theorem dX3_read_15 : decode cX3_read 15 = .ok (.aload_n 0, 1) := by decide +kernel
theorem dX3_read_16 : decode cX3_read 16 = .ok (.iconst 0, 1) := by decide +kernel
theorem dX3_read_17 : decode cX3_read 17 = .ok (.putfield 9, 3) := by decide +kernel
theorem dX3_read_20 : decode cX3_read 20 = .ok (.iload_n 1, 1) := by decide +kernel
theorem dX3_read_21 : decode cX3_read 21 = .ok (.ifCond .ne 11, 3) := by decide +kernel
theorem dX3_read_24 : decode cX3_read 24 = .ok (.bipush (-100), 2) := by decide +kernel
theorem dX3_read_26 : decode cX3_read 26 = .ok (.aload_n 0, 1) := by decide +kernel
theorem dX3_read_27 : decode cX3_read 27 = .ok (.getfield 19, 3) := by decide +kernel
theorem dX3_read_30 : decode cX3_read 30 = .ok (.isub, 1) := by decide +kernel
theorem dX3_read_31 : decode cX3_read 31 = .ok (.ireturn, 1) := by decide +kernel
theorem dX3_read_32 : decode cX3_read 32 = .ok (.aload_n 0, 1) := by decide +kernel
theorem dX3_read_33 : decode cX3_read 33 = .ok (.getfield 28, 3) := by decide +kernel
theorem dX3_read_36 : decode cX3_read 36 = .ok (.astore_n 2, 1) := by decide +kernel
theorem dX3_read_37 : decode cX3_read 37 = .ok (.aload_n 0, 1) := by decide +kernel
theorem dX3_read_38 : decode cX3_read 38 = .ok (.aload_n 0, 1) := by decide +kernel
theorem dX3_read_39 : decode cX3_read 39 = .ok (.getfield 22, 3) := by decide +kernel
theorem dX3_read_42 : decode cX3_read 42 = .ok (.putfield 28, 3) := by decide +kernel
theorem dX3_read_45 : decode cX3_read 45 = .ok (.aload_n 0, 1) := by decide +kernel
theorem dX3_read_46 : decode cX3_read 46 = .ok (.aload_n 2, 1) := by decide +kernel
theorem dX3_read_47 : decode cX3_read 47 = .ok (.putfield 22, 3) := by decide +kernel
theorem dX3_read_50 : decode cX3_read 50 = .ok (.aload_n 0, 1) := by decide +kernel
theorem dX3_read_51 : decode cX3_read 51 = .ok (.aload_n 0, 1) := by decide +kernel
theorem dX3_read_52 : decode cX3_read 52 = .ok (.getfield 25, 3) := by decide +kernel
theorem dX3_read_55 : decode cX3_read 55 = .ok (.putfield 31, 3) := by decide +kernel
theorem dX3_read_58 : decode cX3_read 58 = .ok (.iconst 1, 1) := by decide +kernel
theorem dX3_read_59 : decode cX3_read 59 = .ok (.ireturn, 1) := by decide +kernel
theorem dX3_readLines_0 : decode cX3_readLines 0 = .ok (.iconst 0, 1) := by decide +kernel
theorem dX3_readLines_1 : decode cX3_readLines 1 = .ok (.istore_n 1, 1) := by decide +kernel
theorem dX3_readLines_2 : decode cX3_readLines 2 = .ok (.iload_n 1, 1) := by decide +kernel
theorem dX3_readLines_3 : decode cX3_readLines 3 = .ok (.bipush 120, 2) := by decide +kernel
theorem dX3_readLines_5 : decode cX3_readLines 5 = .ok (.if_icmp .gt 44, 3) := by decide +kernel
theorem dX3_readLines_8 : decode cX3_readLines 8 = .ok (.aload_n 0, 1) := by decide +kernel
theorem dX3_readLines_9 : decode cX3_readLines 9 = .ok (.invokevirtual 59, 3) := by decide +kernel
theorem dX3_readLines_12 : decode cX3_readLines 12 = .ok (.ifCond .ne 5, 3) := by decide +kernel
theorem dX3_readLines_15 : decode cX3_readLines 15 = .ok (.iconst 0, 1) := by decide +kernel
theorem dX3_readLines_16 : decode cX3_readLines 16 = .ok (.ireturn, 1) := by decide +kernel
theorem dX3_readLines_17 : decode cX3_readLines 17 = .ok (.aload_n 0, 1) := by decide +kernel
theorem dX3_readLines_18 : decode cX3_readLines 18 = .ok (.bipush 59, 2) := by decide +kernel
theorem dX3_readLines_20 : decode cX3_readLines 20 = .ok (.invokevirtual 62, 3) := by decide +kernel
theorem dX3_readLines_23 : decode cX3_readLines 23 = .ok (.ifCond .ne 20, 3) := by decide +kernel
theorem dX3_readLines_26 : decode cX3_readLines 26 = .ok (.aload_n 0, 1) := by decide +kernel
theorem dX3_readLines_27 : decode cX3_readLines 27 = .ok (.getfield 19, 3) := by decide +kernel
theorem dX3_readLines_30 : decode cX3_readLines 30 = .ok (.aload_n 0, 1) := by decide +kernel
theorem dX3_readLines_31 : decode cX3_readLines 31 = .ok (.getfield 9, 3) := by decide +kernel
theorem dX3_readLines_34 : decode cX3_readLines 34 = .ok (.if_icmp .lt 7, 3) := by decide +kernel
theorem dX3_readLines_37 : decode cX3_readLines 37 = .ok (.iconst 1, 1) := by decide +kernel
theorem dX3_readLines_38 : decode cX3_readLines 38 = .ok (.goto 4, 3) := by decide +kernel
theorem dX3_readLines_41 : decode cX3_readLines 41 = .ok (.iconst 0, 1) := by decide +kernel
theorem dX3_readLines_42 : decode cX3_readLines 42 = .ok (.ireturn, 1) := by decide +kernel
theorem dX3_readLines_43 : decode cX3_readLines 43 = .ok (.iinc 1 1, 3) := by decide +kernel
theorem dX3_readLines_46 : decode cX3_readLines 46 = .ok (.goto (-44), 3) := by decide +kernel
theorem dX3_readLines_49 : decode cX3_readLines 49 = .ok (.iconst 0, 1) := by decide +kernel
theorem dX3_readLines_50 : decode cX3_readLines 50 = .ok (.ireturn, 1) := by decide +kernel
theorem dX3_readLine_0 : decode cX3_readLine 0 = .ok (.aload_n 0, 1) := by decide +kernel
theorem dX3_readLine_1 : decode cX3_readLine 1 = .ok (.iconst 0, 1) := by decide +kernel
theorem dX3_readLine_2 : decode cX3_readLine 2 = .ok (.iconst 0, 1) := by decide +kernel
theorem dX3_readLine_3 : decode cX3_readLine 3 = .ok (.invokevirtual 66, 3) := by decide +kernel
theorem dX3_readLine_6 : decode cX3_readLine 6 = .ok (.ifCond .ne 5, 3) := by decide +kernel
theorem dX3_readLine_9 : decode cX3_readLine 9 = .ok (.iconst 0, 1) := by decide +kernel
theorem dX3_readLine_10 : decode cX3_readLine 10 = .ok (.ireturn, 1) := by decide +kernel
theorem dX3_readLine_11 : decode cX3_readLine 11 = .ok (.aload_n 0, 1) := by decide +kernel
theorem dX3_readLine_12 : decode cX3_readLine 12 = .ok (.bipush 63, 2) := by decide +kernel
theorem dX3_readLine_14 : decode cX3_readLine 14 = .ok (.invokevirtual 62, 3) := by decide +kernel
theorem dX3_readLine_17 : decode cX3_readLine 17 = .ok (.ifCond .ne 11, 3) := by decide +kernel
theorem dX3_readLine_20 : decode cX3_readLine 20 = .ok (.aload_n 0, 1) := by decide +kernel
theorem dX3_readLine_21 : decode cX3_readLine 21 = .ok (.bipush (-3), 2) := by decide +kernel
theorem dX3_readLine_23 : decode cX3_readLine 23 = .ok (.invokevirtual 70, 3) := by decide +kernel
theorem dX3_readLine_26 : decode cX3_readLine 26 = .ok (.iconst 1, 1) := by decide +kernel
theorem dX3_readLine_27 : decode cX3_readLine 27 = .ok (.ireturn, 1) := by decide +kernel
theorem dX3_readLine_28 : decode cX3_readLine 28 = .ok (.aload_n 0, 1) := by decide +kernel
theorem dX3_readLine_29 : decode cX3_readLine 29 = .ok (.bipush (-2), 2) := by decide +kernel
theorem dX3_readLine_31 : decode cX3_readLine 31 = .ok (.invokevirtual 70, 3) := by decide +kernel
theorem dX3_readLine_34 : decode cX3_readLine 34 = .ok (.aload_n 0, 1) := by decide +kernel
theorem dX3_readLine_35 : decode cX3_readLine 35 = .ok (.getfield 25, 3) := by decide +kernel
theorem dX3_readLine_38 : decode cX3_readLine 38 = .ok (.istore_n 1, 1) := by decide +kernel
theorem dX3_readLine_39 : decode cX3_readLine 39 = .ok (.aload_n 0, 1) := by decide +kernel
theorem dX3_readLine_40 : decode cX3_readLine 40 = .ok (.iconst 0, 1) := by decide +kernel
theorem dX3_readLine_41 : decode cX3_readLine 41 = .ok (.invokevirtual 70, 3) := by decide +kernel
theorem dX3_readLine_44 : decode cX3_readLine 44 = .ok (.aload_n 0, 1) := by decide +kernel
theorem dX3_readLine_45 : decode cX3_readLine 45 = .ok (.iconst 0, 1) := by decide +kernel
theorem dX3_readLine_46 : decode cX3_readLine 46 = .ok (.iconst 0, 1) := by decide +kernel
theorem dX3_readLine_47 : decode cX3_readLine 47 = .ok (.invokevirtual 66, 3) := by decide +kernel
theorem dX3_readLine_50 : decode cX3_readLine 50 = .ok (.ifCond .ne 5, 3) := by decide +kernel
theorem dX3_readLine_53 : decode cX3_readLine 53 = .ok (.iconst 0, 1) := by decide +kernel
theorem dX3_readLine_54 : decode cX3_readLine 54 = .ok (.ireturn, 1) := by decide +kernel
theorem dX3_readLine_55 : decode cX3_readLine 55 = .ok (.aload_n 0, 1) := by decide +kernel
theorem dX3_readLine_56 : decode cX3_readLine 56 = .ok (.bipush (-3), 2) := by decide +kernel
theorem dX3_readLine_58 : decode cX3_readLine 58 = .ok (.invokevirtual 70, 3) := by decide +kernel
theorem dX3_readLine_61 : decode cX3_readLine 61 = .ok (.iload_n 1, 1) := by decide +kernel
theorem dX3_readLine_62 : decode cX3_readLine 62 = .ok (.aload_n 0, 1) := by decide +kernel
theorem dX3_readLine_63 : decode cX3_readLine 63 = .ok (.getfield 22, 3) := by decide +kernel
theorem dX3_readLine_66 : decode cX3_readLine 66 = .ok (.arraylength, 1) := by decide +kernel
theorem dX3_readLine_67 : decode cX3_readLine 67 = .ok (.if_icmp .ge 13, 3) := by decide +kernel
theorem dX3_readLine_70 : decode cX3_readLine 70 = .ok (.aload_n 0, 1) := by decide +kernel
theorem dX3_readLine_71 : decode cX3_readLine 71 = .ok (.getfield 22, 3) := by decide +kernel
theorem dX3_readLine_74 : decode cX3_readLine 74 = .ok (.iload_n 1, 1) := by decide +kernel
theorem dX3_readLine_75 : decode cX3_readLine 75 = .ok (.aload_n 0, 1) := by decide +kernel
theorem dX3_readLine_76 : decode cX3_readLine 76 = .ok (.getfield 25, 3) := by decide +kernel
theorem dX3_readLine_79 : decode cX3_readLine 79 = .ok (.iastore, 1) := by decide +kernel
theorem dX3_readLine_80 : decode cX3_readLine 80 = .ok (.iconst 1, 1) := by decide +kernel
theorem dX3_readLine_81 : decode cX3_readLine 81 = .ok (.ireturn, 1) := by decide +kernel
theorem dX3_readJoined_0 : decode cX3_readJoined 0 = .ok (.iload_n 1, 1) := by decide +kernel
theorem dX3_readJoined_1 : decode cX3_readJoined 1 = .ok (.iconst 5, 1) := by decide +kernel
theorem dX3_readJoined_2 : decode cX3_readJoined 2 = .ok (.if_icmp .lt 9, 3) := by decide +kernel
theorem dX3_readJoined_5 : decode cX3_readJoined 5 = .ok (.aload_n 0, 1) := by decide +kernel
theorem dX3_readJoined_6 : decode cX3_readJoined 6 = .ok (.iload_n 2, 1) := by decide +kernel
theorem dX3_readJoined_7 : decode cX3_readJoined 7 = .ok (.invokevirtual 74, 3) := by decide +kernel
theorem dX3_readJoined_10 : decode cX3_readJoined 10 = .ok (.ireturn, 1) := by decide +kernel
theorem dX3_readJoined_11 : decode cX3_readJoined 11 = .ok (.aload_n 0, 1) := by decide +kernel
theorem dX3_readJoined_12 : decode cX3_readJoined 12 = .ok (.iload_n 1, 1) := by decide +kernel
theorem dX3_readJoined_13 : decode cX3_readJoined 13 = .ok (.iconst 1, 1) := by decide +kernel
theorem dX3_readJoined_14 : decode cX3_readJoined 14 = .ok (.iadd, 1) := by decide +kernel
theorem dX3_readJoined_15 : decode cX3_readJoined 15 = .ok (.iload_n 2, 1) := by decide +kernel
theorem dX3_readJoined_16 : decode cX3_readJoined 16 = .ok (.invokevirtual 66, 3) := by decide +kernel
theorem dX3_readJoined_19 : decode cX3_readJoined 19 = .ok (.ifCond .ne 5, 3) := by decide +kernel
theorem dX3_readJoined_22 : decode cX3_readJoined 22 = .ok (.iconst 0, 1) := by decide +kernel
theorem dX3_readJoined_23 : decode cX3_readJoined 23 = .ok (.ireturn, 1) := by decide +kernel
theorem dX3_readJoined_24 : decode cX3_readJoined 24 = .ok (.iload_n 1, 1) := by decide +kernel
theorem dX3_readJoined_25 : decode cX3_readJoined 25 = .ok (.iconst 2, 1) := by decide +kernel
theorem dX3_readJoined_26 : decode cX3_readJoined 26 = .ok (.if_icmp .ne 7, 3) := by decide +kernel
theorem dX3_readJoined_29 : decode cX3_readJoined 29 = .ok (.iconst 1, 1) := by decide +kernel
theorem dX3_readJoined_30 : decode cX3_readJoined 30 = .ok (.goto 5, 3) := by decide +kernel
theorem dX3_readJoined_33 : decode cX3_readJoined 33 = .ok (.bipush 120, 2) := by decide +kernel
theorem dX3_readJoined_35 : decode cX3_readJoined 35 = .ok (.istore_n 3, 1) := by decide +kernel
theorem dX3_readJoined_36 : decode cX3_readJoined 36 = .ok (.iconst 0, 1) := by decide +kernel
theorem dX3_readJoined_37 : decode cX3_readJoined 37 = .ok (.istore 4, 2) := by decide +kernel
theorem dX3_readJoined_39 : decode cX3_readJoined 39 = .ok (.iload 4, 2) := by decide +kernel
theorem dX3_readJoined_41 : decode cX3_readJoined 41 = .ok (.iload_n 3, 1) := by decide +kernel
theorem dX3_readJoined_42 : decode cX3_readJoined 42 = .ok (.if_icmp .ge 56, 3) := by decide +kernel
theorem dX3_readJoined_45 : decode cX3_readJoined 45 = .ok (.aload_n 0, 1) := by decide +kernel
theorem dX3_readJoined_46 : decode cX3_readJoined 46 = .ok (.invokevirtual 77, 3) := by decide +kernel
theorem dX3_readJoined_49 : decode cX3_readJoined 49 = .ok (.invokestatic 81, 3) := by decide +kernel
theorem dX3_readJoined_52 : decode cX3_readJoined 52 = .ok (.iload_n 1, 1) := by decide +kernel
theorem dX3_readJoined_53 : decode cX3_readJoined 53 = .ok (.if_icmp .ne 45, 3) := by decide +kernel
theorem dX3_readJoined_56 : decode cX3_readJoined 56 = .ok (.aload_n 0, 1) := by decide +kernel
theorem dX3_readJoined_57 : decode cX3_readJoined 57 = .ok (.invokevirtual 77, 3) := by decide +kernel
theorem dX3_readJoined_60 : decode cX3_readJoined 60 = .ok (.istore 5, 2) := by decide +kernel
theorem dX3_readJoined_62 : decode cX3_readJoined 62 = .ok (.aload_n 0, 1) := by decide +kernel
theorem dX3_readJoined_63 : decode cX3_readJoined 63 = .ok (.dup, 1) := by decide +kernel
theorem dX3_readJoined_64 : decode cX3_readJoined 64 = .ok (.getfield 19, 3) := by decide +kernel
theorem dX3_readJoined_67 : decode cX3_readJoined 67 = .ok (.iconst 1, 1) := by decide +kernel
theorem dX3_readJoined_68 : decode cX3_readJoined 68 = .ok (.iadd, 1) := by decide +kernel
theorem dX3_readJoined_69 : decode cX3_readJoined 69 = .ok (.putfield 19, 3) := by decide +kernel
theorem dX3_readJoined_72 : decode cX3_readJoined 72 = .ok (.aload_n 0, 1) := by decide +kernel
theorem dX3_readJoined_73 : decode cX3_readJoined 73 = .ok (.iload_n 1, 1) := by decide +kernel
theorem dX3_readJoined_74 : decode cX3_readJoined 74 = .ok (.iconst 1, 1) := by decide +kernel
theorem dX3_readJoined_75 : decode cX3_readJoined 75 = .ok (.iadd, 1) := by decide +kernel
theorem dX3_readJoined_76 : decode cX3_readJoined 76 = .ok (.iload_n 2, 1) := by decide +kernel
theorem dX3_readJoined_77 : decode cX3_readJoined 77 = .ok (.invokevirtual 66, 3) := by decide +kernel
theorem dX3_readJoined_80 : decode cX3_readJoined 80 = .ok (.ifCond .ne 5, 3) := by decide +kernel
theorem dX3_readJoined_83 : decode cX3_readJoined 83 = .ok (.iconst 0, 1) := by decide +kernel
theorem dX3_readJoined_84 : decode cX3_readJoined 84 = .ok (.ireturn, 1) := by decide +kernel
theorem dX3_readJoined_85 : decode cX3_readJoined 85 = .ok (.aload_n 0, 1) := by decide +kernel
theorem dX3_readJoined_86 : decode cX3_readJoined 86 = .ok (.iload 5, 2) := by decide +kernel
theorem dX3_readJoined_88 : decode cX3_readJoined 88 = .ok (.ineg, 1) := by decide +kernel
theorem dX3_readJoined_89 : decode cX3_readJoined 89 = .ok (.invokevirtual 70, 3) := by decide +kernel
theorem dX3_readJoined_92 : decode cX3_readJoined 92 = .ok (.iinc 4 1, 3) := by decide +kernel
theorem dX3_readJoined_95 : decode cX3_readJoined 95 = .ok (.goto (-56), 3) := by decide +kernel
theorem dX3_readJoined_98 : decode cX3_readJoined 98 = .ok (.iconst 1, 1) := by decide +kernel
theorem dX3_readJoined_99 : decode cX3_readJoined 99 = .ok (.ireturn, 1) := by decide +kernel
theorem dX3_readOperand_0 : decode cX3_readOperand 0 = .ok (.aload_n 0, 1) := by decide +kernel
theorem dX3_readOperand_1 : decode cX3_readOperand 1 = .ok (.invokevirtual 77, 3) := by decide +kernel
theorem dX3_readOperand_4 : decode cX3_readOperand 4 = .ok (.istore_n 2, 1) := by decide +kernel
theorem dX3_readOperand_5 : decode cX3_readOperand 5 = .ok (.iload_n 2, 1) := by decide +kernel
theorem dX3_readOperand_6 : decode cX3_readOperand 6 = .ok (.invokestatic 85, 3) := by decide +kernel
theorem dX3_readOperand_9 : decode cX3_readOperand 9 = .ok (.ifCond .eq 9, 3) := by decide +kernel
theorem dX3_readOperand_12 : decode cX3_readOperand 12 = .ok (.aload_n 0, 1) := by decide +kernel
theorem dX3_readOperand_13 : decode cX3_readOperand 13 = .ok (.invokevirtual 88, 3) := by decide +kernel
theorem dX3_readOperand_16 : decode cX3_readOperand 16 = .ok (.iconst 1, 1) := by decide +kernel
theorem dX3_readOperand_17 : decode cX3_readOperand 17 = .ok (.ireturn, 1) := by decide +kernel
theorem dX3_readOperand_18 : decode cX3_readOperand 18 = .ok (.iload_n 2, 1) := by decide +kernel
theorem dX3_readOperand_19 : decode cX3_readOperand 19 = .ok (.invokestatic 91, 3) := by decide +kernel
theorem dX3_readOperand_22 : decode cX3_readOperand 22 = .ok (.ifCond .eq 21, 3) := by decide +kernel
theorem dX3_readOperand_25 : decode cX3_readOperand 25 = .ok (.aload_n 0, 1) := by decide +kernel
theorem dX3_readOperand_26 : decode cX3_readOperand 26 = .ok (.dup, 1) := by decide +kernel
theorem dX3_readOperand_27 : decode cX3_readOperand 27 = .ok (.getfield 19, 3) := by decide +kernel
theorem dX3_readOperand_30 : decode cX3_readOperand 30 = .ok (.iconst 1, 1) := by decide +kernel
theorem dX3_readOperand_31 : decode cX3_readOperand 31 = .ok (.iadd, 1) := by decide +kernel
theorem dX3_readOperand_32 : decode cX3_readOperand 32 = .ok (.putfield 19, 3) := by decide +kernel
theorem dX3_readOperand_35 : decode cX3_readOperand 35 = .ok (.aload_n 0, 1) := by decide +kernel
theorem dX3_readOperand_36 : decode cX3_readOperand 36 = .ok (.iload_n 2, 1) := by decide +kernel
theorem dX3_readOperand_37 : decode cX3_readOperand 37 = .ok (.ineg, 1) := by decide +kernel
theorem dX3_readOperand_38 : decode cX3_readOperand 38 = .ok (.invokevirtual 70, 3) := by decide +kernel
theorem dX3_readOperand_41 : decode cX3_readOperand 41 = .ok (.iconst 1, 1) := by decide +kernel
theorem dX3_readOperand_42 : decode cX3_readOperand 42 = .ok (.ireturn, 1) := by decide +kernel
theorem dX3_readOperand_43 : decode cX3_readOperand 43 = .ok (.iload_n 2, 1) := by decide +kernel
theorem dX3_readOperand_44 : decode cX3_readOperand 44 = .ok (.bipush 40, 2) := by decide +kernel
theorem dX3_readOperand_46 : decode cX3_readOperand 46 = .ok (.if_icmp .eq 15, 3) := by decide +kernel
theorem dX3_readOperand_49 : decode cX3_readOperand 49 = .ok (.iload_n 2, 1) := by decide +kernel
theorem dX3_readOperand_50 : decode cX3_readOperand 50 = .ok (.bipush 33, 2) := by decide +kernel
theorem dX3_readOperand_52 : decode cX3_readOperand 52 = .ok (.if_icmp .eq 9, 3) := by decide +kernel
theorem dX3_readOperand_55 : decode cX3_readOperand 55 = .ok (.iload_n 2, 1) := by decide +kernel
theorem dX3_readOperand_56 : decode cX3_readOperand 56 = .ok (.bipush 45, 2) := by decide +kernel
theorem dX3_readOperand_58 : decode cX3_readOperand 58 = .ok (.if_icmp .ne 9, 3) := by decide +kernel
theorem dX3_readOperand_61 : decode cX3_readOperand 61 = .ok (.iload_n 1, 1) := by decide +kernel
theorem dX3_readOperand_62 : decode cX3_readOperand 62 = .ok (.bipush 6, 2) := by decide +kernel
theorem dX3_readOperand_64 : decode cX3_readOperand 64 = .ok (.if_icmp .lt 5, 3) := by decide +kernel
theorem dX3_readOperand_67 : decode cX3_readOperand 67 = .ok (.iconst 0, 1) := by decide +kernel
theorem dX3_readOperand_68 : decode cX3_readOperand 68 = .ok (.ireturn, 1) := by decide +kernel
theorem dX3_readOperand_69 : decode cX3_readOperand 69 = .ok (.aload_n 0, 1) := by decide +kernel
theorem dX3_readOperand_70 : decode cX3_readOperand 70 = .ok (.dup, 1) := by decide +kernel
theorem dX3_readOperand_71 : decode cX3_readOperand 71 = .ok (.getfield 19, 3) := by decide +kernel
theorem dX3_readOperand_74 : decode cX3_readOperand 74 = .ok (.iconst 1, 1) := by decide +kernel
theorem dX3_readOperand_75 : decode cX3_readOperand 75 = .ok (.iadd, 1) := by decide +kernel
theorem dX3_readOperand_76 : decode cX3_readOperand 76 = .ok (.putfield 19, 3) := by decide +kernel
theorem dX3_readOperand_79 : decode cX3_readOperand 79 = .ok (.iload_n 2, 1) := by decide +kernel
theorem dX3_readOperand_80 : decode cX3_readOperand 80 = .ok (.bipush 40, 2) := by decide +kernel
theorem dX3_readOperand_82 : decode cX3_readOperand 82 = .ok (.if_icmp .ne 29, 3) := by decide +kernel
theorem dX3_readOperand_85 : decode cX3_readOperand 85 = .ok (.aload_n 0, 1) := by decide +kernel
theorem dX3_readOperand_86 : decode cX3_readOperand 86 = .ok (.iconst 0, 1) := by decide +kernel
theorem dX3_readOperand_87 : decode cX3_readOperand 87 = .ok (.iload_n 1, 1) := by decide +kernel
theorem dX3_readOperand_88 : decode cX3_readOperand 88 = .ok (.iconst 1, 1) := by decide +kernel
theorem dX3_readOperand_89 : decode cX3_readOperand 89 = .ok (.iadd, 1) := by decide +kernel
theorem dX3_readOperand_90 : decode cX3_readOperand 90 = .ok (.invokevirtual 66, 3) := by decide +kernel
theorem dX3_readOperand_93 : decode cX3_readOperand 93 = .ok (.ifCond .eq 16, 3) := by decide +kernel
theorem dX3_readOperand_96 : decode cX3_readOperand 96 = .ok (.aload_n 0, 1) := by decide +kernel
theorem dX3_readOperand_97 : decode cX3_readOperand 97 = .ok (.bipush 41, 2) := by decide +kernel
theorem dX3_readOperand_99 : decode cX3_readOperand 99 = .ok (.invokevirtual 62, 3) := by decide +kernel
theorem dX3_readOperand_102 : decode cX3_readOperand 102 = .ok (.ifCond .eq 7, 3) := by decide +kernel
theorem dX3_readOperand_105 : decode cX3_readOperand 105 = .ok (.iconst 1, 1) := by decide +kernel
theorem dX3_readOperand_106 : decode cX3_readOperand 106 = .ok (.goto 4, 3) := by decide +kernel
theorem dX3_readOperand_109 : decode cX3_readOperand 109 = .ok (.iconst 0, 1) := by decide +kernel
theorem dX3_readOperand_110 : decode cX3_readOperand 110 = .ok (.ireturn, 1) := by decide +kernel
theorem dX3_readOperand_111 : decode cX3_readOperand 111 = .ok (.aload_n 0, 1) := by decide +kernel
theorem dX3_readOperand_112 : decode cX3_readOperand 112 = .ok (.iload_n 1, 1) := by decide +kernel
theorem dX3_readOperand_113 : decode cX3_readOperand 113 = .ok (.iconst 1, 1) := by decide +kernel
theorem dX3_readOperand_114 : decode cX3_readOperand 114 = .ok (.iadd, 1) := by decide +kernel
theorem dX3_readOperand_115 : decode cX3_readOperand 115 = .ok (.invokevirtual 74, 3) := by decide +kernel
theorem dX3_readOperand_118 : decode cX3_readOperand 118 = .ok (.ifCond .ne 5, 3) := by decide +kernel
theorem dX3_readOperand_121 : decode cX3_readOperand 121 = .ok (.iconst 0, 1) := by decide +kernel
theorem dX3_readOperand_122 : decode cX3_readOperand 122 = .ok (.ireturn, 1) := by decide +kernel
theorem dX3_readOperand_123 : decode cX3_readOperand 123 = .ok (.aload_n 0, 1) := by decide +kernel
theorem dX3_readOperand_124 : decode cX3_readOperand 124 = .ok (.iload_n 2, 1) := by decide +kernel
theorem dX3_readOperand_125 : decode cX3_readOperand 125 = .ok (.bipush 45, 2) := by decide +kernel
theorem dX3_readOperand_127 : decode cX3_readOperand 127 = .ok (.if_icmp .ne 7, 3) := by decide +kernel
theorem dX3_readOperand_130 : decode cX3_readOperand 130 = .ok (.iconst (-1), 1) := by decide +kernel
theorem dX3_readOperand_131 : decode cX3_readOperand 131 = .ok (.goto 5, 3) := by decide +kernel
theorem dX3_readOperand_134 : decode cX3_readOperand 134 = .ok (.bipush (-33), 2) := by decide +kernel
theorem dX3_readOperand_136 : decode cX3_readOperand 136 = .ok (.invokevirtual 70, 3) := by decide +kernel
theorem dX3_readOperand_139 : decode cX3_readOperand 139 = .ok (.iconst 1, 1) := by decide +kernel
theorem dX3_readOperand_140 : decode cX3_readOperand 140 = .ok (.ireturn, 1) := by decide +kernel
theorem dX3_readNumber_0 : decode cX3_readNumber 0 = .ok (.iconst 0, 1) := by decide +kernel
theorem dX3_readNumber_1 : decode cX3_readNumber 1 = .ok (.istore_n 1, 1) := by decide +kernel
theorem dX3_readNumber_2 : decode cX3_readNumber 2 = .ok (.iconst 0, 1) := by decide +kernel
theorem dX3_readNumber_3 : decode cX3_readNumber 3 = .ok (.istore_n 2, 1) := by decide +kernel
theorem dX3_readNumber_4 : decode cX3_readNumber 4 = .ok (.iload_n 2, 1) := by decide +kernel
theorem dX3_readNumber_5 : decode cX3_readNumber 5 = .ok (.iconst 4, 1) := by decide +kernel
theorem dX3_readNumber_6 : decode cX3_readNumber 6 = .ok (.if_icmp .ge 42, 3) := by decide +kernel
theorem dX3_readNumber_9 : decode cX3_readNumber 9 = .ok (.aload_n 0, 1) := by decide +kernel
theorem dX3_readNumber_10 : decode cX3_readNumber 10 = .ok (.invokevirtual 77, 3) := by decide +kernel
theorem dX3_readNumber_13 : decode cX3_readNumber 13 = .ok (.invokestatic 85, 3) := by decide +kernel
theorem dX3_readNumber_16 : decode cX3_readNumber 16 = .ok (.ifCond .eq 32, 3) := by decide +kernel
theorem dX3_readNumber_19 : decode cX3_readNumber 19 = .ok (.iload_n 1, 1) := by decide +kernel
theorem dX3_readNumber_20 : decode cX3_readNumber 20 = .ok (.bipush 10, 2) := by decide +kernel
theorem dX3_readNumber_22 : decode cX3_readNumber 22 = .ok (.imul, 1) := by decide +kernel
theorem dX3_readNumber_23 : decode cX3_readNumber 23 = .ok (.aload_n 0, 1) := by decide +kernel
theorem dX3_readNumber_24 : decode cX3_readNumber 24 = .ok (.invokevirtual 77, 3) := by decide +kernel
theorem dX3_readNumber_27 : decode cX3_readNumber 27 = .ok (.iadd, 1) := by decide +kernel
theorem dX3_readNumber_28 : decode cX3_readNumber 28 = .ok (.bipush 48, 2) := by decide +kernel
theorem dX3_readNumber_30 : decode cX3_readNumber 30 = .ok (.isub, 1) := by decide +kernel
theorem dX3_readNumber_31 : decode cX3_readNumber 31 = .ok (.istore_n 1, 1) := by decide +kernel
theorem dX3_readNumber_32 : decode cX3_readNumber 32 = .ok (.aload_n 0, 1) := by decide +kernel
theorem dX3_readNumber_33 : decode cX3_readNumber 33 = .ok (.dup, 1) := by decide +kernel
theorem dX3_readNumber_34 : decode cX3_readNumber 34 = .ok (.getfield 19, 3) := by decide +kernel
theorem dX3_readNumber_37 : decode cX3_readNumber 37 = .ok (.iconst 1, 1) := by decide +kernel
theorem dX3_readNumber_38 : decode cX3_readNumber 38 = .ok (.iadd, 1) := by decide +kernel
theorem dX3_readNumber_39 : decode cX3_readNumber 39 = .ok (.putfield 19, 3) := by decide +kernel
theorem dX3_readNumber_42 : decode cX3_readNumber 42 = .ok (.iinc 2 1, 3) := by decide +kernel
theorem dX3_readNumber_45 : decode cX3_readNumber 45 = .ok (.goto (-41), 3) := by decide +kernel
theorem dX3_readNumber_48 : decode cX3_readNumber 48 = .ok (.aload_n 0, 1) := by decide +kernel
theorem dX3_readNumber_49 : decode cX3_readNumber 49 = .ok (.iload_n 1, 1) := by decide +kernel
theorem dX3_readNumber_50 : decode cX3_readNumber 50 = .ok (.invokevirtual 70, 3) := by decide +kernel
theorem dX3_readNumber_53 : decode cX3_readNumber 53 = .ok (.return_, 1) := by decide +kernel
theorem dX3_sign_0 : decode cX3_sign 0 = .ok (.aload_n 0, 1) := by decide +kernel
theorem dX3_sign_1 : decode cX3_sign 1 = .ok (.getfield 19, 3) := by decide +kernel
theorem dX3_sign_4 : decode cX3_sign 4 = .ok (.aload_n 0, 1) := by decide +kernel
theorem dX3_sign_5 : decode cX3_sign 5 = .ok (.getfield 9, 3) := by decide +kernel
theorem dX3_sign_8 : decode cX3_sign 8 = .ok (.if_icmp .ge 15, 3) := by decide +kernel
theorem dX3_sign_11 : decode cX3_sign 11 = .ok (.aload_n 0, 1) := by decide +kernel
theorem dX3_sign_12 : decode cX3_sign 12 = .ok (.getfield 15, 3) := by decide +kernel
theorem dX3_sign_15 : decode cX3_sign 15 = .ok (.aload_n 0, 1) := by decide +kernel
theorem dX3_sign_16 : decode cX3_sign 16 = .ok (.getfield 19, 3) := by decide +kernel
theorem dX3_sign_19 : decode cX3_sign 19 = .ok (.iaload, 1) := by decide +kernel
theorem dX3_sign_20 : decode cX3_sign 20 = .ok (.goto 4, 3) := by decide +kernel
theorem dX3_sign_23 : decode cX3_sign 23 = .ok (.iconst (-1), 1) := by decide +kernel
theorem dX3_sign_24 : decode cX3_sign 24 = .ok (.ireturn, 1) := by decide +kernel
theorem dX3_took_0 : decode cX3_took 0 = .ok (.aload_n 0, 1) := by decide +kernel
theorem dX3_took_1 : decode cX3_took 1 = .ok (.invokevirtual 77, 3) := by decide +kernel
theorem dX3_took_4 : decode cX3_took 4 = .ok (.iload_n 1, 1) := by decide +kernel
theorem dX3_took_5 : decode cX3_took 5 = .ok (.if_icmp .eq 5, 3) := by decide +kernel
theorem dX3_took_8 : decode cX3_took 8 = .ok (.iconst 0, 1) := by decide +kernel
theorem dX3_took_9 : decode cX3_took 9 = .ok (.ireturn, 1) := by decide +kernel
theorem dX3_took_10 : decode cX3_took 10 = .ok (.aload_n 0, 1) := by decide +kernel
theorem dX3_took_11 : decode cX3_took 11 = .ok (.dup, 1) := by decide +kernel
theorem dX3_took_12 : decode cX3_took 12 = .ok (.getfield 19, 3) := by decide +kernel
theorem dX3_took_15 : decode cX3_took 15 = .ok (.iconst 1, 1) := by decide +kernel
theorem dX3_took_16 : decode cX3_took 16 = .ok (.iadd, 1) := by decide +kernel
theorem dX3_took_17 : decode cX3_took 17 = .ok (.putfield 19, 3) := by decide +kernel
theorem dX3_took_20 : decode cX3_took 20 = .ok (.iconst 1, 1) := by decide +kernel
theorem dX3_took_21 : decode cX3_took 21 = .ok (.ireturn, 1) := by decide +kernel
theorem dX3_step_0 : decode cX3_step 0 = .ok (.aload_n 0, 1) := by decide +kernel
theorem dX3_step_1 : decode cX3_step 1 = .ok (.getfield 25, 3) := by decide +kernel
theorem dX3_step_4 : decode cX3_step 4 = .ok (.aload_n 0, 1) := by decide +kernel
theorem dX3_step_5 : decode cX3_step 5 = .ok (.getfield 22, 3) := by decide +kernel
theorem dX3_step_8 : decode cX3_step 8 = .ok (.arraylength, 1) := by decide +kernel
theorem dX3_step_9 : decode cX3_step 9 = .ok (.if_icmp .ge 23, 3) := by decide +kernel
theorem dX3_step_12 : decode cX3_step 12 = .ok (.aload_n 0, 1) := by decide +kernel
theorem dX3_step_13 : decode cX3_step 13 = .ok (.getfield 22, 3) := by decide +kernel
theorem dX3_step_16 : decode cX3_step 16 = .ok (.aload_n 0, 1) := by decide +kernel
theorem dX3_step_17 : decode cX3_step 17 = .ok (.getfield 25, 3) := by decide +kernel
theorem dX3_step_20 : decode cX3_step 20 = .ok (.iload_n 1, 1) := by decide +kernel
theorem dX3_step_21 : decode cX3_step 21 = .ok (.iastore, 1) := by decide +kernel
theorem dX3_step_22 : decode cX3_step 22 = .ok (.aload_n 0, 1) := by decide +kernel
theorem dX3_step_23 : decode cX3_step 23 = .ok (.dup, 1) := by decide +kernel
theorem dX3_step_24 : decode cX3_step 24 = .ok (.getfield 25, 3) := by decide +kernel
theorem dX3_step_27 : decode cX3_step 27 = .ok (.iconst 1, 1) := by decide +kernel
theorem dX3_step_28 : decode cX3_step 28 = .ok (.iadd, 1) := by decide +kernel
theorem dX3_step_29 : decode cX3_step 29 = .ok (.putfield 25, 3) := by decide +kernel
theorem dX3_step_32 : decode cX3_step 32 = .ok (.return_, 1) := by decide +kernel
theorem dX3_levelOf_0 : decode cX3_levelOf 0 = .ok (.iload_n 0, 1) := by decide +kernel
theorem dX3_levelOf_1 : decode cX3_levelOf 1 = .ok (.lookupswitch 101 #[(37, 99), (38, 93), (42, 99), (43, 97), (45, 97), (47, 99), (60, 95), (61, 95), (62, 95), (124, 91)], 91) := by decide +kernel
theorem dX3_levelOf_92 : decode cX3_levelOf 92 = .ok (.iconst 0, 1) := by decide +kernel
theorem dX3_levelOf_93 : decode cX3_levelOf 93 = .ok (.ireturn, 1) := by decide +kernel
theorem dX3_levelOf_94 : decode cX3_levelOf 94 = .ok (.iconst 1, 1) := by decide +kernel
theorem dX3_levelOf_95 : decode cX3_levelOf 95 = .ok (.ireturn, 1) := by decide +kernel
theorem dX3_levelOf_96 : decode cX3_levelOf 96 = .ok (.iconst 2, 1) := by decide +kernel
theorem dX3_levelOf_97 : decode cX3_levelOf 97 = .ok (.ireturn, 1) := by decide +kernel
theorem dX3_levelOf_98 : decode cX3_levelOf 98 = .ok (.iconst 3, 1) := by decide +kernel
theorem dX3_levelOf_99 : decode cX3_levelOf 99 = .ok (.ireturn, 1) := by decide +kernel
theorem dX3_levelOf_100 : decode cX3_levelOf 100 = .ok (.iconst 4, 1) := by decide +kernel
theorem dX3_levelOf_101 : decode cX3_levelOf 101 = .ok (.ireturn, 1) := by decide +kernel
theorem dX3_levelOf_102 : decode cX3_levelOf 102 = .ok (.iconst (-1), 1) := by decide +kernel
theorem dX3_levelOf_103 : decode cX3_levelOf 103 = .ok (.ireturn, 1) := by decide +kernel
theorem dX3_isDigit_0 : decode cX3_isDigit 0 = .ok (.iload_n 0, 1) := by decide +kernel
theorem dX3_isDigit_1 : decode cX3_isDigit 1 = .ok (.bipush 48, 2) := by decide +kernel
theorem dX3_isDigit_3 : decode cX3_isDigit 3 = .ok (.if_icmp .lt 13, 3) := by decide +kernel
theorem dX3_isDigit_6 : decode cX3_isDigit 6 = .ok (.iload_n 0, 1) := by decide +kernel
theorem dX3_isDigit_7 : decode cX3_isDigit 7 = .ok (.bipush 57, 2) := by decide +kernel
theorem dX3_isDigit_9 : decode cX3_isDigit 9 = .ok (.if_icmp .gt 7, 3) := by decide +kernel
theorem dX3_isDigit_12 : decode cX3_isDigit 12 = .ok (.iconst 1, 1) := by decide +kernel
theorem dX3_isDigit_13 : decode cX3_isDigit 13 = .ok (.goto 4, 3) := by decide +kernel
theorem dX3_isDigit_16 : decode cX3_isDigit 16 = .ok (.iconst 0, 1) := by decide +kernel
theorem dX3_isDigit_17 : decode cX3_isDigit 17 = .ok (.ireturn, 1) := by decide +kernel
theorem dX3_isName_0 : decode cX3_isName 0 = .ok (.iload_n 0, 1) := by decide +kernel
theorem dX3_isName_1 : decode cX3_isName 1 = .ok (.bipush 108, 2) := by decide +kernel
theorem dX3_isName_3 : decode cX3_isName 3 = .ok (.if_icmp .eq 33, 3) := by decide +kernel
theorem dX3_isName_6 : decode cX3_isName 6 = .ok (.iload_n 0, 1) := by decide +kernel
theorem dX3_isName_7 : decode cX3_isName 7 = .ok (.bipush 115, 2) := by decide +kernel
theorem dX3_isName_9 : decode cX3_isName 9 = .ok (.if_icmp .eq 27, 3) := by decide +kernel
theorem dX3_isName_12 : decode cX3_isName 12 = .ok (.iload_n 0, 1) := by decide +kernel
theorem dX3_isName_13 : decode cX3_isName 13 = .ok (.bipush 104, 2) := by decide +kernel
theorem dX3_isName_15 : decode cX3_isName 15 = .ok (.if_icmp .eq 21, 3) := by decide +kernel
theorem dX3_isName_18 : decode cX3_isName 18 = .ok (.iload_n 0, 1) := by decide +kernel
theorem dX3_isName_19 : decode cX3_isName 19 = .ok (.bipush 112, 2) := by decide +kernel
theorem dX3_isName_21 : decode cX3_isName 21 = .ok (.if_icmp .eq 15, 3) := by decide +kernel
theorem dX3_isName_24 : decode cX3_isName 24 = .ok (.iload_n 0, 1) := by decide +kernel
theorem dX3_isName_25 : decode cX3_isName 25 = .ok (.bipush 111, 2) := by decide +kernel
theorem dX3_isName_27 : decode cX3_isName 27 = .ok (.if_icmp .eq 9, 3) := by decide +kernel
theorem dX3_isName_30 : decode cX3_isName 30 = .ok (.iload_n 0, 1) := by decide +kernel
theorem dX3_isName_31 : decode cX3_isName 31 = .ok (.bipush 99, 2) := by decide +kernel
theorem dX3_isName_33 : decode cX3_isName 33 = .ok (.if_icmp .ne 7, 3) := by decide +kernel
theorem dX3_isName_36 : decode cX3_isName 36 = .ok (.iconst 1, 1) := by decide +kernel
theorem dX3_isName_37 : decode cX3_isName 37 = .ok (.goto 4, 3) := by decide +kernel
theorem dX3_isName_40 : decode cX3_isName 40 = .ok (.iconst 0, 1) := by decide +kernel
theorem dX3_isName_41 : decode cX3_isName 41 = .ok (.ireturn, 1) := by decide +kernel
theorem dX3_gives_0 : decode cX3_gives 0 = .ok (.aload_n 0, 1) := by decide +kernel
theorem dX3_gives_1 : decode cX3_gives 1 = .ok (.iload_n 1, 1) := by decide +kernel
theorem dX3_gives_2 : decode cX3_gives 2 = .ok (.putfield 37, 3) := by decide +kernel
theorem dX3_gives_5 : decode cX3_gives 5 = .ok (.aload_n 0, 1) := by decide +kernel
theorem dX3_gives_6 : decode cX3_gives 6 = .ok (.iload_n 2, 1) := by decide +kernel
theorem dX3_gives_7 : decode cX3_gives 7 = .ok (.putfield 40, 3) := by decide +kernel
theorem dX3_gives_10 : decode cX3_gives 10 = .ok (.aload_n 0, 1) := by decide +kernel
theorem dX3_gives_11 : decode cX3_gives 11 = .ok (.iload_n 3, 1) := by decide +kernel
theorem dX3_gives_12 : decode cX3_gives 12 = .ok (.putfield 43, 3) := by decide +kernel
theorem dX3_gives_15 : decode cX3_gives 15 = .ok (.aload_n 0, 1) := by decide +kernel
theorem dX3_gives_16 : decode cX3_gives 16 = .ok (.iload 4, 2) := by decide +kernel
theorem dX3_gives_18 : decode cX3_gives 18 = .ok (.putfield 46, 3) := by decide +kernel
theorem dX3_gives_21 : decode cX3_gives 21 = .ok (.aload_n 0, 1) := by decide +kernel
theorem dX3_gives_22 : decode cX3_gives 22 = .ok (.iload 5, 2) := by decide +kernel
theorem dX3_gives_24 : decode cX3_gives 24 = .ok (.putfield 49, 3) := by decide +kernel
theorem dX3_gives_27 : decode cX3_gives 27 = .ok (.aload_n 0, 1) := by decide +kernel
theorem dX3_gives_28 : decode cX3_gives 28 = .ok (.iload 6, 2) := by decide +kernel
theorem dX3_gives_30 : decode cX3_gives 30 = .ok (.putfield 52, 3) := by decide +kernel
theorem dX3_gives_33 : decode cX3_gives 33 = .ok (.iconst 0, 1) := by decide +kernel
theorem dX3_gives_34 : decode cX3_gives 34 = .ok (.istore 7, 2) := by decide +kernel
theorem dX3_gives_36 : decode cX3_gives 36 = .ok (.iconst 0, 1) := by decide +kernel
theorem dX3_gives_37 : decode cX3_gives 37 = .ok (.istore 8, 2) := by decide +kernel
theorem dX3_gives_39 : decode cX3_gives 39 = .ok (.iconst 0, 1) := by decide +kernel
theorem dX3_gives_40 : decode cX3_gives 40 = .ok (.istore 9, 2) := by decide +kernel
theorem dX3_gives_42 : decode cX3_gives 42 = .ok (.iload 9, 2) := by decide +kernel
theorem dX3_gives_44 : decode cX3_gives 44 = .ok (.aload_n 0, 1) := by decide +kernel
theorem dX3_gives_45 : decode cX3_gives 45 = .ok (.getfield 31, 3) := by decide +kernel
theorem dX3_gives_48 : decode cX3_gives 48 = .ok (.if_icmp .ge 261, 3) := by decide +kernel
theorem dX3_gives_51 : decode cX3_gives 51 = .ok (.iload 9, 2) := by decide +kernel
theorem dX3_gives_53 : decode cX3_gives 53 = .ok (.iload 8, 2) := by decide +kernel
theorem dX3_gives_55 : decode cX3_gives 55 = .ok (.if_icmp .ge 6, 3) := by decide +kernel
theorem dX3_gives_58 : decode cX3_gives 58 = .ok (.goto 245, 3) := by decide +kernel
theorem dX3_gives_61 : decode cX3_gives 61 = .ok (.aload_n 0, 1) := by decide +kernel
theorem dX3_gives_62 : decode cX3_gives 62 = .ok (.getfield 28, 3) := by decide +kernel
theorem dX3_gives_65 : decode cX3_gives 65 = .ok (.iload 9, 2) := by decide +kernel
theorem dX3_gives_67 : decode cX3_gives 67 = .ok (.iaload, 1) := by decide +kernel
theorem dX3_gives_68 : decode cX3_gives 68 = .ok (.istore 10, 2) := by decide +kernel
theorem dX3_gives_70 : decode cX3_gives 70 = .ok (.iload 10, 2) := by decide +kernel
theorem dX3_gives_72 : decode cX3_gives 72 = .ok (.bipush (-3), 2) := by decide +kernel
theorem dX3_gives_74 : decode cX3_gives 74 = .ok (.if_icmp .ne 22, 3) := by decide +kernel
theorem dX3_gives_77 : decode cX3_gives 77 = .ok (.iload 7, 2) := by decide +kernel
theorem dX3_gives_79 : decode cX3_gives 79 = .ok (.ifCond .le 15, 3) := by decide +kernel
theorem dX3_gives_82 : decode cX3_gives 82 = .ok (.aload_n 0, 1) := by decide +kernel
theorem dX3_gives_83 : decode cX3_gives 83 = .ok (.getfield 34, 3) := by decide +kernel
theorem dX3_gives_86 : decode cX3_gives 86 = .ok (.iload 7, 2) := by decide +kernel
theorem dX3_gives_88 : decode cX3_gives 88 = .ok (.iconst 1, 1) := by decide +kernel
theorem dX3_gives_89 : decode cX3_gives 89 = .ok (.isub, 1) := by decide +kernel
theorem dX3_gives_90 : decode cX3_gives 90 = .ok (.iaload, 1) := by decide +kernel
theorem dX3_gives_91 : decode cX3_gives 91 = .ok (.goto 4, 3) := by decide +kernel
theorem dX3_gives_94 : decode cX3_gives 94 = .ok (.iconst 0, 1) := by decide +kernel
theorem dX3_gives_95 : decode cX3_gives 95 = .ok (.ireturn, 1) := by decide +kernel
theorem dX3_gives_96 : decode cX3_gives 96 = .ok (.iload 10, 2) := by decide +kernel
theorem dX3_gives_98 : decode cX3_gives 98 = .ok (.bipush (-2), 2) := by decide +kernel
theorem dX3_gives_100 : decode cX3_gives 100 = .ok (.if_icmp .ne 67, 3) := by decide +kernel
theorem dX3_gives_103 : decode cX3_gives 103 = .ok (.iload 7, 2) := by decide +kernel
theorem dX3_gives_105 : decode cX3_gives 105 = .ok (.ifCond .le 30, 3) := by decide +kernel
theorem dX3_gives_108 : decode cX3_gives 108 = .ok (.aload_n 0, 1) := by decide +kernel
theorem dX3_gives_109 : decode cX3_gives 109 = .ok (.getfield 34, 3) := by decide +kernel
theorem dX3_gives_112 : decode cX3_gives 112 = .ok (.iload 7, 2) := by decide +kernel
theorem dX3_gives_114 : decode cX3_gives 114 = .ok (.iconst 1, 1) := by decide +kernel
theorem dX3_gives_115 : decode cX3_gives 115 = .ok (.isub, 1) := by decide +kernel
theorem dX3_gives_116 : decode cX3_gives 116 = .ok (.iaload, 1) := by decide +kernel
theorem dX3_gives_117 : decode cX3_gives 117 = .ok (.ifCond .ne 18, 3) := by decide +kernel
theorem dX3_gives_120 : decode cX3_gives 120 = .ok (.iload 9, 2) := by decide +kernel
theorem dX3_gives_122 : decode cX3_gives 122 = .ok (.iconst 1, 1) := by decide +kernel
theorem dX3_gives_123 : decode cX3_gives 123 = .ok (.iadd, 1) := by decide +kernel
theorem dX3_gives_124 : decode cX3_gives 124 = .ok (.aload_n 0, 1) := by decide +kernel
theorem dX3_gives_125 : decode cX3_gives 125 = .ok (.getfield 31, 3) := by decide +kernel
theorem dX3_gives_128 : decode cX3_gives 128 = .ok (.if_icmp .ge 7, 3) := by decide +kernel
theorem dX3_gives_131 : decode cX3_gives 131 = .ok (.iconst 1, 1) := by decide +kernel
theorem dX3_gives_132 : decode cX3_gives 132 = .ok (.goto 4, 3) := by decide +kernel
theorem dX3_gives_135 : decode cX3_gives 135 = .ok (.iconst 0, 1) := by decide +kernel
theorem dX3_gives_136 : decode cX3_gives 136 = .ok (.istore 11, 2) := by decide +kernel
theorem dX3_gives_138 : decode cX3_gives 138 = .ok (.iload 11, 2) := by decide +kernel
theorem dX3_gives_140 : decode cX3_gives 140 = .ok (.ifCond .eq 15, 3) := by decide +kernel
theorem dX3_gives_143 : decode cX3_gives 143 = .ok (.aload_n 0, 1) := by decide +kernel
theorem dX3_gives_144 : decode cX3_gives 144 = .ok (.getfield 28, 3) := by decide +kernel
theorem dX3_gives_147 : decode cX3_gives 147 = .ok (.iload 9, 2) := by decide +kernel
theorem dX3_gives_149 : decode cX3_gives 149 = .ok (.iconst 1, 1) := by decide +kernel
theorem dX3_gives_150 : decode cX3_gives 150 = .ok (.iadd, 1) := by decide +kernel
theorem dX3_gives_151 : decode cX3_gives 151 = .ok (.iaload, 1) := by decide +kernel
theorem dX3_gives_152 : decode cX3_gives 152 = .ok (.goto 7, 3) := by decide +kernel
theorem dX3_gives_155 : decode cX3_gives 155 = .ok (.iload 9, 2) := by decide +kernel
theorem dX3_gives_157 : decode cX3_gives 157 = .ok (.iconst 2, 1) := by decide +kernel
theorem dX3_gives_158 : decode cX3_gives 158 = .ok (.iadd, 1) := by decide +kernel
theorem dX3_gives_159 : decode cX3_gives 159 = .ok (.istore 8, 2) := by decide +kernel
theorem dX3_gives_161 : decode cX3_gives 161 = .ok (.iconst 0, 1) := by decide +kernel
theorem dX3_gives_162 : decode cX3_gives 162 = .ok (.istore 7, 2) := by decide +kernel
theorem dX3_gives_164 : decode cX3_gives 164 = .ok (.goto 139, 3) := by decide +kernel
theorem dX3_gives_167 : decode cX3_gives 167 = .ok (.iload 10, 2) := by decide +kernel
theorem dX3_gives_169 : decode cX3_gives 169 = .ok (.ineg, 1) := by decide +kernel
theorem dX3_gives_170 : decode cX3_gives 170 = .ok (.invokestatic 81, 3) := by decide +kernel
theorem dX3_gives_173 : decode cX3_gives 173 = .ok (.iconst (-1), 1) := by decide +kernel
theorem dX3_gives_174 : decode cX3_gives 174 = .ok (.if_icmp .eq 48, 3) := by decide +kernel
theorem dX3_gives_177 : decode cX3_gives 177 = .ok (.iload 7, 2) := by decide +kernel
theorem dX3_gives_179 : decode cX3_gives 179 = .ok (.iconst 1, 1) := by decide +kernel
theorem dX3_gives_180 : decode cX3_gives 180 = .ok (.if_icmp .le 123, 3) := by decide +kernel
theorem dX3_gives_183 : decode cX3_gives 183 = .ok (.aload_n 0, 1) := by decide +kernel
theorem dX3_gives_184 : decode cX3_gives 184 = .ok (.getfield 34, 3) := by decide +kernel
theorem dX3_gives_187 : decode cX3_gives 187 = .ok (.iload 7, 2) := by decide +kernel
theorem dX3_gives_189 : decode cX3_gives 189 = .ok (.iconst 2, 1) := by decide +kernel
theorem dX3_gives_190 : decode cX3_gives 190 = .ok (.isub, 1) := by decide +kernel
theorem dX3_gives_191 : decode cX3_gives 191 = .ok (.iload 10, 2) := by decide +kernel
theorem dX3_gives_193 : decode cX3_gives 193 = .ok (.ineg, 1) := by decide +kernel
theorem dX3_gives_194 : decode cX3_gives 194 = .ok (.aload_n 0, 1) := by decide +kernel
theorem dX3_gives_195 : decode cX3_gives 195 = .ok (.getfield 34, 3) := by decide +kernel
theorem dX3_gives_198 : decode cX3_gives 198 = .ok (.iload 7, 2) := by decide +kernel
theorem dX3_gives_200 : decode cX3_gives 200 = .ok (.iconst 2, 1) := by decide +kernel
theorem dX3_gives_201 : decode cX3_gives 201 = .ok (.isub, 1) := by decide +kernel
theorem dX3_gives_202 : decode cX3_gives 202 = .ok (.iaload, 1) := by decide +kernel
theorem dX3_gives_203 : decode cX3_gives 203 = .ok (.aload_n 0, 1) := by decide +kernel
theorem dX3_gives_204 : decode cX3_gives 204 = .ok (.getfield 34, 3) := by decide +kernel
theorem dX3_gives_207 : decode cX3_gives 207 = .ok (.iload 7, 2) := by decide +kernel
theorem dX3_gives_209 : decode cX3_gives 209 = .ok (.iconst 1, 1) := by decide +kernel
theorem dX3_gives_210 : decode cX3_gives 210 = .ok (.isub, 1) := by decide +kernel
theorem dX3_gives_211 : decode cX3_gives 211 = .ok (.iaload, 1) := by decide +kernel
theorem dX3_gives_212 : decode cX3_gives 212 = .ok (.invokestatic 94, 3) := by decide +kernel
theorem dX3_gives_215 : decode cX3_gives 215 = .ok (.iastore, 1) := by decide +kernel
theorem dX3_gives_216 : decode cX3_gives 216 = .ok (.iinc 7 (-1), 3) := by decide +kernel
theorem dX3_gives_219 : decode cX3_gives 219 = .ok (.goto 84, 3) := by decide +kernel
theorem dX3_gives_222 : decode cX3_gives 222 = .ok (.iload 10, 2) := by decide +kernel
theorem dX3_gives_224 : decode cX3_gives 224 = .ok (.iconst (-1), 1) := by decide +kernel
theorem dX3_gives_225 : decode cX3_gives 225 = .ok (.if_icmp .eq 10, 3) := by decide +kernel
theorem dX3_gives_228 : decode cX3_gives 228 = .ok (.iload 10, 2) := by decide +kernel
theorem dX3_gives_230 : decode cX3_gives 230 = .ok (.bipush (-33), 2) := by decide +kernel
theorem dX3_gives_232 : decode cX3_gives 232 = .ok (.if_icmp .ne 34, 3) := by decide +kernel
theorem dX3_gives_235 : decode cX3_gives 235 = .ok (.iload 7, 2) := by decide +kernel
theorem dX3_gives_237 : decode cX3_gives 237 = .ok (.ifCond .le 66, 3) := by decide +kernel
theorem dX3_gives_240 : decode cX3_gives 240 = .ok (.aload_n 0, 1) := by decide +kernel
theorem dX3_gives_241 : decode cX3_gives 241 = .ok (.getfield 34, 3) := by decide +kernel
theorem dX3_gives_244 : decode cX3_gives 244 = .ok (.iload 7, 2) := by decide +kernel
theorem dX3_gives_246 : decode cX3_gives 246 = .ok (.iconst 1, 1) := by decide +kernel
theorem dX3_gives_247 : decode cX3_gives 247 = .ok (.isub, 1) := by decide +kernel
theorem dX3_gives_248 : decode cX3_gives 248 = .ok (.iload 10, 2) := by decide +kernel
theorem dX3_gives_250 : decode cX3_gives 250 = .ok (.aload_n 0, 1) := by decide +kernel
theorem dX3_gives_251 : decode cX3_gives 251 = .ok (.getfield 34, 3) := by decide +kernel
theorem dX3_gives_254 : decode cX3_gives 254 = .ok (.iload 7, 2) := by decide +kernel
theorem dX3_gives_256 : decode cX3_gives 256 = .ok (.iconst 1, 1) := by decide +kernel
theorem dX3_gives_257 : decode cX3_gives 257 = .ok (.isub, 1) := by decide +kernel
theorem dX3_gives_258 : decode cX3_gives 258 = .ok (.iaload, 1) := by decide +kernel
theorem dX3_gives_259 : decode cX3_gives 259 = .ok (.invokestatic 98, 3) := by decide +kernel
theorem dX3_gives_262 : decode cX3_gives 262 = .ok (.iastore, 1) := by decide +kernel
theorem dX3_gives_263 : decode cX3_gives 263 = .ok (.goto 40, 3) := by decide +kernel
theorem dX3_gives_266 : decode cX3_gives 266 = .ok (.iload 7, 2) := by decide +kernel
theorem dX3_gives_268 : decode cX3_gives 268 = .ok (.aload_n 0, 1) := by decide +kernel
theorem dX3_gives_269 : decode cX3_gives 269 = .ok (.getfield 34, 3) := by decide +kernel
theorem dX3_gives_272 : decode cX3_gives 272 = .ok (.arraylength, 1) := by decide +kernel
theorem dX3_gives_273 : decode cX3_gives 273 = .ok (.if_icmp .ge 30, 3) := by decide +kernel
theorem dX3_gives_276 : decode cX3_gives 276 = .ok (.aload_n 0, 1) := by decide +kernel
theorem dX3_gives_277 : decode cX3_gives 277 = .ok (.getfield 34, 3) := by decide +kernel
theorem dX3_gives_280 : decode cX3_gives 280 = .ok (.iload 7, 2) := by decide +kernel
theorem dX3_gives_282 : decode cX3_gives 282 = .ok (.iload 10, 2) := by decide +kernel
theorem dX3_gives_284 : decode cX3_gives 284 = .ok (.ifCond .lt 8, 3) := by decide +kernel
theorem dX3_gives_287 : decode cX3_gives 287 = .ok (.iload 10, 2) := by decide +kernel
theorem dX3_gives_289 : decode cX3_gives 289 = .ok (.goto 10, 3) := by decide +kernel
theorem dX3_gives_292 : decode cX3_gives 292 = .ok (.aload_n 0, 1) := by decide +kernel
theorem dX3_gives_293 : decode cX3_gives 293 = .ok (.iload 10, 2) := by decide +kernel
theorem dX3_gives_295 : decode cX3_gives 295 = .ok (.ineg, 1) := by decide +kernel
theorem dX3_gives_296 : decode cX3_gives 296 = .ok (.invokevirtual 102, 3) := by decide +kernel
theorem dX3_gives_299 : decode cX3_gives 299 = .ok (.iastore, 1) := by decide +kernel
theorem dX3_gives_300 : decode cX3_gives 300 = .ok (.iinc 7 1, 3) := by decide +kernel
theorem dX3_gives_303 : decode cX3_gives 303 = .ok (.iinc 9 1, 3) := by decide +kernel
theorem dX3_gives_306 : decode cX3_gives 306 = .ok (.goto (-264), 3) := by decide +kernel
theorem dX3_gives_309 : decode cX3_gives 309 = .ok (.iconst 0, 1) := by decide +kernel
theorem dX3_gives_310 : decode cX3_gives 310 = .ok (.ireturn, 1) := by decide +kernel
theorem dX3_turned_0 : decode cX3_turned 0 = .ok (.iload_n 0, 1) := by decide +kernel
theorem dX3_turned_1 : decode cX3_turned 1 = .ok (.iconst (-1), 1) := by decide +kernel
theorem dX3_turned_2 : decode cX3_turned 2 = .ok (.if_icmp .ne 6, 3) := by decide +kernel
theorem dX3_turned_5 : decode cX3_turned 5 = .ok (.iload_n 1, 1) := by decide +kernel
theorem dX3_turned_6 : decode cX3_turned 6 = .ok (.ineg, 1) := by decide +kernel
theorem dX3_turned_7 : decode cX3_turned 7 = .ok (.ireturn, 1) := by decide +kernel
theorem dX3_turned_8 : decode cX3_turned 8 = .ok (.iload_n 1, 1) := by decide +kernel
theorem dX3_turned_9 : decode cX3_turned 9 = .ok (.ifCond .ne 7, 3) := by decide +kernel
theorem dX3_turned_12 : decode cX3_turned 12 = .ok (.iconst 1, 1) := by decide +kernel
theorem dX3_turned_13 : decode cX3_turned 13 = .ok (.goto 4, 3) := by decide +kernel
theorem dX3_turned_16 : decode cX3_turned 16 = .ok (.iconst 0, 1) := by decide +kernel
theorem dX3_turned_17 : decode cX3_turned 17 = .ok (.ireturn, 1) := by decide +kernel
theorem dX3_named_0 : decode cX3_named 0 = .ok (.iload_n 1, 1) := by decide +kernel
theorem dX3_named_1 : decode cX3_named 1 = .ok (.tableswitch 88 104 115 #[73, 88, 88, 88, 63, 88, 88, 83, 78, 88, 88, 68], 63) := by decide +kernel
theorem dX3_named_64 : decode cX3_named 64 = .ok (.aload_n 0, 1) := by decide +kernel
theorem dX3_named_65 : decode cX3_named 65 = .ok (.getfield 37, 3) := by decide +kernel
theorem dX3_named_68 : decode cX3_named 68 = .ok (.ireturn, 1) := by decide +kernel
theorem dX3_named_69 : decode cX3_named 69 = .ok (.aload_n 0, 1) := by decide +kernel
theorem dX3_named_70 : decode cX3_named 70 = .ok (.getfield 40, 3) := by decide +kernel
theorem dX3_named_73 : decode cX3_named 73 = .ok (.ireturn, 1) := by decide +kernel
theorem dX3_named_74 : decode cX3_named 74 = .ok (.aload_n 0, 1) := by decide +kernel
theorem dX3_named_75 : decode cX3_named 75 = .ok (.getfield 43, 3) := by decide +kernel
theorem dX3_named_78 : decode cX3_named 78 = .ok (.ireturn, 1) := by decide +kernel
theorem dX3_named_79 : decode cX3_named 79 = .ok (.aload_n 0, 1) := by decide +kernel
theorem dX3_named_80 : decode cX3_named 80 = .ok (.getfield 46, 3) := by decide +kernel
theorem dX3_named_83 : decode cX3_named 83 = .ok (.ireturn, 1) := by decide +kernel
theorem dX3_named_84 : decode cX3_named 84 = .ok (.aload_n 0, 1) := by decide +kernel
theorem dX3_named_85 : decode cX3_named 85 = .ok (.getfield 49, 3) := by decide +kernel
theorem dX3_named_88 : decode cX3_named 88 = .ok (.ireturn, 1) := by decide +kernel
theorem dX3_named_89 : decode cX3_named 89 = .ok (.aload_n 0, 1) := by decide +kernel
theorem dX3_named_90 : decode cX3_named 90 = .ok (.getfield 52, 3) := by decide +kernel
theorem dX3_named_93 : decode cX3_named 93 = .ok (.ireturn, 1) := by decide +kernel
theorem dX3_joined_0 : decode cX3_joined 0 = .ok (.iload_n 0, 1) := by decide +kernel
theorem dX3_joined_1 : decode cX3_joined 1 = .ok (.lookupswitch 168 #[(38, 97), (42, 152), (43, 144), (45, 148), (47, 156), (60, 111), (61, 122), (62, 133), (124, 83)], 83) := by decide +kernel
theorem dX3_joined_84 : decode cX3_joined 84 = .ok (.iload_n 1, 1) := by decide +kernel
theorem dX3_joined_85 : decode cX3_joined 85 = .ok (.ifCond .ne 7, 3) := by decide +kernel
theorem dX3_joined_88 : decode cX3_joined 88 = .ok (.iload_n 2, 1) := by decide +kernel
theorem dX3_joined_89 : decode cX3_joined 89 = .ok (.ifCond .eq 7, 3) := by decide +kernel
theorem dX3_joined_92 : decode cX3_joined 92 = .ok (.iconst 1, 1) := by decide +kernel
theorem dX3_joined_93 : decode cX3_joined 93 = .ok (.goto 4, 3) := by decide +kernel
theorem dX3_joined_96 : decode cX3_joined 96 = .ok (.iconst 0, 1) := by decide +kernel
theorem dX3_joined_97 : decode cX3_joined 97 = .ok (.ireturn, 1) := by decide +kernel
theorem dX3_joined_98 : decode cX3_joined 98 = .ok (.iload_n 1, 1) := by decide +kernel
theorem dX3_joined_99 : decode cX3_joined 99 = .ok (.ifCond .eq 11, 3) := by decide +kernel
theorem dX3_joined_102 : decode cX3_joined 102 = .ok (.iload_n 2, 1) := by decide +kernel
theorem dX3_joined_103 : decode cX3_joined 103 = .ok (.ifCond .eq 7, 3) := by decide +kernel
theorem dX3_joined_106 : decode cX3_joined 106 = .ok (.iconst 1, 1) := by decide +kernel
theorem dX3_joined_107 : decode cX3_joined 107 = .ok (.goto 4, 3) := by decide +kernel
theorem dX3_joined_110 : decode cX3_joined 110 = .ok (.iconst 0, 1) := by decide +kernel
theorem dX3_joined_111 : decode cX3_joined 111 = .ok (.ireturn, 1) := by decide +kernel
theorem dX3_joined_112 : decode cX3_joined 112 = .ok (.iload_n 1, 1) := by decide +kernel
theorem dX3_joined_113 : decode cX3_joined 113 = .ok (.iload_n 2, 1) := by decide +kernel
theorem dX3_joined_114 : decode cX3_joined 114 = .ok (.if_icmp .ge 7, 3) := by decide +kernel
theorem dX3_joined_117 : decode cX3_joined 117 = .ok (.iconst 1, 1) := by decide +kernel
theorem dX3_joined_118 : decode cX3_joined 118 = .ok (.goto 4, 3) := by decide +kernel
theorem dX3_joined_121 : decode cX3_joined 121 = .ok (.iconst 0, 1) := by decide +kernel
theorem dX3_joined_122 : decode cX3_joined 122 = .ok (.ireturn, 1) := by decide +kernel
theorem dX3_joined_123 : decode cX3_joined 123 = .ok (.iload_n 1, 1) := by decide +kernel
theorem dX3_joined_124 : decode cX3_joined 124 = .ok (.iload_n 2, 1) := by decide +kernel
theorem dX3_joined_125 : decode cX3_joined 125 = .ok (.if_icmp .ne 7, 3) := by decide +kernel
theorem dX3_joined_128 : decode cX3_joined 128 = .ok (.iconst 1, 1) := by decide +kernel
theorem dX3_joined_129 : decode cX3_joined 129 = .ok (.goto 4, 3) := by decide +kernel
theorem dX3_joined_132 : decode cX3_joined 132 = .ok (.iconst 0, 1) := by decide +kernel
theorem dX3_joined_133 : decode cX3_joined 133 = .ok (.ireturn, 1) := by decide +kernel
theorem dX3_joined_134 : decode cX3_joined 134 = .ok (.iload_n 1, 1) := by decide +kernel
theorem dX3_joined_135 : decode cX3_joined 135 = .ok (.iload_n 2, 1) := by decide +kernel
theorem dX3_joined_136 : decode cX3_joined 136 = .ok (.if_icmp .le 7, 3) := by decide +kernel
theorem dX3_joined_139 : decode cX3_joined 139 = .ok (.iconst 1, 1) := by decide +kernel
theorem dX3_joined_140 : decode cX3_joined 140 = .ok (.goto 4, 3) := by decide +kernel
theorem dX3_joined_143 : decode cX3_joined 143 = .ok (.iconst 0, 1) := by decide +kernel
theorem dX3_joined_144 : decode cX3_joined 144 = .ok (.ireturn, 1) := by decide +kernel
theorem dX3_joined_145 : decode cX3_joined 145 = .ok (.iload_n 1, 1) := by decide +kernel
theorem dX3_joined_146 : decode cX3_joined 146 = .ok (.iload_n 2, 1) := by decide +kernel
theorem dX3_joined_147 : decode cX3_joined 147 = .ok (.iadd, 1) := by decide +kernel
theorem dX3_joined_148 : decode cX3_joined 148 = .ok (.ireturn, 1) := by decide +kernel
theorem dX3_joined_149 : decode cX3_joined 149 = .ok (.iload_n 1, 1) := by decide +kernel
theorem dX3_joined_150 : decode cX3_joined 150 = .ok (.iload_n 2, 1) := by decide +kernel
theorem dX3_joined_151 : decode cX3_joined 151 = .ok (.isub, 1) := by decide +kernel
theorem dX3_joined_152 : decode cX3_joined 152 = .ok (.ireturn, 1) := by decide +kernel
theorem dX3_joined_153 : decode cX3_joined 153 = .ok (.iload_n 1, 1) := by decide +kernel
theorem dX3_joined_154 : decode cX3_joined 154 = .ok (.iload_n 2, 1) := by decide +kernel
theorem dX3_joined_155 : decode cX3_joined 155 = .ok (.imul, 1) := by decide +kernel
theorem dX3_joined_156 : decode cX3_joined 156 = .ok (.ireturn, 1) := by decide +kernel
theorem dX3_joined_157 : decode cX3_joined 157 = .ok (.iload_n 2, 1) := by decide +kernel
theorem dX3_joined_158 : decode cX3_joined 158 = .ok (.ifCond .ne 7, 3) := by decide +kernel
theorem dX3_joined_161 : decode cX3_joined 161 = .ok (.iconst 0, 1) := by decide +kernel
theorem dX3_joined_162 : decode cX3_joined 162 = .ok (.goto 6, 3) := by decide +kernel
theorem dX3_joined_165 : decode cX3_joined 165 = .ok (.iload_n 1, 1) := by decide +kernel
theorem dX3_joined_166 : decode cX3_joined 166 = .ok (.iload_n 2, 1) := by decide +kernel
theorem dX3_joined_167 : decode cX3_joined 167 = .ok (.idiv, 1) := by decide +kernel
theorem dX3_joined_168 : decode cX3_joined 168 = .ok (.ireturn, 1) := by decide +kernel
theorem dX3_joined_169 : decode cX3_joined 169 = .ok (.iload_n 2, 1) := by decide +kernel
theorem dX3_joined_170 : decode cX3_joined 170 = .ok (.ifCond .ne 7, 3) := by decide +kernel
theorem dX3_joined_173 : decode cX3_joined 173 = .ok (.iconst 0, 1) := by decide +kernel
theorem dX3_joined_174 : decode cX3_joined 174 = .ok (.goto 6, 3) := by decide +kernel
theorem dX3_joined_177 : decode cX3_joined 177 = .ok (.iload_n 1, 1) := by decide +kernel
theorem dX3_joined_178 : decode cX3_joined 178 = .ok (.iload_n 2, 1) := by decide +kernel
theorem dX3_joined_179 : decode cX3_joined 179 = .ok (.irem, 1) := by decide +kernel
theorem dX3_joined_180 : decode cX3_joined 180 = .ok (.ireturn, 1) := by decide +kernel
theorem dX4_init_0 : decode cX4_init 0 = .ok (.aload_n 0, 1) := by decide +kernel
theorem dX4_init_1 : decode cX4_init 1 = .ok (.invokespecial 3, 3) := by decide +kernel
theorem dX4_init_4 : decode cX4_init 4 = .ok (.aload_n 0, 1) := by decide +kernel
theorem dX4_init_5 : decode cX4_init 5 = .ok (.bipush 6, 2) := by decide +kernel
theorem dX4_init_7 : decode cX4_init 7 = .ok (.newarray .int, 2) := by decide +kernel
theorem dX4_init_9 : decode cX4_init 9 = .ok (.putfield 11, 3) := by decide +kernel
theorem dX4_init_12 : decode cX4_init 12 = .ok (.aload_n 0, 1) := by decide +kernel
theorem dX4_init_13 : decode cX4_init 13 = .ok (.bipush 6, 2) := by decide +kernel
theorem dX4_init_15 : decode cX4_init 15 = .ok (.newarray .int, 2) := by decide +kernel
theorem dX4_init_17 : decode cX4_init 17 = .ok (.putfield 15, 3) := by decide +kernel
theorem dX4_init_20 : decode cX4_init 20 = .ok (.aload_n 0, 1) := by decide +kernel
theorem dX4_init_21 : decode cX4_init 21 = .ok (.bipush 6, 2) := by decide +kernel
theorem dX4_init_23 : decode cX4_init 23 = .ok (.bipush 60, 2) := by decide +kernel
theorem dX4_init_25 : decode cX4_init 25 = .ok (.multianewarray 18 2, 4) := by decide +kernel
theorem dX4_init_29 : decode cX4_init 29 = .ok (.putfield 20, 3) := by decide +kernel
theorem dX4_init_32 : decode cX4_init 32 = .ok (.aload_n 0, 1) := by decide +kernel
theorem dX4_init_33 : decode cX4_init 33 = .ok (.getfield 11, 3) := by decide +kernel
theorem dX4_init_36 : decode cX4_init 36 = .ok (.iconst (-1), 1) := by decide +kernel
theorem dX4_init_37 : decode cX4_init 37 = .ok (.invokestatic 23, 3) := by decide +kernel
theorem dX4_init_40 : decode cX4_init 40 = .ok (.return_, 1) := by decide +kernel
theorem dX4_isShelf_0 : decode cX4_isShelf 0 = .ok (.iload_n 0, 1) := by decide +kernel
theorem dX4_isShelf_1 : decode cX4_isShelf 1 = .ok (.ifCond .lt 13, 3) := by decide +kernel
theorem dX4_isShelf_4 : decode cX4_isShelf 4 = .ok (.iload_n 0, 1) := by decide +kernel
theorem dX4_isShelf_5 : decode cX4_isShelf 5 = .ok (.bipush 6, 2) := by decide +kernel
theorem dX4_isShelf_7 : decode cX4_isShelf 7 = .ok (.if_icmp .ge 7, 3) := by decide +kernel
theorem dX4_isShelf_10 : decode cX4_isShelf 10 = .ok (.iconst 1, 1) := by decide +kernel
theorem dX4_isShelf_11 : decode cX4_isShelf 11 = .ok (.goto 4, 3) := by decide +kernel
theorem dX4_isShelf_14 : decode cX4_isShelf 14 = .ok (.iconst 0, 1) := by decide +kernel
theorem dX4_isShelf_15 : decode cX4_isShelf 15 = .ok (.ireturn, 1) := by decide +kernel
theorem dX4_isSort_0 : decode cX4_isSort 0 = .ok (.iload_n 0, 1) := by decide +kernel
theorem dX4_isSort_1 : decode cX4_isSort 1 = .ok (.ifCond .lt 12, 3) := by decide +kernel
theorem dX4_isSort_4 : decode cX4_isSort 4 = .ok (.iload_n 0, 1) := by decide +kernel
theorem dX4_isSort_5 : decode cX4_isSort 5 = .ok (.iconst 4, 1) := by decide +kernel
theorem dX4_isSort_6 : decode cX4_isSort 6 = .ok (.if_icmp .gt 7, 3) := by decide +kernel
theorem dX4_isSort_9 : decode cX4_isSort 9 = .ok (.iconst 1, 1) := by decide +kernel
theorem dX4_isSort_10 : decode cX4_isSort 10 = .ok (.goto 4, 3) := by decide +kernel
theorem dX4_isSort_13 : decode cX4_isSort 13 = .ok (.iconst 0, 1) := by decide +kernel
theorem dX4_isSort_14 : decode cX4_isSort 14 = .ok (.ireturn, 1) := by decide +kernel
theorem dX4_isEmpty_0 : decode cX4_isEmpty 0 = .ok (.aload_n 0, 1) := by decide +kernel
theorem dX4_isEmpty_1 : decode cX4_isEmpty 1 = .ok (.getfield 11, 3) := by decide +kernel
theorem dX4_isEmpty_4 : decode cX4_isEmpty 4 = .ok (.iload_n 1, 1) := by decide +kernel
theorem dX4_isEmpty_5 : decode cX4_isEmpty 5 = .ok (.iaload, 1) := by decide +kernel
theorem dX4_isEmpty_6 : decode cX4_isEmpty 6 = .ok (.iconst (-1), 1) := by decide +kernel
theorem dX4_isEmpty_7 : decode cX4_isEmpty 7 = .ok (.if_icmp .ne 7, 3) := by decide +kernel
theorem dX4_isEmpty_10 : decode cX4_isEmpty 10 = .ok (.iconst 1, 1) := by decide +kernel
theorem dX4_isEmpty_11 : decode cX4_isEmpty 11 = .ok (.goto 4, 3) := by decide +kernel
theorem dX4_isEmpty_14 : decode cX4_isEmpty 14 = .ok (.iconst 0, 1) := by decide +kernel
theorem dX4_isEmpty_15 : decode cX4_isEmpty 15 = .ok (.ireturn, 1) := by decide +kernel
theorem dX4_isRow_0 : decode cX4_isRow 0 = .ok (.aload_n 0, 1) := by decide +kernel
theorem dX4_isRow_1 : decode cX4_isRow 1 = .ok (.getfield 11, 3) := by decide +kernel
theorem dX4_isRow_4 : decode cX4_isRow 4 = .ok (.iload_n 1, 1) := by decide +kernel
theorem dX4_isRow_5 : decode cX4_isRow 5 = .ok (.iaload, 1) := by decide +kernel
theorem dX4_isRow_6 : decode cX4_isRow 6 = .ok (.invokestatic 29, 3) := by decide +kernel
theorem dX4_isRow_9 : decode cX4_isRow 9 = .ok (.ireturn, 1) := by decide +kernel
theorem dX4_isRowOf_0 : decode cX4_isRowOf 0 = .ok (.aload_n 0, 1) := by decide +kernel
theorem dX4_isRowOf_1 : decode cX4_isRowOf 1 = .ok (.getfield 11, 3) := by decide +kernel
theorem dX4_isRowOf_4 : decode cX4_isRowOf 4 = .ok (.iload_n 1, 1) := by decide +kernel
theorem dX4_isRowOf_5 : decode cX4_isRowOf 5 = .ok (.iaload, 1) := by decide +kernel
theorem dX4_isRowOf_6 : decode cX4_isRowOf 6 = .ok (.iload_n 2, 1) := by decide +kernel
theorem dX4_isRowOf_7 : decode cX4_isRowOf 7 = .ok (.if_icmp .ne 7, 3) := by decide +kernel
theorem dX4_isRowOf_10 : decode cX4_isRowOf 10 = .ok (.iconst 1, 1) := by decide +kernel
theorem dX4_isRowOf_11 : decode cX4_isRowOf 11 = .ok (.goto 4, 3) := by decide +kernel
theorem dX4_isRowOf_14 : decode cX4_isRowOf 14 = .ok (.iconst 0, 1) := by decide +kernel
theorem dX4_isRowOf_15 : decode cX4_isRowOf 15 = .ok (.ireturn, 1) := by decide +kernel
theorem dX4_clear_0 : decode cX4_clear 0 = .ok (.aload_n 0, 1) := by decide +kernel
theorem dX4_clear_1 : decode cX4_clear 1 = .ok (.getfield 11, 3) := by decide +kernel
theorem dX4_clear_4 : decode cX4_clear 4 = .ok (.iload_n 1, 1) := by decide +kernel
theorem dX4_clear_5 : decode cX4_clear 5 = .ok (.iconst (-1), 1) := by decide +kernel
theorem dX4_clear_6 : decode cX4_clear 6 = .ok (.iastore, 1) := by decide +kernel
theorem dX4_clear_7 : decode cX4_clear 7 = .ok (.aload_n 0, 1) := by decide +kernel
theorem dX4_clear_8 : decode cX4_clear 8 = .ok (.getfield 15, 3) := by decide +kernel
theorem dX4_clear_11 : decode cX4_clear 11 = .ok (.iload_n 1, 1) := by decide +kernel
theorem dX4_clear_12 : decode cX4_clear 12 = .ok (.iconst 0, 1) := by decide +kernel
theorem dX4_clear_13 : decode cX4_clear 13 = .ok (.iastore, 1) := by decide +kernel
theorem dX4_clear_14 : decode cX4_clear 14 = .ok (.return_, 1) := by decide +kernel
theorem dX4_holdShoe_0 : decode cX4_holdShoe 0 = .ok (.aload_n 0, 1) := by decide +kernel
theorem dX4_holdShoe_1 : decode cX4_holdShoe 1 = .ok (.getfield 11, 3) := by decide +kernel
theorem dX4_holdShoe_4 : decode cX4_holdShoe 4 = .ok (.iload_n 1, 1) := by decide +kernel
theorem dX4_holdShoe_5 : decode cX4_holdShoe 5 = .ok (.bipush (-2), 2) := by decide +kernel
theorem dX4_holdShoe_7 : decode cX4_holdShoe 7 = .ok (.iastore, 1) := by decide +kernel
theorem dX4_holdShoe_8 : decode cX4_holdShoe 8 = .ok (.aload_n 0, 1) := by decide +kernel
theorem dX4_holdShoe_9 : decode cX4_holdShoe 9 = .ok (.getfield 15, 3) := by decide +kernel
theorem dX4_holdShoe_12 : decode cX4_holdShoe 12 = .ok (.iload_n 1, 1) := by decide +kernel
theorem dX4_holdShoe_13 : decode cX4_holdShoe 13 = .ok (.iload_n 2, 1) := by decide +kernel
theorem dX4_holdShoe_14 : decode cX4_holdShoe 14 = .ok (.iastore, 1) := by decide +kernel
theorem dX4_holdShoe_15 : decode cX4_holdShoe 15 = .ok (.return_, 1) := by decide +kernel
theorem dX4_holdRow_0 : decode cX4_holdRow 0 = .ok (.aload_n 0, 1) := by decide +kernel
theorem dX4_holdRow_1 : decode cX4_holdRow 1 = .ok (.getfield 11, 3) := by decide +kernel
theorem dX4_holdRow_4 : decode cX4_holdRow 4 = .ok (.iload_n 1, 1) := by decide +kernel
theorem dX4_holdRow_5 : decode cX4_holdRow 5 = .ok (.iload_n 2, 1) := by decide +kernel
theorem dX4_holdRow_6 : decode cX4_holdRow 6 = .ok (.iastore, 1) := by decide +kernel
theorem dX4_holdRow_7 : decode cX4_holdRow 7 = .ok (.aload_n 0, 1) := by decide +kernel
theorem dX4_holdRow_8 : decode cX4_holdRow 8 = .ok (.getfield 15, 3) := by decide +kernel
theorem dX4_holdRow_11 : decode cX4_holdRow 11 = .ok (.iload_n 1, 1) := by decide +kernel
theorem dX4_holdRow_12 : decode cX4_holdRow 12 = .ok (.iload_n 3, 1) := by decide +kernel
theorem dX4_holdRow_13 : decode cX4_holdRow 13 = .ok (.iastore, 1) := by decide +kernel
theorem dX4_holdRow_14 : decode cX4_holdRow 14 = .ok (.aload_n 0, 1) := by decide +kernel
theorem dX4_holdRow_15 : decode cX4_holdRow 15 = .ok (.getfield 20, 3) := by decide +kernel
theorem dX4_holdRow_18 : decode cX4_holdRow 18 = .ok (.iload_n 1, 1) := by decide +kernel
theorem dX4_holdRow_19 : decode cX4_holdRow 19 = .ok (.aaload, 1) := by decide +kernel
theorem dX4_holdRow_20 : decode cX4_holdRow 20 = .ok (.lconst 0, 1) := by decide +kernel
theorem dX4_holdRow_21 : decode cX4_holdRow 21 = .ok (.invokestatic 33, 3) := by decide +kernel
theorem dX4_holdRow_24 : decode cX4_holdRow 24 = .ok (.return_, 1) := by decide +kernel
theorem dX4_refusal_0 : decode cX4_refusal 0 = .ok (.aload_n 0, 1) := by decide +kernel
theorem dX4_refusal_1 : decode cX4_refusal 1 = .ok (.iload_n 1, 1) := by decide +kernel
theorem dX4_refusal_2 : decode cX4_refusal 2 = .ok (.invokevirtual 36, 3) := by decide +kernel
theorem dX4_refusal_5 : decode cX4_refusal 5 = .ok (.ifCond .eq 6, 3) := by decide +kernel
theorem dX4_refusal_8 : decode cX4_refusal 8 = .ok (.bipush (-11), 2) := by decide +kernel
theorem dX4_refusal_10 : decode cX4_refusal 10 = .ok (.ireturn, 1) := by decide +kernel
theorem dX4_refusal_11 : decode cX4_refusal 11 = .ok (.aload_n 0, 1) := by decide +kernel
theorem dX4_refusal_12 : decode cX4_refusal 12 = .ok (.iload_n 1, 1) := by decide +kernel
theorem dX4_refusal_13 : decode cX4_refusal 13 = .ok (.iload_n 2, 1) := by decide +kernel
theorem dX4_refusal_14 : decode cX4_refusal 14 = .ok (.invokevirtual 39, 3) := by decide +kernel
theorem dX4_refusal_17 : decode cX4_refusal 17 = .ok (.ifCond .eq 7, 3) := by decide +kernel
theorem dX4_refusal_20 : decode cX4_refusal 20 = .ok (.iconst 0, 1) := by decide +kernel
theorem dX4_refusal_21 : decode cX4_refusal 21 = .ok (.goto 5, 3) := by decide +kernel
theorem dX4_refusal_24 : decode cX4_refusal 24 = .ok (.bipush (-12), 2) := by decide +kernel
theorem dX4_refusal_26 : decode cX4_refusal 26 = .ok (.ireturn, 1) := by decide +kernel
theorem dX4_refusalAt_0 : decode cX4_refusalAt 0 = .ok (.aload_n 0, 1) := by decide +kernel
theorem dX4_refusalAt_1 : decode cX4_refusalAt 1 = .ok (.iload_n 1, 1) := by decide +kernel
theorem dX4_refusalAt_2 : decode cX4_refusalAt 2 = .ok (.invokevirtual 36, 3) := by decide +kernel
theorem dX4_refusalAt_5 : decode cX4_refusalAt 5 = .ok (.ifCond .eq 6, 3) := by decide +kernel
theorem dX4_refusalAt_8 : decode cX4_refusalAt 8 = .ok (.bipush (-11), 2) := by decide +kernel
theorem dX4_refusalAt_10 : decode cX4_refusalAt 10 = .ok (.ireturn, 1) := by decide +kernel
theorem dX4_refusalAt_11 : decode cX4_refusalAt 11 = .ok (.aload_n 0, 1) := by decide +kernel
theorem dX4_refusalAt_12 : decode cX4_refusalAt 12 = .ok (.iload_n 1, 1) := by decide +kernel
theorem dX4_refusalAt_13 : decode cX4_refusalAt 13 = .ok (.invokevirtual 43, 3) := by decide +kernel
theorem dX4_refusalAt_16 : decode cX4_refusalAt 16 = .ok (.ifCond .ne 6, 3) := by decide +kernel
theorem dX4_refusalAt_19 : decode cX4_refusalAt 19 = .ok (.bipush (-12), 2) := by decide +kernel
theorem dX4_refusalAt_21 : decode cX4_refusalAt 21 = .ok (.ireturn, 1) := by decide +kernel
theorem dX4_refusalAt_22 : decode cX4_refusalAt 22 = .ok (.iload_n 2, 1) := by decide +kernel
theorem dX4_refusalAt_23 : decode cX4_refusalAt 23 = .ok (.ifCond .lt 17, 3) := by decide +kernel
theorem dX4_refusalAt_26 : decode cX4_refusalAt 26 = .ok (.iload_n 2, 1) := by decide +kernel
theorem dX4_refusalAt_27 : decode cX4_refusalAt 27 = .ok (.aload_n 0, 1) := by decide +kernel
theorem dX4_refusalAt_28 : decode cX4_refusalAt 28 = .ok (.getfield 15, 3) := by decide +kernel
theorem dX4_refusalAt_31 : decode cX4_refusalAt 31 = .ok (.iload_n 1, 1) := by decide +kernel
theorem dX4_refusalAt_32 : decode cX4_refusalAt 32 = .ok (.iaload, 1) := by decide +kernel
theorem dX4_refusalAt_33 : decode cX4_refusalAt 33 = .ok (.if_icmp .ge 7, 3) := by decide +kernel
theorem dX4_refusalAt_36 : decode cX4_refusalAt 36 = .ok (.iconst 0, 1) := by decide +kernel
theorem dX4_refusalAt_37 : decode cX4_refusalAt 37 = .ok (.goto 5, 3) := by decide +kernel
theorem dX4_refusalAt_40 : decode cX4_refusalAt 40 = .ok (.bipush (-13), 2) := by decide +kernel
theorem dX4_refusalAt_42 : decode cX4_refusalAt 42 = .ok (.ireturn, 1) := by decide +kernel
theorem dX4_hasPart_0 : decode cX4_hasPart 0 = .ok (.iload_n 2, 1) := by decide +kernel
theorem dX4_hasPart_1 : decode cX4_hasPart 1 = .ok (.ifCond .lt 33, 3) := by decide +kernel
theorem dX4_hasPart_4 : decode cX4_hasPart 4 = .ok (.iload_n 3, 1) := by decide +kernel
theorem dX4_hasPart_5 : decode cX4_hasPart 5 = .ok (.ifCond .lt 29, 3) := by decide +kernel
theorem dX4_hasPart_8 : decode cX4_hasPart 8 = .ok (.iload_n 2, 1) := by decide +kernel
theorem dX4_hasPart_9 : decode cX4_hasPart 9 = .ok (.aload_n 0, 1) := by decide +kernel
theorem dX4_hasPart_10 : decode cX4_hasPart 10 = .ok (.getfield 15, 3) := by decide +kernel
theorem dX4_hasPart_13 : decode cX4_hasPart 13 = .ok (.iload_n 1, 1) := by decide +kernel
theorem dX4_hasPart_14 : decode cX4_hasPart 14 = .ok (.iaload, 1) := by decide +kernel
theorem dX4_hasPart_15 : decode cX4_hasPart 15 = .ok (.if_icmp .gt 19, 3) := by decide +kernel
theorem dX4_hasPart_18 : decode cX4_hasPart 18 = .ok (.iload_n 3, 1) := by decide +kernel
theorem dX4_hasPart_19 : decode cX4_hasPart 19 = .ok (.aload_n 0, 1) := by decide +kernel
theorem dX4_hasPart_20 : decode cX4_hasPart 20 = .ok (.getfield 15, 3) := by decide +kernel
theorem dX4_hasPart_23 : decode cX4_hasPart 23 = .ok (.iload_n 1, 1) := by decide +kernel
theorem dX4_hasPart_24 : decode cX4_hasPart 24 = .ok (.iaload, 1) := by decide +kernel
theorem dX4_hasPart_25 : decode cX4_hasPart 25 = .ok (.iload_n 2, 1) := by decide +kernel
theorem dX4_hasPart_26 : decode cX4_hasPart 26 = .ok (.isub, 1) := by decide +kernel
theorem dX4_hasPart_27 : decode cX4_hasPart 27 = .ok (.if_icmp .gt 7, 3) := by decide +kernel
theorem dX4_hasPart_30 : decode cX4_hasPart 30 = .ok (.iconst 1, 1) := by decide +kernel
theorem dX4_hasPart_31 : decode cX4_hasPart 31 = .ok (.goto 4, 3) := by decide +kernel
theorem dX4_hasPart_34 : decode cX4_hasPart 34 = .ok (.iconst 0, 1) := by decide +kernel
theorem dX4_hasPart_35 : decode cX4_hasPart 35 = .ok (.ireturn, 1) := by decide +kernel
theorem dX4_lowest_0 : decode cX4_lowest 0 = .ok (.iload_n 0, 1) := by decide +kernel
theorem dX4_lowest_1 : decode cX4_lowest 1 = .ok (.tableswitch 47 0 3 #[31, 36, 41, 45], 31) := by decide +kernel
theorem dX4_lowest_32 : decode cX4_lowest 32 = .ok (.lload_n 1, 1) := by decide +kernel
theorem dX4_lowest_33 : decode cX4_lowest 33 = .ok (.l2i, 1) := by decide +kernel
theorem dX4_lowest_34 : decode cX4_lowest 34 = .ok (.i2b, 1) := by decide +kernel
theorem dX4_lowest_35 : decode cX4_lowest 35 = .ok (.i2l, 1) := by decide +kernel
theorem dX4_lowest_36 : decode cX4_lowest 36 = .ok (.lreturn, 1) := by decide +kernel
theorem dX4_lowest_37 : decode cX4_lowest 37 = .ok (.lload_n 1, 1) := by decide +kernel
theorem dX4_lowest_38 : decode cX4_lowest 38 = .ok (.l2i, 1) := by decide +kernel
theorem dX4_lowest_39 : decode cX4_lowest 39 = .ok (.i2s, 1) := by decide +kernel
theorem dX4_lowest_40 : decode cX4_lowest 40 = .ok (.i2l, 1) := by decide +kernel
theorem dX4_lowest_41 : decode cX4_lowest 41 = .ok (.lreturn, 1) := by decide +kernel
theorem dX4_lowest_42 : decode cX4_lowest 42 = .ok (.lload_n 1, 1) := by decide +kernel
theorem dX4_lowest_43 : decode cX4_lowest 43 = .ok (.l2i, 1) := by decide +kernel
theorem dX4_lowest_44 : decode cX4_lowest 44 = .ok (.i2l, 1) := by decide +kernel
theorem dX4_lowest_45 : decode cX4_lowest 45 = .ok (.lreturn, 1) := by decide +kernel
theorem dX4_lowest_46 : decode cX4_lowest 46 = .ok (.lload_n 1, 1) := by decide +kernel
theorem dX4_lowest_47 : decode cX4_lowest 47 = .ok (.lreturn, 1) := by decide +kernel
theorem dX4_lowest_48 : decode cX4_lowest 48 = .ok (.lload_n 1, 1) := by decide +kernel
theorem dX4_lowest_49 : decode cX4_lowest 49 = .ok (.lconst 0, 1) := by decide +kernel
theorem dX4_lowest_50 : decode cX4_lowest 50 = .ok (.lcmp, 1) := by decide +kernel
theorem dX4_lowest_51 : decode cX4_lowest 51 = .ok (.ifCond .eq 7, 3) := by decide +kernel
theorem dX4_lowest_54 : decode cX4_lowest 54 = .ok (.lconst 1, 1) := by decide +kernel
theorem dX4_lowest_55 : decode cX4_lowest 55 = .ok (.goto 4, 3) := by decide +kernel
theorem dX4_lowest_58 : decode cX4_lowest 58 = .ok (.lconst 0, 1) := by decide +kernel
theorem dX4_lowest_59 : decode cX4_lowest 59 = .ok (.lreturn, 1) := by decide +kernel
theorem dX5_init_0 : decode cX5_init 0 = .ok (.aload_n 0, 1) := by decide +kernel
theorem dX5_init_1 : decode cX5_init 1 = .ok (.invokespecial 3, 3) := by decide +kernel
theorem dX5_init_4 : decode cX5_init 4 = .ok (.aload_n 0, 1) := by decide +kernel
theorem dX5_init_5 : decode cX5_init 5 = .ok (.bipush 36, 2) := by decide +kernel
theorem dX5_init_7 : decode cX5_init 7 = .ok (.newarray .int, 2) := by decide +kernel
theorem dX5_init_9 : decode cX5_init 9 = .ok (.putfield 9, 3) := by decide +kernel
theorem dX5_init_12 : decode cX5_init 12 = .ok (.aload_n 0, 1) := by decide +kernel
theorem dX5_init_13 : decode cX5_init 13 = .ok (.bipush 36, 2) := by decide +kernel
theorem dX5_init_15 : decode cX5_init 15 = .ok (.newarray .int, 2) := by decide +kernel
theorem dX5_init_17 : decode cX5_init 17 = .ok (.putfield 15, 3) := by decide +kernel
theorem dX5_init_20 : decode cX5_init 20 = .ok (.aload_n 0, 1) := by decide +kernel
theorem dX5_init_21 : decode cX5_init 21 = .ok (.bipush 8, 2) := by decide +kernel
theorem dX5_init_23 : decode cX5_init 23 = .ok (.newarray .int, 2) := by decide +kernel
theorem dX5_init_25 : decode cX5_init 25 = .ok (.putfield 18, 3) := by decide +kernel
theorem dX5_init_28 : decode cX5_init 28 = .ok (.aload_n 0, 1) := by decide +kernel
theorem dX5_init_29 : decode cX5_init 29 = .ok (.bipush 8, 2) := by decide +kernel
theorem dX5_init_31 : decode cX5_init 31 = .ok (.newarray .int, 2) := by decide +kernel
theorem dX5_init_33 : decode cX5_init 33 = .ok (.putfield 21, 3) := by decide +kernel
theorem dX5_init_36 : decode cX5_init 36 = .ok (.aload_n 0, 1) := by decide +kernel
theorem dX5_init_37 : decode cX5_init 37 = .ok (.iconst 0, 1) := by decide +kernel
theorem dX5_init_38 : decode cX5_init 38 = .ok (.putfield 24, 3) := by decide +kernel
theorem dX5_init_41 : decode cX5_init 41 = .ok (.aload_n 0, 1) := by decide +kernel
theorem dX5_init_42 : decode cX5_init 42 = .ok (.iconst 0, 1) := by decide +kernel
theorem dX5_init_43 : decode cX5_init 43 = .ok (.putfield 28, 3) := by decide +kernel
theorem dX5_init_46 : decode cX5_init 46 = .ok (.aload_n 0, 1) := by decide +kernel
theorem dX5_init_47 : decode cX5_init 47 = .ok (.iconst 0, 1) := by decide +kernel
theorem dX5_init_48 : decode cX5_init 48 = .ok (.putfield 31, 3) := by decide +kernel
theorem dX5_init_51 : decode cX5_init 51 = .ok (.aload_n 0, 1) := by decide +kernel
theorem dX5_init_52 : decode cX5_init 52 = .ok (.iconst 0, 1) := by decide +kernel
theorem dX5_init_53 : decode cX5_init 53 = .ok (.putfield 34, 3) := by decide +kernel
theorem dX5_init_56 : decode cX5_init 56 = .ok (.aload_n 0, 1) := by decide +kernel
theorem dX5_init_57 : decode cX5_init 57 = .ok (.bipush 36, 2) := by decide +kernel
theorem dX5_init_59 : decode cX5_init 59 = .ok (.newarray .int, 2) := by decide +kernel
theorem dX5_init_61 : decode cX5_init 61 = .ok (.putfield 38, 3) := by decide +kernel
theorem dX5_init_64 : decode cX5_init 64 = .ok (.return_, 1) := by decide +kernel
theorem dX5_become_0 : decode cX5_become 0 = .ok (.aload_n 1, 1) := by decide +kernel
theorem dX5_become_1 : decode cX5_become 1 = .ok (.getfield 9, 3) := by decide +kernel
theorem dX5_become_4 : decode cX5_become 4 = .ok (.iconst 0, 1) := by decide +kernel
theorem dX5_become_5 : decode cX5_become 5 = .ok (.aload_n 0, 1) := by decide +kernel
theorem dX5_become_6 : decode cX5_become 6 = .ok (.getfield 9, 3) := by decide +kernel
theorem dX5_become_9 : decode cX5_become 9 = .ok (.iconst 0, 1) := by decide +kernel
theorem dX5_become_10 : decode cX5_become 10 = .ok (.bipush 36, 2) := by decide +kernel
theorem dX5_become_12 : decode cX5_become 12 = .ok (.invokestatic 41, 3) := by decide +kernel
theorem dX5_become_15 : decode cX5_become 15 = .ok (.aload_n 1, 1) := by decide +kernel
theorem dX5_become_16 : decode cX5_become 16 = .ok (.getfield 15, 3) := by decide +kernel
theorem dX5_become_19 : decode cX5_become 19 = .ok (.iconst 0, 1) := by decide +kernel
theorem dX5_become_20 : decode cX5_become 20 = .ok (.aload_n 0, 1) := by decide +kernel
theorem dX5_become_21 : decode cX5_become 21 = .ok (.getfield 15, 3) := by decide +kernel
theorem dX5_become_24 : decode cX5_become 24 = .ok (.iconst 0, 1) := by decide +kernel
theorem dX5_become_25 : decode cX5_become 25 = .ok (.bipush 36, 2) := by decide +kernel
theorem dX5_become_27 : decode cX5_become 27 = .ok (.invokestatic 41, 3) := by decide +kernel
theorem dX5_become_30 : decode cX5_become 30 = .ok (.aload_n 1, 1) := by decide +kernel
theorem dX5_become_31 : decode cX5_become 31 = .ok (.getfield 18, 3) := by decide +kernel
theorem dX5_become_34 : decode cX5_become 34 = .ok (.iconst 0, 1) := by decide +kernel
theorem dX5_become_35 : decode cX5_become 35 = .ok (.aload_n 0, 1) := by decide +kernel
theorem dX5_become_36 : decode cX5_become 36 = .ok (.getfield 18, 3) := by decide +kernel
theorem dX5_become_39 : decode cX5_become 39 = .ok (.iconst 0, 1) := by decide +kernel
theorem dX5_become_40 : decode cX5_become 40 = .ok (.iload_n 2, 1) := by decide +kernel
theorem dX5_become_41 : decode cX5_become 41 = .ok (.invokestatic 41, 3) := by decide +kernel
theorem dX5_become_44 : decode cX5_become 44 = .ok (.aload_n 1, 1) := by decide +kernel
theorem dX5_become_45 : decode cX5_become 45 = .ok (.getfield 21, 3) := by decide +kernel
theorem dX5_become_48 : decode cX5_become 48 = .ok (.iconst 0, 1) := by decide +kernel
theorem dX5_become_49 : decode cX5_become 49 = .ok (.aload_n 0, 1) := by decide +kernel
theorem dX5_become_50 : decode cX5_become 50 = .ok (.getfield 21, 3) := by decide +kernel
theorem dX5_become_53 : decode cX5_become 53 = .ok (.iconst 0, 1) := by decide +kernel
theorem dX5_become_54 : decode cX5_become 54 = .ok (.iload_n 2, 1) := by decide +kernel
theorem dX5_become_55 : decode cX5_become 55 = .ok (.invokestatic 41, 3) := by decide +kernel
theorem dX5_become_58 : decode cX5_become 58 = .ok (.aload_n 0, 1) := by decide +kernel
theorem dX5_become_59 : decode cX5_become 59 = .ok (.aload_n 1, 1) := by decide +kernel
theorem dX5_become_60 : decode cX5_become 60 = .ok (.getfield 24, 3) := by decide +kernel
theorem dX5_become_63 : decode cX5_become 63 = .ok (.putfield 24, 3) := by decide +kernel
theorem dX5_become_66 : decode cX5_become 66 = .ok (.return_, 1) := by decide +kernel
theorem dX5_poured_0 : decode cX5_poured 0 = .ok (.aload_n 0, 1) := by decide +kernel
theorem dX5_poured_1 : decode cX5_poured 1 = .ok (.getfield 9, 3) := by decide +kernel
theorem dX5_poured_4 : decode cX5_poured 4 = .ok (.iload_n 1, 1) := by decide +kernel
theorem dX5_poured_5 : decode cX5_poured 5 = .ok (.aload_n 0, 1) := by decide +kernel
theorem dX5_poured_6 : decode cX5_poured 6 = .ok (.getfield 9, 3) := by decide +kernel
theorem dX5_poured_9 : decode cX5_poured 9 = .ok (.iload_n 1, 1) := by decide +kernel
theorem dX5_poured_10 : decode cX5_poured 10 = .ok (.iaload, 1) := by decide +kernel
theorem dX5_poured_11 : decode cX5_poured 11 = .ok (.iload_n 2, 1) := by decide +kernel
theorem dX5_poured_12 : decode cX5_poured 12 = .ok (.iadd, 1) := by decide +kernel
theorem dX5_poured_13 : decode cX5_poured 13 = .ok (.sipush 9999, 3) := by decide +kernel
theorem dX5_poured_16 : decode cX5_poured 16 = .ok (.invokestatic 47, 3) := by decide +kernel
theorem dX5_poured_19 : decode cX5_poured 19 = .ok (.iastore, 1) := by decide +kernel
theorem dX5_poured_20 : decode cX5_poured 20 = .ok (.aload_n 0, 1) := by decide +kernel
theorem dX5_poured_21 : decode cX5_poured 21 = .ok (.getfield 9, 3) := by decide +kernel
theorem dX5_poured_24 : decode cX5_poured 24 = .ok (.iload_n 1, 1) := by decide +kernel
theorem dX5_poured_25 : decode cX5_poured 25 = .ok (.iaload, 1) := by decide +kernel
theorem dX5_poured_26 : decode cX5_poured 26 = .ok (.ireturn, 1) := by decide +kernel
theorem dX5_pass_0 : decode cX5_pass 0 = .ok (.aload_n 0, 1) := by decide +kernel
theorem dX5_pass_1 : decode cX5_pass 1 = .ok (.aload_n 1, 1) := by decide +kernel
theorem dX5_pass_2 : decode cX5_pass 2 = .ok (.invokevirtual 53, 3) := by decide +kernel
theorem dX5_pass_5 : decode cX5_pass 5 = .ok (.aload_n 0, 1) := by decide +kernel
theorem dX5_pass_6 : decode cX5_pass 6 = .ok (.iconst 0, 1) := by decide +kernel
theorem dX5_pass_7 : decode cX5_pass 7 = .ok (.putfield 31, 3) := by decide +kernel
theorem dX5_pass_10 : decode cX5_pass 10 = .ok (.iconst 0, 1) := by decide +kernel
theorem dX5_pass_11 : decode cX5_pass 11 = .ok (.istore_n 3, 1) := by decide +kernel
theorem dX5_pass_12 : decode cX5_pass 12 = .ok (.iload_n 3, 1) := by decide +kernel
theorem dX5_pass_13 : decode cX5_pass 13 = .ok (.bipush 36, 2) := by decide +kernel
theorem dX5_pass_15 : decode cX5_pass 15 = .ok (.if_icmp .ge 82, 3) := by decide +kernel
theorem dX5_pass_18 : decode cX5_pass 18 = .ok (.aload_n 0, 1) := by decide +kernel
theorem dX5_pass_19 : decode cX5_pass 19 = .ok (.getfield 9, 3) := by decide +kernel
theorem dX5_pass_22 : decode cX5_pass 22 = .ok (.iload_n 3, 1) := by decide +kernel
theorem dX5_pass_23 : decode cX5_pass 23 = .ok (.iaload, 1) := by decide +kernel
theorem dX5_pass_24 : decode cX5_pass 24 = .ok (.ifCond .le 21, 3) := by decide +kernel
theorem dX5_pass_27 : decode cX5_pass 27 = .ok (.aload_n 1, 1) := by decide +kernel
theorem dX5_pass_28 : decode cX5_pass 28 = .ok (.iload_n 3, 1) := by decide +kernel
theorem dX5_pass_29 : decode cX5_pass 29 = .ok (.invokevirtual 57, 3) := by decide +kernel
theorem dX5_pass_32 : decode cX5_pass 32 = .ok (.ifCond .ne 13, 3) := by decide +kernel
theorem dX5_pass_35 : decode cX5_pass 35 = .ok (.aload_n 0, 1) := by decide +kernel
theorem dX5_pass_36 : decode cX5_pass 36 = .ok (.aload_n 1, 1) := by decide +kernel
theorem dX5_pass_37 : decode cX5_pass 37 = .ok (.aload_n 2, 1) := by decide +kernel
theorem dX5_pass_38 : decode cX5_pass 38 = .ok (.iload_n 3, 1) := by decide +kernel
theorem dX5_pass_39 : decode cX5_pass 39 = .ok (.invokevirtual 63, 3) := by decide +kernel
theorem dX5_pass_42 : decode cX5_pass 42 = .ok (.goto 4, 3) := by decide +kernel
theorem dX5_pass_45 : decode cX5_pass 45 = .ok (.iconst 0, 1) := by decide +kernel
theorem dX5_pass_46 : decode cX5_pass 46 = .ok (.istore 4, 2) := by decide +kernel
theorem dX5_pass_48 : decode cX5_pass 48 = .ok (.iload 4, 2) := by decide +kernel
theorem dX5_pass_50 : decode cX5_pass 50 = .ok (.ifCond .le 41, 3) := by decide +kernel
theorem dX5_pass_53 : decode cX5_pass 53 = .ok (.aload_n 0, 1) := by decide +kernel
theorem dX5_pass_54 : decode cX5_pass 54 = .ok (.getfield 38, 3) := by decide +kernel
theorem dX5_pass_57 : decode cX5_pass 57 = .ok (.iload_n 3, 1) := by decide +kernel
theorem dX5_pass_58 : decode cX5_pass 58 = .ok (.dup2, 1) := by decide +kernel
theorem dX5_pass_59 : decode cX5_pass 59 = .ok (.iaload, 1) := by decide +kernel
theorem dX5_pass_60 : decode cX5_pass 60 = .ok (.iload 4, 2) := by decide +kernel
theorem dX5_pass_62 : decode cX5_pass 62 = .ok (.isub, 1) := by decide +kernel
theorem dX5_pass_63 : decode cX5_pass 63 = .ok (.iastore, 1) := by decide +kernel
theorem dX5_pass_64 : decode cX5_pass 64 = .ok (.aload_n 0, 1) := by decide +kernel
theorem dX5_pass_65 : decode cX5_pass 65 = .ok (.getfield 38, 3) := by decide +kernel
theorem dX5_pass_68 : decode cX5_pass 68 = .ok (.aload_n 1, 1) := by decide +kernel
theorem dX5_pass_69 : decode cX5_pass 69 = .ok (.getfield 67, 3) := by decide +kernel
theorem dX5_pass_72 : decode cX5_pass 72 = .ok (.iload_n 3, 1) := by decide +kernel
theorem dX5_pass_73 : decode cX5_pass 73 = .ok (.iaload, 1) := by decide +kernel
theorem dX5_pass_74 : decode cX5_pass 74 = .ok (.dup2, 1) := by decide +kernel
theorem dX5_pass_75 : decode cX5_pass 75 = .ok (.iaload, 1) := by decide +kernel
theorem dX5_pass_76 : decode cX5_pass 76 = .ok (.iload 4, 2) := by decide +kernel
theorem dX5_pass_78 : decode cX5_pass 78 = .ok (.iadd, 1) := by decide +kernel
theorem dX5_pass_79 : decode cX5_pass 79 = .ok (.iastore, 1) := by decide +kernel
theorem dX5_pass_80 : decode cX5_pass 80 = .ok (.aload_n 0, 1) := by decide +kernel
theorem dX5_pass_81 : decode cX5_pass 81 = .ok (.dup, 1) := by decide +kernel
theorem dX5_pass_82 : decode cX5_pass 82 = .ok (.getfield 31, 3) := by decide +kernel
theorem dX5_pass_85 : decode cX5_pass 85 = .ok (.iload 4, 2) := by decide +kernel
theorem dX5_pass_87 : decode cX5_pass 87 = .ok (.iadd, 1) := by decide +kernel
theorem dX5_pass_88 : decode cX5_pass 88 = .ok (.putfield 31, 3) := by decide +kernel
theorem dX5_pass_91 : decode cX5_pass 91 = .ok (.iinc 3 1, 3) := by decide +kernel
theorem dX5_pass_94 : decode cX5_pass 94 = .ok (.goto (-82), 3) := by decide +kernel
theorem dX5_pass_97 : decode cX5_pass 97 = .ok (.aload_n 0, 1) := by decide +kernel
theorem dX5_pass_98 : decode cX5_pass 98 = .ok (.getfield 31, 3) := by decide +kernel
theorem dX5_pass_101 : decode cX5_pass 101 = .ok (.ifCond .le 7, 3) := by decide +kernel
theorem dX5_pass_104 : decode cX5_pass 104 = .ok (.aload_n 0, 1) := by decide +kernel
theorem dX5_pass_105 : decode cX5_pass 105 = .ok (.invokevirtual 70, 3) := by decide +kernel
theorem dX5_pass_108 : decode cX5_pass 108 = .ok (.aload_n 0, 1) := by decide +kernel
theorem dX5_pass_109 : decode cX5_pass 109 = .ok (.aload_n 0, 1) := by decide +kernel
theorem dX5_pass_110 : decode cX5_pass 110 = .ok (.getfield 24, 3) := by decide +kernel
theorem dX5_pass_113 : decode cX5_pass 113 = .ok (.iconst 1, 1) := by decide +kernel
theorem dX5_pass_114 : decode cX5_pass 114 = .ok (.iadd, 1) := by decide +kernel
theorem dX5_pass_115 : decode cX5_pass 115 = .ok (.bipush 24, 2) := by decide +kernel
theorem dX5_pass_117 : decode cX5_pass 117 = .ok (.if_icmp .ge 12, 3) := by decide +kernel
theorem dX5_pass_120 : decode cX5_pass 120 = .ok (.aload_n 0, 1) := by decide +kernel
theorem dX5_pass_121 : decode cX5_pass 121 = .ok (.getfield 24, 3) := by decide +kernel
theorem dX5_pass_124 : decode cX5_pass 124 = .ok (.iconst 1, 1) := by decide +kernel
theorem dX5_pass_125 : decode cX5_pass 125 = .ok (.iadd, 1) := by decide +kernel
theorem dX5_pass_126 : decode cX5_pass 126 = .ok (.goto 4, 3) := by decide +kernel
theorem dX5_pass_129 : decode cX5_pass 129 = .ok (.iconst 0, 1) := by decide +kernel
theorem dX5_pass_130 : decode cX5_pass 130 = .ok (.putfield 24, 3) := by decide +kernel
theorem dX5_pass_133 : decode cX5_pass 133 = .ok (.return_, 1) := by decide +kernel
theorem dX5_drink_0 : decode cX5_drink 0 = .ok (.aload_n 0, 1) := by decide +kernel
theorem dX5_drink_1 : decode cX5_drink 1 = .ok (.iconst 0, 1) := by decide +kernel
theorem dX5_drink_2 : decode cX5_drink 2 = .ok (.putfield 28, 3) := by decide +kernel
theorem dX5_drink_5 : decode cX5_drink 5 = .ok (.iconst 0, 1) := by decide +kernel
theorem dX5_drink_6 : decode cX5_drink 6 = .ok (.istore_n 2, 1) := by decide +kernel
theorem dX5_drink_7 : decode cX5_drink 7 = .ok (.iload_n 2, 1) := by decide +kernel
theorem dX5_drink_8 : decode cX5_drink 8 = .ok (.aload_n 1, 1) := by decide +kernel
theorem dX5_drink_9 : decode cX5_drink 9 = .ok (.getfield 73, 3) := by decide +kernel
theorem dX5_drink_12 : decode cX5_drink 12 = .ok (.if_icmp .ge 89, 3) := by decide +kernel
theorem dX5_drink_15 : decode cX5_drink 15 = .ok (.aload_n 1, 1) := by decide +kernel
theorem dX5_drink_16 : decode cX5_drink 16 = .ok (.getfield 76, 3) := by decide +kernel
theorem dX5_drink_19 : decode cX5_drink 19 = .ok (.iload_n 2, 1) := by decide +kernel
theorem dX5_drink_20 : decode cX5_drink 20 = .ok (.iaload, 1) := by decide +kernel
theorem dX5_drink_21 : decode cX5_drink 21 = .ok (.iconst 1, 1) := by decide +kernel
theorem dX5_drink_22 : decode cX5_drink 22 = .ok (.if_icmp .eq 73, 3) := by decide +kernel
theorem dX5_drink_25 : decode cX5_drink 25 = .ok (.aload_n 0, 1) := by decide +kernel
theorem dX5_drink_26 : decode cX5_drink 26 = .ok (.getfield 18, 3) := by decide +kernel
theorem dX5_drink_29 : decode cX5_drink 29 = .ok (.iload_n 2, 1) := by decide +kernel
theorem dX5_drink_30 : decode cX5_drink 30 = .ok (.iaload, 1) := by decide +kernel
theorem dX5_drink_31 : decode cX5_drink 31 = .ok (.istore_n 3, 1) := by decide +kernel
theorem dX5_drink_32 : decode cX5_drink 32 = .ok (.aload_n 1, 1) := by decide +kernel
theorem dX5_drink_33 : decode cX5_drink 33 = .ok (.getfield 79, 3) := by decide +kernel
theorem dX5_drink_36 : decode cX5_drink 36 = .ok (.iload_n 2, 1) := by decide +kernel
theorem dX5_drink_37 : decode cX5_drink 37 = .ok (.iaload, 1) := by decide +kernel
theorem dX5_drink_38 : decode cX5_drink 38 = .ok (.aload_n 0, 1) := by decide +kernel
theorem dX5_drink_39 : decode cX5_drink 39 = .ok (.getfield 9, 3) := by decide +kernel
theorem dX5_drink_42 : decode cX5_drink 42 = .ok (.iload_n 3, 1) := by decide +kernel
theorem dX5_drink_43 : decode cX5_drink 43 = .ok (.iaload, 1) := by decide +kernel
theorem dX5_drink_44 : decode cX5_drink 44 = .ok (.sipush 9999, 3) := by decide +kernel
theorem dX5_drink_47 : decode cX5_drink 47 = .ok (.aload_n 0, 1) := by decide +kernel
theorem dX5_drink_48 : decode cX5_drink 48 = .ok (.getfield 21, 3) := by decide +kernel
theorem dX5_drink_51 : decode cX5_drink 51 = .ok (.iload_n 2, 1) := by decide +kernel
theorem dX5_drink_52 : decode cX5_drink 52 = .ok (.iaload, 1) := by decide +kernel
theorem dX5_drink_53 : decode cX5_drink 53 = .ok (.isub, 1) := by decide +kernel
theorem dX5_drink_54 : decode cX5_drink 54 = .ok (.invokestatic 47, 3) := by decide +kernel
theorem dX5_drink_57 : decode cX5_drink 57 = .ok (.invokestatic 47, 3) := by decide +kernel
theorem dX5_drink_60 : decode cX5_drink 60 = .ok (.istore 4, 2) := by decide +kernel
theorem dX5_drink_62 : decode cX5_drink 62 = .ok (.aload_n 0, 1) := by decide +kernel
theorem dX5_drink_63 : decode cX5_drink 63 = .ok (.getfield 9, 3) := by decide +kernel
theorem dX5_drink_66 : decode cX5_drink 66 = .ok (.iload_n 3, 1) := by decide +kernel
theorem dX5_drink_67 : decode cX5_drink 67 = .ok (.dup2, 1) := by decide +kernel
theorem dX5_drink_68 : decode cX5_drink 68 = .ok (.iaload, 1) := by decide +kernel
theorem dX5_drink_69 : decode cX5_drink 69 = .ok (.iload 4, 2) := by decide +kernel
theorem dX5_drink_71 : decode cX5_drink 71 = .ok (.isub, 1) := by decide +kernel
theorem dX5_drink_72 : decode cX5_drink 72 = .ok (.iastore, 1) := by decide +kernel
theorem dX5_drink_73 : decode cX5_drink 73 = .ok (.aload_n 0, 1) := by decide +kernel
theorem dX5_drink_74 : decode cX5_drink 74 = .ok (.getfield 21, 3) := by decide +kernel
theorem dX5_drink_77 : decode cX5_drink 77 = .ok (.iload_n 2, 1) := by decide +kernel
theorem dX5_drink_78 : decode cX5_drink 78 = .ok (.dup2, 1) := by decide +kernel
theorem dX5_drink_79 : decode cX5_drink 79 = .ok (.iaload, 1) := by decide +kernel
theorem dX5_drink_80 : decode cX5_drink 80 = .ok (.iload 4, 2) := by decide +kernel
theorem dX5_drink_82 : decode cX5_drink 82 = .ok (.iadd, 1) := by decide +kernel
theorem dX5_drink_83 : decode cX5_drink 83 = .ok (.iastore, 1) := by decide +kernel
theorem dX5_drink_84 : decode cX5_drink 84 = .ok (.aload_n 0, 1) := by decide +kernel
theorem dX5_drink_85 : decode cX5_drink 85 = .ok (.dup, 1) := by decide +kernel
theorem dX5_drink_86 : decode cX5_drink 86 = .ok (.getfield 28, 3) := by decide +kernel
theorem dX5_drink_89 : decode cX5_drink 89 = .ok (.iload 4, 2) := by decide +kernel
theorem dX5_drink_91 : decode cX5_drink 91 = .ok (.iadd, 1) := by decide +kernel
theorem dX5_drink_92 : decode cX5_drink 92 = .ok (.putfield 28, 3) := by decide +kernel
theorem dX5_drink_95 : decode cX5_drink 95 = .ok (.iinc 2 1, 3) := by decide +kernel
theorem dX5_drink_98 : decode cX5_drink 98 = .ok (.goto (-91), 3) := by decide +kernel
theorem dX5_drink_101 : decode cX5_drink 101 = .ok (.aload_n 0, 1) := by decide +kernel
theorem dX5_drink_102 : decode cX5_drink 102 = .ok (.aload_n 0, 1) := by decide +kernel
theorem dX5_drink_103 : decode cX5_drink 103 = .ok (.getfield 28, 3) := by decide +kernel
theorem dX5_drink_106 : decode cX5_drink 106 = .ok (.ifCond .le 7, 3) := by decide +kernel
theorem dX5_drink_109 : decode cX5_drink 109 = .ok (.iconst 1, 1) := by decide +kernel
theorem dX5_drink_110 : decode cX5_drink 110 = .ok (.goto 4, 3) := by decide +kernel
theorem dX5_drink_113 : decode cX5_drink 113 = .ok (.iconst 0, 1) := by decide +kernel
theorem dX5_drink_114 : decode cX5_drink 114 = .ok (.putfield 34, 3) := by decide +kernel
theorem dX5_drink_117 : decode cX5_drink 117 = .ok (.return_, 1) := by decide +kernel
theorem dX5_layDown_0 : decode cX5_layDown 0 = .ok (.iconst 0, 1) := by decide +kernel
theorem dX5_layDown_1 : decode cX5_layDown 1 = .ok (.istore_n 1, 1) := by decide +kernel
theorem dX5_layDown_2 : decode cX5_layDown 2 = .ok (.iload_n 1, 1) := by decide +kernel
theorem dX5_layDown_3 : decode cX5_layDown 3 = .ok (.bipush 36, 2) := by decide +kernel
theorem dX5_layDown_5 : decode cX5_layDown 5 = .ok (.if_icmp .ge 76, 3) := by decide +kernel
theorem dX5_layDown_8 : decode cX5_layDown 8 = .ok (.aload_n 0, 1) := by decide +kernel
theorem dX5_layDown_9 : decode cX5_layDown 9 = .ok (.getfield 38, 3) := by decide +kernel
theorem dX5_layDown_12 : decode cX5_layDown 12 = .ok (.iload_n 1, 1) := by decide +kernel
theorem dX5_layDown_13 : decode cX5_layDown 13 = .ok (.iaload, 1) := by decide +kernel
theorem dX5_layDown_14 : decode cX5_layDown 14 = .ok (.ifCond .eq 61, 3) := by decide +kernel
theorem dX5_layDown_17 : decode cX5_layDown 17 = .ok (.aload_n 0, 1) := by decide +kernel
theorem dX5_layDown_18 : decode cX5_layDown 18 = .ok (.getfield 9, 3) := by decide +kernel
theorem dX5_layDown_21 : decode cX5_layDown 21 = .ok (.iload_n 1, 1) := by decide +kernel
theorem dX5_layDown_22 : decode cX5_layDown 22 = .ok (.iaload, 1) := by decide +kernel
theorem dX5_layDown_23 : decode cX5_layDown 23 = .ok (.aload_n 0, 1) := by decide +kernel
theorem dX5_layDown_24 : decode cX5_layDown 24 = .ok (.getfield 38, 3) := by decide +kernel
theorem dX5_layDown_27 : decode cX5_layDown 27 = .ok (.iload_n 1, 1) := by decide +kernel
theorem dX5_layDown_28 : decode cX5_layDown 28 = .ok (.iaload, 1) := by decide +kernel
theorem dX5_layDown_29 : decode cX5_layDown 29 = .ok (.iadd, 1) := by decide +kernel
theorem dX5_layDown_30 : decode cX5_layDown 30 = .ok (.sipush 9999, 3) := by decide +kernel
theorem dX5_layDown_33 : decode cX5_layDown 33 = .ok (.invokestatic 47, 3) := by decide +kernel
theorem dX5_layDown_36 : decode cX5_layDown 36 = .ok (.istore_n 2, 1) := by decide +kernel
theorem dX5_layDown_37 : decode cX5_layDown 37 = .ok (.aload_n 0, 1) := by decide +kernel
theorem dX5_layDown_38 : decode cX5_layDown 38 = .ok (.dup, 1) := by decide +kernel
theorem dX5_layDown_39 : decode cX5_layDown 39 = .ok (.getfield 34, 3) := by decide +kernel
theorem dX5_layDown_42 : decode cX5_layDown 42 = .ok (.iload_n 2, 1) := by decide +kernel
theorem dX5_layDown_43 : decode cX5_layDown 43 = .ok (.aload_n 0, 1) := by decide +kernel
theorem dX5_layDown_44 : decode cX5_layDown 44 = .ok (.getfield 9, 3) := by decide +kernel
theorem dX5_layDown_47 : decode cX5_layDown 47 = .ok (.iload_n 1, 1) := by decide +kernel
theorem dX5_layDown_48 : decode cX5_layDown 48 = .ok (.iaload, 1) := by decide +kernel
theorem dX5_layDown_49 : decode cX5_layDown 49 = .ok (.if_icmp .eq 7, 3) := by decide +kernel
theorem dX5_layDown_52 : decode cX5_layDown 52 = .ok (.iconst 1, 1) := by decide +kernel
theorem dX5_layDown_53 : decode cX5_layDown 53 = .ok (.goto 4, 3) := by decide +kernel
theorem dX5_layDown_56 : decode cX5_layDown 56 = .ok (.iconst 0, 1) := by decide +kernel
theorem dX5_layDown_57 : decode cX5_layDown 57 = .ok (.ior, 1) := by decide +kernel
theorem dX5_layDown_58 : decode cX5_layDown 58 = .ok (.putfield 34, 3) := by decide +kernel
theorem dX5_layDown_61 : decode cX5_layDown 61 = .ok (.aload_n 0, 1) := by decide +kernel
theorem dX5_layDown_62 : decode cX5_layDown 62 = .ok (.getfield 9, 3) := by decide +kernel
theorem dX5_layDown_65 : decode cX5_layDown 65 = .ok (.iload_n 1, 1) := by decide +kernel
theorem dX5_layDown_66 : decode cX5_layDown 66 = .ok (.iload_n 2, 1) := by decide +kernel
theorem dX5_layDown_67 : decode cX5_layDown 67 = .ok (.iastore, 1) := by decide +kernel
theorem dX5_layDown_68 : decode cX5_layDown 68 = .ok (.aload_n 0, 1) := by decide +kernel
theorem dX5_layDown_69 : decode cX5_layDown 69 = .ok (.getfield 38, 3) := by decide +kernel
theorem dX5_layDown_72 : decode cX5_layDown 72 = .ok (.iload_n 1, 1) := by decide +kernel
theorem dX5_layDown_73 : decode cX5_layDown 73 = .ok (.iconst 0, 1) := by decide +kernel
theorem dX5_layDown_74 : decode cX5_layDown 74 = .ok (.iastore, 1) := by decide +kernel
theorem dX5_layDown_75 : decode cX5_layDown 75 = .ok (.iinc 1 1, 3) := by decide +kernel
theorem dX5_layDown_78 : decode cX5_layDown 78 = .ok (.goto (-76), 3) := by decide +kernel
theorem dX5_layDown_81 : decode cX5_layDown 81 = .ok (.return_, 1) := by decide +kernel
theorem dX5_outOf_0 : decode cX5_outOf 0 = .ok (.aload_n 0, 1) := by decide +kernel
theorem dX5_outOf_1 : decode cX5_outOf 1 = .ok (.getfield 9, 3) := by decide +kernel
theorem dX5_outOf_4 : decode cX5_outOf 4 = .ok (.iload_n 3, 1) := by decide +kernel
theorem dX5_outOf_5 : decode cX5_outOf 5 = .ok (.iaload, 1) := by decide +kernel
theorem dX5_outOf_6 : decode cX5_outOf 6 = .ok (.istore 4, 2) := by decide +kernel
theorem dX5_outOf_8 : decode cX5_outOf 8 = .ok (.aload_n 1, 1) := by decide +kernel
theorem dX5_outOf_9 : decode cX5_outOf 9 = .ok (.iload_n 3, 1) := by decide +kernel
theorem dX5_outOf_10 : decode cX5_outOf 10 = .ok (.invokevirtual 57, 3) := by decide +kernel
theorem dX5_outOf_13 : decode cX5_outOf 13 = .ok (.ifCond .eq 5, 3) := by decide +kernel
theorem dX5_outOf_16 : decode cX5_outOf 16 = .ok (.iconst 0, 1) := by decide +kernel
theorem dX5_outOf_17 : decode cX5_outOf 17 = .ok (.ireturn, 1) := by decide +kernel
theorem dX5_outOf_18 : decode cX5_outOf 18 = .ok (.aload_n 2, 1) := by decide +kernel
theorem dX5_outOf_19 : decode cX5_outOf 19 = .ok (.invokevirtual 82, 3) := by decide +kernel
theorem dX5_outOf_22 : decode cX5_outOf 22 = .ok (.ifCond .ne 15, 3) := by decide +kernel
theorem dX5_outOf_25 : decode cX5_outOf 25 = .ok (.iload 4, 2) := by decide +kernel
theorem dX5_outOf_27 : decode cX5_outOf 27 = .ok (.aload_n 0, 1) := by decide +kernel
theorem dX5_outOf_28 : decode cX5_outOf 28 = .ok (.getfield 15, 3) := by decide +kernel
theorem dX5_outOf_31 : decode cX5_outOf 31 = .ok (.iload_n 3, 1) := by decide +kernel
theorem dX5_outOf_32 : decode cX5_outOf 32 = .ok (.iaload, 1) := by decide +kernel
theorem dX5_outOf_33 : decode cX5_outOf 33 = .ok (.invokestatic 88, 3) := by decide +kernel
theorem dX5_outOf_36 : decode cX5_outOf 36 = .ok (.ireturn, 1) := by decide +kernel
theorem dX5_outOf_37 : decode cX5_outOf 37 = .ok (.aload_n 1, 1) := by decide +kernel
theorem dX5_outOf_38 : decode cX5_outOf 38 = .ok (.getfield 91, 3) := by decide +kernel
theorem dX5_outOf_41 : decode cX5_outOf 41 = .ok (.iload_n 3, 1) := by decide +kernel
theorem dX5_outOf_42 : decode cX5_outOf 42 = .ok (.iaload, 1) := by decide +kernel
theorem dX5_outOf_43 : decode cX5_outOf 43 = .ok (.aload_n 1, 1) := by decide +kernel
theorem dX5_outOf_44 : decode cX5_outOf 44 = .ok (.getfield 91, 3) := by decide +kernel
theorem dX5_outOf_47 : decode cX5_outOf 47 = .ok (.aload_n 1, 1) := by decide +kernel
theorem dX5_outOf_48 : decode cX5_outOf 48 = .ok (.getfield 67, 3) := by decide +kernel
theorem dX5_outOf_51 : decode cX5_outOf 51 = .ok (.iload_n 3, 1) := by decide +kernel
theorem dX5_outOf_52 : decode cX5_outOf 52 = .ok (.iaload, 1) := by decide +kernel
theorem dX5_outOf_53 : decode cX5_outOf 53 = .ok (.iaload, 1) := by decide +kernel
theorem dX5_outOf_54 : decode cX5_outOf 54 = .ok (.isub, 1) := by decide +kernel
theorem dX5_outOf_55 : decode cX5_outOf 55 = .ok (.istore 5, 2) := by decide +kernel
theorem dX5_outOf_57 : decode cX5_outOf 57 = .ok (.aload_n 2, 1) := by decide +kernel
theorem dX5_outOf_58 : decode cX5_outOf 58 = .ok (.iload 4, 2) := by decide +kernel
theorem dX5_outOf_60 : decode cX5_outOf 60 = .ok (.aload_n 0, 1) := by decide +kernel
theorem dX5_outOf_61 : decode cX5_outOf 61 = .ok (.getfield 15, 3) := by decide +kernel
theorem dX5_outOf_64 : decode cX5_outOf 64 = .ok (.iload_n 3, 1) := by decide +kernel
theorem dX5_outOf_65 : decode cX5_outOf 65 = .ok (.iaload, 1) := by decide +kernel
theorem dX5_outOf_66 : decode cX5_outOf 66 = .ok (.iload 5, 2) := by decide +kernel
theorem dX5_outOf_68 : decode cX5_outOf 68 = .ok (.aload_n 0, 1) := by decide +kernel
theorem dX5_outOf_69 : decode cX5_outOf 69 = .ok (.aload_n 1, 1) := by decide +kernel
theorem dX5_outOf_70 : decode cX5_outOf 70 = .ok (.getfield 73, 3) := by decide +kernel
theorem dX5_outOf_73 : decode cX5_outOf 73 = .ok (.iload_n 3, 1) := by decide +kernel
theorem dX5_outOf_74 : decode cX5_outOf 74 = .ok (.invokevirtual 94, 3) := by decide +kernel
theorem dX5_outOf_77 : decode cX5_outOf 77 = .ok (.aload_n 0, 1) := by decide +kernel
theorem dX5_outOf_78 : decode cX5_outOf 78 = .ok (.getfield 24, 3) := by decide +kernel
theorem dX5_outOf_81 : decode cX5_outOf 81 = .ok (.iload_n 3, 1) := by decide +kernel
theorem dX5_outOf_82 : decode cX5_outOf 82 = .ok (.invokevirtual 97, 3) := by decide +kernel
theorem dX5_outOf_85 : decode cX5_outOf 85 = .ok (.istore 6, 2) := by decide +kernel
theorem dX5_outOf_87 : decode cX5_outOf 87 = .ok (.iconst 0, 1) := by decide +kernel
theorem dX5_outOf_88 : decode cX5_outOf 88 = .ok (.iload 6, 2) := by decide +kernel
theorem dX5_outOf_90 : decode cX5_outOf 90 = .ok (.iload 4, 2) := by decide +kernel
theorem dX5_outOf_92 : decode cX5_outOf 92 = .ok (.invokestatic 47, 3) := by decide +kernel
theorem dX5_outOf_95 : decode cX5_outOf 95 = .ok (.invokestatic 101, 3) := by decide +kernel
theorem dX5_outOf_98 : decode cX5_outOf 98 = .ok (.ireturn, 1) := by decide +kernel
theorem dX5_withoutText_0 : decode cX5_withoutText 0 = .ok (.iload_n 1, 1) := by decide +kernel
theorem dX5_withoutText_1 : decode cX5_withoutText 1 = .ok (.iconst 1, 1) := by decide +kernel
theorem dX5_withoutText_2 : decode cX5_withoutText 2 = .ok (.if_icmp .ne 12, 3) := by decide +kernel
theorem dX5_withoutText_5 : decode cX5_withoutText 5 = .ok (.iconst 0, 1) := by decide +kernel
theorem dX5_withoutText_6 : decode cX5_withoutText 6 = .ok (.iload_n 0, 1) := by decide +kernel
theorem dX5_withoutText_7 : decode cX5_withoutText 7 = .ok (.bipush 20, 2) := by decide +kernel
theorem dX5_withoutText_9 : decode cX5_withoutText 9 = .ok (.isub, 1) := by decide +kernel
theorem dX5_withoutText_10 : decode cX5_withoutText 10 = .ok (.invokestatic 101, 3) := by decide +kernel
theorem dX5_withoutText_13 : decode cX5_withoutText 13 = .ok (.ireturn, 1) := by decide +kernel
theorem dX5_withoutText_14 : decode cX5_withoutText 14 = .ok (.iload_n 1, 1) := by decide +kernel
theorem dX5_withoutText_15 : decode cX5_withoutText 15 = .ok (.iconst 2, 1) := by decide +kernel
theorem dX5_withoutText_16 : decode cX5_withoutText 16 = .ok (.if_icmp .ne 7, 3) := by decide +kernel
theorem dX5_withoutText_19 : decode cX5_withoutText 19 = .ok (.iload_n 0, 1) := by decide +kernel
theorem dX5_withoutText_20 : decode cX5_withoutText 20 = .ok (.goto 6, 3) := by decide +kernel
theorem dX5_withoutText_23 : decode cX5_withoutText 23 = .ok (.iload_n 0, 1) := by decide +kernel
theorem dX5_withoutText_24 : decode cX5_withoutText 24 = .ok (.iconst 2, 1) := by decide +kernel
theorem dX5_withoutText_25 : decode cX5_withoutText 25 = .ok (.idiv, 1) := by decide +kernel
theorem dX5_withoutText_26 : decode cX5_withoutText 26 = .ok (.ireturn, 1) := by decide +kernel
theorem dX5_sitting_0 : decode cX5_sitting 0 = .ok (.iconst 0, 1) := by decide +kernel
theorem dX5_sitting_1 : decode cX5_sitting 1 = .ok (.istore_n 3, 1) := by decide +kernel
theorem dX5_sitting_2 : decode cX5_sitting 2 = .ok (.iconst 0, 1) := by decide +kernel
theorem dX5_sitting_3 : decode cX5_sitting 3 = .ok (.istore 4, 2) := by decide +kernel
theorem dX5_sitting_5 : decode cX5_sitting 5 = .ok (.iload 4, 2) := by decide +kernel
theorem dX5_sitting_7 : decode cX5_sitting 7 = .ok (.iload_n 1, 1) := by decide +kernel
theorem dX5_sitting_8 : decode cX5_sitting 8 = .ok (.if_icmp .ge 23, 3) := by decide +kernel
theorem dX5_sitting_11 : decode cX5_sitting 11 = .ok (.aload_n 0, 1) := by decide +kernel
theorem dX5_sitting_12 : decode cX5_sitting 12 = .ok (.getfield 18, 3) := by decide +kernel
theorem dX5_sitting_15 : decode cX5_sitting 15 = .ok (.iload 4, 2) := by decide +kernel
theorem dX5_sitting_17 : decode cX5_sitting 17 = .ok (.iaload, 1) := by decide +kernel
theorem dX5_sitting_18 : decode cX5_sitting 18 = .ok (.iload_n 2, 1) := by decide +kernel
theorem dX5_sitting_19 : decode cX5_sitting 19 = .ok (.if_icmp .ne 6, 3) := by decide +kernel
theorem dX5_sitting_22 : decode cX5_sitting 22 = .ok (.iinc 3 1, 3) := by decide +kernel
theorem dX5_sitting_25 : decode cX5_sitting 25 = .ok (.iinc 4 1, 3) := by decide +kernel
theorem dX5_sitting_28 : decode cX5_sitting 28 = .ok (.goto (-23), 3) := by decide +kernel
theorem dX5_sitting_31 : decode cX5_sitting 31 = .ok (.iload_n 3, 1) := by decide +kernel
theorem dX5_sitting_32 : decode cX5_sitting 32 = .ok (.ireturn, 1) := by decide +kernel
theorem dX5_wholeLuck_0 : decode cX5_wholeLuck 0 = .ok (.iconst 0, 1) := by decide +kernel
theorem dX5_wholeLuck_1 : decode cX5_wholeLuck 1 = .ok (.istore_n 1, 1) := by decide +kernel
theorem dX5_wholeLuck_2 : decode cX5_wholeLuck 2 = .ok (.iconst 0, 1) := by decide +kernel
theorem dX5_wholeLuck_3 : decode cX5_wholeLuck 3 = .ok (.istore_n 2, 1) := by decide +kernel
theorem dX5_wholeLuck_4 : decode cX5_wholeLuck 4 = .ok (.iload_n 2, 1) := by decide +kernel
theorem dX5_wholeLuck_5 : decode cX5_wholeLuck 5 = .ok (.bipush 36, 2) := by decide +kernel
theorem dX5_wholeLuck_7 : decode cX5_wholeLuck 7 = .ok (.if_icmp .ge 18, 3) := by decide +kernel
theorem dX5_wholeLuck_10 : decode cX5_wholeLuck 10 = .ok (.iload_n 1, 1) := by decide +kernel
theorem dX5_wholeLuck_11 : decode cX5_wholeLuck 11 = .ok (.aload_n 0, 1) := by decide +kernel
theorem dX5_wholeLuck_12 : decode cX5_wholeLuck 12 = .ok (.getfield 9, 3) := by decide +kernel
theorem dX5_wholeLuck_15 : decode cX5_wholeLuck 15 = .ok (.iload_n 2, 1) := by decide +kernel
theorem dX5_wholeLuck_16 : decode cX5_wholeLuck 16 = .ok (.iaload, 1) := by decide +kernel
theorem dX5_wholeLuck_17 : decode cX5_wholeLuck 17 = .ok (.iadd, 1) := by decide +kernel
theorem dX5_wholeLuck_18 : decode cX5_wholeLuck 18 = .ok (.istore_n 1, 1) := by decide +kernel
theorem dX5_wholeLuck_19 : decode cX5_wholeLuck 19 = .ok (.iinc 2 1, 3) := by decide +kernel
theorem dX5_wholeLuck_22 : decode cX5_wholeLuck 22 = .ok (.goto (-18), 3) := by decide +kernel
theorem dX5_wholeLuck_25 : decode cX5_wholeLuck 25 = .ok (.iload_n 1, 1) := by decide +kernel
theorem dX5_wholeLuck_26 : decode cX5_wholeLuck 26 = .ok (.ireturn, 1) := by decide +kernel
theorem dX5_luckiest_0 : decode cX5_luckiest 0 = .ok (.iconst 0, 1) := by decide +kernel
theorem dX5_luckiest_1 : decode cX5_luckiest 1 = .ok (.istore_n 1, 1) := by decide +kernel
theorem dX5_luckiest_2 : decode cX5_luckiest 2 = .ok (.iconst 1, 1) := by decide +kernel
theorem dX5_luckiest_3 : decode cX5_luckiest 3 = .ok (.istore_n 2, 1) := by decide +kernel
theorem dX5_luckiest_4 : decode cX5_luckiest 4 = .ok (.iload_n 2, 1) := by decide +kernel
theorem dX5_luckiest_5 : decode cX5_luckiest 5 = .ok (.bipush 36, 2) := by decide +kernel
theorem dX5_luckiest_7 : decode cX5_luckiest 7 = .ok (.if_icmp .ge 26, 3) := by decide +kernel
theorem dX5_luckiest_10 : decode cX5_luckiest 10 = .ok (.aload_n 0, 1) := by decide +kernel
theorem dX5_luckiest_11 : decode cX5_luckiest 11 = .ok (.getfield 9, 3) := by decide +kernel
theorem dX5_luckiest_14 : decode cX5_luckiest 14 = .ok (.iload_n 2, 1) := by decide +kernel
theorem dX5_luckiest_15 : decode cX5_luckiest 15 = .ok (.iaload, 1) := by decide +kernel
theorem dX5_luckiest_16 : decode cX5_luckiest 16 = .ok (.aload_n 0, 1) := by decide +kernel
theorem dX5_luckiest_17 : decode cX5_luckiest 17 = .ok (.getfield 9, 3) := by decide +kernel
theorem dX5_luckiest_20 : decode cX5_luckiest 20 = .ok (.iload_n 1, 1) := by decide +kernel
theorem dX5_luckiest_21 : decode cX5_luckiest 21 = .ok (.iaload, 1) := by decide +kernel
theorem dX5_luckiest_22 : decode cX5_luckiest 22 = .ok (.if_icmp .le 5, 3) := by decide +kernel
theorem dX5_luckiest_25 : decode cX5_luckiest 25 = .ok (.iload_n 2, 1) := by decide +kernel
theorem dX5_luckiest_26 : decode cX5_luckiest 26 = .ok (.istore_n 1, 1) := by decide +kernel
theorem dX5_luckiest_27 : decode cX5_luckiest 27 = .ok (.iinc 2 1, 3) := by decide +kernel
theorem dX5_luckiest_30 : decode cX5_luckiest 30 = .ok (.goto (-26), 3) := by decide +kernel
theorem dX5_luckiest_33 : decode cX5_luckiest 33 = .ok (.iload_n 1, 1) := by decide +kernel
theorem dX5_luckiest_34 : decode cX5_luckiest 34 = .ok (.ireturn, 1) := by decide +kernel
theorem dX5_luckyCells_0 : decode cX5_luckyCells 0 = .ok (.iconst 0, 1) := by decide +kernel
theorem dX5_luckyCells_1 : decode cX5_luckyCells 1 = .ok (.istore_n 1, 1) := by decide +kernel
theorem dX5_luckyCells_2 : decode cX5_luckyCells 2 = .ok (.iconst 0, 1) := by decide +kernel
theorem dX5_luckyCells_3 : decode cX5_luckyCells 3 = .ok (.istore_n 2, 1) := by decide +kernel
theorem dX5_luckyCells_4 : decode cX5_luckyCells 4 = .ok (.iload_n 2, 1) := by decide +kernel
theorem dX5_luckyCells_5 : decode cX5_luckyCells 5 = .ok (.bipush 36, 2) := by decide +kernel
theorem dX5_luckyCells_7 : decode cX5_luckyCells 7 = .ok (.if_icmp .ge 21, 3) := by decide +kernel
theorem dX5_luckyCells_10 : decode cX5_luckyCells 10 = .ok (.aload_n 0, 1) := by decide +kernel
theorem dX5_luckyCells_11 : decode cX5_luckyCells 11 = .ok (.getfield 9, 3) := by decide +kernel
theorem dX5_luckyCells_14 : decode cX5_luckyCells 14 = .ok (.iload_n 2, 1) := by decide +kernel
theorem dX5_luckyCells_15 : decode cX5_luckyCells 15 = .ok (.iaload, 1) := by decide +kernel
theorem dX5_luckyCells_16 : decode cX5_luckyCells 16 = .ok (.ifCond .le 6, 3) := by decide +kernel
theorem dX5_luckyCells_19 : decode cX5_luckyCells 19 = .ok (.iinc 1 1, 3) := by decide +kernel
theorem dX5_luckyCells_22 : decode cX5_luckyCells 22 = .ok (.iinc 2 1, 3) := by decide +kernel
theorem dX5_luckyCells_25 : decode cX5_luckyCells 25 = .ok (.goto (-21), 3) := by decide +kernel
theorem dX5_luckyCells_28 : decode cX5_luckyCells 28 = .ok (.iload_n 1, 1) := by decide +kernel
theorem dX5_luckyCells_29 : decode cX5_luckyCells 29 = .ok (.ireturn, 1) := by decide +kernel
theorem dX5_halve_0 : decode cX5_halve 0 = .ok (.iconst 0, 1) := by decide +kernel
theorem dX5_halve_1 : decode cX5_halve 1 = .ok (.istore_n 3, 1) := by decide +kernel
theorem dX5_halve_2 : decode cX5_halve 2 = .ok (.iload_n 3, 1) := by decide +kernel
theorem dX5_halve_3 : decode cX5_halve 3 = .ok (.iload_n 1, 1) := by decide +kernel
theorem dX5_halve_4 : decode cX5_halve 4 = .ok (.if_icmp .ge 29, 3) := by decide +kernel
theorem dX5_halve_7 : decode cX5_halve 7 = .ok (.aload_n 0, 1) := by decide +kernel
theorem dX5_halve_8 : decode cX5_halve 8 = .ok (.getfield 18, 3) := by decide +kernel
theorem dX5_halve_11 : decode cX5_halve 11 = .ok (.iload_n 3, 1) := by decide +kernel
theorem dX5_halve_12 : decode cX5_halve 12 = .ok (.iaload, 1) := by decide +kernel
theorem dX5_halve_13 : decode cX5_halve 13 = .ok (.iload_n 2, 1) := by decide +kernel
theorem dX5_halve_14 : decode cX5_halve 14 = .ok (.if_icmp .ne 13, 3) := by decide +kernel
theorem dX5_halve_17 : decode cX5_halve 17 = .ok (.aload_n 0, 1) := by decide +kernel
theorem dX5_halve_18 : decode cX5_halve 18 = .ok (.getfield 21, 3) := by decide +kernel
theorem dX5_halve_21 : decode cX5_halve 21 = .ok (.iload_n 3, 1) := by decide +kernel
theorem dX5_halve_22 : decode cX5_halve 22 = .ok (.dup2, 1) := by decide +kernel
theorem dX5_halve_23 : decode cX5_halve 23 = .ok (.iaload, 1) := by decide +kernel
theorem dX5_halve_24 : decode cX5_halve 24 = .ok (.iconst 2, 1) := by decide +kernel
theorem dX5_halve_25 : decode cX5_halve 25 = .ok (.idiv, 1) := by decide +kernel
theorem dX5_halve_26 : decode cX5_halve 26 = .ok (.iastore, 1) := by decide +kernel
theorem dX5_halve_27 : decode cX5_halve 27 = .ok (.iinc 3 1, 3) := by decide +kernel
theorem dX5_halve_30 : decode cX5_halve 30 = .ok (.goto (-28), 3) := by decide +kernel
theorem dX5_halve_33 : decode cX5_halve 33 = .ok (.return_, 1) := by decide +kernel
theorem dX5_wealth_0 : decode cX5_wealth 0 = .ok (.iload_n 1, 1) := by decide +kernel
theorem dX5_wealth_1 : decode cX5_wealth 1 = .ok (.iconst (-1), 1) := by decide +kernel
theorem dX5_wealth_2 : decode cX5_wealth 2 = .ok (.if_icmp .eq 10, 3) := by decide +kernel
theorem dX5_wealth_5 : decode cX5_wealth 5 = .ok (.aload_n 0, 1) := by decide +kernel
theorem dX5_wealth_6 : decode cX5_wealth 6 = .ok (.getfield 21, 3) := by decide +kernel
theorem dX5_wealth_9 : decode cX5_wealth 9 = .ok (.iload_n 1, 1) := by decide +kernel
theorem dX5_wealth_10 : decode cX5_wealth 10 = .ok (.iaload, 1) := by decide +kernel
theorem dX5_wealth_11 : decode cX5_wealth 11 = .ok (.ireturn, 1) := by decide +kernel
theorem dX5_wealth_12 : decode cX5_wealth 12 = .ok (.iconst 0, 1) := by decide +kernel
theorem dX5_wealth_13 : decode cX5_wealth 13 = .ok (.istore_n 3, 1) := by decide +kernel
theorem dX5_wealth_14 : decode cX5_wealth 14 = .ok (.iconst 0, 1) := by decide +kernel
theorem dX5_wealth_15 : decode cX5_wealth 15 = .ok (.istore 4, 2) := by decide +kernel
theorem dX5_wealth_17 : decode cX5_wealth 17 = .ok (.iload 4, 2) := by decide +kernel
theorem dX5_wealth_19 : decode cX5_wealth 19 = .ok (.iload_n 2, 1) := by decide +kernel
theorem dX5_wealth_20 : decode cX5_wealth 20 = .ok (.if_icmp .ge 19, 3) := by decide +kernel
theorem dX5_wealth_23 : decode cX5_wealth 23 = .ok (.iload_n 3, 1) := by decide +kernel
theorem dX5_wealth_24 : decode cX5_wealth 24 = .ok (.aload_n 0, 1) := by decide +kernel
theorem dX5_wealth_25 : decode cX5_wealth 25 = .ok (.getfield 21, 3) := by decide +kernel
theorem dX5_wealth_28 : decode cX5_wealth 28 = .ok (.iload 4, 2) := by decide +kernel
theorem dX5_wealth_30 : decode cX5_wealth 30 = .ok (.iaload, 1) := by decide +kernel
theorem dX5_wealth_31 : decode cX5_wealth 31 = .ok (.iadd, 1) := by decide +kernel
theorem dX5_wealth_32 : decode cX5_wealth 32 = .ok (.istore_n 3, 1) := by decide +kernel
theorem dX5_wealth_33 : decode cX5_wealth 33 = .ok (.iinc 4 1, 3) := by decide +kernel
theorem dX5_wealth_36 : decode cX5_wealth 36 = .ok (.goto (-19), 3) := by decide +kernel
theorem dX5_wealth_39 : decode cX5_wealth 39 = .ok (.iload_n 3, 1) := by decide +kernel
theorem dX5_wealth_40 : decode cX5_wealth 40 = .ok (.ireturn, 1) := by decide +kernel
theorem dX6_init_0 : decode cX6_init 0 = .ok (.aload_n 0, 1) := by decide +kernel
theorem dX6_init_1 : decode cX6_init 1 = .ok (.invokespecial 3, 3) := by decide +kernel
theorem dX6_init_4 : decode cX6_init 4 = .ok (.aload_n 0, 1) := by decide +kernel
theorem dX6_init_5 : decode cX6_init 5 = .ok (.new 9, 3) := by decide +kernel
theorem dX6_init_8 : decode cX6_init 8 = .ok (.dup, 1) := by decide +kernel
theorem dX6_init_9 : decode cX6_init 9 = .ok (.invokespecial 11, 3) := by decide +kernel
theorem dX6_init_12 : decode cX6_init 12 = .ok (.putfield 12, 3) := by decide +kernel
theorem dX6_init_15 : decode cX6_init 15 = .ok (.aload_n 0, 1) := by decide +kernel
theorem dX6_init_16 : decode cX6_init 16 = .ok (.bipush 36, 2) := by decide +kernel
theorem dX6_init_18 : decode cX6_init 18 = .ok (.newarray .int, 2) := by decide +kernel
theorem dX6_init_20 : decode cX6_init 20 = .ok (.putfield 18, 3) := by decide +kernel
theorem dX6_init_23 : decode cX6_init 23 = .ok (.aload_n 0, 1) := by decide +kernel
theorem dX6_init_24 : decode cX6_init 24 = .ok (.bipush (-9), 2) := by decide +kernel
theorem dX6_init_26 : decode cX6_init 26 = .ok (.putfield 22, 3) := by decide +kernel
theorem dX6_init_29 : decode cX6_init 29 = .ok (.aload_n 0, 1) := by decide +kernel
theorem dX6_init_30 : decode cX6_init 30 = .ok (.iconst 0, 1) := by decide +kernel
theorem dX6_init_31 : decode cX6_init 31 = .ok (.putfield 26, 3) := by decide +kernel
theorem dX6_init_34 : decode cX6_init 34 = .ok (.aload_n 0, 1) := by decide +kernel
theorem dX6_init_35 : decode cX6_init 35 = .ok (.bipush (-2), 2) := by decide +kernel
theorem dX6_init_37 : decode cX6_init 37 = .ok (.putfield 29, 3) := by decide +kernel
theorem dX6_init_40 : decode cX6_init 40 = .ok (.return_, 1) := by decide +kernel
theorem dX6_begin_0 : decode cX6_begin 0 = .ok (.aload_n 0, 1) := by decide +kernel
theorem dX6_begin_1 : decode cX6_begin 1 = .ok (.getfield 12, 3) := by decide +kernel
theorem dX6_begin_4 : decode cX6_begin 4 = .ok (.aload_n 1, 1) := by decide +kernel
theorem dX6_begin_5 : decode cX6_begin 5 = .ok (.getfield 32, 3) := by decide +kernel
theorem dX6_begin_8 : decode cX6_begin 8 = .ok (.aload_n 1, 1) := by decide +kernel
theorem dX6_begin_9 : decode cX6_begin 9 = .ok (.getfield 37, 3) := by decide +kernel
theorem dX6_begin_12 : decode cX6_begin 12 = .ok (.getfield 41, 3) := by decide +kernel
theorem dX6_begin_15 : decode cX6_begin 15 = .ok (.invokevirtual 46, 3) := by decide +kernel
theorem dX6_begin_18 : decode cX6_begin 18 = .ok (.return_, 1) := by decide +kernel
theorem dX6_spend_0 : decode cX6_spend 0 = .ok (.iconst 0, 1) := by decide +kernel
theorem dX6_spend_1 : decode cX6_spend 1 = .ok (.istore_n 3, 1) := by decide +kernel
theorem dX6_spend_2 : decode cX6_spend 2 = .ok (.iload_n 3, 1) := by decide +kernel
theorem dX6_spend_3 : decode cX6_spend 3 = .ok (.iload_n 2, 1) := by decide +kernel
theorem dX6_spend_4 : decode cX6_spend 4 = .ok (.if_icmp .ge 24, 3) := by decide +kernel
theorem dX6_spend_7 : decode cX6_spend 7 = .ok (.aload_n 0, 1) := by decide +kernel
theorem dX6_spend_8 : decode cX6_spend 8 = .ok (.getfield 12, 3) := by decide +kernel
theorem dX6_spend_11 : decode cX6_spend 11 = .ok (.aload_n 1, 1) := by decide +kernel
theorem dX6_spend_12 : decode cX6_spend 12 = .ok (.getfield 37, 3) := by decide +kernel
theorem dX6_spend_15 : decode cX6_spend 15 = .ok (.aload_n 1, 1) := by decide +kernel
theorem dX6_spend_16 : decode cX6_spend 16 = .ok (.getfield 50, 3) := by decide +kernel
theorem dX6_spend_19 : decode cX6_spend 19 = .ok (.invokevirtual 54, 3) := by decide +kernel
theorem dX6_spend_22 : decode cX6_spend 22 = .ok (.iinc 3 1, 3) := by decide +kernel
theorem dX6_spend_25 : decode cX6_spend 25 = .ok (.goto (-23), 3) := by decide +kernel
theorem dX6_spend_28 : decode cX6_spend 28 = .ok (.return_, 1) := by decide +kernel
theorem dX6_behind_0 : decode cX6_behind 0 = .ok (.aload_n 0, 1) := by decide +kernel
theorem dX6_behind_1 : decode cX6_behind 1 = .ok (.aload_n 1, 1) := by decide +kernel
theorem dX6_behind_2 : decode cX6_behind 2 = .ok (.invokevirtual 58, 3) := by decide +kernel
theorem dX6_behind_5 : decode cX6_behind 5 = .ok (.aload_n 0, 1) := by decide +kernel
theorem dX6_behind_6 : decode cX6_behind 6 = .ok (.aload_n 1, 1) := by decide +kernel
theorem dX6_behind_7 : decode cX6_behind 7 = .ok (.iload_n 2, 1) := by decide +kernel
theorem dX6_behind_8 : decode cX6_behind 8 = .ok (.invokevirtual 62, 3) := by decide +kernel
theorem dX6_behind_11 : decode cX6_behind 11 = .ok (.aload_n 0, 1) := by decide +kernel
theorem dX6_behind_12 : decode cX6_behind 12 = .ok (.getfield 12, 3) := by decide +kernel
theorem dX6_behind_15 : decode cX6_behind 15 = .ok (.areturn, 1) := by decide +kernel
theorem dX6_whenStill_0 : decode cX6_whenStill 0 = .ok (.aload_n 0, 1) := by decide +kernel
theorem dX6_whenStill_1 : decode cX6_whenStill 1 = .ok (.aload_n 1, 1) := by decide +kernel
theorem dX6_whenStill_2 : decode cX6_whenStill 2 = .ok (.invokevirtual 58, 3) := by decide +kernel
theorem dX6_whenStill_5 : decode cX6_whenStill 5 = .ok (.iconst 0, 1) := by decide +kernel
theorem dX6_whenStill_6 : decode cX6_whenStill 6 = .ok (.istore_n 2, 1) := by decide +kernel
theorem dX6_whenStill_7 : decode cX6_whenStill 7 = .ok (.iload_n 2, 1) := by decide +kernel
theorem dX6_whenStill_8 : decode cX6_whenStill 8 = .ok (.bipush 48, 2) := by decide +kernel
theorem dX6_whenStill_10 : decode cX6_whenStill 10 = .ok (.if_icmp .gt 36, 3) := by decide +kernel
theorem dX6_whenStill_13 : decode cX6_whenStill 13 = .ok (.aload_n 0, 1) := by decide +kernel
theorem dX6_whenStill_14 : decode cX6_whenStill 14 = .ok (.getfield 12, 3) := by decide +kernel
theorem dX6_whenStill_17 : decode cX6_whenStill 17 = .ok (.aload_n 1, 1) := by decide +kernel
theorem dX6_whenStill_18 : decode cX6_whenStill 18 = .ok (.getfield 37, 3) := by decide +kernel
theorem dX6_whenStill_21 : decode cX6_whenStill 21 = .ok (.aload_n 1, 1) := by decide +kernel
theorem dX6_whenStill_22 : decode cX6_whenStill 22 = .ok (.getfield 50, 3) := by decide +kernel
theorem dX6_whenStill_25 : decode cX6_whenStill 25 = .ok (.invokevirtual 54, 3) := by decide +kernel
theorem dX6_whenStill_28 : decode cX6_whenStill 28 = .ok (.aload_n 0, 1) := by decide +kernel
theorem dX6_whenStill_29 : decode cX6_whenStill 29 = .ok (.getfield 12, 3) := by decide +kernel
theorem dX6_whenStill_32 : decode cX6_whenStill 32 = .ok (.getfield 66, 3) := by decide +kernel
theorem dX6_whenStill_35 : decode cX6_whenStill 35 = .ok (.ifCond .ne 5, 3) := by decide +kernel
theorem dX6_whenStill_38 : decode cX6_whenStill 38 = .ok (.iload_n 2, 1) := by decide +kernel
theorem dX6_whenStill_39 : decode cX6_whenStill 39 = .ok (.ireturn, 1) := by decide +kernel
theorem dX6_whenStill_40 : decode cX6_whenStill 40 = .ok (.iinc 2 1, 3) := by decide +kernel
theorem dX6_whenStill_43 : decode cX6_whenStill 43 = .ok (.goto (-36), 3) := by decide +kernel
theorem dX6_whenStill_46 : decode cX6_whenStill 46 = .ok (.bipush (-2), 2) := by decide +kernel
theorem dX6_whenStill_48 : decode cX6_whenStill 48 = .ok (.ireturn, 1) := by decide +kernel
theorem dX6_whenRich_0 : decode cX6_whenRich 0 = .ok (.aload_n 0, 1) := by decide +kernel
theorem dX6_whenRich_1 : decode cX6_whenRich 1 = .ok (.aload_n 1, 1) := by decide +kernel
theorem dX6_whenRich_2 : decode cX6_whenRich 2 = .ok (.invokevirtual 58, 3) := by decide +kernel
theorem dX6_whenRich_5 : decode cX6_whenRich 5 = .ok (.iconst 0, 1) := by decide +kernel
theorem dX6_whenRich_6 : decode cX6_whenRich 6 = .ok (.istore 4, 2) := by decide +kernel
theorem dX6_whenRich_8 : decode cX6_whenRich 8 = .ok (.iload 4, 2) := by decide +kernel
theorem dX6_whenRich_10 : decode cX6_whenRich 10 = .ok (.bipush 48, 2) := by decide +kernel
theorem dX6_whenRich_12 : decode cX6_whenRich 12 = .ok (.if_icmp .ge 40, 3) := by decide +kernel
theorem dX6_whenRich_15 : decode cX6_whenRich 15 = .ok (.aload_n 0, 1) := by decide +kernel
theorem dX6_whenRich_16 : decode cX6_whenRich 16 = .ok (.getfield 12, 3) := by decide +kernel
theorem dX6_whenRich_19 : decode cX6_whenRich 19 = .ok (.getfield 70, 3) := by decide +kernel
theorem dX6_whenRich_22 : decode cX6_whenRich 22 = .ok (.iload_n 2, 1) := by decide +kernel
theorem dX6_whenRich_23 : decode cX6_whenRich 23 = .ok (.iaload, 1) := by decide +kernel
theorem dX6_whenRich_24 : decode cX6_whenRich 24 = .ok (.iload_n 3, 1) := by decide +kernel
theorem dX6_whenRich_25 : decode cX6_whenRich 25 = .ok (.if_icmp .lt 6, 3) := by decide +kernel
theorem dX6_whenRich_28 : decode cX6_whenRich 28 = .ok (.iload 4, 2) := by decide +kernel
theorem dX6_whenRich_30 : decode cX6_whenRich 30 = .ok (.ireturn, 1) := by decide +kernel
theorem dX6_whenRich_31 : decode cX6_whenRich 31 = .ok (.aload_n 0, 1) := by decide +kernel
theorem dX6_whenRich_32 : decode cX6_whenRich 32 = .ok (.getfield 12, 3) := by decide +kernel
theorem dX6_whenRich_35 : decode cX6_whenRich 35 = .ok (.aload_n 1, 1) := by decide +kernel
theorem dX6_whenRich_36 : decode cX6_whenRich 36 = .ok (.getfield 37, 3) := by decide +kernel
theorem dX6_whenRich_39 : decode cX6_whenRich 39 = .ok (.aload_n 1, 1) := by decide +kernel
theorem dX6_whenRich_40 : decode cX6_whenRich 40 = .ok (.getfield 50, 3) := by decide +kernel
theorem dX6_whenRich_43 : decode cX6_whenRich 43 = .ok (.invokevirtual 54, 3) := by decide +kernel
theorem dX6_whenRich_46 : decode cX6_whenRich 46 = .ok (.iinc 4 1, 3) := by decide +kernel
theorem dX6_whenRich_49 : decode cX6_whenRich 49 = .ok (.goto (-41), 3) := by decide +kernel
theorem dX6_whenRich_52 : decode cX6_whenRich 52 = .ok (.aload_n 0, 1) := by decide +kernel
theorem dX6_whenRich_53 : decode cX6_whenRich 53 = .ok (.getfield 12, 3) := by decide +kernel
theorem dX6_whenRich_56 : decode cX6_whenRich 56 = .ok (.getfield 70, 3) := by decide +kernel
theorem dX6_whenRich_59 : decode cX6_whenRich 59 = .ok (.iload_n 2, 1) := by decide +kernel
theorem dX6_whenRich_60 : decode cX6_whenRich 60 = .ok (.iaload, 1) := by decide +kernel
theorem dX6_whenRich_61 : decode cX6_whenRich 61 = .ok (.iload_n 3, 1) := by decide +kernel
theorem dX6_whenRich_62 : decode cX6_whenRich 62 = .ok (.if_icmp .lt 8, 3) := by decide +kernel
theorem dX6_whenRich_65 : decode cX6_whenRich 65 = .ok (.bipush 48, 2) := by decide +kernel
theorem dX6_whenRich_67 : decode cX6_whenRich 67 = .ok (.goto 5, 3) := by decide +kernel
theorem dX6_whenRich_70 : decode cX6_whenRich 70 = .ok (.bipush (-2), 2) := by decide +kernel
theorem dX6_whenRich_72 : decode cX6_whenRich 72 = .ok (.ireturn, 1) := by decide +kernel
theorem dX6_more_0 : decode cX6_more 0 = .ok (.aload_n 0, 1) := by decide +kernel
theorem dX6_more_1 : decode cX6_more 1 = .ok (.aload_n 1, 1) := by decide +kernel
theorem dX6_more_2 : decode cX6_more 2 = .ok (.iload_n 3, 1) := by decide +kernel
theorem dX6_more_3 : decode cX6_more 3 = .ok (.invokevirtual 73, 3) := by decide +kernel
theorem dX6_more_6 : decode cX6_more 6 = .ok (.pop, 1) := by decide +kernel
theorem dX6_more_7 : decode cX6_more 7 = .ok (.aload_n 0, 1) := by decide +kernel
theorem dX6_more_8 : decode cX6_more 8 = .ok (.iload 5, 2) := by decide +kernel
theorem dX6_more_10 : decode cX6_more 10 = .ok (.invokevirtual 77, 3) := by decide +kernel
theorem dX6_more_13 : decode cX6_more 13 = .ok (.istore 6, 2) := by decide +kernel
theorem dX6_more_15 : decode cX6_more 15 = .ok (.aload_n 0, 1) := by decide +kernel
theorem dX6_more_16 : decode cX6_more 16 = .ok (.aload_n 1, 1) := by decide +kernel
theorem dX6_more_17 : decode cX6_more 17 = .ok (.invokevirtual 58, 3) := by decide +kernel
theorem dX6_more_20 : decode cX6_more 20 = .ok (.aload_n 0, 1) := by decide +kernel
theorem dX6_more_21 : decode cX6_more 21 = .ok (.getfield 12, 3) := by decide +kernel
theorem dX6_more_24 : decode cX6_more 24 = .ok (.iload_n 2, 1) := by decide +kernel
theorem dX6_more_25 : decode cX6_more 25 = .ok (.iload 4, 2) := by decide +kernel
theorem dX6_more_27 : decode cX6_more 27 = .ok (.invokevirtual 81, 3) := by decide +kernel
theorem dX6_more_30 : decode cX6_more 30 = .ok (.pop, 1) := by decide +kernel
theorem dX6_more_31 : decode cX6_more 31 = .ok (.aload_n 0, 1) := by decide +kernel
theorem dX6_more_32 : decode cX6_more 32 = .ok (.aload_n 1, 1) := by decide +kernel
theorem dX6_more_33 : decode cX6_more 33 = .ok (.iload_n 3, 1) := by decide +kernel
theorem dX6_more_34 : decode cX6_more 34 = .ok (.invokevirtual 62, 3) := by decide +kernel
theorem dX6_more_37 : decode cX6_more 37 = .ok (.aload_n 0, 1) := by decide +kernel
theorem dX6_more_38 : decode cX6_more 38 = .ok (.iload 5, 2) := by decide +kernel
theorem dX6_more_40 : decode cX6_more 40 = .ok (.invokevirtual 77, 3) := by decide +kernel
theorem dX6_more_43 : decode cX6_more 43 = .ok (.iload 6, 2) := by decide +kernel
theorem dX6_more_45 : decode cX6_more 45 = .ok (.isub, 1) := by decide +kernel
theorem dX6_more_46 : decode cX6_more 46 = .ok (.ireturn, 1) := by decide +kernel
theorem dX6_luckOrHas_0 : decode cX6_luckOrHas 0 = .ok (.iload_n 1, 1) := by decide +kernel
theorem dX6_luckOrHas_1 : decode cX6_luckOrHas 1 = .ok (.iconst (-1), 1) := by decide +kernel
theorem dX6_luckOrHas_2 : decode cX6_luckOrHas 2 = .ok (.if_icmp .ne 13, 3) := by decide +kernel
theorem dX6_luckOrHas_5 : decode cX6_luckOrHas 5 = .ok (.aload_n 0, 1) := by decide +kernel
theorem dX6_luckOrHas_6 : decode cX6_luckOrHas 6 = .ok (.getfield 12, 3) := by decide +kernel
theorem dX6_luckOrHas_9 : decode cX6_luckOrHas 9 = .ok (.invokevirtual 85, 3) := by decide +kernel
theorem dX6_luckOrHas_12 : decode cX6_luckOrHas 12 = .ok (.goto 12, 3) := by decide +kernel
theorem dX6_luckOrHas_15 : decode cX6_luckOrHas 15 = .ok (.aload_n 0, 1) := by decide +kernel
theorem dX6_luckOrHas_16 : decode cX6_luckOrHas 16 = .ok (.getfield 12, 3) := by decide +kernel
theorem dX6_luckOrHas_19 : decode cX6_luckOrHas 19 = .ok (.getfield 70, 3) := by decide +kernel
theorem dX6_luckOrHas_22 : decode cX6_luckOrHas 22 = .ok (.iload_n 1, 1) := by decide +kernel
theorem dX6_luckOrHas_23 : decode cX6_luckOrHas 23 = .ok (.iaload, 1) := by decide +kernel
theorem dX6_luckOrHas_24 : decode cX6_luckOrHas 24 = .ok (.ireturn, 1) := by decide +kernel
theorem dX6_fewestShoes_0 : decode cX6_fewestShoes 0 = .ok (.aload_n 0, 1) := by decide +kernel
theorem dX6_fewestShoes_1 : decode cX6_fewestShoes 1 = .ok (.bipush (-9), 2) := by decide +kernel
theorem dX6_fewestShoes_3 : decode cX6_fewestShoes 3 = .ok (.putfield 22, 3) := by decide +kernel
theorem dX6_fewestShoes_6 : decode cX6_fewestShoes 6 = .ok (.aload_n 0, 1) := by decide +kernel
theorem dX6_fewestShoes_7 : decode cX6_fewestShoes 7 = .ok (.aload_n 1, 1) := by decide +kernel
theorem dX6_fewestShoes_8 : decode cX6_fewestShoes 8 = .ok (.iconst (-1), 1) := by decide +kernel
theorem dX6_fewestShoes_9 : decode cX6_fewestShoes 9 = .ok (.iconst (-1), 1) := by decide +kernel
theorem dX6_fewestShoes_10 : decode cX6_fewestShoes 10 = .ok (.iload_n 2, 1) := by decide +kernel
theorem dX6_fewestShoes_11 : decode cX6_fewestShoes 11 = .ok (.iload_n 3, 1) := by decide +kernel
theorem dX6_fewestShoes_12 : decode cX6_fewestShoes 12 = .ok (.invokevirtual 89, 3) := by decide +kernel
theorem dX6_fewestShoes_15 : decode cX6_fewestShoes 15 = .ok (.iload 4, 2) := by decide +kernel
theorem dX6_fewestShoes_17 : decode cX6_fewestShoes 17 = .ok (.if_icmp .lt 5, 3) := by decide +kernel
theorem dX6_fewestShoes_20 : decode cX6_fewestShoes 20 = .ok (.iconst 0, 1) := by decide +kernel
theorem dX6_fewestShoes_21 : decode cX6_fewestShoes 21 = .ok (.ireturn, 1) := by decide +kernel
theorem dX6_fewestShoes_22 : decode cX6_fewestShoes 22 = .ok (.aload_n 0, 1) := by decide +kernel
theorem dX6_fewestShoes_23 : decode cX6_fewestShoes 23 = .ok (.aload_n 1, 1) := by decide +kernel
theorem dX6_fewestShoes_24 : decode cX6_fewestShoes 24 = .ok (.aload_n 1, 1) := by decide +kernel
theorem dX6_fewestShoes_25 : decode cX6_fewestShoes 25 = .ok (.getfield 32, 3) := by decide +kernel
theorem dX6_fewestShoes_28 : decode cX6_fewestShoes 28 = .ok (.getfield 93, 3) := by decide +kernel
theorem dX6_fewestShoes_31 : decode cX6_fewestShoes 31 = .ok (.iload_n 2, 1) := by decide +kernel
theorem dX6_fewestShoes_32 : decode cX6_fewestShoes 32 = .ok (.iaload, 1) := by decide +kernel
theorem dX6_fewestShoes_33 : decode cX6_fewestShoes 33 = .ok (.invokevirtual 96, 3) := by decide +kernel
theorem dX6_fewestShoes_36 : decode cX6_fewestShoes 36 = .ok (.istore 5, 2) := by decide +kernel
theorem dX6_fewestShoes_38 : decode cX6_fewestShoes 38 = .ok (.iconst 0, 1) := by decide +kernel
theorem dX6_fewestShoes_39 : decode cX6_fewestShoes 39 = .ok (.istore 6, 2) := by decide +kernel
theorem dX6_fewestShoes_41 : decode cX6_fewestShoes 41 = .ok (.iload 6, 2) := by decide +kernel
theorem dX6_fewestShoes_43 : decode cX6_fewestShoes 43 = .ok (.iload 5, 2) := by decide +kernel
theorem dX6_fewestShoes_45 : decode cX6_fewestShoes 45 = .ok (.if_icmp .ge 42, 3) := by decide +kernel
theorem dX6_fewestShoes_48 : decode cX6_fewestShoes 48 = .ok (.aload_n 0, 1) := by decide +kernel
theorem dX6_fewestShoes_49 : decode cX6_fewestShoes 49 = .ok (.aload_n 1, 1) := by decide +kernel
theorem dX6_fewestShoes_50 : decode cX6_fewestShoes 50 = .ok (.aload_n 0, 1) := by decide +kernel
theorem dX6_fewestShoes_51 : decode cX6_fewestShoes 51 = .ok (.getfield 18, 3) := by decide +kernel
theorem dX6_fewestShoes_54 : decode cX6_fewestShoes 54 = .ok (.iload 6, 2) := by decide +kernel
theorem dX6_fewestShoes_56 : decode cX6_fewestShoes 56 = .ok (.iaload, 1) := by decide +kernel
theorem dX6_fewestShoes_57 : decode cX6_fewestShoes 57 = .ok (.iconst (-1), 1) := by decide +kernel
theorem dX6_fewestShoes_58 : decode cX6_fewestShoes 58 = .ok (.iload_n 2, 1) := by decide +kernel
theorem dX6_fewestShoes_59 : decode cX6_fewestShoes 59 = .ok (.iload_n 3, 1) := by decide +kernel
theorem dX6_fewestShoes_60 : decode cX6_fewestShoes 60 = .ok (.invokevirtual 89, 3) := by decide +kernel
theorem dX6_fewestShoes_63 : decode cX6_fewestShoes 63 = .ok (.iload 4, 2) := by decide +kernel
theorem dX6_fewestShoes_65 : decode cX6_fewestShoes 65 = .ok (.if_icmp .lt 16, 3) := by decide +kernel
theorem dX6_fewestShoes_68 : decode cX6_fewestShoes 68 = .ok (.aload_n 0, 1) := by decide +kernel
theorem dX6_fewestShoes_69 : decode cX6_fewestShoes 69 = .ok (.aload_n 0, 1) := by decide +kernel
theorem dX6_fewestShoes_70 : decode cX6_fewestShoes 70 = .ok (.getfield 18, 3) := by decide +kernel
theorem dX6_fewestShoes_73 : decode cX6_fewestShoes 73 = .ok (.iload 6, 2) := by decide +kernel
theorem dX6_fewestShoes_75 : decode cX6_fewestShoes 75 = .ok (.iaload, 1) := by decide +kernel
theorem dX6_fewestShoes_76 : decode cX6_fewestShoes 76 = .ok (.putfield 22, 3) := by decide +kernel
theorem dX6_fewestShoes_79 : decode cX6_fewestShoes 79 = .ok (.iconst 1, 1) := by decide +kernel
theorem dX6_fewestShoes_80 : decode cX6_fewestShoes 80 = .ok (.ireturn, 1) := by decide +kernel
theorem dX6_fewestShoes_81 : decode cX6_fewestShoes 81 = .ok (.iinc 6 1, 3) := by decide +kernel
theorem dX6_fewestShoes_84 : decode cX6_fewestShoes 84 = .ok (.goto (-43), 3) := by decide +kernel
theorem dX6_fewestShoes_87 : decode cX6_fewestShoes 87 = .ok (.iconst 0, 1) := by decide +kernel
theorem dX6_fewestShoes_88 : decode cX6_fewestShoes 88 = .ok (.istore 6, 2) := by decide +kernel
theorem dX6_fewestShoes_90 : decode cX6_fewestShoes 90 = .ok (.iload 6, 2) := by decide +kernel
theorem dX6_fewestShoes_92 : decode cX6_fewestShoes 92 = .ok (.iload 5, 2) := by decide +kernel
theorem dX6_fewestShoes_94 : decode cX6_fewestShoes 94 = .ok (.if_icmp .ge 78, 3) := by decide +kernel
theorem dX6_fewestShoes_97 : decode cX6_fewestShoes 97 = .ok (.iload 6, 2) := by decide +kernel
theorem dX6_fewestShoes_99 : decode cX6_fewestShoes 99 = .ok (.iconst 1, 1) := by decide +kernel
theorem dX6_fewestShoes_100 : decode cX6_fewestShoes 100 = .ok (.iadd, 1) := by decide +kernel
theorem dX6_fewestShoes_101 : decode cX6_fewestShoes 101 = .ok (.istore 7, 2) := by decide +kernel
theorem dX6_fewestShoes_103 : decode cX6_fewestShoes 103 = .ok (.iload 7, 2) := by decide +kernel
theorem dX6_fewestShoes_105 : decode cX6_fewestShoes 105 = .ok (.iload 5, 2) := by decide +kernel
theorem dX6_fewestShoes_107 : decode cX6_fewestShoes 107 = .ok (.if_icmp .ge 59, 3) := by decide +kernel
theorem dX6_fewestShoes_110 : decode cX6_fewestShoes 110 = .ok (.aload_n 0, 1) := by decide +kernel
theorem dX6_fewestShoes_111 : decode cX6_fewestShoes 111 = .ok (.aload_n 1, 1) := by decide +kernel
theorem dX6_fewestShoes_112 : decode cX6_fewestShoes 112 = .ok (.aload_n 0, 1) := by decide +kernel
theorem dX6_fewestShoes_113 : decode cX6_fewestShoes 113 = .ok (.getfield 18, 3) := by decide +kernel
theorem dX6_fewestShoes_116 : decode cX6_fewestShoes 116 = .ok (.iload 6, 2) := by decide +kernel
theorem dX6_fewestShoes_118 : decode cX6_fewestShoes 118 = .ok (.iaload, 1) := by decide +kernel
theorem dX6_fewestShoes_119 : decode cX6_fewestShoes 119 = .ok (.aload_n 0, 1) := by decide +kernel
theorem dX6_fewestShoes_120 : decode cX6_fewestShoes 120 = .ok (.getfield 18, 3) := by decide +kernel
theorem dX6_fewestShoes_123 : decode cX6_fewestShoes 123 = .ok (.iload 7, 2) := by decide +kernel
theorem dX6_fewestShoes_125 : decode cX6_fewestShoes 125 = .ok (.iaload, 1) := by decide +kernel
theorem dX6_fewestShoes_126 : decode cX6_fewestShoes 126 = .ok (.iload_n 2, 1) := by decide +kernel
theorem dX6_fewestShoes_127 : decode cX6_fewestShoes 127 = .ok (.iload_n 3, 1) := by decide +kernel
theorem dX6_fewestShoes_128 : decode cX6_fewestShoes 128 = .ok (.invokevirtual 89, 3) := by decide +kernel
theorem dX6_fewestShoes_131 : decode cX6_fewestShoes 131 = .ok (.iload 4, 2) := by decide +kernel
theorem dX6_fewestShoes_133 : decode cX6_fewestShoes 133 = .ok (.if_icmp .lt 27, 3) := by decide +kernel
theorem dX6_fewestShoes_136 : decode cX6_fewestShoes 136 = .ok (.aload_n 0, 1) := by decide +kernel
theorem dX6_fewestShoes_137 : decode cX6_fewestShoes 137 = .ok (.bipush 36, 2) := by decide +kernel
theorem dX6_fewestShoes_139 : decode cX6_fewestShoes 139 = .ok (.aload_n 0, 1) := by decide +kernel
theorem dX6_fewestShoes_140 : decode cX6_fewestShoes 140 = .ok (.getfield 18, 3) := by decide +kernel
theorem dX6_fewestShoes_143 : decode cX6_fewestShoes 143 = .ok (.iload 6, 2) := by decide +kernel
theorem dX6_fewestShoes_145 : decode cX6_fewestShoes 145 = .ok (.iaload, 1) := by decide +kernel
theorem dX6_fewestShoes_146 : decode cX6_fewestShoes 146 = .ok (.imul, 1) := by decide +kernel
theorem dX6_fewestShoes_147 : decode cX6_fewestShoes 147 = .ok (.aload_n 0, 1) := by decide +kernel
theorem dX6_fewestShoes_148 : decode cX6_fewestShoes 148 = .ok (.getfield 18, 3) := by decide +kernel
theorem dX6_fewestShoes_151 : decode cX6_fewestShoes 151 = .ok (.iload 7, 2) := by decide +kernel
theorem dX6_fewestShoes_153 : decode cX6_fewestShoes 153 = .ok (.iaload, 1) := by decide +kernel
theorem dX6_fewestShoes_154 : decode cX6_fewestShoes 154 = .ok (.iadd, 1) := by decide +kernel
theorem dX6_fewestShoes_155 : decode cX6_fewestShoes 155 = .ok (.putfield 22, 3) := by decide +kernel
theorem dX6_fewestShoes_158 : decode cX6_fewestShoes 158 = .ok (.iconst 2, 1) := by decide +kernel
theorem dX6_fewestShoes_159 : decode cX6_fewestShoes 159 = .ok (.ireturn, 1) := by decide +kernel
theorem dX6_fewestShoes_160 : decode cX6_fewestShoes 160 = .ok (.iinc 7 1, 3) := by decide +kernel
theorem dX6_fewestShoes_163 : decode cX6_fewestShoes 163 = .ok (.goto (-60), 3) := by decide +kernel
theorem dX6_fewestShoes_166 : decode cX6_fewestShoes 166 = .ok (.iinc 6 1, 3) := by decide +kernel
theorem dX6_fewestShoes_169 : decode cX6_fewestShoes 169 = .ok (.goto (-79), 3) := by decide +kernel
theorem dX6_fewestShoes_172 : decode cX6_fewestShoes 172 = .ok (.bipush (-2), 2) := by decide +kernel
theorem dX6_fewestShoes_174 : decode cX6_fewestShoes 174 = .ok (.ireturn, 1) := by decide +kernel
theorem dX6_candidatesFor_0 : decode cX6_candidatesFor 0 = .ok (.iconst 0, 1) := by decide +kernel
theorem dX6_candidatesFor_1 : decode cX6_candidatesFor 1 = .ok (.istore_n 3, 1) := by decide +kernel
theorem dX6_candidatesFor_2 : decode cX6_candidatesFor 2 = .ok (.iconst 0, 1) := by decide +kernel
theorem dX6_candidatesFor_3 : decode cX6_candidatesFor 3 = .ok (.istore 4, 2) := by decide +kernel
theorem dX6_candidatesFor_5 : decode cX6_candidatesFor 5 = .ok (.iload 4, 2) := by decide +kernel
theorem dX6_candidatesFor_7 : decode cX6_candidatesFor 7 = .ok (.bipush 36, 2) := by decide +kernel
theorem dX6_candidatesFor_9 : decode cX6_candidatesFor 9 = .ok (.if_icmp .ge 47, 3) := by decide +kernel
theorem dX6_candidatesFor_12 : decode cX6_candidatesFor 12 = .ok (.aload_n 1, 1) := by decide +kernel
theorem dX6_candidatesFor_13 : decode cX6_candidatesFor 13 = .ok (.getfield 32, 3) := by decide +kernel
theorem dX6_candidatesFor_16 : decode cX6_candidatesFor 16 = .ok (.getfield 100, 3) := by decide +kernel
theorem dX6_candidatesFor_19 : decode cX6_candidatesFor 19 = .ok (.iload 4, 2) := by decide +kernel
theorem dX6_candidatesFor_21 : decode cX6_candidatesFor 21 = .ok (.iaload, 1) := by decide +kernel
theorem dX6_candidatesFor_22 : decode cX6_candidatesFor 22 = .ok (.iconst 1, 1) := by decide +kernel
theorem dX6_candidatesFor_23 : decode cX6_candidatesFor 23 = .ok (.if_icmp .eq 27, 3) := by decide +kernel
theorem dX6_candidatesFor_26 : decode cX6_candidatesFor 26 = .ok (.aload_n 1, 1) := by decide +kernel
theorem dX6_candidatesFor_27 : decode cX6_candidatesFor 27 = .ok (.getfield 37, 3) := by decide +kernel
theorem dX6_candidatesFor_30 : decode cX6_candidatesFor 30 = .ok (.iload 4, 2) := by decide +kernel
theorem dX6_candidatesFor_32 : decode cX6_candidatesFor 32 = .ok (.iload_n 2, 1) := by decide +kernel
theorem dX6_candidatesFor_33 : decode cX6_candidatesFor 33 = .ok (.invokevirtual 103, 3) := by decide +kernel
theorem dX6_candidatesFor_36 : decode cX6_candidatesFor 36 = .ok (.ifCond .eq 14, 3) := by decide +kernel
theorem dX6_candidatesFor_39 : decode cX6_candidatesFor 39 = .ok (.aload_n 0, 1) := by decide +kernel
theorem dX6_candidatesFor_40 : decode cX6_candidatesFor 40 = .ok (.getfield 18, 3) := by decide +kernel
theorem dX6_candidatesFor_43 : decode cX6_candidatesFor 43 = .ok (.iload_n 3, 1) := by decide +kernel
theorem dX6_candidatesFor_44 : decode cX6_candidatesFor 44 = .ok (.iload 4, 2) := by decide +kernel
theorem dX6_candidatesFor_46 : decode cX6_candidatesFor 46 = .ok (.iastore, 1) := by decide +kernel
theorem dX6_candidatesFor_47 : decode cX6_candidatesFor 47 = .ok (.iinc 3 1, 3) := by decide +kernel
theorem dX6_candidatesFor_50 : decode cX6_candidatesFor 50 = .ok (.iinc 4 1, 3) := by decide +kernel
theorem dX6_candidatesFor_53 : decode cX6_candidatesFor 53 = .ok (.goto (-48), 3) := by decide +kernel
theorem dX6_candidatesFor_56 : decode cX6_candidatesFor 56 = .ok (.iload_n 3, 1) := by decide +kernel
theorem dX6_candidatesFor_57 : decode cX6_candidatesFor 57 = .ok (.ireturn, 1) := by decide +kernel
theorem dX6_hasBy_0 : decode cX6_hasBy 0 = .ok (.aload_n 0, 1) := by decide +kernel
theorem dX6_hasBy_1 : decode cX6_hasBy 1 = .ok (.aload_n 1, 1) := by decide +kernel
theorem dX6_hasBy_2 : decode cX6_hasBy 2 = .ok (.invokevirtual 58, 3) := by decide +kernel
theorem dX6_hasBy_5 : decode cX6_hasBy 5 = .ok (.iload_n 2, 1) := by decide +kernel
theorem dX6_hasBy_6 : decode cX6_hasBy 6 = .ok (.iconst (-1), 1) := by decide +kernel
theorem dX6_hasBy_7 : decode cX6_hasBy 7 = .ok (.if_icmp .eq 13, 3) := by decide +kernel
theorem dX6_hasBy_10 : decode cX6_hasBy 10 = .ok (.aload_n 0, 1) := by decide +kernel
theorem dX6_hasBy_11 : decode cX6_hasBy 11 = .ok (.getfield 12, 3) := by decide +kernel
theorem dX6_hasBy_14 : decode cX6_hasBy 14 = .ok (.getfield 100, 3) := by decide +kernel
theorem dX6_hasBy_17 : decode cX6_hasBy 17 = .ok (.iload_n 2, 1) := by decide +kernel
theorem dX6_hasBy_18 : decode cX6_hasBy 18 = .ok (.iconst 1, 1) := by decide +kernel
theorem dX6_hasBy_19 : decode cX6_hasBy 19 = .ok (.iastore, 1) := by decide +kernel
theorem dX6_hasBy_20 : decode cX6_hasBy 20 = .ok (.iload_n 3, 1) := by decide +kernel
theorem dX6_hasBy_21 : decode cX6_hasBy 21 = .ok (.iconst (-1), 1) := by decide +kernel
theorem dX6_hasBy_22 : decode cX6_hasBy 22 = .ok (.if_icmp .eq 13, 3) := by decide +kernel
theorem dX6_hasBy_25 : decode cX6_hasBy 25 = .ok (.aload_n 0, 1) := by decide +kernel
theorem dX6_hasBy_26 : decode cX6_hasBy 26 = .ok (.getfield 12, 3) := by decide +kernel
theorem dX6_hasBy_29 : decode cX6_hasBy 29 = .ok (.getfield 100, 3) := by decide +kernel
theorem dX6_hasBy_32 : decode cX6_hasBy 32 = .ok (.iload_n 3, 1) := by decide +kernel
theorem dX6_hasBy_33 : decode cX6_hasBy 33 = .ok (.iconst 1, 1) := by decide +kernel
theorem dX6_hasBy_34 : decode cX6_hasBy 34 = .ok (.iastore, 1) := by decide +kernel
theorem dX6_hasBy_35 : decode cX6_hasBy 35 = .ok (.aload_n 0, 1) := by decide +kernel
theorem dX6_hasBy_36 : decode cX6_hasBy 36 = .ok (.aload_n 1, 1) := by decide +kernel
theorem dX6_hasBy_37 : decode cX6_hasBy 37 = .ok (.iload 5, 2) := by decide +kernel
theorem dX6_hasBy_39 : decode cX6_hasBy 39 = .ok (.invokevirtual 62, 3) := by decide +kernel
theorem dX6_hasBy_42 : decode cX6_hasBy 42 = .ok (.aload_n 0, 1) := by decide +kernel
theorem dX6_hasBy_43 : decode cX6_hasBy 43 = .ok (.getfield 12, 3) := by decide +kernel
theorem dX6_hasBy_46 : decode cX6_hasBy 46 = .ok (.getfield 70, 3) := by decide +kernel
theorem dX6_hasBy_49 : decode cX6_hasBy 49 = .ok (.iload 4, 2) := by decide +kernel
theorem dX6_hasBy_51 : decode cX6_hasBy 51 = .ok (.iaload, 1) := by decide +kernel
theorem dX6_hasBy_52 : decode cX6_hasBy 52 = .ok (.ireturn, 1) := by decide +kernel
theorem dX6_bestSeat_0 : decode cX6_bestSeat 0 = .ok (.iconst (-1), 1) := by decide +kernel
theorem dX6_bestSeat_1 : decode cX6_bestSeat 1 = .ok (.istore 4, 2) := by decide +kernel
theorem dX6_bestSeat_3 : decode cX6_bestSeat 3 = .ok (.iconst 0, 1) := by decide +kernel
theorem dX6_bestSeat_4 : decode cX6_bestSeat 4 = .ok (.istore 5, 2) := by decide +kernel
theorem dX6_bestSeat_6 : decode cX6_bestSeat 6 = .ok (.iload 5, 2) := by decide +kernel
theorem dX6_bestSeat_8 : decode cX6_bestSeat 8 = .ok (.bipush 36, 2) := by decide +kernel
theorem dX6_bestSeat_10 : decode cX6_bestSeat 10 = .ok (.if_icmp .ge 70, 3) := by decide +kernel
theorem dX6_bestSeat_13 : decode cX6_bestSeat 13 = .ok (.aload_n 0, 1) := by decide +kernel
theorem dX6_bestSeat_14 : decode cX6_bestSeat 14 = .ok (.aload_n 1, 1) := by decide +kernel
theorem dX6_bestSeat_15 : decode cX6_bestSeat 15 = .ok (.invokevirtual 58, 3) := by decide +kernel
theorem dX6_bestSeat_18 : decode cX6_bestSeat 18 = .ok (.aload_n 0, 1) := by decide +kernel
theorem dX6_bestSeat_19 : decode cX6_bestSeat 19 = .ok (.getfield 12, 3) := by decide +kernel
theorem dX6_bestSeat_22 : decode cX6_bestSeat 22 = .ok (.getfield 93, 3) := by decide +kernel
theorem dX6_bestSeat_25 : decode cX6_bestSeat 25 = .ok (.iload_n 2, 1) := by decide +kernel
theorem dX6_bestSeat_26 : decode cX6_bestSeat 26 = .ok (.iload 5, 2) := by decide +kernel
theorem dX6_bestSeat_28 : decode cX6_bestSeat 28 = .ok (.iastore, 1) := by decide +kernel
theorem dX6_bestSeat_29 : decode cX6_bestSeat 29 = .ok (.aload_n 0, 1) := by decide +kernel
theorem dX6_bestSeat_30 : decode cX6_bestSeat 30 = .ok (.aload_n 1, 1) := by decide +kernel
theorem dX6_bestSeat_31 : decode cX6_bestSeat 31 = .ok (.iload_n 3, 1) := by decide +kernel
theorem dX6_bestSeat_32 : decode cX6_bestSeat 32 = .ok (.invokevirtual 62, 3) := by decide +kernel
theorem dX6_bestSeat_35 : decode cX6_bestSeat 35 = .ok (.iload 4, 2) := by decide +kernel
theorem dX6_bestSeat_37 : decode cX6_bestSeat 37 = .ok (.iconst (-1), 1) := by decide +kernel
theorem dX6_bestSeat_38 : decode cX6_bestSeat 38 = .ok (.if_icmp .eq 19, 3) := by decide +kernel
theorem dX6_bestSeat_41 : decode cX6_bestSeat 41 = .ok (.aload_n 0, 1) := by decide +kernel
theorem dX6_bestSeat_42 : decode cX6_bestSeat 42 = .ok (.getfield 12, 3) := by decide +kernel
theorem dX6_bestSeat_45 : decode cX6_bestSeat 45 = .ok (.getfield 70, 3) := by decide +kernel
theorem dX6_bestSeat_48 : decode cX6_bestSeat 48 = .ok (.iload_n 2, 1) := by decide +kernel
theorem dX6_bestSeat_49 : decode cX6_bestSeat 49 = .ok (.iaload, 1) := by decide +kernel
theorem dX6_bestSeat_50 : decode cX6_bestSeat 50 = .ok (.aload_n 0, 1) := by decide +kernel
theorem dX6_bestSeat_51 : decode cX6_bestSeat 51 = .ok (.getfield 26, 3) := by decide +kernel
theorem dX6_bestSeat_54 : decode cX6_bestSeat 54 = .ok (.if_icmp .le 20, 3) := by decide +kernel
theorem dX6_bestSeat_57 : decode cX6_bestSeat 57 = .ok (.iload 5, 2) := by decide +kernel
theorem dX6_bestSeat_59 : decode cX6_bestSeat 59 = .ok (.istore 4, 2) := by decide +kernel
theorem dX6_bestSeat_61 : decode cX6_bestSeat 61 = .ok (.aload_n 0, 1) := by decide +kernel
theorem dX6_bestSeat_62 : decode cX6_bestSeat 62 = .ok (.aload_n 0, 1) := by decide +kernel
theorem dX6_bestSeat_63 : decode cX6_bestSeat 63 = .ok (.getfield 12, 3) := by decide +kernel
theorem dX6_bestSeat_66 : decode cX6_bestSeat 66 = .ok (.getfield 70, 3) := by decide +kernel
theorem dX6_bestSeat_69 : decode cX6_bestSeat 69 = .ok (.iload_n 2, 1) := by decide +kernel
theorem dX6_bestSeat_70 : decode cX6_bestSeat 70 = .ok (.iaload, 1) := by decide +kernel
theorem dX6_bestSeat_71 : decode cX6_bestSeat 71 = .ok (.putfield 26, 3) := by decide +kernel
theorem dX6_bestSeat_74 : decode cX6_bestSeat 74 = .ok (.iinc 5 1, 3) := by decide +kernel
theorem dX6_bestSeat_77 : decode cX6_bestSeat 77 = .ok (.goto (-71), 3) := by decide +kernel
theorem dX6_bestSeat_80 : decode cX6_bestSeat 80 = .ok (.iload 4, 2) := by decide +kernel
theorem dX6_bestSeat_82 : decode cX6_bestSeat 82 = .ok (.ireturn, 1) := by decide +kernel
theorem dX6_firstWrong_0 : decode cX6_firstWrong 0 = .ok (.aload_n 0, 1) := by decide +kernel
theorem dX6_firstWrong_1 : decode cX6_firstWrong 1 = .ok (.aload_n 1, 1) := by decide +kernel
theorem dX6_firstWrong_2 : decode cX6_firstWrong 2 = .ok (.invokevirtual 58, 3) := by decide +kernel
theorem dX6_firstWrong_5 : decode cX6_firstWrong 5 = .ok (.aload_n 0, 1) := by decide +kernel
theorem dX6_firstWrong_6 : decode cX6_firstWrong 6 = .ok (.aload_n 1, 1) := by decide +kernel
theorem dX6_firstWrong_7 : decode cX6_firstWrong 7 = .ok (.aload_n 2, 1) := by decide +kernel
theorem dX6_firstWrong_8 : decode cX6_firstWrong 8 = .ok (.iload_n 3, 1) := by decide +kernel
theorem dX6_firstWrong_9 : decode cX6_firstWrong 9 = .ok (.iload 4, 2) := by decide +kernel
theorem dX6_firstWrong_11 : decode cX6_firstWrong 11 = .ok (.invokevirtual 107, 3) := by decide +kernel
theorem dX6_firstWrong_14 : decode cX6_firstWrong 14 = .ok (.ireturn, 1) := by decide +kernel
theorem dX6_firstWrongFromThen_0 : decode cX6_firstWrongFromThen 0 = .ok (.iload_n 3, 1) := by decide +kernel
theorem dX6_firstWrongFromThen_1 : decode cX6_firstWrongFromThen 1 = .ok (.bipush 49, 2) := by decide +kernel
theorem dX6_firstWrongFromThen_3 : decode cX6_firstWrongFromThen 3 = .ok (.invokestatic 111, 3) := by decide +kernel
theorem dX6_firstWrongFromThen_6 : decode cX6_firstWrongFromThen 6 = .ok (.istore 5, 2) := by decide +kernel
theorem dX6_firstWrongFromThen_8 : decode cX6_firstWrongFromThen 8 = .ok (.iconst 0, 1) := by decide +kernel
theorem dX6_firstWrongFromThen_9 : decode cX6_firstWrongFromThen 9 = .ok (.istore 6, 2) := by decide +kernel
theorem dX6_firstWrongFromThen_11 : decode cX6_firstWrongFromThen 11 = .ok (.iload 6, 2) := by decide +kernel
theorem dX6_firstWrongFromThen_13 : decode cX6_firstWrongFromThen 13 = .ok (.iload 5, 2) := by decide +kernel
theorem dX6_firstWrongFromThen_15 : decode cX6_firstWrongFromThen 15 = .ok (.if_icmp .ge 51, 3) := by decide +kernel
theorem dX6_firstWrongFromThen_18 : decode cX6_firstWrongFromThen 18 = .ok (.iload 6, 2) := by decide +kernel
theorem dX6_firstWrongFromThen_20 : decode cX6_firstWrongFromThen 20 = .ok (.ifCond .le 18, 3) := by decide +kernel
theorem dX6_firstWrongFromThen_23 : decode cX6_firstWrongFromThen 23 = .ok (.aload_n 0, 1) := by decide +kernel
theorem dX6_firstWrongFromThen_24 : decode cX6_firstWrongFromThen 24 = .ok (.getfield 12, 3) := by decide +kernel
theorem dX6_firstWrongFromThen_27 : decode cX6_firstWrongFromThen 27 = .ok (.aload_n 1, 1) := by decide +kernel
theorem dX6_firstWrongFromThen_28 : decode cX6_firstWrongFromThen 28 = .ok (.getfield 37, 3) := by decide +kernel
theorem dX6_firstWrongFromThen_31 : decode cX6_firstWrongFromThen 31 = .ok (.aload_n 1, 1) := by decide +kernel
theorem dX6_firstWrongFromThen_32 : decode cX6_firstWrongFromThen 32 = .ok (.getfield 50, 3) := by decide +kernel
theorem dX6_firstWrongFromThen_35 : decode cX6_firstWrongFromThen 35 = .ok (.invokevirtual 54, 3) := by decide +kernel
theorem dX6_firstWrongFromThen_38 : decode cX6_firstWrongFromThen 38 = .ok (.aload_n 0, 1) := by decide +kernel
theorem dX6_firstWrongFromThen_39 : decode cX6_firstWrongFromThen 39 = .ok (.getfield 12, 3) := by decide +kernel
theorem dX6_firstWrongFromThen_42 : decode cX6_firstWrongFromThen 42 = .ok (.getfield 116, 3) := by decide +kernel
theorem dX6_firstWrongFromThen_45 : decode cX6_firstWrongFromThen 45 = .ok (.iload 4, 2) := by decide +kernel
theorem dX6_firstWrongFromThen_47 : decode cX6_firstWrongFromThen 47 = .ok (.iaload, 1) := by decide +kernel
theorem dX6_firstWrongFromThen_48 : decode cX6_firstWrongFromThen 48 = .ok (.i2l, 1) := by decide +kernel
theorem dX6_firstWrongFromThen_49 : decode cX6_firstWrongFromThen 49 = .ok (.aload_n 2, 1) := by decide +kernel
theorem dX6_firstWrongFromThen_50 : decode cX6_firstWrongFromThen 50 = .ok (.iload 6, 2) := by decide +kernel
theorem dX6_firstWrongFromThen_52 : decode cX6_firstWrongFromThen 52 = .ok (.laload, 1) := by decide +kernel
theorem dX6_firstWrongFromThen_53 : decode cX6_firstWrongFromThen 53 = .ok (.lcmp, 1) := by decide +kernel
theorem dX6_firstWrongFromThen_54 : decode cX6_firstWrongFromThen 54 = .ok (.ifCond .eq 6, 3) := by decide +kernel
theorem dX6_firstWrongFromThen_57 : decode cX6_firstWrongFromThen 57 = .ok (.iload 6, 2) := by decide +kernel
theorem dX6_firstWrongFromThen_59 : decode cX6_firstWrongFromThen 59 = .ok (.ireturn, 1) := by decide +kernel
theorem dX6_firstWrongFromThen_60 : decode cX6_firstWrongFromThen 60 = .ok (.iinc 6 1, 3) := by decide +kernel
theorem dX6_firstWrongFromThen_63 : decode cX6_firstWrongFromThen 63 = .ok (.goto (-52), 3) := by decide +kernel
theorem dX6_firstWrongFromThen_66 : decode cX6_firstWrongFromThen 66 = .ok (.bipush (-2), 2) := by decide +kernel
theorem dX6_firstWrongFromThen_68 : decode cX6_firstWrongFromThen 68 = .ok (.ireturn, 1) := by decide +kernel
theorem dX6_fittingShoes_0 : decode cX6_fittingShoes 0 = .ok (.iconst 0, 1) := by decide +kernel
theorem dX6_fittingShoes_1 : decode cX6_fittingShoes 1 = .ok (.istore 6, 2) := by decide +kernel
theorem dX6_fittingShoes_3 : decode cX6_fittingShoes 3 = .ok (.iconst 0, 1) := by decide +kernel
theorem dX6_fittingShoes_4 : decode cX6_fittingShoes 4 = .ok (.istore 7, 2) := by decide +kernel
theorem dX6_fittingShoes_6 : decode cX6_fittingShoes 6 = .ok (.iload 7, 2) := by decide +kernel
theorem dX6_fittingShoes_8 : decode cX6_fittingShoes 8 = .ok (.iconst 3, 1) := by decide +kernel
theorem dX6_fittingShoes_9 : decode cX6_fittingShoes 9 = .ok (.if_icmp .ge 49, 3) := by decide +kernel
theorem dX6_fittingShoes_12 : decode cX6_fittingShoes 12 = .ok (.aload_n 0, 1) := by decide +kernel
theorem dX6_fittingShoes_13 : decode cX6_fittingShoes 13 = .ok (.aload_n 1, 1) := by decide +kernel
theorem dX6_fittingShoes_14 : decode cX6_fittingShoes 14 = .ok (.invokevirtual 58, 3) := by decide +kernel
theorem dX6_fittingShoes_17 : decode cX6_fittingShoes 17 = .ok (.aload_n 0, 1) := by decide +kernel
theorem dX6_fittingShoes_18 : decode cX6_fittingShoes 18 = .ok (.getfield 12, 3) := by decide +kernel
theorem dX6_fittingShoes_21 : decode cX6_fittingShoes 21 = .ok (.getfield 100, 3) := by decide +kernel
theorem dX6_fittingShoes_24 : decode cX6_fittingShoes 24 = .ok (.iload 5, 2) := by decide +kernel
theorem dX6_fittingShoes_26 : decode cX6_fittingShoes 26 = .ok (.iload 7, 2) := by decide +kernel
theorem dX6_fittingShoes_28 : decode cX6_fittingShoes 28 = .ok (.iastore, 1) := by decide +kernel
theorem dX6_fittingShoes_29 : decode cX6_fittingShoes 29 = .ok (.aload_n 0, 1) := by decide +kernel
theorem dX6_fittingShoes_30 : decode cX6_fittingShoes 30 = .ok (.aload_n 1, 1) := by decide +kernel
theorem dX6_fittingShoes_31 : decode cX6_fittingShoes 31 = .ok (.aload_n 2, 1) := by decide +kernel
theorem dX6_fittingShoes_32 : decode cX6_fittingShoes 32 = .ok (.iload_n 3, 1) := by decide +kernel
theorem dX6_fittingShoes_33 : decode cX6_fittingShoes 33 = .ok (.iload 4, 2) := by decide +kernel
theorem dX6_fittingShoes_35 : decode cX6_fittingShoes 35 = .ok (.invokevirtual 107, 3) := by decide +kernel
theorem dX6_fittingShoes_38 : decode cX6_fittingShoes 38 = .ok (.bipush (-2), 2) := by decide +kernel
theorem dX6_fittingShoes_40 : decode cX6_fittingShoes 40 = .ok (.if_icmp .ne 12, 3) := by decide +kernel
theorem dX6_fittingShoes_43 : decode cX6_fittingShoes 43 = .ok (.iload 6, 2) := by decide +kernel
theorem dX6_fittingShoes_45 : decode cX6_fittingShoes 45 = .ok (.iconst 1, 1) := by decide +kernel
theorem dX6_fittingShoes_46 : decode cX6_fittingShoes 46 = .ok (.iload 7, 2) := by decide +kernel
theorem dX6_fittingShoes_48 : decode cX6_fittingShoes 48 = .ok (.ishl, 1) := by decide +kernel
theorem dX6_fittingShoes_49 : decode cX6_fittingShoes 49 = .ok (.ior, 1) := by decide +kernel
theorem dX6_fittingShoes_50 : decode cX6_fittingShoes 50 = .ok (.istore 6, 2) := by decide +kernel
theorem dX6_fittingShoes_52 : decode cX6_fittingShoes 52 = .ok (.iinc 7 1, 3) := by decide +kernel
theorem dX6_fittingShoes_55 : decode cX6_fittingShoes 55 = .ok (.goto (-49), 3) := by decide +kernel
theorem dX6_fittingShoes_58 : decode cX6_fittingShoes 58 = .ok (.iload 6, 2) := by decide +kernel
theorem dX6_fittingShoes_60 : decode cX6_fittingShoes 60 = .ok (.ireturn, 1) := by decide +kernel
theorem dX6_fittingLucks_0 : decode cX6_fittingLucks 0 = .ok (.aload_n 0, 1) := by decide +kernel
theorem dX6_fittingLucks_1 : decode cX6_fittingLucks 1 = .ok (.bipush (-2), 2) := by decide +kernel
theorem dX6_fittingLucks_3 : decode cX6_fittingLucks 3 = .ok (.putfield 29, 3) := by decide +kernel
theorem dX6_fittingLucks_6 : decode cX6_fittingLucks 6 = .ok (.aload_n 1, 1) := by decide +kernel
theorem dX6_fittingLucks_7 : decode cX6_fittingLucks 7 = .ok (.getfield 37, 3) := by decide +kernel
theorem dX6_fittingLucks_10 : decode cX6_fittingLucks 10 = .ok (.iload 5, 2) := by decide +kernel
theorem dX6_fittingLucks_12 : decode cX6_fittingLucks 12 = .ok (.iload 4, 2) := by decide +kernel
theorem dX6_fittingLucks_14 : decode cX6_fittingLucks 14 = .ok (.invokevirtual 119, 3) := by decide +kernel
theorem dX6_fittingLucks_17 : decode cX6_fittingLucks 17 = .ok (.ifCond .ne 51, 3) := by decide +kernel
theorem dX6_fittingLucks_20 : decode cX6_fittingLucks 20 = .ok (.aload_n 0, 1) := by decide +kernel
theorem dX6_fittingLucks_21 : decode cX6_fittingLucks 21 = .ok (.aload_n 1, 1) := by decide +kernel
theorem dX6_fittingLucks_22 : decode cX6_fittingLucks 22 = .ok (.aload_n 2, 1) := by decide +kernel
theorem dX6_fittingLucks_23 : decode cX6_fittingLucks 23 = .ok (.iload_n 3, 1) := by decide +kernel
theorem dX6_fittingLucks_24 : decode cX6_fittingLucks 24 = .ok (.iload 4, 2) := by decide +kernel
theorem dX6_fittingLucks_26 : decode cX6_fittingLucks 26 = .ok (.invokevirtual 122, 3) := by decide +kernel
theorem dX6_fittingLucks_29 : decode cX6_fittingLucks 29 = .ok (.bipush (-2), 2) := by decide +kernel
theorem dX6_fittingLucks_31 : decode cX6_fittingLucks 31 = .ok (.if_icmp .ne 7, 3) := by decide +kernel
theorem dX6_fittingLucks_34 : decode cX6_fittingLucks 34 = .ok (.iconst 1, 1) := by decide +kernel
theorem dX6_fittingLucks_35 : decode cX6_fittingLucks 35 = .ok (.goto 4, 3) := by decide +kernel
theorem dX6_fittingLucks_38 : decode cX6_fittingLucks 38 = .ok (.iconst 0, 1) := by decide +kernel
theorem dX6_fittingLucks_39 : decode cX6_fittingLucks 39 = .ok (.istore 6, 2) := by decide +kernel
theorem dX6_fittingLucks_41 : decode cX6_fittingLucks 41 = .ok (.aload_n 0, 1) := by decide +kernel
theorem dX6_fittingLucks_42 : decode cX6_fittingLucks 42 = .ok (.iload 6, 2) := by decide +kernel
theorem dX6_fittingLucks_44 : decode cX6_fittingLucks 44 = .ok (.ifCond .eq 7, 3) := by decide +kernel
theorem dX6_fittingLucks_47 : decode cX6_fittingLucks 47 = .ok (.iconst 0, 1) := by decide +kernel
theorem dX6_fittingLucks_48 : decode cX6_fittingLucks 48 = .ok (.goto 5, 3) := by decide +kernel
theorem dX6_fittingLucks_51 : decode cX6_fittingLucks 51 = .ok (.bipush (-2), 2) := by decide +kernel
theorem dX6_fittingLucks_53 : decode cX6_fittingLucks 53 = .ok (.putfield 29, 3) := by decide +kernel
theorem dX6_fittingLucks_56 : decode cX6_fittingLucks 56 = .ok (.iload 6, 2) := by decide +kernel
theorem dX6_fittingLucks_58 : decode cX6_fittingLucks 58 = .ok (.ifCond .eq 8, 3) := by decide +kernel
theorem dX6_fittingLucks_61 : decode cX6_fittingLucks 61 = .ok (.bipush 100, 2) := by decide +kernel
theorem dX6_fittingLucks_63 : decode cX6_fittingLucks 63 = .ok (.goto 4, 3) := by decide +kernel
theorem dX6_fittingLucks_66 : decode cX6_fittingLucks 66 = .ok (.iconst 0, 1) := by decide +kernel
theorem dX6_fittingLucks_67 : decode cX6_fittingLucks 67 = .ok (.ireturn, 1) := by decide +kernel
theorem dX6_fittingLucks_68 : decode cX6_fittingLucks 68 = .ok (.iconst 0, 1) := by decide +kernel
theorem dX6_fittingLucks_69 : decode cX6_fittingLucks 69 = .ok (.istore 6, 2) := by decide +kernel
theorem dX6_fittingLucks_71 : decode cX6_fittingLucks 71 = .ok (.iconst 0, 1) := by decide +kernel
theorem dX6_fittingLucks_72 : decode cX6_fittingLucks 72 = .ok (.istore 7, 2) := by decide +kernel
theorem dX6_fittingLucks_74 : decode cX6_fittingLucks 74 = .ok (.iload 7, 2) := by decide +kernel
theorem dX6_fittingLucks_76 : decode cX6_fittingLucks 76 = .ok (.bipush 100, 2) := by decide +kernel
theorem dX6_fittingLucks_78 : decode cX6_fittingLucks 78 = .ok (.if_icmp .ge 61, 3) := by decide +kernel
theorem dX6_fittingLucks_81 : decode cX6_fittingLucks 81 = .ok (.aload_n 0, 1) := by decide +kernel
theorem dX6_fittingLucks_82 : decode cX6_fittingLucks 82 = .ok (.aload_n 1, 1) := by decide +kernel
theorem dX6_fittingLucks_83 : decode cX6_fittingLucks 83 = .ok (.invokevirtual 58, 3) := by decide +kernel
theorem dX6_fittingLucks_86 : decode cX6_fittingLucks 86 = .ok (.aload_n 0, 1) := by decide +kernel
theorem dX6_fittingLucks_87 : decode cX6_fittingLucks 87 = .ok (.getfield 12, 3) := by decide +kernel
theorem dX6_fittingLucks_90 : decode cX6_fittingLucks 90 = .ok (.getfield 116, 3) := by decide +kernel
theorem dX6_fittingLucks_93 : decode cX6_fittingLucks 93 = .ok (.iload 5, 2) := by decide +kernel
theorem dX6_fittingLucks_95 : decode cX6_fittingLucks 95 = .ok (.iload 7, 2) := by decide +kernel
theorem dX6_fittingLucks_97 : decode cX6_fittingLucks 97 = .ok (.iastore, 1) := by decide +kernel
theorem dX6_fittingLucks_98 : decode cX6_fittingLucks 98 = .ok (.aload_n 0, 1) := by decide +kernel
theorem dX6_fittingLucks_99 : decode cX6_fittingLucks 99 = .ok (.aload_n 1, 1) := by decide +kernel
theorem dX6_fittingLucks_100 : decode cX6_fittingLucks 100 = .ok (.aload_n 2, 1) := by decide +kernel
theorem dX6_fittingLucks_101 : decode cX6_fittingLucks 101 = .ok (.iload_n 3, 1) := by decide +kernel
theorem dX6_fittingLucks_102 : decode cX6_fittingLucks 102 = .ok (.iload 4, 2) := by decide +kernel
theorem dX6_fittingLucks_104 : decode cX6_fittingLucks 104 = .ok (.invokevirtual 107, 3) := by decide +kernel
theorem dX6_fittingLucks_107 : decode cX6_fittingLucks 107 = .ok (.bipush (-2), 2) := by decide +kernel
theorem dX6_fittingLucks_109 : decode cX6_fittingLucks 109 = .ok (.if_icmp .ne 24, 3) := by decide +kernel
theorem dX6_fittingLucks_112 : decode cX6_fittingLucks 112 = .ok (.aload_n 0, 1) := by decide +kernel
theorem dX6_fittingLucks_113 : decode cX6_fittingLucks 113 = .ok (.iload 6, 2) := by decide +kernel
theorem dX6_fittingLucks_115 : decode cX6_fittingLucks 115 = .ok (.ifCond .ne 8, 3) := by decide +kernel
theorem dX6_fittingLucks_118 : decode cX6_fittingLucks 118 = .ok (.iload 7, 2) := by decide +kernel
theorem dX6_fittingLucks_120 : decode cX6_fittingLucks 120 = .ok (.goto 7, 3) := by decide +kernel
theorem dX6_fittingLucks_123 : decode cX6_fittingLucks 123 = .ok (.aload_n 0, 1) := by decide +kernel
theorem dX6_fittingLucks_124 : decode cX6_fittingLucks 124 = .ok (.getfield 29, 3) := by decide +kernel
theorem dX6_fittingLucks_127 : decode cX6_fittingLucks 127 = .ok (.putfield 29, 3) := by decide +kernel
theorem dX6_fittingLucks_130 : decode cX6_fittingLucks 130 = .ok (.iinc 6 1, 3) := by decide +kernel
theorem dX6_fittingLucks_133 : decode cX6_fittingLucks 133 = .ok (.iinc 7 1, 3) := by decide +kernel
theorem dX6_fittingLucks_136 : decode cX6_fittingLucks 136 = .ok (.goto (-62), 3) := by decide +kernel
theorem dX6_fittingLucks_139 : decode cX6_fittingLucks 139 = .ok (.iload 6, 2) := by decide +kernel
theorem dX6_fittingLucks_141 : decode cX6_fittingLucks 141 = .ok (.ireturn, 1) := by decide +kernel
theorem dX6_byDraws_0 : decode cX6_byDraws 0 = .ok (.iload_n 2, 1) := by decide +kernel
theorem dX6_byDraws_1 : decode cX6_byDraws 1 = .ok (.istore 7, 2) := by decide +kernel
theorem dX6_byDraws_3 : decode cX6_byDraws 3 = .ok (.iconst 0, 1) := by decide +kernel
theorem dX6_byDraws_4 : decode cX6_byDraws 4 = .ok (.istore 8, 2) := by decide +kernel
theorem dX6_byDraws_6 : decode cX6_byDraws 6 = .ok (.iconst 0, 1) := by decide +kernel
theorem dX6_byDraws_7 : decode cX6_byDraws 7 = .ok (.istore 9, 2) := by decide +kernel
theorem dX6_byDraws_9 : decode cX6_byDraws 9 = .ok (.iload 9, 2) := by decide +kernel
theorem dX6_byDraws_11 : decode cX6_byDraws 11 = .ok (.iload_n 3, 1) := by decide +kernel
theorem dX6_byDraws_12 : decode cX6_byDraws 12 = .ok (.if_icmp .ge 112, 3) := by decide +kernel
theorem dX6_byDraws_15 : decode cX6_byDraws 15 = .ok (.aload_n 0, 1) := by decide +kernel
theorem dX6_byDraws_16 : decode cX6_byDraws 16 = .ok (.aload_n 1, 1) := by decide +kernel
theorem dX6_byDraws_17 : decode cX6_byDraws 17 = .ok (.invokevirtual 58, 3) := by decide +kernel
theorem dX6_byDraws_20 : decode cX6_byDraws 20 = .ok (.iconst 0, 1) := by decide +kernel
theorem dX6_byDraws_21 : decode cX6_byDraws 21 = .ok (.istore 10, 2) := by decide +kernel
theorem dX6_byDraws_23 : decode cX6_byDraws 23 = .ok (.iload 10, 2) := by decide +kernel
theorem dX6_byDraws_25 : decode cX6_byDraws 25 = .ok (.iload 4, 2) := by decide +kernel
theorem dX6_byDraws_27 : decode cX6_byDraws 27 = .ok (.if_icmp .ge 70, 3) := by decide +kernel
theorem dX6_byDraws_30 : decode cX6_byDraws 30 = .ok (.iload 7, 2) := by decide +kernel
theorem dX6_byDraws_32 : decode cX6_byDraws 32 = .ok (.ldc 125, 2) := by decide +kernel
theorem dX6_byDraws_34 : decode cX6_byDraws 34 = .ok (.imul, 1) := by decide +kernel
theorem dX6_byDraws_35 : decode cX6_byDraws 35 = .ok (.sipush 12345, 3) := by decide +kernel
theorem dX6_byDraws_38 : decode cX6_byDraws 38 = .ok (.iadd, 1) := by decide +kernel
theorem dX6_byDraws_39 : decode cX6_byDraws 39 = .ok (.istore 7, 2) := by decide +kernel
theorem dX6_byDraws_41 : decode cX6_byDraws 41 = .ok (.iload 7, 2) := by decide +kernel
theorem dX6_byDraws_43 : decode cX6_byDraws 43 = .ok (.bipush 16, 2) := by decide +kernel
theorem dX6_byDraws_45 : decode cX6_byDraws 45 = .ok (.iushr, 1) := by decide +kernel
theorem dX6_byDraws_46 : decode cX6_byDraws 46 = .ok (.bipush 12, 2) := by decide +kernel
theorem dX6_byDraws_48 : decode cX6_byDraws 48 = .ok (.irem, 1) := by decide +kernel
theorem dX6_byDraws_49 : decode cX6_byDraws 49 = .ok (.iload 5, 2) := by decide +kernel
theorem dX6_byDraws_51 : decode cX6_byDraws 51 = .ok (.if_icmp .ge 25, 3) := by decide +kernel
theorem dX6_byDraws_54 : decode cX6_byDraws 54 = .ok (.aload_n 0, 1) := by decide +kernel
theorem dX6_byDraws_55 : decode cX6_byDraws 55 = .ok (.getfield 12, 3) := by decide +kernel
theorem dX6_byDraws_58 : decode cX6_byDraws 58 = .ok (.aload_n 1, 1) := by decide +kernel
theorem dX6_byDraws_59 : decode cX6_byDraws 59 = .ok (.getfield 37, 3) := by decide +kernel
theorem dX6_byDraws_62 : decode cX6_byDraws 62 = .ok (.getfield 41, 3) := by decide +kernel
theorem dX6_byDraws_65 : decode cX6_byDraws 65 = .ok (.iload 7, 2) := by decide +kernel
theorem dX6_byDraws_67 : decode cX6_byDraws 67 = .ok (.bipush 8, 2) := by decide +kernel
theorem dX6_byDraws_69 : decode cX6_byDraws 69 = .ok (.iushr, 1) := by decide +kernel
theorem dX6_byDraws_70 : decode cX6_byDraws 70 = .ok (.bipush 36, 2) := by decide +kernel
theorem dX6_byDraws_72 : decode cX6_byDraws 72 = .ok (.irem, 1) := by decide +kernel
theorem dX6_byDraws_73 : decode cX6_byDraws 73 = .ok (.invokevirtual 126, 3) := by decide +kernel
theorem dX6_byDraws_76 : decode cX6_byDraws 76 = .ok (.aload_n 0, 1) := by decide +kernel
theorem dX6_byDraws_77 : decode cX6_byDraws 77 = .ok (.getfield 12, 3) := by decide +kernel
theorem dX6_byDraws_80 : decode cX6_byDraws 80 = .ok (.aload_n 1, 1) := by decide +kernel
theorem dX6_byDraws_81 : decode cX6_byDraws 81 = .ok (.getfield 37, 3) := by decide +kernel
theorem dX6_byDraws_84 : decode cX6_byDraws 84 = .ok (.aload_n 1, 1) := by decide +kernel
theorem dX6_byDraws_85 : decode cX6_byDraws 85 = .ok (.getfield 50, 3) := by decide +kernel
theorem dX6_byDraws_88 : decode cX6_byDraws 88 = .ok (.invokevirtual 54, 3) := by decide +kernel
theorem dX6_byDraws_91 : decode cX6_byDraws 91 = .ok (.iinc 10 1, 3) := by decide +kernel
theorem dX6_byDraws_94 : decode cX6_byDraws 94 = .ok (.goto (-71), 3) := by decide +kernel
theorem dX6_byDraws_97 : decode cX6_byDraws 97 = .ok (.iload 8, 2) := by decide +kernel
theorem dX6_byDraws_99 : decode cX6_byDraws 99 = .ok (.aload_n 0, 1) := by decide +kernel
theorem dX6_byDraws_100 : decode cX6_byDraws 100 = .ok (.getfield 12, 3) := by decide +kernel
theorem dX6_byDraws_103 : decode cX6_byDraws 103 = .ok (.iload 6, 2) := by decide +kernel
theorem dX6_byDraws_105 : decode cX6_byDraws 105 = .ok (.aload_n 1, 1) := by decide +kernel
theorem dX6_byDraws_106 : decode cX6_byDraws 106 = .ok (.getfield 37, 3) := by decide +kernel
theorem dX6_byDraws_109 : decode cX6_byDraws 109 = .ok (.getfield 41, 3) := by decide +kernel
theorem dX6_byDraws_112 : decode cX6_byDraws 112 = .ok (.invokevirtual 130, 3) := by decide +kernel
theorem dX6_byDraws_115 : decode cX6_byDraws 115 = .ok (.iadd, 1) := by decide +kernel
theorem dX6_byDraws_116 : decode cX6_byDraws 116 = .ok (.istore 8, 2) := by decide +kernel
theorem dX6_byDraws_118 : decode cX6_byDraws 118 = .ok (.iinc 9 1, 3) := by decide +kernel
theorem dX6_byDraws_121 : decode cX6_byDraws 121 = .ok (.goto (-112), 3) := by decide +kernel
theorem dX6_byDraws_124 : decode cX6_byDraws 124 = .ok (.iload 8, 2) := by decide +kernel
theorem dX6_byDraws_126 : decode cX6_byDraws 126 = .ok (.ireturn, 1) := by decide +kernel
theorem dX7_init_0 : decode cX7_init 0 = .ok (.aload_n 0, 1) := by decide +kernel
theorem dX7_init_1 : decode cX7_init 1 = .ok (.invokespecial 3, 3) := by decide +kernel
theorem dX7_init_4 : decode cX7_init 4 = .ok (.aload_n 0, 1) := by decide +kernel
theorem dX7_init_5 : decode cX7_init 5 = .ok (.bipush 36, 2) := by decide +kernel
theorem dX7_init_7 : decode cX7_init 7 = .ok (.newarray .int, 2) := by decide +kernel
theorem dX7_init_9 : decode cX7_init 9 = .ok (.putfield 9, 3) := by decide +kernel
theorem dX7_init_12 : decode cX7_init 12 = .ok (.aload_n 0, 1) := by decide +kernel
theorem dX7_init_13 : decode cX7_init 13 = .ok (.bipush 36, 2) := by decide +kernel
theorem dX7_init_15 : decode cX7_init 15 = .ok (.newarray .int, 2) := by decide +kernel
theorem dX7_init_17 : decode cX7_init 17 = .ok (.putfield 15, 3) := by decide +kernel
theorem dX7_init_20 : decode cX7_init 20 = .ok (.aload_n 0, 1) := by decide +kernel
theorem dX7_init_21 : decode cX7_init 21 = .ok (.bipush 8, 2) := by decide +kernel
theorem dX7_init_23 : decode cX7_init 23 = .ok (.newarray .int, 2) := by decide +kernel
theorem dX7_init_25 : decode cX7_init 25 = .ok (.putfield 18, 3) := by decide +kernel
theorem dX7_init_28 : decode cX7_init 28 = .ok (.aload_n 0, 1) := by decide +kernel
theorem dX7_init_29 : decode cX7_init 29 = .ok (.bipush 8, 2) := by decide +kernel
theorem dX7_init_31 : decode cX7_init 31 = .ok (.newarray .int, 2) := by decide +kernel
theorem dX7_init_33 : decode cX7_init 33 = .ok (.putfield 21, 3) := by decide +kernel
theorem dX7_init_36 : decode cX7_init 36 = .ok (.aload_n 0, 1) := by decide +kernel
theorem dX7_init_37 : decode cX7_init 37 = .ok (.iconst 0, 1) := by decide +kernel
theorem dX7_init_38 : decode cX7_init 38 = .ok (.putfield 24, 3) := by decide +kernel
theorem dX7_init_41 : decode cX7_init 41 = .ok (.aload_n 0, 1) := by decide +kernel
theorem dX7_init_42 : decode cX7_init 42 = .ok (.getfield 15, 3) := by decide +kernel
theorem dX7_init_45 : decode cX7_init 45 = .ok (.iconst (-1), 1) := by decide +kernel
theorem dX7_init_46 : decode cX7_init 46 = .ok (.invokestatic 28, 3) := by decide +kernel
theorem dX7_init_49 : decode cX7_init 49 = .ok (.return_, 1) := by decide +kernel
theorem dX7_isSink_0 : decode cX7_isSink 0 = .ok (.aload_n 0, 1) := by decide +kernel
theorem dX7_isSink_1 : decode cX7_isSink 1 = .ok (.getfield 15, 3) := by decide +kernel
theorem dX7_isSink_4 : decode cX7_isSink 4 = .ok (.iload_n 1, 1) := by decide +kernel
theorem dX7_isSink_5 : decode cX7_isSink 5 = .ok (.iaload, 1) := by decide +kernel
theorem dX7_isSink_6 : decode cX7_isSink 6 = .ok (.ifCond .ge 7, 3) := by decide +kernel
theorem dX7_isSink_9 : decode cX7_isSink 9 = .ok (.iconst 1, 1) := by decide +kernel
theorem dX7_isSink_10 : decode cX7_isSink 10 = .ok (.goto 4, 3) := by decide +kernel
theorem dX7_isSink_13 : decode cX7_isSink 13 = .ok (.iconst 0, 1) := by decide +kernel
theorem dX7_isSink_14 : decode cX7_isSink 14 = .ok (.ireturn, 1) := by decide +kernel
theorem dX7_raise_0 : decode cX7_raise 0 = .ok (.aload_n 0, 1) := by decide +kernel
theorem dX7_raise_1 : decode cX7_raise 1 = .ok (.getfield 9, 3) := by decide +kernel
theorem dX7_raise_4 : decode cX7_raise 4 = .ok (.iload_n 1, 1) := by decide +kernel
theorem dX7_raise_5 : decode cX7_raise 5 = .ok (.iload_n 2, 1) := by decide +kernel
theorem dX7_raise_6 : decode cX7_raise 6 = .ok (.iastore, 1) := by decide +kernel
theorem dX7_raise_7 : decode cX7_raise 7 = .ok (.aload_n 0, 1) := by decide +kernel
theorem dX7_raise_8 : decode cX7_raise 8 = .ok (.iload_n 1, 1) := by decide +kernel
theorem dX7_raise_9 : decode cX7_raise 9 = .ok (.invokevirtual 34, 3) := by decide +kernel
theorem dX7_raise_12 : decode cX7_raise 12 = .ok (.iconst 0, 1) := by decide +kernel
theorem dX7_raise_13 : decode cX7_raise 13 = .ok (.istore_n 3, 1) := by decide +kernel
theorem dX7_raise_14 : decode cX7_raise 14 = .ok (.iload_n 3, 1) := by decide +kernel
theorem dX7_raise_15 : decode cX7_raise 15 = .ok (.iconst 4, 1) := by decide +kernel
theorem dX7_raise_16 : decode cX7_raise 16 = .ok (.if_icmp .ge 27, 3) := by decide +kernel
theorem dX7_raise_19 : decode cX7_raise 19 = .ok (.iload_n 1, 1) := by decide +kernel
theorem dX7_raise_20 : decode cX7_raise 20 = .ok (.iload_n 3, 1) := by decide +kernel
theorem dX7_raise_21 : decode cX7_raise 21 = .ok (.invokestatic 38, 3) := by decide +kernel
theorem dX7_raise_24 : decode cX7_raise 24 = .ok (.istore 4, 2) := by decide +kernel
theorem dX7_raise_26 : decode cX7_raise 26 = .ok (.iload 4, 2) := by decide +kernel
theorem dX7_raise_28 : decode cX7_raise 28 = .ok (.ifCond .lt 9, 3) := by decide +kernel
theorem dX7_raise_31 : decode cX7_raise 31 = .ok (.aload_n 0, 1) := by decide +kernel
theorem dX7_raise_32 : decode cX7_raise 32 = .ok (.iload 4, 2) := by decide +kernel
theorem dX7_raise_34 : decode cX7_raise 34 = .ok (.invokevirtual 34, 3) := by decide +kernel
theorem dX7_raise_37 : decode cX7_raise 37 = .ok (.iinc 3 1, 3) := by decide +kernel
theorem dX7_raise_40 : decode cX7_raise 40 = .ok (.goto (-26), 3) := by decide +kernel
theorem dX7_raise_43 : decode cX7_raise 43 = .ok (.return_, 1) := by decide +kernel
theorem dX7_lookBelow_0 : decode cX7_lookBelow 0 = .ok (.iload_n 1, 1) := by decide +kernel
theorem dX7_lookBelow_1 : decode cX7_lookBelow 1 = .ok (.istore_n 2, 1) := by decide +kernel
theorem dX7_lookBelow_2 : decode cX7_lookBelow 2 = .ok (.iconst 0, 1) := by decide +kernel
theorem dX7_lookBelow_3 : decode cX7_lookBelow 3 = .ok (.istore_n 3, 1) := by decide +kernel
theorem dX7_lookBelow_4 : decode cX7_lookBelow 4 = .ok (.iload_n 3, 1) := by decide +kernel
theorem dX7_lookBelow_5 : decode cX7_lookBelow 5 = .ok (.iconst 4, 1) := by decide +kernel
theorem dX7_lookBelow_6 : decode cX7_lookBelow 6 = .ok (.if_icmp .ge 40, 3) := by decide +kernel
theorem dX7_lookBelow_9 : decode cX7_lookBelow 9 = .ok (.iload_n 1, 1) := by decide +kernel
theorem dX7_lookBelow_10 : decode cX7_lookBelow 10 = .ok (.iload_n 3, 1) := by decide +kernel
theorem dX7_lookBelow_11 : decode cX7_lookBelow 11 = .ok (.invokestatic 38, 3) := by decide +kernel
theorem dX7_lookBelow_14 : decode cX7_lookBelow 14 = .ok (.istore 4, 2) := by decide +kernel
theorem dX7_lookBelow_16 : decode cX7_lookBelow 16 = .ok (.iload 4, 2) := by decide +kernel
theorem dX7_lookBelow_18 : decode cX7_lookBelow 18 = .ok (.ifCond .lt 22, 3) := by decide +kernel
theorem dX7_lookBelow_21 : decode cX7_lookBelow 21 = .ok (.aload_n 0, 1) := by decide +kernel
theorem dX7_lookBelow_22 : decode cX7_lookBelow 22 = .ok (.getfield 9, 3) := by decide +kernel
theorem dX7_lookBelow_25 : decode cX7_lookBelow 25 = .ok (.iload 4, 2) := by decide +kernel
theorem dX7_lookBelow_27 : decode cX7_lookBelow 27 = .ok (.iaload, 1) := by decide +kernel
theorem dX7_lookBelow_28 : decode cX7_lookBelow 28 = .ok (.aload_n 0, 1) := by decide +kernel
theorem dX7_lookBelow_29 : decode cX7_lookBelow 29 = .ok (.getfield 9, 3) := by decide +kernel
theorem dX7_lookBelow_32 : decode cX7_lookBelow 32 = .ok (.iload_n 2, 1) := by decide +kernel
theorem dX7_lookBelow_33 : decode cX7_lookBelow 33 = .ok (.iaload, 1) := by decide +kernel
theorem dX7_lookBelow_34 : decode cX7_lookBelow 34 = .ok (.if_icmp .ge 6, 3) := by decide +kernel
theorem dX7_lookBelow_37 : decode cX7_lookBelow 37 = .ok (.iload 4, 2) := by decide +kernel
theorem dX7_lookBelow_39 : decode cX7_lookBelow 39 = .ok (.istore_n 2, 1) := by decide +kernel
theorem dX7_lookBelow_40 : decode cX7_lookBelow 40 = .ok (.iinc 3 1, 3) := by decide +kernel
theorem dX7_lookBelow_43 : decode cX7_lookBelow 43 = .ok (.goto (-39), 3) := by decide +kernel
theorem dX7_lookBelow_46 : decode cX7_lookBelow 46 = .ok (.aload_n 0, 1) := by decide +kernel
theorem dX7_lookBelow_47 : decode cX7_lookBelow 47 = .ok (.getfield 15, 3) := by decide +kernel
theorem dX7_lookBelow_50 : decode cX7_lookBelow 50 = .ok (.iload_n 1, 1) := by decide +kernel
theorem dX7_lookBelow_51 : decode cX7_lookBelow 51 = .ok (.iload_n 2, 1) := by decide +kernel
theorem dX7_lookBelow_52 : decode cX7_lookBelow 52 = .ok (.iload_n 1, 1) := by decide +kernel
theorem dX7_lookBelow_53 : decode cX7_lookBelow 53 = .ok (.if_icmp .ne 7, 3) := by decide +kernel
theorem dX7_lookBelow_56 : decode cX7_lookBelow 56 = .ok (.iconst (-1), 1) := by decide +kernel
theorem dX7_lookBelow_57 : decode cX7_lookBelow 57 = .ok (.goto 4, 3) := by decide +kernel
theorem dX7_lookBelow_60 : decode cX7_lookBelow 60 = .ok (.iload_n 2, 1) := by decide +kernel
theorem dX7_lookBelow_61 : decode cX7_lookBelow 61 = .ok (.iastore, 1) := by decide +kernel
theorem dX7_lookBelow_62 : decode cX7_lookBelow 62 = .ok (.return_, 1) := by decide +kernel
theorem dX7_beside_0 : decode cX7_beside 0 = .ok (.iload_n 1, 1) := by decide +kernel
theorem dX7_beside_1 : decode cX7_beside 1 = .ok (.tableswitch 73 0 2 #[27, 42, 58], 27) := by decide +kernel
theorem dX7_beside_28 : decode cX7_beside 28 = .ok (.iload_n 0, 1) := by decide +kernel
theorem dX7_beside_29 : decode cX7_beside 29 = .ok (.bipush 6, 2) := by decide +kernel
theorem dX7_beside_31 : decode cX7_beside 31 = .ok (.if_icmp .lt 10, 3) := by decide +kernel
theorem dX7_beside_34 : decode cX7_beside 34 = .ok (.iload_n 0, 1) := by decide +kernel
theorem dX7_beside_35 : decode cX7_beside 35 = .ok (.bipush 6, 2) := by decide +kernel
theorem dX7_beside_37 : decode cX7_beside 37 = .ok (.isub, 1) := by decide +kernel
theorem dX7_beside_38 : decode cX7_beside 38 = .ok (.goto 4, 3) := by decide +kernel
theorem dX7_beside_41 : decode cX7_beside 41 = .ok (.iconst (-1), 1) := by decide +kernel
theorem dX7_beside_42 : decode cX7_beside 42 = .ok (.ireturn, 1) := by decide +kernel
theorem dX7_beside_43 : decode cX7_beside 43 = .ok (.iload_n 0, 1) := by decide +kernel
theorem dX7_beside_44 : decode cX7_beside 44 = .ok (.bipush 6, 2) := by decide +kernel
theorem dX7_beside_46 : decode cX7_beside 46 = .ok (.irem, 1) := by decide +kernel
theorem dX7_beside_47 : decode cX7_beside 47 = .ok (.iconst 5, 1) := by decide +kernel
theorem dX7_beside_48 : decode cX7_beside 48 = .ok (.if_icmp .ge 9, 3) := by decide +kernel
theorem dX7_beside_51 : decode cX7_beside 51 = .ok (.iload_n 0, 1) := by decide +kernel
theorem dX7_beside_52 : decode cX7_beside 52 = .ok (.iconst 1, 1) := by decide +kernel
theorem dX7_beside_53 : decode cX7_beside 53 = .ok (.iadd, 1) := by decide +kernel
theorem dX7_beside_54 : decode cX7_beside 54 = .ok (.goto 4, 3) := by decide +kernel
theorem dX7_beside_57 : decode cX7_beside 57 = .ok (.iconst (-1), 1) := by decide +kernel
theorem dX7_beside_58 : decode cX7_beside 58 = .ok (.ireturn, 1) := by decide +kernel
theorem dX7_beside_59 : decode cX7_beside 59 = .ok (.iload_n 0, 1) := by decide +kernel
theorem dX7_beside_60 : decode cX7_beside 60 = .ok (.bipush 30, 2) := by decide +kernel
theorem dX7_beside_62 : decode cX7_beside 62 = .ok (.if_icmp .ge 10, 3) := by decide +kernel
theorem dX7_beside_65 : decode cX7_beside 65 = .ok (.iload_n 0, 1) := by decide +kernel
theorem dX7_beside_66 : decode cX7_beside 66 = .ok (.bipush 6, 2) := by decide +kernel
theorem dX7_beside_68 : decode cX7_beside 68 = .ok (.iadd, 1) := by decide +kernel
theorem dX7_beside_69 : decode cX7_beside 69 = .ok (.goto 4, 3) := by decide +kernel
theorem dX7_beside_72 : decode cX7_beside 72 = .ok (.iconst (-1), 1) := by decide +kernel
theorem dX7_beside_73 : decode cX7_beside 73 = .ok (.ireturn, 1) := by decide +kernel
theorem dX7_beside_74 : decode cX7_beside 74 = .ok (.iload_n 0, 1) := by decide +kernel
theorem dX7_beside_75 : decode cX7_beside 75 = .ok (.bipush 6, 2) := by decide +kernel
theorem dX7_beside_77 : decode cX7_beside 77 = .ok (.irem, 1) := by decide +kernel
theorem dX7_beside_78 : decode cX7_beside 78 = .ok (.ifCond .le 9, 3) := by decide +kernel
theorem dX7_beside_81 : decode cX7_beside 81 = .ok (.iload_n 0, 1) := by decide +kernel
theorem dX7_beside_82 : decode cX7_beside 82 = .ok (.iconst 1, 1) := by decide +kernel
theorem dX7_beside_83 : decode cX7_beside 83 = .ok (.isub, 1) := by decide +kernel
theorem dX7_beside_84 : decode cX7_beside 84 = .ok (.goto 4, 3) := by decide +kernel
theorem dX7_beside_87 : decode cX7_beside 87 = .ok (.iconst (-1), 1) := by decide +kernel
theorem dX7_beside_88 : decode cX7_beside 88 = .ok (.ireturn, 1) := by decide +kernel
theorem dX7_lowestFrom_0 : decode cX7_lowestFrom 0 = .ok (.iload_n 1, 1) := by decide +kernel
theorem dX7_lowestFrom_1 : decode cX7_lowestFrom 1 = .ok (.istore_n 2, 1) := by decide +kernel
theorem dX7_lowestFrom_2 : decode cX7_lowestFrom 2 = .ok (.iconst 0, 1) := by decide +kernel
theorem dX7_lowestFrom_3 : decode cX7_lowestFrom 3 = .ok (.istore_n 3, 1) := by decide +kernel
theorem dX7_lowestFrom_4 : decode cX7_lowestFrom 4 = .ok (.iload_n 3, 1) := by decide +kernel
theorem dX7_lowestFrom_5 : decode cX7_lowestFrom 5 = .ok (.bipush 36, 2) := by decide +kernel
theorem dX7_lowestFrom_7 : decode cX7_lowestFrom 7 = .ok (.if_icmp .ge 24, 3) := by decide +kernel
theorem dX7_lowestFrom_10 : decode cX7_lowestFrom 10 = .ok (.aload_n 0, 1) := by decide +kernel
theorem dX7_lowestFrom_11 : decode cX7_lowestFrom 11 = .ok (.iload_n 2, 1) := by decide +kernel
theorem dX7_lowestFrom_12 : decode cX7_lowestFrom 12 = .ok (.invokevirtual 42, 3) := by decide +kernel
theorem dX7_lowestFrom_15 : decode cX7_lowestFrom 15 = .ok (.ifCond .ne 16, 3) := by decide +kernel
theorem dX7_lowestFrom_18 : decode cX7_lowestFrom 18 = .ok (.aload_n 0, 1) := by decide +kernel
theorem dX7_lowestFrom_19 : decode cX7_lowestFrom 19 = .ok (.getfield 15, 3) := by decide +kernel
theorem dX7_lowestFrom_22 : decode cX7_lowestFrom 22 = .ok (.iload_n 2, 1) := by decide +kernel
theorem dX7_lowestFrom_23 : decode cX7_lowestFrom 23 = .ok (.iaload, 1) := by decide +kernel
theorem dX7_lowestFrom_24 : decode cX7_lowestFrom 24 = .ok (.istore_n 2, 1) := by decide +kernel
theorem dX7_lowestFrom_25 : decode cX7_lowestFrom 25 = .ok (.iinc 3 1, 3) := by decide +kernel
theorem dX7_lowestFrom_28 : decode cX7_lowestFrom 28 = .ok (.goto (-24), 3) := by decide +kernel
theorem dX7_lowestFrom_31 : decode cX7_lowestFrom 31 = .ok (.iload_n 2, 1) := by decide +kernel
theorem dX7_lowestFrom_32 : decode cX7_lowestFrom 32 = .ok (.ireturn, 1) := by decide +kernel
theorem dX7_stepsFrom_0 : decode cX7_stepsFrom 0 = .ok (.iload_n 1, 1) := by decide +kernel
theorem dX7_stepsFrom_1 : decode cX7_stepsFrom 1 = .ok (.istore_n 2, 1) := by decide +kernel
theorem dX7_stepsFrom_2 : decode cX7_stepsFrom 2 = .ok (.iconst 0, 1) := by decide +kernel
theorem dX7_stepsFrom_3 : decode cX7_stepsFrom 3 = .ok (.istore_n 3, 1) := by decide +kernel
theorem dX7_stepsFrom_4 : decode cX7_stepsFrom 4 = .ok (.iload_n 3, 1) := by decide +kernel
theorem dX7_stepsFrom_5 : decode cX7_stepsFrom 5 = .ok (.bipush 36, 2) := by decide +kernel
theorem dX7_stepsFrom_7 : decode cX7_stepsFrom 7 = .ok (.if_icmp .ge 24, 3) := by decide +kernel
theorem dX7_stepsFrom_10 : decode cX7_stepsFrom 10 = .ok (.aload_n 0, 1) := by decide +kernel
theorem dX7_stepsFrom_11 : decode cX7_stepsFrom 11 = .ok (.iload_n 2, 1) := by decide +kernel
theorem dX7_stepsFrom_12 : decode cX7_stepsFrom 12 = .ok (.invokevirtual 42, 3) := by decide +kernel
theorem dX7_stepsFrom_15 : decode cX7_stepsFrom 15 = .ok (.ifCond .ne 16, 3) := by decide +kernel
theorem dX7_stepsFrom_18 : decode cX7_stepsFrom 18 = .ok (.aload_n 0, 1) := by decide +kernel
theorem dX7_stepsFrom_19 : decode cX7_stepsFrom 19 = .ok (.getfield 15, 3) := by decide +kernel
theorem dX7_stepsFrom_22 : decode cX7_stepsFrom 22 = .ok (.iload_n 2, 1) := by decide +kernel
theorem dX7_stepsFrom_23 : decode cX7_stepsFrom 23 = .ok (.iaload, 1) := by decide +kernel
theorem dX7_stepsFrom_24 : decode cX7_stepsFrom 24 = .ok (.istore_n 2, 1) := by decide +kernel
theorem dX7_stepsFrom_25 : decode cX7_stepsFrom 25 = .ok (.iinc 3 1, 3) := by decide +kernel
theorem dX7_stepsFrom_28 : decode cX7_stepsFrom 28 = .ok (.goto (-24), 3) := by decide +kernel
theorem dX7_stepsFrom_31 : decode cX7_stepsFrom 31 = .ok (.iload_n 3, 1) := by decide +kernel
theorem dX7_stepsFrom_32 : decode cX7_stepsFrom 32 = .ok (.ireturn, 1) := by decide +kernel
theorem dX7_sinks_0 : decode cX7_sinks 0 = .ok (.lconst 0, 1) := by decide +kernel
theorem dX7_sinks_1 : decode cX7_sinks 1 = .ok (.lstore_n 1, 1) := by decide +kernel
theorem dX7_sinks_2 : decode cX7_sinks 2 = .ok (.iconst 0, 1) := by decide +kernel
theorem dX7_sinks_3 : decode cX7_sinks 3 = .ok (.istore_n 3, 1) := by decide +kernel
theorem dX7_sinks_4 : decode cX7_sinks 4 = .ok (.iload_n 3, 1) := by decide +kernel
theorem dX7_sinks_5 : decode cX7_sinks 5 = .ok (.bipush 36, 2) := by decide +kernel
theorem dX7_sinks_7 : decode cX7_sinks 7 = .ok (.if_icmp .ge 23, 3) := by decide +kernel
theorem dX7_sinks_10 : decode cX7_sinks 10 = .ok (.aload_n 0, 1) := by decide +kernel
theorem dX7_sinks_11 : decode cX7_sinks 11 = .ok (.iload_n 3, 1) := by decide +kernel
theorem dX7_sinks_12 : decode cX7_sinks 12 = .ok (.invokevirtual 42, 3) := by decide +kernel
theorem dX7_sinks_15 : decode cX7_sinks 15 = .ok (.ifCond .eq 9, 3) := by decide +kernel
theorem dX7_sinks_18 : decode cX7_sinks 18 = .ok (.lload_n 1, 1) := by decide +kernel
theorem dX7_sinks_19 : decode cX7_sinks 19 = .ok (.lconst 1, 1) := by decide +kernel
theorem dX7_sinks_20 : decode cX7_sinks 20 = .ok (.iload_n 3, 1) := by decide +kernel
theorem dX7_sinks_21 : decode cX7_sinks 21 = .ok (.lshl, 1) := by decide +kernel
theorem dX7_sinks_22 : decode cX7_sinks 22 = .ok (.lor, 1) := by decide +kernel
theorem dX7_sinks_23 : decode cX7_sinks 23 = .ok (.lstore_n 1, 1) := by decide +kernel
theorem dX7_sinks_24 : decode cX7_sinks 24 = .ok (.iinc 3 1, 3) := by decide +kernel
theorem dX7_sinks_27 : decode cX7_sinks 27 = .ok (.goto (-23), 3) := by decide +kernel
theorem dX7_sinks_30 : decode cX7_sinks 30 = .ok (.lload_n 1, 1) := by decide +kernel
theorem dX7_sinks_31 : decode cX7_sinks 31 = .ok (.lreturn, 1) := by decide +kernel
theorem dX7_comeThrough_0 : decode cX7_comeThrough 0 = .ok (.lconst 0, 1) := by decide +kernel
theorem dX7_comeThrough_1 : decode cX7_comeThrough 1 = .ok (.lstore_n 2, 1) := by decide +kernel
theorem dX7_comeThrough_2 : decode cX7_comeThrough 2 = .ok (.iconst 0, 1) := by decide +kernel
theorem dX7_comeThrough_3 : decode cX7_comeThrough 3 = .ok (.istore 4, 2) := by decide +kernel
theorem dX7_comeThrough_5 : decode cX7_comeThrough 5 = .ok (.iload 4, 2) := by decide +kernel
theorem dX7_comeThrough_7 : decode cX7_comeThrough 7 = .ok (.bipush 36, 2) := by decide +kernel
theorem dX7_comeThrough_9 : decode cX7_comeThrough 9 = .ok (.if_icmp .ge 26, 3) := by decide +kernel
theorem dX7_comeThrough_12 : decode cX7_comeThrough 12 = .ok (.aload_n 0, 1) := by decide +kernel
theorem dX7_comeThrough_13 : decode cX7_comeThrough 13 = .ok (.iload 4, 2) := by decide +kernel
theorem dX7_comeThrough_15 : decode cX7_comeThrough 15 = .ok (.iload_n 1, 1) := by decide +kernel
theorem dX7_comeThrough_16 : decode cX7_comeThrough 16 = .ok (.invokevirtual 46, 3) := by decide +kernel
theorem dX7_comeThrough_19 : decode cX7_comeThrough 19 = .ok (.ifCond .eq 10, 3) := by decide +kernel
theorem dX7_comeThrough_22 : decode cX7_comeThrough 22 = .ok (.lload_n 2, 1) := by decide +kernel
theorem dX7_comeThrough_23 : decode cX7_comeThrough 23 = .ok (.lconst 1, 1) := by decide +kernel
theorem dX7_comeThrough_24 : decode cX7_comeThrough 24 = .ok (.iload 4, 2) := by decide +kernel
theorem dX7_comeThrough_26 : decode cX7_comeThrough 26 = .ok (.lshl, 1) := by decide +kernel
theorem dX7_comeThrough_27 : decode cX7_comeThrough 27 = .ok (.lor, 1) := by decide +kernel
theorem dX7_comeThrough_28 : decode cX7_comeThrough 28 = .ok (.lstore_n 2, 1) := by decide +kernel
theorem dX7_comeThrough_29 : decode cX7_comeThrough 29 = .ok (.iinc 4 1, 3) := by decide +kernel
theorem dX7_comeThrough_32 : decode cX7_comeThrough 32 = .ok (.goto (-27), 3) := by decide +kernel
theorem dX7_comeThrough_35 : decode cX7_comeThrough 35 = .ok (.lload_n 2, 1) := by decide +kernel
theorem dX7_comeThrough_36 : decode cX7_comeThrough 36 = .ok (.lreturn, 1) := by decide +kernel
theorem dX7_comesThrough_0 : decode cX7_comesThrough 0 = .ok (.iload_n 1, 1) := by decide +kernel
theorem dX7_comesThrough_1 : decode cX7_comesThrough 1 = .ok (.istore_n 3, 1) := by decide +kernel
theorem dX7_comesThrough_2 : decode cX7_comesThrough 2 = .ok (.iconst 0, 1) := by decide +kernel
theorem dX7_comesThrough_3 : decode cX7_comesThrough 3 = .ok (.istore 4, 2) := by decide +kernel
theorem dX7_comesThrough_5 : decode cX7_comesThrough 5 = .ok (.iload 4, 2) := by decide +kernel
theorem dX7_comesThrough_7 : decode cX7_comesThrough 7 = .ok (.bipush 36, 2) := by decide +kernel
theorem dX7_comesThrough_9 : decode cX7_comesThrough 9 = .ok (.if_icmp .ge 29, 3) := by decide +kernel
theorem dX7_comesThrough_12 : decode cX7_comesThrough 12 = .ok (.iload_n 3, 1) := by decide +kernel
theorem dX7_comesThrough_13 : decode cX7_comesThrough 13 = .ok (.iload_n 2, 1) := by decide +kernel
theorem dX7_comesThrough_14 : decode cX7_comesThrough 14 = .ok (.if_icmp .eq 24, 3) := by decide +kernel
theorem dX7_comesThrough_17 : decode cX7_comesThrough 17 = .ok (.aload_n 0, 1) := by decide +kernel
theorem dX7_comesThrough_18 : decode cX7_comesThrough 18 = .ok (.iload_n 3, 1) := by decide +kernel
theorem dX7_comesThrough_19 : decode cX7_comesThrough 19 = .ok (.invokevirtual 42, 3) := by decide +kernel
theorem dX7_comesThrough_22 : decode cX7_comesThrough 22 = .ok (.ifCond .ne 16, 3) := by decide +kernel
theorem dX7_comesThrough_25 : decode cX7_comesThrough 25 = .ok (.aload_n 0, 1) := by decide +kernel
theorem dX7_comesThrough_26 : decode cX7_comesThrough 26 = .ok (.getfield 15, 3) := by decide +kernel
theorem dX7_comesThrough_29 : decode cX7_comesThrough 29 = .ok (.iload_n 3, 1) := by decide +kernel
theorem dX7_comesThrough_30 : decode cX7_comesThrough 30 = .ok (.iaload, 1) := by decide +kernel
theorem dX7_comesThrough_31 : decode cX7_comesThrough 31 = .ok (.istore_n 3, 1) := by decide +kernel
theorem dX7_comesThrough_32 : decode cX7_comesThrough 32 = .ok (.iinc 4 1, 3) := by decide +kernel
theorem dX7_comesThrough_35 : decode cX7_comesThrough 35 = .ok (.goto (-30), 3) := by decide +kernel
theorem dX7_comesThrough_38 : decode cX7_comesThrough 38 = .ok (.iload_n 3, 1) := by decide +kernel
theorem dX7_comesThrough_39 : decode cX7_comesThrough 39 = .ok (.iload_n 2, 1) := by decide +kernel
theorem dX7_comesThrough_40 : decode cX7_comesThrough 40 = .ok (.if_icmp .ne 7, 3) := by decide +kernel
theorem dX7_comesThrough_43 : decode cX7_comesThrough 43 = .ok (.iconst 1, 1) := by decide +kernel
theorem dX7_comesThrough_44 : decode cX7_comesThrough 44 = .ok (.goto 4, 3) := by decide +kernel
theorem dX7_comesThrough_47 : decode cX7_comesThrough 47 = .ok (.iconst 0, 1) := by decide +kernel
theorem dX7_comesThrough_48 : decode cX7_comesThrough 48 = .ok (.ireturn, 1) := by decide +kernel
theorem dX7_steers_0 : decode cX7_steers 0 = .ok (.aload_n 0, 1) := by decide +kernel
theorem dX7_steers_1 : decode cX7_steers 1 = .ok (.iload_n 1, 1) := by decide +kernel
theorem dX7_steers_2 : decode cX7_steers 2 = .ok (.invokevirtual 42, 3) := by decide +kernel
theorem dX7_steers_5 : decode cX7_steers 5 = .ok (.ifCond .ne 16, 3) := by decide +kernel
theorem dX7_steers_8 : decode cX7_steers 8 = .ok (.aload_n 0, 1) := by decide +kernel
theorem dX7_steers_9 : decode cX7_steers 9 = .ok (.iload_n 1, 1) := by decide +kernel
theorem dX7_steers_10 : decode cX7_steers 10 = .ok (.iload_n 2, 1) := by decide +kernel
theorem dX7_steers_11 : decode cX7_steers 11 = .ok (.invokevirtual 46, 3) := by decide +kernel
theorem dX7_steers_14 : decode cX7_steers 14 = .ok (.ifCond .eq 7, 3) := by decide +kernel
theorem dX7_steers_17 : decode cX7_steers 17 = .ok (.iconst 1, 1) := by decide +kernel
theorem dX7_steers_18 : decode cX7_steers 18 = .ok (.goto 4, 3) := by decide +kernel
theorem dX7_steers_21 : decode cX7_steers 21 = .ok (.iconst 0, 1) := by decide +kernel
theorem dX7_steers_22 : decode cX7_steers 22 = .ok (.ireturn, 1) := by decide +kernel
theorem dX8_init_0 : decode cX8_init 0 = .ok (.aload_n 0, 1) := by decide +kernel
theorem dX8_init_1 : decode cX8_init 1 = .ok (.invokespecial 3, 3) := by decide +kernel
theorem dX8_init_4 : decode cX8_init 4 = .ok (.aload_n 0, 1) := by decide +kernel
theorem dX8_init_5 : decode cX8_init 5 = .ok (.new 9, 3) := by decide +kernel
theorem dX8_init_8 : decode cX8_init 8 = .ok (.dup, 1) := by decide +kernel
theorem dX8_init_9 : decode cX8_init 9 = .ok (.invokespecial 11, 3) := by decide +kernel
theorem dX8_init_12 : decode cX8_init 12 = .ok (.putfield 12, 3) := by decide +kernel
theorem dX8_init_15 : decode cX8_init 15 = .ok (.aload_n 0, 1) := by decide +kernel
theorem dX8_init_16 : decode cX8_init 16 = .ok (.new 9, 3) := by decide +kernel
theorem dX8_init_19 : decode cX8_init 19 = .ok (.dup, 1) := by decide +kernel
theorem dX8_init_20 : decode cX8_init 20 = .ok (.invokespecial 11, 3) := by decide +kernel
theorem dX8_init_23 : decode cX8_init 23 = .ok (.putfield 18, 3) := by decide +kernel
theorem dX8_init_26 : decode cX8_init 26 = .ok (.aload_n 0, 1) := by decide +kernel
theorem dX8_init_27 : decode cX8_init 27 = .ok (.iconst 0, 1) := by decide +kernel
theorem dX8_init_28 : decode cX8_init 28 = .ok (.putfield 21, 3) := by decide +kernel
theorem dX8_init_31 : decode cX8_init 31 = .ok (.aload_n 0, 1) := by decide +kernel
theorem dX8_init_32 : decode cX8_init 32 = .ok (.iconst 0, 1) := by decide +kernel
theorem dX8_init_33 : decode cX8_init 33 = .ok (.putfield 25, 3) := by decide +kernel
theorem dX8_init_36 : decode cX8_init 36 = .ok (.aload_n 0, 1) := by decide +kernel
theorem dX8_init_37 : decode cX8_init 37 = .ok (.iconst 0, 1) := by decide +kernel
theorem dX8_init_38 : decode cX8_init 38 = .ok (.putfield 28, 3) := by decide +kernel
theorem dX8_init_41 : decode cX8_init 41 = .ok (.aload_n 0, 1) := by decide +kernel
theorem dX8_init_42 : decode cX8_init 42 = .ok (.iconst 0, 1) := by decide +kernel
theorem dX8_init_43 : decode cX8_init 43 = .ok (.putfield 31, 3) := by decide +kernel
theorem dX8_init_46 : decode cX8_init 46 = .ok (.aload_n 0, 1) := by decide +kernel
theorem dX8_init_47 : decode cX8_init 47 = .ok (.iconst 0, 1) := by decide +kernel
theorem dX8_init_48 : decode cX8_init 48 = .ok (.putfield 34, 3) := by decide +kernel
theorem dX8_init_51 : decode cX8_init 51 = .ok (.aload_n 0, 1) := by decide +kernel
theorem dX8_init_52 : decode cX8_init 52 = .ok (.bipush 6, 2) := by decide +kernel
theorem dX8_init_54 : decode cX8_init 54 = .ok (.putfield 37, 3) := by decide +kernel
theorem dX8_init_57 : decode cX8_init 57 = .ok (.return_, 1) := by decide +kernel
theorem dX8_play_0 : decode cX8_play 0 = .ok (.aload_n 0, 1) := by decide +kernel
theorem dX8_play_1 : decode cX8_play 1 = .ok (.iload_n 2, 1) := by decide +kernel
theorem dX8_play_2 : decode cX8_play 2 = .ok (.putfield 21, 3) := by decide +kernel
theorem dX8_play_5 : decode cX8_play 5 = .ok (.aload_n 0, 1) := by decide +kernel
theorem dX8_play_6 : decode cX8_play 6 = .ok (.iload_n 3, 1) := by decide +kernel
theorem dX8_play_7 : decode cX8_play 7 = .ok (.putfield 25, 3) := by decide +kernel
theorem dX8_play_10 : decode cX8_play 10 = .ok (.aload_n 0, 1) := by decide +kernel
theorem dX8_play_11 : decode cX8_play 11 = .ok (.iload 4, 2) := by decide +kernel
theorem dX8_play_13 : decode cX8_play 13 = .ok (.putfield 28, 3) := by decide +kernel
theorem dX8_play_16 : decode cX8_play 16 = .ok (.aload_n 0, 1) := by decide +kernel
theorem dX8_play_17 : decode cX8_play 17 = .ok (.iload 5, 2) := by decide +kernel
theorem dX8_play_19 : decode cX8_play 19 = .ok (.putfield 31, 3) := by decide +kernel
theorem dX8_play_22 : decode cX8_play 22 = .ok (.aload_n 0, 1) := by decide +kernel
theorem dX8_play_23 : decode cX8_play 23 = .ok (.iload 6, 2) := by decide +kernel
theorem dX8_play_25 : decode cX8_play 25 = .ok (.putfield 34, 3) := by decide +kernel
theorem dX8_play_28 : decode cX8_play 28 = .ok (.aload_n 0, 1) := by decide +kernel
theorem dX8_play_29 : decode cX8_play 29 = .ok (.getfield 12, 3) := by decide +kernel
theorem dX8_play_32 : decode cX8_play 32 = .ok (.aload_n 1, 1) := by decide +kernel
theorem dX8_play_33 : decode cX8_play 33 = .ok (.getfield 40, 3) := by decide +kernel
theorem dX8_play_36 : decode cX8_play 36 = .ok (.aload_n 1, 1) := by decide +kernel
theorem dX8_play_37 : decode cX8_play 37 = .ok (.getfield 45, 3) := by decide +kernel
theorem dX8_play_40 : decode cX8_play 40 = .ok (.getfield 49, 3) := by decide +kernel
theorem dX8_play_43 : decode cX8_play 43 = .ok (.invokevirtual 54, 3) := by decide +kernel
theorem dX8_play_46 : decode cX8_play 46 = .ok (.aload_n 0, 1) := by decide +kernel
theorem dX8_play_47 : decode cX8_play 47 = .ok (.aload_n 1, 1) := by decide +kernel
theorem dX8_play_48 : decode cX8_play 48 = .ok (.iconst 0, 1) := by decide +kernel
theorem dX8_play_49 : decode cX8_play 49 = .ok (.invokevirtual 58, 3) := by decide +kernel
theorem dX8_play_52 : decode cX8_play 52 = .ok (.ireturn, 1) := by decide +kernel
theorem dX8_bestFrom_0 : decode cX8_bestFrom 0 = .ok (.iload_n 2, 1) := by decide +kernel
theorem dX8_bestFrom_1 : decode cX8_bestFrom 1 = .ok (.aload_n 0, 1) := by decide +kernel
theorem dX8_bestFrom_2 : decode cX8_bestFrom 2 = .ok (.getfield 31, 3) := by decide +kernel
theorem dX8_bestFrom_5 : decode cX8_bestFrom 5 = .ok (.if_icmp .ge 8, 3) := by decide +kernel
theorem dX8_bestFrom_8 : decode cX8_bestFrom 8 = .ok (.iload_n 2, 1) := by decide +kernel
theorem dX8_bestFrom_9 : decode cX8_bestFrom 9 = .ok (.iconst 3, 1) := by decide +kernel
theorem dX8_bestFrom_10 : decode cX8_bestFrom 10 = .ok (.if_icmp .lt 9, 3) := by decide +kernel
theorem dX8_bestFrom_13 : decode cX8_bestFrom 13 = .ok (.aload_n 0, 1) := by decide +kernel
theorem dX8_bestFrom_14 : decode cX8_bestFrom 14 = .ok (.aload_n 1, 1) := by decide +kernel
theorem dX8_bestFrom_15 : decode cX8_bestFrom 15 = .ok (.invokevirtual 62, 3) := by decide +kernel
theorem dX8_bestFrom_18 : decode cX8_bestFrom 18 = .ok (.ireturn, 1) := by decide +kernel
theorem dX8_bestFrom_19 : decode cX8_bestFrom 19 = .ok (.aload_n 0, 1) := by decide +kernel
theorem dX8_bestFrom_20 : decode cX8_bestFrom 20 = .ok (.aload_n 1, 1) := by decide +kernel
theorem dX8_bestFrom_21 : decode cX8_bestFrom 21 = .ok (.iload_n 2, 1) := by decide +kernel
theorem dX8_bestFrom_22 : decode cX8_bestFrom 22 = .ok (.iconst 1, 1) := by decide +kernel
theorem dX8_bestFrom_23 : decode cX8_bestFrom 23 = .ok (.iadd, 1) := by decide +kernel
theorem dX8_bestFrom_24 : decode cX8_bestFrom 24 = .ok (.invokevirtual 58, 3) := by decide +kernel
theorem dX8_bestFrom_27 : decode cX8_bestFrom 27 = .ok (.istore_n 3, 1) := by decide +kernel
theorem dX8_bestFrom_28 : decode cX8_bestFrom 28 = .ok (.bipush 6, 2) := by decide +kernel
theorem dX8_bestFrom_30 : decode cX8_bestFrom 30 = .ok (.istore 4, 2) := by decide +kernel
theorem dX8_bestFrom_32 : decode cX8_bestFrom 32 = .ok (.iconst 0, 1) := by decide +kernel
theorem dX8_bestFrom_33 : decode cX8_bestFrom 33 = .ok (.istore 5, 2) := by decide +kernel
theorem dX8_bestFrom_35 : decode cX8_bestFrom 35 = .ok (.iload 5, 2) := by decide +kernel
theorem dX8_bestFrom_37 : decode cX8_bestFrom 37 = .ok (.bipush 6, 2) := by decide +kernel
theorem dX8_bestFrom_39 : decode cX8_bestFrom 39 = .ok (.if_icmp .ge 109, 3) := by decide +kernel
theorem dX8_bestFrom_42 : decode cX8_bestFrom 42 = .ok (.bipush 6, 2) := by decide +kernel
theorem dX8_bestFrom_44 : decode cX8_bestFrom 44 = .ok (.aload_n 0, 1) := by decide +kernel
theorem dX8_bestFrom_45 : decode cX8_bestFrom 45 = .ok (.getfield 28, 3) := by decide +kernel
theorem dX8_bestFrom_48 : decode cX8_bestFrom 48 = .ok (.imul, 1) := by decide +kernel
theorem dX8_bestFrom_49 : decode cX8_bestFrom 49 = .ok (.iload 5, 2) := by decide +kernel
theorem dX8_bestFrom_51 : decode cX8_bestFrom 51 = .ok (.iadd, 1) := by decide +kernel
theorem dX8_bestFrom_52 : decode cX8_bestFrom 52 = .ok (.istore 6, 2) := by decide +kernel
theorem dX8_bestFrom_54 : decode cX8_bestFrom 54 = .ok (.aload_n 0, 1) := by decide +kernel
theorem dX8_bestFrom_55 : decode cX8_bestFrom 55 = .ok (.aload_n 1, 1) := by decide +kernel
theorem dX8_bestFrom_56 : decode cX8_bestFrom 56 = .ok (.iload 6, 2) := by decide +kernel
theorem dX8_bestFrom_58 : decode cX8_bestFrom 58 = .ok (.invokevirtual 66, 3) := by decide +kernel
theorem dX8_bestFrom_61 : decode cX8_bestFrom 61 = .ok (.ifCond .eq 81, 3) := by decide +kernel
theorem dX8_bestFrom_64 : decode cX8_bestFrom 64 = .ok (.aload_n 0, 1) := by decide +kernel
theorem dX8_bestFrom_65 : decode cX8_bestFrom 65 = .ok (.getfield 12, 3) := by decide +kernel
theorem dX8_bestFrom_68 : decode cX8_bestFrom 68 = .ok (.getfield 70, 3) := by decide +kernel
theorem dX8_bestFrom_71 : decode cX8_bestFrom 71 = .ok (.iload 6, 2) := by decide +kernel
theorem dX8_bestFrom_73 : decode cX8_bestFrom 73 = .ok (.iaload, 1) := by decide +kernel
theorem dX8_bestFrom_74 : decode cX8_bestFrom 74 = .ok (.istore 7, 2) := by decide +kernel
theorem dX8_bestFrom_76 : decode cX8_bestFrom 76 = .ok (.aload_n 0, 1) := by decide +kernel
theorem dX8_bestFrom_77 : decode cX8_bestFrom 77 = .ok (.getfield 12, 3) := by decide +kernel
theorem dX8_bestFrom_80 : decode cX8_bestFrom 80 = .ok (.getfield 70, 3) := by decide +kernel
theorem dX8_bestFrom_83 : decode cX8_bestFrom 83 = .ok (.iload 6, 2) := by decide +kernel
theorem dX8_bestFrom_85 : decode cX8_bestFrom 85 = .ok (.iload 7, 2) := by decide +kernel
theorem dX8_bestFrom_87 : decode cX8_bestFrom 87 = .ok (.iconst 1, 1) := by decide +kernel
theorem dX8_bestFrom_88 : decode cX8_bestFrom 88 = .ok (.iadd, 1) := by decide +kernel
theorem dX8_bestFrom_89 : decode cX8_bestFrom 89 = .ok (.iconst 3, 1) := by decide +kernel
theorem dX8_bestFrom_90 : decode cX8_bestFrom 90 = .ok (.irem, 1) := by decide +kernel
theorem dX8_bestFrom_91 : decode cX8_bestFrom 91 = .ok (.iastore, 1) := by decide +kernel
theorem dX8_bestFrom_92 : decode cX8_bestFrom 92 = .ok (.aload_n 0, 1) := by decide +kernel
theorem dX8_bestFrom_93 : decode cX8_bestFrom 93 = .ok (.aload_n 1, 1) := by decide +kernel
theorem dX8_bestFrom_94 : decode cX8_bestFrom 94 = .ok (.iload_n 2, 1) := by decide +kernel
theorem dX8_bestFrom_95 : decode cX8_bestFrom 95 = .ok (.iconst 1, 1) := by decide +kernel
theorem dX8_bestFrom_96 : decode cX8_bestFrom 96 = .ok (.iadd, 1) := by decide +kernel
theorem dX8_bestFrom_97 : decode cX8_bestFrom 97 = .ok (.invokevirtual 58, 3) := by decide +kernel
theorem dX8_bestFrom_100 : decode cX8_bestFrom 100 = .ok (.istore 8, 2) := by decide +kernel
theorem dX8_bestFrom_102 : decode cX8_bestFrom 102 = .ok (.aload_n 0, 1) := by decide +kernel
theorem dX8_bestFrom_103 : decode cX8_bestFrom 103 = .ok (.getfield 12, 3) := by decide +kernel
theorem dX8_bestFrom_106 : decode cX8_bestFrom 106 = .ok (.getfield 70, 3) := by decide +kernel
theorem dX8_bestFrom_109 : decode cX8_bestFrom 109 = .ok (.iload 6, 2) := by decide +kernel
theorem dX8_bestFrom_111 : decode cX8_bestFrom 111 = .ok (.iload 7, 2) := by decide +kernel
theorem dX8_bestFrom_113 : decode cX8_bestFrom 113 = .ok (.iastore, 1) := by decide +kernel
theorem dX8_bestFrom_114 : decode cX8_bestFrom 114 = .ok (.iload_n 2, 1) := by decide +kernel
theorem dX8_bestFrom_115 : decode cX8_bestFrom 115 = .ok (.iconst 2, 1) := by decide +kernel
theorem dX8_bestFrom_116 : decode cX8_bestFrom 116 = .ok (.irem, 1) := by decide +kernel
theorem dX8_bestFrom_117 : decode cX8_bestFrom 117 = .ok (.ifCond .ne 12, 3) := by decide +kernel
theorem dX8_bestFrom_120 : decode cX8_bestFrom 120 = .ok (.iload 8, 2) := by decide +kernel
theorem dX8_bestFrom_122 : decode cX8_bestFrom 122 = .ok (.iload_n 3, 1) := by decide +kernel
theorem dX8_bestFrom_123 : decode cX8_bestFrom 123 = .ok (.if_icmp .le 19, 3) := by decide +kernel
theorem dX8_bestFrom_126 : decode cX8_bestFrom 126 = .ok (.goto 9, 3) := by decide +kernel
theorem dX8_bestFrom_129 : decode cX8_bestFrom 129 = .ok (.iload 8, 2) := by decide +kernel
theorem dX8_bestFrom_131 : decode cX8_bestFrom 131 = .ok (.iload_n 3, 1) := by decide +kernel
theorem dX8_bestFrom_132 : decode cX8_bestFrom 132 = .ok (.if_icmp .ge 10, 3) := by decide +kernel
theorem dX8_bestFrom_135 : decode cX8_bestFrom 135 = .ok (.iload 8, 2) := by decide +kernel
theorem dX8_bestFrom_137 : decode cX8_bestFrom 137 = .ok (.istore_n 3, 1) := by decide +kernel
theorem dX8_bestFrom_138 : decode cX8_bestFrom 138 = .ok (.iload 5, 2) := by decide +kernel
theorem dX8_bestFrom_140 : decode cX8_bestFrom 140 = .ok (.istore 4, 2) := by decide +kernel
theorem dX8_bestFrom_142 : decode cX8_bestFrom 142 = .ok (.iinc 5 1, 3) := by decide +kernel
theorem dX8_bestFrom_145 : decode cX8_bestFrom 145 = .ok (.goto (-110), 3) := by decide +kernel
theorem dX8_bestFrom_148 : decode cX8_bestFrom 148 = .ok (.iload_n 2, 1) := by decide +kernel
theorem dX8_bestFrom_149 : decode cX8_bestFrom 149 = .ok (.ifCond .ne 9, 3) := by decide +kernel
theorem dX8_bestFrom_152 : decode cX8_bestFrom 152 = .ok (.aload_n 0, 1) := by decide +kernel
theorem dX8_bestFrom_153 : decode cX8_bestFrom 153 = .ok (.iload 4, 2) := by decide +kernel
theorem dX8_bestFrom_155 : decode cX8_bestFrom 155 = .ok (.putfield 37, 3) := by decide +kernel
theorem dX8_bestFrom_158 : decode cX8_bestFrom 158 = .ok (.iload_n 3, 1) := by decide +kernel
theorem dX8_bestFrom_159 : decode cX8_bestFrom 159 = .ok (.ireturn, 1) := by decide +kernel
theorem dX8_matters_0 : decode cX8_matters 0 = .ok (.aload_n 1, 1) := by decide +kernel
theorem dX8_matters_1 : decode cX8_matters 1 = .ok (.getfield 45, 3) := by decide +kernel
theorem dX8_matters_4 : decode cX8_matters 4 = .ok (.iload_n 2, 1) := by decide +kernel
theorem dX8_matters_5 : decode cX8_matters 5 = .ok (.aload_n 0, 1) := by decide +kernel
theorem dX8_matters_6 : decode cX8_matters 6 = .ok (.getfield 12, 3) := by decide +kernel
theorem dX8_matters_9 : decode cX8_matters 9 = .ok (.getfield 74, 3) := by decide +kernel
theorem dX8_matters_12 : decode cX8_matters 12 = .ok (.aload_n 0, 1) := by decide +kernel
theorem dX8_matters_13 : decode cX8_matters 13 = .ok (.getfield 21, 3) := by decide +kernel
theorem dX8_matters_16 : decode cX8_matters 16 = .ok (.iaload, 1) := by decide +kernel
theorem dX8_matters_17 : decode cX8_matters 17 = .ok (.invokevirtual 77, 3) := by decide +kernel
theorem dX8_matters_20 : decode cX8_matters 20 = .ok (.ifCond .ne 26, 3) := by decide +kernel
theorem dX8_matters_23 : decode cX8_matters 23 = .ok (.aload_n 1, 1) := by decide +kernel
theorem dX8_matters_24 : decode cX8_matters 24 = .ok (.getfield 45, 3) := by decide +kernel
theorem dX8_matters_27 : decode cX8_matters 27 = .ok (.iload_n 2, 1) := by decide +kernel
theorem dX8_matters_28 : decode cX8_matters 28 = .ok (.aload_n 0, 1) := by decide +kernel
theorem dX8_matters_29 : decode cX8_matters 29 = .ok (.getfield 12, 3) := by decide +kernel
theorem dX8_matters_32 : decode cX8_matters 32 = .ok (.getfield 74, 3) := by decide +kernel
theorem dX8_matters_35 : decode cX8_matters 35 = .ok (.aload_n 0, 1) := by decide +kernel
theorem dX8_matters_36 : decode cX8_matters 36 = .ok (.getfield 25, 3) := by decide +kernel
theorem dX8_matters_39 : decode cX8_matters 39 = .ok (.iaload, 1) := by decide +kernel
theorem dX8_matters_40 : decode cX8_matters 40 = .ok (.invokevirtual 77, 3) := by decide +kernel
theorem dX8_matters_43 : decode cX8_matters 43 = .ok (.ifCond .eq 7, 3) := by decide +kernel
theorem dX8_matters_46 : decode cX8_matters 46 = .ok (.iconst 1, 1) := by decide +kernel
theorem dX8_matters_47 : decode cX8_matters 47 = .ok (.goto 4, 3) := by decide +kernel
theorem dX8_matters_50 : decode cX8_matters 50 = .ok (.iconst 0, 1) := by decide +kernel
theorem dX8_matters_51 : decode cX8_matters 51 = .ok (.ireturn, 1) := by decide +kernel
theorem dX8_difference_0 : decode cX8_difference 0 = .ok (.aload_n 0, 1) := by decide +kernel
theorem dX8_difference_1 : decode cX8_difference 1 = .ok (.getfield 18, 3) := by decide +kernel
theorem dX8_difference_4 : decode cX8_difference 4 = .ok (.aload_n 0, 1) := by decide +kernel
theorem dX8_difference_5 : decode cX8_difference 5 = .ok (.getfield 12, 3) := by decide +kernel
theorem dX8_difference_8 : decode cX8_difference 8 = .ok (.aload_n 1, 1) := by decide +kernel
theorem dX8_difference_9 : decode cX8_difference 9 = .ok (.getfield 45, 3) := by decide +kernel
theorem dX8_difference_12 : decode cX8_difference 12 = .ok (.getfield 49, 3) := by decide +kernel
theorem dX8_difference_15 : decode cX8_difference 15 = .ok (.invokevirtual 54, 3) := by decide +kernel
theorem dX8_difference_18 : decode cX8_difference 18 = .ok (.iconst 0, 1) := by decide +kernel
theorem dX8_difference_19 : decode cX8_difference 19 = .ok (.istore_n 2, 1) := by decide +kernel
theorem dX8_difference_20 : decode cX8_difference 20 = .ok (.iload_n 2, 1) := by decide +kernel
theorem dX8_difference_21 : decode cX8_difference 21 = .ok (.aload_n 0, 1) := by decide +kernel
theorem dX8_difference_22 : decode cX8_difference 22 = .ok (.getfield 34, 3) := by decide +kernel
theorem dX8_difference_25 : decode cX8_difference 25 = .ok (.if_icmp .ge 24, 3) := by decide +kernel
theorem dX8_difference_28 : decode cX8_difference 28 = .ok (.aload_n 0, 1) := by decide +kernel
theorem dX8_difference_29 : decode cX8_difference 29 = .ok (.getfield 18, 3) := by decide +kernel
theorem dX8_difference_32 : decode cX8_difference 32 = .ok (.aload_n 1, 1) := by decide +kernel
theorem dX8_difference_33 : decode cX8_difference 33 = .ok (.getfield 45, 3) := by decide +kernel
theorem dX8_difference_36 : decode cX8_difference 36 = .ok (.aload_n 1, 1) := by decide +kernel
theorem dX8_difference_37 : decode cX8_difference 37 = .ok (.getfield 81, 3) := by decide +kernel
theorem dX8_difference_40 : decode cX8_difference 40 = .ok (.invokevirtual 85, 3) := by decide +kernel
theorem dX8_difference_43 : decode cX8_difference 43 = .ok (.iinc 2 1, 3) := by decide +kernel
theorem dX8_difference_46 : decode cX8_difference 46 = .ok (.goto (-26), 3) := by decide +kernel
theorem dX8_difference_49 : decode cX8_difference 49 = .ok (.aload_n 0, 1) := by decide +kernel
theorem dX8_difference_50 : decode cX8_difference 50 = .ok (.getfield 18, 3) := by decide +kernel
theorem dX8_difference_53 : decode cX8_difference 53 = .ok (.getfield 89, 3) := by decide +kernel
theorem dX8_difference_56 : decode cX8_difference 56 = .ok (.aload_n 0, 1) := by decide +kernel
theorem dX8_difference_57 : decode cX8_difference 57 = .ok (.getfield 21, 3) := by decide +kernel
theorem dX8_difference_60 : decode cX8_difference 60 = .ok (.iaload, 1) := by decide +kernel
theorem dX8_difference_61 : decode cX8_difference 61 = .ok (.aload_n 0, 1) := by decide +kernel
theorem dX8_difference_62 : decode cX8_difference 62 = .ok (.getfield 18, 3) := by decide +kernel
theorem dX8_difference_65 : decode cX8_difference 65 = .ok (.getfield 89, 3) := by decide +kernel
theorem dX8_difference_68 : decode cX8_difference 68 = .ok (.aload_n 0, 1) := by decide +kernel
theorem dX8_difference_69 : decode cX8_difference 69 = .ok (.getfield 25, 3) := by decide +kernel
theorem dX8_difference_72 : decode cX8_difference 72 = .ok (.iaload, 1) := by decide +kernel
theorem dX8_difference_73 : decode cX8_difference 73 = .ok (.isub, 1) := by decide +kernel
theorem dX8_difference_74 : decode cX8_difference 74 = .ok (.ireturn, 1) := by decide +kernel
theorem dX9_init_0 : decode cX9_init 0 = .ok (.aload_n 0, 1) := by decide +kernel
theorem dX9_init_1 : decode cX9_init 1 = .ok (.invokespecial 3, 3) := by decide +kernel
theorem dX9_init_4 : decode cX9_init 4 = .ok (.aload_n 0, 1) := by decide +kernel
theorem dX9_init_5 : decode cX9_init 5 = .ok (.new 9, 3) := by decide +kernel
theorem dX9_init_8 : decode cX9_init 8 = .ok (.dup, 1) := by decide +kernel
theorem dX9_init_9 : decode cX9_init 9 = .ok (.invokespecial 11, 3) := by decide +kernel
theorem dX9_init_12 : decode cX9_init 12 = .ok (.putfield 12, 3) := by decide +kernel
theorem dX9_init_15 : decode cX9_init 15 = .ok (.aload_n 0, 1) := by decide +kernel
theorem dX9_init_16 : decode cX9_init 16 = .ok (.new 18, 3) := by decide +kernel
theorem dX9_init_19 : decode cX9_init 19 = .ok (.dup, 1) := by decide +kernel
theorem dX9_init_20 : decode cX9_init 20 = .ok (.invokespecial 20, 3) := by decide +kernel
theorem dX9_init_23 : decode cX9_init 23 = .ok (.putfield 21, 3) := by decide +kernel
theorem dX9_init_26 : decode cX9_init 26 = .ok (.aload_n 0, 1) := by decide +kernel
theorem dX9_init_27 : decode cX9_init 27 = .ok (.new 25, 3) := by decide +kernel
theorem dX9_init_30 : decode cX9_init 30 = .ok (.dup, 1) := by decide +kernel
theorem dX9_init_31 : decode cX9_init 31 = .ok (.invokespecial 27, 3) := by decide +kernel
theorem dX9_init_34 : decode cX9_init 34 = .ok (.putfield 28, 3) := by decide +kernel
theorem dX9_init_37 : decode cX9_init 37 = .ok (.return_, 1) := by decide +kernel
theorem dX9_isPerson_0 : decode cX9_isPerson 0 = .ok (.iload_n 1, 1) := by decide +kernel
theorem dX9_isPerson_1 : decode cX9_isPerson 1 = .ok (.ifCond .lt 18, 3) := by decide +kernel
theorem dX9_isPerson_4 : decode cX9_isPerson 4 = .ok (.iload_n 1, 1) := by decide +kernel
theorem dX9_isPerson_5 : decode cX9_isPerson 5 = .ok (.aload_n 0, 1) := by decide +kernel
theorem dX9_isPerson_6 : decode cX9_isPerson 6 = .ok (.getfield 12, 3) := by decide +kernel
theorem dX9_isPerson_9 : decode cX9_isPerson 9 = .ok (.getfield 32, 3) := by decide +kernel
theorem dX9_isPerson_12 : decode cX9_isPerson 12 = .ok (.if_icmp .ge 7, 3) := by decide +kernel
theorem dX9_isPerson_15 : decode cX9_isPerson 15 = .ok (.iconst 1, 1) := by decide +kernel
theorem dX9_isPerson_16 : decode cX9_isPerson 16 = .ok (.goto 4, 3) := by decide +kernel
theorem dX9_isPerson_19 : decode cX9_isPerson 19 = .ok (.iconst 0, 1) := by decide +kernel
theorem dX9_isPerson_20 : decode cX9_isPerson 20 = .ok (.ireturn, 1) := by decide +kernel
theorem dX9_isCrowded_0 : decode cX9_isCrowded 0 = .ok (.aload_n 0, 1) := by decide +kernel
theorem dX9_isCrowded_1 : decode cX9_isCrowded 1 = .ok (.getfield 12, 3) := by decide +kernel
theorem dX9_isCrowded_4 : decode cX9_isCrowded 4 = .ok (.getfield 32, 3) := by decide +kernel
theorem dX9_isCrowded_7 : decode cX9_isCrowded 7 = .ok (.bipush 8, 2) := by decide +kernel
theorem dX9_isCrowded_9 : decode cX9_isCrowded 9 = .ok (.if_icmp .lt 7, 3) := by decide +kernel
theorem dX9_isCrowded_12 : decode cX9_isCrowded 12 = .ok (.iconst 1, 1) := by decide +kernel
theorem dX9_isCrowded_13 : decode cX9_isCrowded 13 = .ok (.goto 4, 3) := by decide +kernel
theorem dX9_isCrowded_16 : decode cX9_isCrowded 16 = .ok (.iconst 0, 1) := by decide +kernel
theorem dX9_isCrowded_17 : decode cX9_isCrowded 17 = .ok (.ireturn, 1) := by decide +kernel
theorem dX9_seated_0 : decode cX9_seated 0 = .ok (.aload_n 0, 1) := by decide +kernel
theorem dX9_seated_1 : decode cX9_seated 1 = .ok (.getfield 12, 3) := by decide +kernel
theorem dX9_seated_4 : decode cX9_seated 4 = .ok (.getfield 32, 3) := by decide +kernel
theorem dX9_seated_7 : decode cX9_seated 7 = .ok (.istore 4, 2) := by decide +kernel
theorem dX9_seated_9 : decode cX9_seated 9 = .ok (.aload_n 0, 1) := by decide +kernel
theorem dX9_seated_10 : decode cX9_seated 10 = .ok (.getfield 12, 3) := by decide +kernel
theorem dX9_seated_13 : decode cX9_seated 13 = .ok (.getfield 36, 3) := by decide +kernel
theorem dX9_seated_16 : decode cX9_seated 16 = .ok (.iload 4, 2) := by decide +kernel
theorem dX9_seated_18 : decode cX9_seated 18 = .ok (.iload_n 2, 1) := by decide +kernel
theorem dX9_seated_19 : decode cX9_seated 19 = .ok (.iastore, 1) := by decide +kernel
theorem dX9_seated_20 : decode cX9_seated 20 = .ok (.aload_n 0, 1) := by decide +kernel
theorem dX9_seated_21 : decode cX9_seated 21 = .ok (.getfield 12, 3) := by decide +kernel
theorem dX9_seated_24 : decode cX9_seated 24 = .ok (.getfield 40, 3) := by decide +kernel
theorem dX9_seated_27 : decode cX9_seated 27 = .ok (.iload 4, 2) := by decide +kernel
theorem dX9_seated_29 : decode cX9_seated 29 = .ok (.iload_n 3, 1) := by decide +kernel
theorem dX9_seated_30 : decode cX9_seated 30 = .ok (.iastore, 1) := by decide +kernel
theorem dX9_seated_31 : decode cX9_seated 31 = .ok (.aload_n 0, 1) := by decide +kernel
theorem dX9_seated_32 : decode cX9_seated 32 = .ok (.getfield 21, 3) := by decide +kernel
theorem dX9_seated_35 : decode cX9_seated 35 = .ok (.getfield 43, 3) := by decide +kernel
theorem dX9_seated_38 : decode cX9_seated 38 = .ok (.iload 4, 2) := by decide +kernel
theorem dX9_seated_40 : decode cX9_seated 40 = .ok (.iload_n 1, 1) := by decide +kernel
theorem dX9_seated_41 : decode cX9_seated 41 = .ok (.iastore, 1) := by decide +kernel
theorem dX9_seated_42 : decode cX9_seated 42 = .ok (.aload_n 0, 1) := by decide +kernel
theorem dX9_seated_43 : decode cX9_seated 43 = .ok (.getfield 12, 3) := by decide +kernel
theorem dX9_seated_46 : decode cX9_seated 46 = .ok (.dup, 1) := by decide +kernel
theorem dX9_seated_47 : decode cX9_seated 47 = .ok (.getfield 32, 3) := by decide +kernel
theorem dX9_seated_50 : decode cX9_seated 50 = .ok (.iconst 1, 1) := by decide +kernel
theorem dX9_seated_51 : decode cX9_seated 51 = .ok (.iadd, 1) := by decide +kernel
theorem dX9_seated_52 : decode cX9_seated 52 = .ok (.putfield 32, 3) := by decide +kernel
theorem dX9_seated_55 : decode cX9_seated 55 = .ok (.iload 4, 2) := by decide +kernel
theorem dX9_seated_57 : decode cX9_seated 57 = .ok (.ireturn, 1) := by decide +kernel
theorem dX9_admits_0 : decode cX9_admits 0 = .ok (.aload_n 1, 1) := by decide +kernel
theorem dX9_admits_1 : decode cX9_admits 1 = .ok (.iload_n 2, 1) := by decide +kernel
theorem dX9_admits_2 : decode cX9_admits 2 = .ok (.laload, 1) := by decide +kernel
theorem dX9_admits_3 : decode cX9_admits 3 = .ok (.l2i, 1) := by decide +kernel
theorem dX9_admits_4 : decode cX9_admits 4 = .ok (.istore_n 3, 1) := by decide +kernel
theorem dX9_admits_5 : decode cX9_admits 5 = .ok (.aload_n 1, 1) := by decide +kernel
theorem dX9_admits_6 : decode cX9_admits 6 = .ok (.iload_n 2, 1) := by decide +kernel
theorem dX9_admits_7 : decode cX9_admits 7 = .ok (.iconst 1, 1) := by decide +kernel
theorem dX9_admits_8 : decode cX9_admits 8 = .ok (.iadd, 1) := by decide +kernel
theorem dX9_admits_9 : decode cX9_admits 9 = .ok (.laload, 1) := by decide +kernel
theorem dX9_admits_10 : decode cX9_admits 10 = .ok (.l2i, 1) := by decide +kernel
theorem dX9_admits_11 : decode cX9_admits 11 = .ok (.istore 4, 2) := by decide +kernel
theorem dX9_admits_13 : decode cX9_admits 13 = .ok (.aload_n 1, 1) := by decide +kernel
theorem dX9_admits_14 : decode cX9_admits 14 = .ok (.iload_n 2, 1) := by decide +kernel
theorem dX9_admits_15 : decode cX9_admits 15 = .ok (.iconst 2, 1) := by decide +kernel
theorem dX9_admits_16 : decode cX9_admits 16 = .ok (.iadd, 1) := by decide +kernel
theorem dX9_admits_17 : decode cX9_admits 17 = .ok (.laload, 1) := by decide +kernel
theorem dX9_admits_18 : decode cX9_admits 18 = .ok (.l2i, 1) := by decide +kernel
theorem dX9_admits_19 : decode cX9_admits 19 = .ok (.istore 5, 2) := by decide +kernel
theorem dX9_admits_21 : decode cX9_admits 21 = .ok (.aload_n 0, 1) := by decide +kernel
theorem dX9_admits_22 : decode cX9_admits 22 = .ok (.invokevirtual 46, 3) := by decide +kernel
theorem dX9_admits_25 : decode cX9_admits 25 = .ok (.ifCond .ne 28, 3) := by decide +kernel
theorem dX9_admits_28 : decode cX9_admits 28 = .ok (.iload_n 3, 1) := by decide +kernel
theorem dX9_admits_29 : decode cX9_admits 29 = .ok (.invokestatic 50, 3) := by decide +kernel
theorem dX9_admits_32 : decode cX9_admits 32 = .ok (.ifCond .eq 21, 3) := by decide +kernel
theorem dX9_admits_35 : decode cX9_admits 35 = .ok (.iload 4, 2) := by decide +kernel
theorem dX9_admits_37 : decode cX9_admits 37 = .ok (.iconst 4, 1) := by decide +kernel
theorem dX9_admits_38 : decode cX9_admits 38 = .ok (.invokestatic 54, 3) := by decide +kernel
theorem dX9_admits_41 : decode cX9_admits 41 = .ok (.ifCond .eq 12, 3) := by decide +kernel
theorem dX9_admits_44 : decode cX9_admits 44 = .ok (.iload 5, 2) := by decide +kernel
theorem dX9_admits_46 : decode cX9_admits 46 = .ok (.iconst 5, 1) := by decide +kernel
theorem dX9_admits_47 : decode cX9_admits 47 = .ok (.invokestatic 54, 3) := by decide +kernel
theorem dX9_admits_50 : decode cX9_admits 50 = .ok (.ifCond .ne 5, 3) := by decide +kernel
theorem dX9_admits_53 : decode cX9_admits 53 = .ok (.iconst 0, 1) := by decide +kernel
theorem dX9_admits_54 : decode cX9_admits 54 = .ok (.ireturn, 1) := by decide +kernel
theorem dX9_admits_55 : decode cX9_admits 55 = .ok (.aload_n 0, 1) := by decide +kernel
theorem dX9_admits_56 : decode cX9_admits 56 = .ok (.iload_n 3, 1) := by decide +kernel
theorem dX9_admits_57 : decode cX9_admits 57 = .ok (.iload 4, 2) := by decide +kernel
theorem dX9_admits_59 : decode cX9_admits 59 = .ok (.iload 5, 2) := by decide +kernel
theorem dX9_admits_61 : decode cX9_admits 61 = .ok (.invokevirtual 58, 3) := by decide +kernel
theorem dX9_admits_64 : decode cX9_admits 64 = .ok (.pop, 1) := by decide +kernel
theorem dX9_admits_65 : decode cX9_admits 65 = .ok (.iconst 1, 1) := by decide +kernel
theorem dX9_admits_66 : decode cX9_admits 66 = .ok (.ireturn, 1) := by decide +kernel
theorem dX9_isWithin_0 : decode cX9_isWithin 0 = .ok (.iload_n 0, 1) := by decide +kernel
theorem dX9_isWithin_1 : decode cX9_isWithin 1 = .ok (.ifCond .lt 16, 3) := by decide +kernel
theorem dX9_isWithin_4 : decode cX9_isWithin 4 = .ok (.iload_n 0, 1) := by decide +kernel
theorem dX9_isWithin_5 : decode cX9_isWithin 5 = .ok (.getstatic 62, 3) := by decide +kernel
theorem dX9_isWithin_8 : decode cX9_isWithin 8 = .ok (.iload_n 1, 1) := by decide +kernel
theorem dX9_isWithin_9 : decode cX9_isWithin 9 = .ok (.iaload, 1) := by decide +kernel
theorem dX9_isWithin_10 : decode cX9_isWithin 10 = .ok (.if_icmp .gt 7, 3) := by decide +kernel
theorem dX9_isWithin_13 : decode cX9_isWithin 13 = .ok (.iconst 1, 1) := by decide +kernel
theorem dX9_isWithin_14 : decode cX9_isWithin 14 = .ok (.goto 4, 3) := by decide +kernel
theorem dX9_isWithin_17 : decode cX9_isWithin 17 = .ok (.iconst 0, 1) := by decide +kernel
theorem dX9_isWithin_18 : decode cX9_isWithin 18 = .ok (.ireturn, 1) := by decide +kernel
theorem dX9_isNumber_0 : decode cX9_isNumber 0 = .ok (.iload_n 2, 1) := by decide +kernel
theorem dX9_isNumber_1 : decode cX9_isNumber 1 = .ok (.ifCond .lt 9, 3) := by decide +kernel
theorem dX9_isNumber_4 : decode cX9_isNumber 4 = .ok (.iload_n 2, 1) := by decide +kernel
theorem dX9_isNumber_5 : decode cX9_isNumber 5 = .ok (.bipush 7, 2) := by decide +kernel
theorem dX9_isNumber_7 : decode cX9_isNumber 7 = .ok (.if_icmp .le 5, 3) := by decide +kernel
theorem dX9_isNumber_10 : decode cX9_isNumber 10 = .ok (.iconst 0, 1) := by decide +kernel
theorem dX9_isNumber_11 : decode cX9_isNumber 11 = .ok (.ireturn, 1) := by decide +kernel
theorem dX9_isNumber_12 : decode cX9_isNumber 12 = .ok (.iload_n 2, 1) := by decide +kernel
theorem dX9_isNumber_13 : decode cX9_isNumber 13 = .ok (.bipush 7, 2) := by decide +kernel
theorem dX9_isNumber_15 : decode cX9_isNumber 15 = .ok (.if_icmp .ne 13, 3) := by decide +kernel
theorem dX9_isNumber_18 : decode cX9_isNumber 18 = .ok (.iload_n 1, 1) := by decide +kernel
theorem dX9_isNumber_19 : decode cX9_isNumber 19 = .ok (.ifCond .ne 7, 3) := by decide +kernel
theorem dX9_isNumber_22 : decode cX9_isNumber 22 = .ok (.iconst 1, 1) := by decide +kernel
theorem dX9_isNumber_23 : decode cX9_isNumber 23 = .ok (.goto 4, 3) := by decide +kernel
theorem dX9_isNumber_26 : decode cX9_isNumber 26 = .ok (.iconst 0, 1) := by decide +kernel
theorem dX9_isNumber_27 : decode cX9_isNumber 27 = .ok (.ireturn, 1) := by decide +kernel
theorem dX9_isNumber_28 : decode cX9_isNumber 28 = .ok (.iload_n 2, 1) := by decide +kernel
theorem dX9_isNumber_29 : decode cX9_isNumber 29 = .ok (.iconst 3, 1) := by decide +kernel
theorem dX9_isNumber_30 : decode cX9_isNumber 30 = .ok (.if_icmp .lt 11, 3) := by decide +kernel
theorem dX9_isNumber_33 : decode cX9_isNumber 33 = .ok (.aload_n 0, 1) := by decide +kernel
theorem dX9_isNumber_34 : decode cX9_isNumber 34 = .ok (.iload_n 1, 1) := by decide +kernel
theorem dX9_isNumber_35 : decode cX9_isNumber 35 = .ok (.invokevirtual 65, 3) := by decide +kernel
theorem dX9_isNumber_38 : decode cX9_isNumber 38 = .ok (.goto 7, 3) := by decide +kernel
theorem dX9_isNumber_41 : decode cX9_isNumber 41 = .ok (.iload_n 1, 1) := by decide +kernel
theorem dX9_isNumber_42 : decode cX9_isNumber 42 = .ok (.invokestatic 50, 3) := by decide +kernel
theorem dX9_isNumber_45 : decode cX9_isNumber 45 = .ok (.ireturn, 1) := by decide +kernel
theorem dX9_told_0 : decode cX9_told 0 = .ok (.iload_n 2, 1) := by decide +kernel
theorem dX9_told_1 : decode cX9_told 1 = .ok (.tableswitch 113 0 6 #[43, 53, 63, 73, 83, 93, 103], 43) := by decide +kernel
theorem dX9_told_44 : decode cX9_told 44 = .ok (.aload_n 0, 1) := by decide +kernel
theorem dX9_told_45 : decode cX9_told 45 = .ok (.getfield 12, 3) := by decide +kernel
theorem dX9_told_48 : decode cX9_told 48 = .ok (.getfield 68, 3) := by decide +kernel
theorem dX9_told_51 : decode cX9_told 51 = .ok (.iload_n 1, 1) := by decide +kernel
theorem dX9_told_52 : decode cX9_told 52 = .ok (.iaload, 1) := by decide +kernel
theorem dX9_told_53 : decode cX9_told 53 = .ok (.ireturn, 1) := by decide +kernel
theorem dX9_told_54 : decode cX9_told 54 = .ok (.aload_n 0, 1) := by decide +kernel
theorem dX9_told_55 : decode cX9_told 55 = .ok (.getfield 21, 3) := by decide +kernel
theorem dX9_told_58 : decode cX9_told 58 = .ok (.getfield 71, 3) := by decide +kernel
theorem dX9_told_61 : decode cX9_told 61 = .ok (.iload_n 1, 1) := by decide +kernel
theorem dX9_told_62 : decode cX9_told 62 = .ok (.iaload, 1) := by decide +kernel
theorem dX9_told_63 : decode cX9_told 63 = .ok (.ireturn, 1) := by decide +kernel
theorem dX9_told_64 : decode cX9_told 64 = .ok (.aload_n 0, 1) := by decide +kernel
theorem dX9_told_65 : decode cX9_told 65 = .ok (.getfield 21, 3) := by decide +kernel
theorem dX9_told_68 : decode cX9_told 68 = .ok (.getfield 74, 3) := by decide +kernel
theorem dX9_told_71 : decode cX9_told 71 = .ok (.iload_n 1, 1) := by decide +kernel
theorem dX9_told_72 : decode cX9_told 72 = .ok (.iaload, 1) := by decide +kernel
theorem dX9_told_73 : decode cX9_told 73 = .ok (.ireturn, 1) := by decide +kernel
theorem dX9_told_74 : decode cX9_told 74 = .ok (.aload_n 0, 1) := by decide +kernel
theorem dX9_told_75 : decode cX9_told 75 = .ok (.getfield 21, 3) := by decide +kernel
theorem dX9_told_78 : decode cX9_told 78 = .ok (.getfield 43, 3) := by decide +kernel
theorem dX9_told_81 : decode cX9_told 81 = .ok (.iload_n 1, 1) := by decide +kernel
theorem dX9_told_82 : decode cX9_told 82 = .ok (.iaload, 1) := by decide +kernel
theorem dX9_told_83 : decode cX9_told 83 = .ok (.ireturn, 1) := by decide +kernel
theorem dX9_told_84 : decode cX9_told 84 = .ok (.aload_n 0, 1) := by decide +kernel
theorem dX9_told_85 : decode cX9_told 85 = .ok (.getfield 12, 3) := by decide +kernel
theorem dX9_told_88 : decode cX9_told 88 = .ok (.getfield 36, 3) := by decide +kernel
theorem dX9_told_91 : decode cX9_told 91 = .ok (.iload_n 1, 1) := by decide +kernel
theorem dX9_told_92 : decode cX9_told 92 = .ok (.iaload, 1) := by decide +kernel
theorem dX9_told_93 : decode cX9_told 93 = .ok (.ireturn, 1) := by decide +kernel
theorem dX9_told_94 : decode cX9_told 94 = .ok (.aload_n 0, 1) := by decide +kernel
theorem dX9_told_95 : decode cX9_told 95 = .ok (.getfield 12, 3) := by decide +kernel
theorem dX9_told_98 : decode cX9_told 98 = .ok (.getfield 40, 3) := by decide +kernel
theorem dX9_told_101 : decode cX9_told 101 = .ok (.iload_n 1, 1) := by decide +kernel
theorem dX9_told_102 : decode cX9_told 102 = .ok (.iaload, 1) := by decide +kernel
theorem dX9_told_103 : decode cX9_told 103 = .ok (.ireturn, 1) := by decide +kernel
theorem dX9_told_104 : decode cX9_told 104 = .ok (.aload_n 0, 1) := by decide +kernel
theorem dX9_told_105 : decode cX9_told 105 = .ok (.getfield 21, 3) := by decide +kernel
theorem dX9_told_108 : decode cX9_told 108 = .ok (.getfield 77, 3) := by decide +kernel
theorem dX9_told_111 : decode cX9_told 111 = .ok (.iload_n 1, 1) := by decide +kernel
theorem dX9_told_112 : decode cX9_told 112 = .ok (.iaload, 1) := by decide +kernel
theorem dX9_told_113 : decode cX9_told 113 = .ok (.ireturn, 1) := by decide +kernel
theorem dX9_told_114 : decode cX9_told 114 = .ok (.aload_n 0, 1) := by decide +kernel
theorem dX9_told_115 : decode cX9_told 115 = .ok (.getfield 21, 3) := by decide +kernel
theorem dX9_told_118 : decode cX9_told 118 = .ok (.getfield 80, 3) := by decide +kernel
theorem dX9_told_121 : decode cX9_told 121 = .ok (.ireturn, 1) := by decide +kernel
theorem dX9_tell_0 : decode cX9_tell 0 = .ok (.iload_n 2, 1) := by decide +kernel
theorem dX9_tell_1 : decode cX9_tell 1 = .ok (.tableswitch 133 0 6 #[43, 55, 68, 81, 94, 107, 120], 43) := by decide +kernel
theorem dX9_tell_44 : decode cX9_tell 44 = .ok (.aload_n 0, 1) := by decide +kernel
theorem dX9_tell_45 : decode cX9_tell 45 = .ok (.getfield 12, 3) := by decide +kernel
theorem dX9_tell_48 : decode cX9_tell 48 = .ok (.iload_n 1, 1) := by decide +kernel
theorem dX9_tell_49 : decode cX9_tell 49 = .ok (.iload_n 3, 1) := by decide +kernel
theorem dX9_tell_50 : decode cX9_tell 50 = .ok (.invokevirtual 83, 3) := by decide +kernel
theorem dX9_tell_53 : decode cX9_tell 53 = .ok (.goto 89, 3) := by decide +kernel
theorem dX9_tell_56 : decode cX9_tell 56 = .ok (.aload_n 0, 1) := by decide +kernel
theorem dX9_tell_57 : decode cX9_tell 57 = .ok (.getfield 21, 3) := by decide +kernel
theorem dX9_tell_60 : decode cX9_tell 60 = .ok (.getfield 71, 3) := by decide +kernel
theorem dX9_tell_63 : decode cX9_tell 63 = .ok (.iload_n 1, 1) := by decide +kernel
theorem dX9_tell_64 : decode cX9_tell 64 = .ok (.iload_n 3, 1) := by decide +kernel
theorem dX9_tell_65 : decode cX9_tell 65 = .ok (.iastore, 1) := by decide +kernel
theorem dX9_tell_66 : decode cX9_tell 66 = .ok (.goto 76, 3) := by decide +kernel
theorem dX9_tell_69 : decode cX9_tell 69 = .ok (.aload_n 0, 1) := by decide +kernel
theorem dX9_tell_70 : decode cX9_tell 70 = .ok (.getfield 21, 3) := by decide +kernel
theorem dX9_tell_73 : decode cX9_tell 73 = .ok (.getfield 74, 3) := by decide +kernel
theorem dX9_tell_76 : decode cX9_tell 76 = .ok (.iload_n 1, 1) := by decide +kernel
theorem dX9_tell_77 : decode cX9_tell 77 = .ok (.iload_n 3, 1) := by decide +kernel
theorem dX9_tell_78 : decode cX9_tell 78 = .ok (.iastore, 1) := by decide +kernel
theorem dX9_tell_79 : decode cX9_tell 79 = .ok (.goto 63, 3) := by decide +kernel
theorem dX9_tell_82 : decode cX9_tell 82 = .ok (.aload_n 0, 1) := by decide +kernel
theorem dX9_tell_83 : decode cX9_tell 83 = .ok (.getfield 21, 3) := by decide +kernel
theorem dX9_tell_86 : decode cX9_tell 86 = .ok (.getfield 43, 3) := by decide +kernel
theorem dX9_tell_89 : decode cX9_tell 89 = .ok (.iload_n 1, 1) := by decide +kernel
theorem dX9_tell_90 : decode cX9_tell 90 = .ok (.iload_n 3, 1) := by decide +kernel
theorem dX9_tell_91 : decode cX9_tell 91 = .ok (.iastore, 1) := by decide +kernel
theorem dX9_tell_92 : decode cX9_tell 92 = .ok (.goto 50, 3) := by decide +kernel
theorem dX9_tell_95 : decode cX9_tell 95 = .ok (.aload_n 0, 1) := by decide +kernel
theorem dX9_tell_96 : decode cX9_tell 96 = .ok (.getfield 12, 3) := by decide +kernel
theorem dX9_tell_99 : decode cX9_tell 99 = .ok (.getfield 36, 3) := by decide +kernel
theorem dX9_tell_102 : decode cX9_tell 102 = .ok (.iload_n 1, 1) := by decide +kernel
theorem dX9_tell_103 : decode cX9_tell 103 = .ok (.iload_n 3, 1) := by decide +kernel
theorem dX9_tell_104 : decode cX9_tell 104 = .ok (.iastore, 1) := by decide +kernel
theorem dX9_tell_105 : decode cX9_tell 105 = .ok (.goto 37, 3) := by decide +kernel
theorem dX9_tell_108 : decode cX9_tell 108 = .ok (.aload_n 0, 1) := by decide +kernel
theorem dX9_tell_109 : decode cX9_tell 109 = .ok (.getfield 12, 3) := by decide +kernel
theorem dX9_tell_112 : decode cX9_tell 112 = .ok (.getfield 40, 3) := by decide +kernel
theorem dX9_tell_115 : decode cX9_tell 115 = .ok (.iload_n 1, 1) := by decide +kernel
theorem dX9_tell_116 : decode cX9_tell 116 = .ok (.iload_n 3, 1) := by decide +kernel
theorem dX9_tell_117 : decode cX9_tell 117 = .ok (.iastore, 1) := by decide +kernel
theorem dX9_tell_118 : decode cX9_tell 118 = .ok (.goto 24, 3) := by decide +kernel
theorem dX9_tell_121 : decode cX9_tell 121 = .ok (.aload_n 0, 1) := by decide +kernel
theorem dX9_tell_122 : decode cX9_tell 122 = .ok (.getfield 21, 3) := by decide +kernel
theorem dX9_tell_125 : decode cX9_tell 125 = .ok (.getfield 77, 3) := by decide +kernel
theorem dX9_tell_128 : decode cX9_tell 128 = .ok (.iload_n 1, 1) := by decide +kernel
theorem dX9_tell_129 : decode cX9_tell 129 = .ok (.iload_n 3, 1) := by decide +kernel
theorem dX9_tell_130 : decode cX9_tell 130 = .ok (.iastore, 1) := by decide +kernel
theorem dX9_tell_131 : decode cX9_tell 131 = .ok (.goto 11, 3) := by decide +kernel
theorem dX9_tell_134 : decode cX9_tell 134 = .ok (.aload_n 0, 1) := by decide +kernel
theorem dX9_tell_135 : decode cX9_tell 135 = .ok (.getfield 21, 3) := by decide +kernel
theorem dX9_tell_138 : decode cX9_tell 138 = .ok (.iload_n 3, 1) := by decide +kernel
theorem dX9_tell_139 : decode cX9_tell 139 = .ok (.putfield 80, 3) := by decide +kernel
theorem dX9_tell_142 : decode cX9_tell 142 = .ok (.return_, 1) := by decide +kernel
theorem dX10_init_0 : decode cX10_init 0 = .ok (.aload_n 0, 1) := by decide +kernel
theorem dX10_init_1 : decode cX10_init 1 = .ok (.invokespecial 1, 3) := by decide +kernel
theorem dX10_init_4 : decode cX10_init 4 = .ok (.aload_n 0, 1) := by decide +kernel
theorem dX10_init_5 : decode cX10_init 5 = .ok (.new 7, 3) := by decide +kernel
theorem dX10_init_8 : decode cX10_init 8 = .ok (.dup, 1) := by decide +kernel
theorem dX10_init_9 : decode cX10_init 9 = .ok (.invokespecial 9, 3) := by decide +kernel
theorem dX10_init_12 : decode cX10_init 12 = .ok (.putfield 10, 3) := by decide +kernel
theorem dX10_init_15 : decode cX10_init 15 = .ok (.aload_n 0, 1) := by decide +kernel
theorem dX10_init_16 : decode cX10_init 16 = .ok (.new 16, 3) := by decide +kernel
theorem dX10_init_19 : decode cX10_init 19 = .ok (.dup, 1) := by decide +kernel
theorem dX10_init_20 : decode cX10_init 20 = .ok (.invokespecial 18, 3) := by decide +kernel
theorem dX10_init_23 : decode cX10_init 23 = .ok (.putfield 19, 3) := by decide +kernel
theorem dX10_init_26 : decode cX10_init 26 = .ok (.aload_n 0, 1) := by decide +kernel
theorem dX10_init_27 : decode cX10_init 27 = .ok (.new 23, 3) := by decide +kernel
theorem dX10_init_30 : decode cX10_init 30 = .ok (.dup, 1) := by decide +kernel
theorem dX10_init_31 : decode cX10_init 31 = .ok (.invokespecial 25, 3) := by decide +kernel
theorem dX10_init_34 : decode cX10_init 34 = .ok (.putfield 26, 3) := by decide +kernel
theorem dX10_init_37 : decode cX10_init 37 = .ok (.aload_n 0, 1) := by decide +kernel
theorem dX10_init_38 : decode cX10_init 38 = .ok (.new 30, 3) := by decide +kernel
theorem dX10_init_41 : decode cX10_init 41 = .ok (.dup, 1) := by decide +kernel
theorem dX10_init_42 : decode cX10_init 42 = .ok (.invokespecial 32, 3) := by decide +kernel
theorem dX10_init_45 : decode cX10_init 45 = .ok (.putfield 33, 3) := by decide +kernel
theorem dX10_init_48 : decode cX10_init 48 = .ok (.aload_n 0, 1) := by decide +kernel
theorem dX10_init_49 : decode cX10_init 49 = .ok (.new 37, 3) := by decide +kernel
theorem dX10_init_52 : decode cX10_init 52 = .ok (.dup, 1) := by decide +kernel
theorem dX10_init_53 : decode cX10_init 53 = .ok (.invokespecial 39, 3) := by decide +kernel
theorem dX10_init_56 : decode cX10_init 56 = .ok (.putfield 40, 3) := by decide +kernel
theorem dX10_init_59 : decode cX10_init 59 = .ok (.aload_n 0, 1) := by decide +kernel
theorem dX10_init_60 : decode cX10_init 60 = .ok (.new 44, 3) := by decide +kernel
theorem dX10_init_63 : decode cX10_init 63 = .ok (.dup, 1) := by decide +kernel
theorem dX10_init_64 : decode cX10_init 64 = .ok (.invokespecial 46, 3) := by decide +kernel
theorem dX10_init_67 : decode cX10_init 67 = .ok (.putfield 47, 3) := by decide +kernel
theorem dX10_init_70 : decode cX10_init 70 = .ok (.aload_n 0, 1) := by decide +kernel
theorem dX10_init_71 : decode cX10_init 71 = .ok (.new 51, 3) := by decide +kernel
theorem dX10_init_74 : decode cX10_init 74 = .ok (.dup, 1) := by decide +kernel
theorem dX10_init_75 : decode cX10_init 75 = .ok (.invokespecial 53, 3) := by decide +kernel
theorem dX10_init_78 : decode cX10_init 78 = .ok (.putfield 54, 3) := by decide +kernel
theorem dX10_init_81 : decode cX10_init 81 = .ok (.aload_n 0, 1) := by decide +kernel
theorem dX10_init_82 : decode cX10_init 82 = .ok (.iconst 5, 1) := by decide +kernel
theorem dX10_init_83 : decode cX10_init 83 = .ok (.newarray .int, 2) := by decide +kernel
theorem dX10_init_85 : decode cX10_init 85 = .ok (.putfield 58, 3) := by decide +kernel
theorem dX10_init_88 : decode cX10_init 88 = .ok (.aload_n 0, 1) := by decide +kernel
theorem dX10_init_89 : decode cX10_init 89 = .ok (.new 62, 3) := by decide +kernel
theorem dX10_init_92 : decode cX10_init 92 = .ok (.dup, 1) := by decide +kernel
theorem dX10_init_93 : decode cX10_init 93 = .ok (.invokespecial 64, 3) := by decide +kernel
theorem dX10_init_96 : decode cX10_init 96 = .ok (.putfield 65, 3) := by decide +kernel
theorem dX10_init_99 : decode cX10_init 99 = .ok (.aload_n 0, 1) := by decide +kernel
theorem dX10_init_100 : decode cX10_init 100 = .ok (.iconst 5, 1) := by decide +kernel
theorem dX10_init_101 : decode cX10_init 101 = .ok (.newarray .int, 2) := by decide +kernel
theorem dX10_init_103 : decode cX10_init 103 = .ok (.putfield 69, 3) := by decide +kernel
theorem dX10_init_106 : decode cX10_init 106 = .ok (.aload_n 0, 1) := by decide +kernel
theorem dX10_init_107 : decode cX10_init 107 = .ok (.iconst (-1), 1) := by decide +kernel
theorem dX10_init_108 : decode cX10_init 108 = .ok (.putfield 72, 3) := by decide +kernel
theorem dX10_init_111 : decode cX10_init 111 = .ok (.return_, 1) := by decide +kernel
theorem dX10_person_0 : decode cX10_person 0 = .ok (.iload_n 1, 1) := by decide +kernel
theorem dX10_person_1 : decode cX10_person 1 = .ok (.invokestatic 76, 3) := by decide +kernel
theorem dX10_person_4 : decode cX10_person 4 = .ok (.ifCond .ne 5, 3) := by decide +kernel
theorem dX10_person_7 : decode cX10_person 7 = .ok (.iconst (-1), 1) := by decide +kernel
theorem dX10_person_8 : decode cX10_person 8 = .ok (.ireturn, 1) := by decide +kernel
theorem dX10_person_9 : decode cX10_person 9 = .ok (.aload_n 0, 1) := by decide +kernel
theorem dX10_person_10 : decode cX10_person 10 = .ok (.getfield 10, 3) := by decide +kernel
theorem dX10_person_13 : decode cX10_person 13 = .ok (.invokevirtual 80, 3) := by decide +kernel
theorem dX10_person_16 : decode cX10_person 16 = .ok (.ifCond .eq 8, 3) := by decide +kernel
theorem dX10_person_19 : decode cX10_person 19 = .ok (.bipush (-3), 2) := by decide +kernel
theorem dX10_person_21 : decode cX10_person 21 = .ok (.goto 13, 3) := by decide +kernel
theorem dX10_person_24 : decode cX10_person 24 = .ok (.aload_n 0, 1) := by decide +kernel
theorem dX10_person_25 : decode cX10_person 25 = .ok (.getfield 10, 3) := by decide +kernel
theorem dX10_person_28 : decode cX10_person 28 = .ok (.iload_n 1, 1) := by decide +kernel
theorem dX10_person_29 : decode cX10_person 29 = .ok (.iconst 5, 1) := by decide +kernel
theorem dX10_person_30 : decode cX10_person 30 = .ok (.iconst 0, 1) := by decide +kernel
theorem dX10_person_31 : decode cX10_person 31 = .ok (.invokevirtual 84, 3) := by decide +kernel
theorem dX10_person_34 : decode cX10_person 34 = .ok (.ireturn, 1) := by decide +kernel
theorem dX10_people_0 : decode cX10_people 0 = .ok (.iload_n 1, 1) := by decide +kernel
theorem dX10_people_1 : decode cX10_people 1 = .ok (.invokestatic 88, 3) := by decide +kernel
theorem dX10_people_4 : decode cX10_people 4 = .ok (.ifCond .eq 14, 3) := by decide +kernel
theorem dX10_people_7 : decode cX10_people 7 = .ok (.iload_n 3, 1) := by decide +kernel
theorem dX10_people_8 : decode cX10_people 8 = .ok (.iconst 1, 1) := by decide +kernel
theorem dX10_people_9 : decode cX10_people 9 = .ok (.if_icmp .lt 9, 3) := by decide +kernel
theorem dX10_people_12 : decode cX10_people 12 = .ok (.iload_n 3, 1) := by decide +kernel
