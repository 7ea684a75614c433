/-! decode rows, printed by wip/gen/evid.py -/
theorem d_Ba_init_0 : decode m_Ba_init.2.1 0 = .ok (.aload_n 0, 1) := by decide +kernel
theorem d_Ba_init_1 : decode m_Ba_init.2.1 1 = .ok (.invokespecial 3, 3) := by decide +kernel
theorem d_Ba_init_4 : decode m_Ba_init.2.1 4 = .ok (.aload_n 0, 1) := by decide +kernel
theorem d_Ba_init_5 : decode m_Ba_init.2.1 5 = .ok (.iconst 3, 1) := by decide +kernel
theorem d_Ba_init_6 : decode m_Ba_init.2.1 6 = .ok (.newarray .int, 2) := by decide +kernel
theorem d_Ba_init_8 : decode m_Ba_init.2.1 8 = .ok (.putfield 9, 3) := by decide +kernel
theorem d_Ba_init_11 : decode m_Ba_init.2.1 11 = .ok (.aload_n 0, 1) := by decide +kernel
theorem d_Ba_init_12 : decode m_Ba_init.2.1 12 = .ok (.iconst 3, 1) := by decide +kernel
theorem d_Ba_init_13 : decode m_Ba_init.2.1 13 = .ok (.newarray .boolean, 2) := by decide +kernel
theorem d_Ba_init_15 : decode m_Ba_init.2.1 15 = .ok (.putfield 15, 3) := by decide +kernel
theorem d_Ba_init_18 : decode m_Ba_init.2.1 18 = .ok (.aload_n 0, 1) := by decide +kernel
theorem d_Ba_init_19 : decode m_Ba_init.2.1 19 = .ok (.iconst 0, 1) := by decide +kernel
theorem d_Ba_init_20 : decode m_Ba_init.2.1 20 = .ok (.putfield 19, 3) := by decide +kernel
theorem d_Ba_init_23 : decode m_Ba_init.2.1 23 = .ok (.return_, 1) := by decide +kernel
theorem d_Ba_put_0 : decode m_Ba_put.2.1 0 = .ok (.iconst 0, 1) := by decide +kernel
theorem d_Ba_put_1 : decode m_Ba_put.2.1 1 = .ok (.istore_n 3, 1) := by decide +kernel
theorem d_Ba_put_2 : decode m_Ba_put.2.1 2 = .ok (.iload_n 3, 1) := by decide +kernel
theorem d_Ba_put_3 : decode m_Ba_put.2.1 3 = .ok (.iconst 3, 1) := by decide +kernel
theorem d_Ba_put_4 : decode m_Ba_put.2.1 4 = .ok (.if_icmp .ge 31, 3) := by decide +kernel
theorem d_Ba_put_7 : decode m_Ba_put.2.1 7 = .ok (.iload_n 3, 1) := by decide +kernel
theorem d_Ba_put_8 : decode m_Ba_put.2.1 8 = .ok (.aload_n 1, 1) := by decide +kernel
theorem d_Ba_put_9 : decode m_Ba_put.2.1 9 = .ok (.arraylength, 1) := by decide +kernel
theorem d_Ba_put_10 : decode m_Ba_put.2.1 10 = .ok (.if_icmp .ge 25, 3) := by decide +kernel
theorem d_Ba_put_13 : decode m_Ba_put.2.1 13 = .ok (.aload_n 0, 1) := by decide +kernel
theorem d_Ba_put_14 : decode m_Ba_put.2.1 14 = .ok (.getfield 9, 3) := by decide +kernel
theorem d_Ba_put_17 : decode m_Ba_put.2.1 17 = .ok (.iload_n 3, 1) := by decide +kernel
theorem d_Ba_put_18 : decode m_Ba_put.2.1 18 = .ok (.aload_n 1, 1) := by decide +kernel
theorem d_Ba_put_19 : decode m_Ba_put.2.1 19 = .ok (.iload_n 3, 1) := by decide +kernel
theorem d_Ba_put_20 : decode m_Ba_put.2.1 20 = .ok (.iaload, 1) := by decide +kernel
theorem d_Ba_put_21 : decode m_Ba_put.2.1 21 = .ok (.iastore, 1) := by decide +kernel
theorem d_Ba_put_22 : decode m_Ba_put.2.1 22 = .ok (.aload_n 0, 1) := by decide +kernel
theorem d_Ba_put_23 : decode m_Ba_put.2.1 23 = .ok (.getfield 15, 3) := by decide +kernel
theorem d_Ba_put_26 : decode m_Ba_put.2.1 26 = .ok (.iload_n 3, 1) := by decide +kernel
theorem d_Ba_put_27 : decode m_Ba_put.2.1 27 = .ok (.iconst 0, 1) := by decide +kernel
theorem d_Ba_put_28 : decode m_Ba_put.2.1 28 = .ok (.bastore, 1) := by decide +kernel
theorem d_Ba_put_29 : decode m_Ba_put.2.1 29 = .ok (.iinc 3 1, 3) := by decide +kernel
theorem d_Ba_put_32 : decode m_Ba_put.2.1 32 = .ok (.goto (-30), 3) := by decide +kernel
theorem d_Ba_put_35 : decode m_Ba_put.2.1 35 = .ok (.aload_n 0, 1) := by decide +kernel
theorem d_Ba_put_36 : decode m_Ba_put.2.1 36 = .ok (.iload_n 2, 1) := by decide +kernel
theorem d_Ba_put_37 : decode m_Ba_put.2.1 37 = .ok (.putfield 19, 3) := by decide +kernel
theorem d_Ba_put_40 : decode m_Ba_put.2.1 40 = .ok (.return_, 1) := by decide +kernel
theorem d_Ba_holds_0 : decode m_Ba_holds.2.1 0 = .ok (.aload_n 0, 1) := by decide +kernel
theorem d_Ba_holds_1 : decode m_Ba_holds.2.1 1 = .ok (.getfield 19, 3) := by decide +kernel
theorem d_Ba_holds_4 : decode m_Ba_holds.2.1 4 = .ok (.ifCond .eq 16, 3) := by decide +kernel
theorem d_Ba_holds_7 : decode m_Ba_holds.2.1 7 = .ok (.aload_n 0, 1) := by decide +kernel
theorem d_Ba_holds_8 : decode m_Ba_holds.2.1 8 = .ok (.getfield 15, 3) := by decide +kernel
theorem d_Ba_holds_11 : decode m_Ba_holds.2.1 11 = .ok (.iload_n 1, 1) := by decide +kernel
theorem d_Ba_holds_12 : decode m_Ba_holds.2.1 12 = .ok (.baload, 1) := by decide +kernel
theorem d_Ba_holds_13 : decode m_Ba_holds.2.1 13 = .ok (.ifCond .eq 7, 3) := by decide +kernel
theorem d_Ba_holds_16 : decode m_Ba_holds.2.1 16 = .ok (.iconst 1, 1) := by decide +kernel
theorem d_Ba_holds_17 : decode m_Ba_holds.2.1 17 = .ok (.goto 4, 3) := by decide +kernel
theorem d_Ba_holds_20 : decode m_Ba_holds.2.1 20 = .ok (.iconst 0, 1) := by decide +kernel
theorem d_Ba_holds_21 : decode m_Ba_holds.2.1 21 = .ok (.ireturn, 1) := by decide +kernel
theorem d_Ba_isAtFront_0 : decode m_Ba_isAtFront.2.1 0 = .ok (.aload_n 0, 1) := by decide +kernel
theorem d_Ba_isAtFront_1 : decode m_Ba_isAtFront.2.1 1 = .ok (.getfield 19, 3) := by decide +kernel
theorem d_Ba_isAtFront_4 : decode m_Ba_isAtFront.2.1 4 = .ok (.ifCond .eq 26, 3) := by decide +kernel
theorem d_Ba_isAtFront_7 : decode m_Ba_isAtFront.2.1 7 = .ok (.aload_n 0, 1) := by decide +kernel
theorem d_Ba_isAtFront_8 : decode m_Ba_isAtFront.2.1 8 = .ok (.getfield 15, 3) := by decide +kernel
theorem d_Ba_isAtFront_11 : decode m_Ba_isAtFront.2.1 11 = .ok (.iload_n 1, 1) := by decide +kernel
theorem d_Ba_isAtFront_12 : decode m_Ba_isAtFront.2.1 12 = .ok (.baload, 1) := by decide +kernel
theorem d_Ba_isAtFront_13 : decode m_Ba_isAtFront.2.1 13 = .ok (.ifCond .ne 17, 3) := by decide +kernel
theorem d_Ba_isAtFront_16 : decode m_Ba_isAtFront.2.1 16 = .ok (.aload_n 0, 1) := by decide +kernel
theorem d_Ba_isAtFront_17 : decode m_Ba_isAtFront.2.1 17 = .ok (.getfield 9, 3) := by decide +kernel
theorem d_Ba_isAtFront_20 : decode m_Ba_isAtFront.2.1 20 = .ok (.iload_n 1, 1) := by decide +kernel
theorem d_Ba_isAtFront_21 : decode m_Ba_isAtFront.2.1 21 = .ok (.iaload, 1) := by decide +kernel
theorem d_Ba_isAtFront_22 : decode m_Ba_isAtFront.2.1 22 = .ok (.iload_n 2, 1) := by decide +kernel
theorem d_Ba_isAtFront_23 : decode m_Ba_isAtFront.2.1 23 = .ok (.if_icmp .ne 7, 3) := by decide +kernel
theorem d_Ba_isAtFront_26 : decode m_Ba_isAtFront.2.1 26 = .ok (.iconst 1, 1) := by decide +kernel
theorem d_Ba_isAtFront_27 : decode m_Ba_isAtFront.2.1 27 = .ok (.goto 4, 3) := by decide +kernel
theorem d_Ba_isAtFront_30 : decode m_Ba_isAtFront.2.1 30 = .ok (.iconst 0, 1) := by decide +kernel
theorem d_Ba_isAtFront_31 : decode m_Ba_isAtFront.2.1 31 = .ok (.ireturn, 1) := by decide +kernel
theorem d_Ba_takeOf_0 : decode m_Ba_takeOf.2.1 0 = .ok (.aload_n 0, 1) := by decide +kernel
theorem d_Ba_takeOf_1 : decode m_Ba_takeOf.2.1 1 = .ok (.getfield 15, 3) := by decide +kernel
theorem d_Ba_takeOf_4 : decode m_Ba_takeOf.2.1 4 = .ok (.iload_n 1, 1) := by decide +kernel
theorem d_Ba_takeOf_5 : decode m_Ba_takeOf.2.1 5 = .ok (.iconst 1, 1) := by decide +kernel
theorem d_Ba_takeOf_6 : decode m_Ba_takeOf.2.1 6 = .ok (.bastore, 1) := by decide +kernel
theorem d_Ba_takeOf_7 : decode m_Ba_takeOf.2.1 7 = .ok (.return_, 1) := by decide +kernel
theorem d_Ba_isTakenOfAll_0 : decode m_Ba_isTakenOfAll.2.1 0 = .ok (.iconst 0, 1) := by decide +kernel
theorem d_Ba_isTakenOfAll_1 : decode m_Ba_isTakenOfAll.2.1 1 = .ok (.istore_n 1, 1) := by decide +kernel
theorem d_Ba_isTakenOfAll_2 : decode m_Ba_isTakenOfAll.2.1 2 = .ok (.iload_n 1, 1) := by decide +kernel
theorem d_Ba_isTakenOfAll_3 : decode m_Ba_isTakenOfAll.2.1 3 = .ok (.iconst 3, 1) := by decide +kernel
theorem d_Ba_isTakenOfAll_4 : decode m_Ba_isTakenOfAll.2.1 4 = .ok (.if_icmp .ge 20, 3) := by decide +kernel
theorem d_Ba_isTakenOfAll_7 : decode m_Ba_isTakenOfAll.2.1 7 = .ok (.aload_n 0, 1) := by decide +kernel
theorem d_Ba_isTakenOfAll_8 : decode m_Ba_isTakenOfAll.2.1 8 = .ok (.getfield 15, 3) := by decide +kernel
theorem d_Ba_isTakenOfAll_11 : decode m_Ba_isTakenOfAll.2.1 11 = .ok (.iload_n 1, 1) := by decide +kernel
theorem d_Ba_isTakenOfAll_12 : decode m_Ba_isTakenOfAll.2.1 12 = .ok (.baload, 1) := by decide +kernel
theorem d_Ba_isTakenOfAll_13 : decode m_Ba_isTakenOfAll.2.1 13 = .ok (.ifCond .ne 5, 3) := by decide +kernel
theorem d_Ba_isTakenOfAll_16 : decode m_Ba_isTakenOfAll.2.1 16 = .ok (.iconst 0, 1) := by decide +kernel
theorem d_Ba_isTakenOfAll_17 : decode m_Ba_isTakenOfAll.2.1 17 = .ok (.ireturn, 1) := by decide +kernel
theorem d_Ba_isTakenOfAll_18 : decode m_Ba_isTakenOfAll.2.1 18 = .ok (.iinc 1 1, 3) := by decide +kernel
theorem d_Ba_isTakenOfAll_21 : decode m_Ba_isTakenOfAll.2.1 21 = .ok (.goto (-19), 3) := by decide +kernel
theorem d_Ba_isTakenOfAll_24 : decode m_Ba_isTakenOfAll.2.1 24 = .ok (.iconst 1, 1) := by decide +kernel
theorem d_Ba_isTakenOfAll_25 : decode m_Ba_isTakenOfAll.2.1 25 = .ok (.ireturn, 1) := by decide +kernel
theorem d_Ev_init_0 : decode m_Ev_init.2.1 0 = .ok (.aload_n 0, 1) := by decide +kernel
theorem d_Ev_init_1 : decode m_Ev_init.2.1 1 = .ok (.invokespecial 3, 3) := by decide +kernel
theorem d_Ev_init_4 : decode m_Ev_init.2.1 4 = .ok (.aload_n 0, 1) := by decide +kernel
theorem d_Ev_init_5 : decode m_Ev_init.2.1 5 = .ok (.iconst (-1), 1) := by decide +kernel
theorem d_Ev_init_6 : decode m_Ev_init.2.1 6 = .ok (.putfield 9, 3) := by decide +kernel
theorem d_Ev_init_9 : decode m_Ev_init.2.1 9 = .ok (.aload_n 0, 1) := by decide +kernel
theorem d_Ev_init_10 : decode m_Ev_init.2.1 10 = .ok (.iload_n 1, 1) := by decide +kernel
theorem d_Ev_init_11 : decode m_Ev_init.2.1 11 = .ok (.putfield 15, 3) := by decide +kernel
theorem d_Ev_init_14 : decode m_Ev_init.2.1 14 = .ok (.aload_n 0, 1) := by decide +kernel
theorem d_Ev_init_15 : decode m_Ev_init.2.1 15 = .ok (.iload_n 2, 1) := by decide +kernel
theorem d_Ev_init_16 : decode m_Ev_init.2.1 16 = .ok (.putfield 18, 3) := by decide +kernel
theorem d_Ev_init_19 : decode m_Ev_init.2.1 19 = .ok (.aload_n 0, 1) := by decide +kernel
theorem d_Ev_init_20 : decode m_Ev_init.2.1 20 = .ok (.iload_n 3, 1) := by decide +kernel
theorem d_Ev_init_21 : decode m_Ev_init.2.1 21 = .ok (.putfield 21, 3) := by decide +kernel
theorem d_Ev_init_24 : decode m_Ev_init.2.1 24 = .ok (.aload_n 0, 1) := by decide +kernel
theorem d_Ev_init_25 : decode m_Ev_init.2.1 25 = .ok (.iload 4, 2) := by decide +kernel
theorem d_Ev_init_27 : decode m_Ev_init.2.1 27 = .ok (.putfield 24, 3) := by decide +kernel
theorem d_Ev_init_30 : decode m_Ev_init.2.1 30 = .ok (.return_, 1) := by decide +kernel
theorem d_Ev_isLate_0 : decode m_Ev_isLate.2.1 0 = .ok (.aload_n 0, 1) := by decide +kernel
theorem d_Ev_isLate_1 : decode m_Ev_isLate.2.1 1 = .ok (.getfield 18, 3) := by decide +kernel
theorem d_Ev_isLate_4 : decode m_Ev_isLate.2.1 4 = .ok (.aload_n 0, 1) := by decide +kernel
theorem d_Ev_isLate_5 : decode m_Ev_isLate.2.1 5 = .ok (.getfield 9, 3) := by decide +kernel
theorem d_Ev_isLate_8 : decode m_Ev_isLate.2.1 8 = .ok (.if_icmp .ge 7, 3) := by decide +kernel
theorem d_Ev_isLate_11 : decode m_Ev_isLate.2.1 11 = .ok (.iconst 1, 1) := by decide +kernel
theorem d_Ev_isLate_12 : decode m_Ev_isLate.2.1 12 = .ok (.goto 4, 3) := by decide +kernel
theorem d_Ev_isLate_15 : decode m_Ev_isLate.2.1 15 = .ok (.iconst 0, 1) := by decide +kernel
theorem d_Ev_isLate_16 : decode m_Ev_isLate.2.1 16 = .ok (.ireturn, 1) := by decide +kernel
theorem d_Ev_isPairWith_0 : decode m_Ev_isPairWith.2.1 0 = .ok (.aload_n 0, 1) := by decide +kernel
theorem d_Ev_isPairWith_1 : decode m_Ev_isPairWith.2.1 1 = .ok (.getfield 15, 3) := by decide +kernel
theorem d_Ev_isPairWith_4 : decode m_Ev_isPairWith.2.1 4 = .ok (.aload_n 1, 1) := by decide +kernel
theorem d_Ev_isPairWith_5 : decode m_Ev_isPairWith.2.1 5 = .ok (.getfield 15, 3) := by decide +kernel
theorem d_Ev_isPairWith_8 : decode m_Ev_isPairWith.2.1 8 = .ok (.iadd, 1) := by decide +kernel
theorem d_Ev_isPairWith_9 : decode m_Ev_isPairWith.2.1 9 = .ok (.iconst 1, 1) := by decide +kernel
theorem d_Ev_isPairWith_10 : decode m_Ev_isPairWith.2.1 10 = .ok (.if_icmp .ne 7, 3) := by decide +kernel
theorem d_Ev_isPairWith_13 : decode m_Ev_isPairWith.2.1 13 = .ok (.iconst 1, 1) := by decide +kernel
theorem d_Ev_isPairWith_14 : decode m_Ev_isPairWith.2.1 14 = .ok (.goto 4, 3) := by decide +kernel
theorem d_Ev_isPairWith_17 : decode m_Ev_isPairWith.2.1 17 = .ok (.iconst 0, 1) := by decide +kernel
theorem d_Ev_isPairWith_18 : decode m_Ev_isPairWith.2.1 18 = .ok (.istore_n 3, 1) := by decide +kernel
theorem d_Ev_isPairWith_19 : decode m_Ev_isPairWith.2.1 19 = .ok (.aload_n 0, 1) := by decide +kernel
theorem d_Ev_isPairWith_20 : decode m_Ev_isPairWith.2.1 20 = .ok (.getfield 18, 3) := by decide +kernel
theorem d_Ev_isPairWith_23 : decode m_Ev_isPairWith.2.1 23 = .ok (.aload_n 1, 1) := by decide +kernel
theorem d_Ev_isPairWith_24 : decode m_Ev_isPairWith.2.1 24 = .ok (.getfield 18, 3) := by decide +kernel
theorem d_Ev_isPairWith_27 : decode m_Ev_isPairWith.2.1 27 = .ok (.if_icmp .ge 15, 3) := by decide +kernel
theorem d_Ev_isPairWith_30 : decode m_Ev_isPairWith.2.1 30 = .ok (.aload_n 1, 1) := by decide +kernel
theorem d_Ev_isPairWith_31 : decode m_Ev_isPairWith.2.1 31 = .ok (.getfield 18, 3) := by decide +kernel
theorem d_Ev_isPairWith_34 : decode m_Ev_isPairWith.2.1 34 = .ok (.aload_n 0, 1) := by decide +kernel
theorem d_Ev_isPairWith_35 : decode m_Ev_isPairWith.2.1 35 = .ok (.getfield 18, 3) := by decide +kernel
theorem d_Ev_isPairWith_38 : decode m_Ev_isPairWith.2.1 38 = .ok (.isub, 1) := by decide +kernel
theorem d_Ev_isPairWith_39 : decode m_Ev_isPairWith.2.1 39 = .ok (.goto 12, 3) := by decide +kernel
theorem d_Ev_isPairWith_42 : decode m_Ev_isPairWith.2.1 42 = .ok (.aload_n 0, 1) := by decide +kernel
theorem d_Ev_isPairWith_43 : decode m_Ev_isPairWith.2.1 43 = .ok (.getfield 18, 3) := by decide +kernel
theorem d_Ev_isPairWith_46 : decode m_Ev_isPairWith.2.1 46 = .ok (.aload_n 1, 1) := by decide +kernel
theorem d_Ev_isPairWith_47 : decode m_Ev_isPairWith.2.1 47 = .ok (.getfield 18, 3) := by decide +kernel
theorem d_Ev_isPairWith_50 : decode m_Ev_isPairWith.2.1 50 = .ok (.isub, 1) := by decide +kernel
theorem d_Ev_isPairWith_51 : decode m_Ev_isPairWith.2.1 51 = .ok (.istore 4, 2) := by decide +kernel
theorem d_Ev_isPairWith_53 : decode m_Ev_isPairWith.2.1 53 = .ok (.iload_n 3, 1) := by decide +kernel
theorem d_Ev_isPairWith_54 : decode m_Ev_isPairWith.2.1 54 = .ok (.ifCond .eq 38, 3) := by decide +kernel
theorem d_Ev_isPairWith_57 : decode m_Ev_isPairWith.2.1 57 = .ok (.aload_n 0, 1) := by decide +kernel
theorem d_Ev_isPairWith_58 : decode m_Ev_isPairWith.2.1 58 = .ok (.getfield 21, 3) := by decide +kernel
theorem d_Ev_isPairWith_61 : decode m_Ev_isPairWith.2.1 61 = .ok (.aload_n 1, 1) := by decide +kernel
theorem d_Ev_isPairWith_62 : decode m_Ev_isPairWith.2.1 62 = .ok (.getfield 21, 3) := by decide +kernel
theorem d_Ev_isPairWith_65 : decode m_Ev_isPairWith.2.1 65 = .ok (.if_icmp .ne 27, 3) := by decide +kernel
theorem d_Ev_isPairWith_68 : decode m_Ev_isPairWith.2.1 68 = .ok (.iload 4, 2) := by decide +kernel
theorem d_Ev_isPairWith_70 : decode m_Ev_isPairWith.2.1 70 = .ok (.iload_n 2, 1) := by decide +kernel
theorem d_Ev_isPairWith_71 : decode m_Ev_isPairWith.2.1 71 = .ok (.if_icmp .gt 21, 3) := by decide +kernel
theorem d_Ev_isPairWith_74 : decode m_Ev_isPairWith.2.1 74 = .ok (.aload_n 0, 1) := by decide +kernel
theorem d_Ev_isPairWith_75 : decode m_Ev_isPairWith.2.1 75 = .ok (.invokevirtual 27, 3) := by decide +kernel
theorem d_Ev_isPairWith_78 : decode m_Ev_isPairWith.2.1 78 = .ok (.ifCond .ne 14, 3) := by decide +kernel
theorem d_Ev_isPairWith_81 : decode m_Ev_isPairWith.2.1 81 = .ok (.aload_n 1, 1) := by decide +kernel
theorem d_Ev_isPairWith_82 : decode m_Ev_isPairWith.2.1 82 = .ok (.invokevirtual 27, 3) := by decide +kernel
theorem d_Ev_isPairWith_85 : decode m_Ev_isPairWith.2.1 85 = .ok (.ifCond .ne 7, 3) := by decide +kernel
theorem d_Ev_isPairWith_88 : decode m_Ev_isPairWith.2.1 88 = .ok (.iconst 1, 1) := by decide +kernel
theorem d_Ev_isPairWith_89 : decode m_Ev_isPairWith.2.1 89 = .ok (.goto 4, 3) := by decide +kernel
theorem d_Ev_isPairWith_92 : decode m_Ev_isPairWith.2.1 92 = .ok (.iconst 0, 1) := by decide +kernel
theorem d_Ev_isPairWith_93 : decode m_Ev_isPairWith.2.1 93 = .ok (.ireturn, 1) := by decide +kernel
theorem d_Hi_init_0 : decode m_Hi_init.2.1 0 = .ok (.aload_n 0, 1) := by decide +kernel
theorem d_Hi_init_1 : decode m_Hi_init.2.1 1 = .ok (.invokespecial 3, 3) := by decide +kernel
theorem d_Hi_init_4 : decode m_Hi_init.2.1 4 = .ok (.aload_n 0, 1) := by decide +kernel
theorem d_Hi_init_5 : decode m_Hi_init.2.1 5 = .ok (.new 9, 3) := by decide +kernel
theorem d_Hi_init_8 : decode m_Hi_init.2.1 8 = .ok (.dup, 1) := by decide +kernel
theorem d_Hi_init_9 : decode m_Hi_init.2.1 9 = .ok (.invokespecial 11, 3) := by decide +kernel
theorem d_Hi_init_12 : decode m_Hi_init.2.1 12 = .ok (.putfield 12, 3) := by decide +kernel
theorem d_Hi_init_15 : decode m_Hi_init.2.1 15 = .ok (.aload_n 0, 1) := by decide +kernel
theorem d_Hi_init_16 : decode m_Hi_init.2.1 16 = .ok (.iconst 0, 1) := by decide +kernel
theorem d_Hi_init_17 : decode m_Hi_init.2.1 17 = .ok (.putfield 18, 3) := by decide +kernel
theorem d_Hi_init_20 : decode m_Hi_init.2.1 20 = .ok (.aload_n 0, 1) := by decide +kernel
theorem d_Hi_init_21 : decode m_Hi_init.2.1 21 = .ok (.iconst (-1), 1) := by decide +kernel
theorem d_Hi_init_22 : decode m_Hi_init.2.1 22 = .ok (.putfield 22, 3) := by decide +kernel
theorem d_Hi_init_25 : decode m_Hi_init.2.1 25 = .ok (.aload_n 0, 1) := by decide +kernel
theorem d_Hi_init_26 : decode m_Hi_init.2.1 26 = .ok (.new 25, 3) := by decide +kernel
theorem d_Hi_init_29 : decode m_Hi_init.2.1 29 = .ok (.dup, 1) := by decide +kernel
theorem d_Hi_init_30 : decode m_Hi_init.2.1 30 = .ok (.invokespecial 27, 3) := by decide +kernel
theorem d_Hi_init_33 : decode m_Hi_init.2.1 33 = .ok (.putfield 28, 3) := by decide +kernel
theorem d_Hi_init_36 : decode m_Hi_init.2.1 36 = .ok (.return_, 1) := by decide +kernel
theorem d_Hi_cutTo_0 : decode m_Hi_cutTo.2.1 0 = .ok (.aload_n 0, 1) := by decide +kernel
theorem d_Hi_cutTo_1 : decode m_Hi_cutTo.2.1 1 = .ok (.getfield 12, 3) := by decide +kernel
theorem d_Hi_cutTo_4 : decode m_Hi_cutTo.2.1 4 = .ok (.invokevirtual 32, 3) := by decide +kernel
theorem d_Hi_cutTo_7 : decode m_Hi_cutTo.2.1 7 = .ok (.iconst 1, 1) := by decide +kernel
theorem d_Hi_cutTo_8 : decode m_Hi_cutTo.2.1 8 = .ok (.isub, 1) := by decide +kernel
theorem d_Hi_cutTo_9 : decode m_Hi_cutTo.2.1 9 = .ok (.istore_n 2, 1) := by decide +kernel
theorem d_Hi_cutTo_10 : decode m_Hi_cutTo.2.1 10 = .ok (.iload_n 2, 1) := by decide +kernel
theorem d_Hi_cutTo_11 : decode m_Hi_cutTo.2.1 11 = .ok (.iload_n 1, 1) := by decide +kernel
theorem d_Hi_cutTo_12 : decode m_Hi_cutTo.2.1 12 = .ok (.if_icmp .lt 18, 3) := by decide +kernel
theorem d_Hi_cutTo_15 : decode m_Hi_cutTo.2.1 15 = .ok (.aload_n 0, 1) := by decide +kernel
theorem d_Hi_cutTo_16 : decode m_Hi_cutTo.2.1 16 = .ok (.getfield 12, 3) := by decide +kernel
theorem d_Hi_cutTo_19 : decode m_Hi_cutTo.2.1 19 = .ok (.iload_n 2, 1) := by decide +kernel
theorem d_Hi_cutTo_20 : decode m_Hi_cutTo.2.1 20 = .ok (.invokevirtual 36, 3) := by decide +kernel
theorem d_Hi_cutTo_23 : decode m_Hi_cutTo.2.1 23 = .ok (.pop, 1) := by decide +kernel
theorem d_Hi_cutTo_24 : decode m_Hi_cutTo.2.1 24 = .ok (.iinc 2 (-1), 3) := by decide +kernel
theorem d_Hi_cutTo_27 : decode m_Hi_cutTo.2.1 27 = .ok (.goto (-17), 3) := by decide +kernel
theorem d_Hi_cutTo_30 : decode m_Hi_cutTo.2.1 30 = .ok (.return_, 1) := by decide +kernel
theorem d_Hi_countPairsOf_0 : decode m_Hi_countPairsOf.2.1 0 = .ok (.iconst 0, 1) := by decide +kernel
theorem d_Hi_countPairsOf_1 : decode m_Hi_countPairsOf.2.1 1 = .ok (.istore_n 3, 1) := by decide +kernel
theorem d_Hi_countPairsOf_2 : decode m_Hi_countPairsOf.2.1 2 = .ok (.iconst 0, 1) := by decide +kernel
theorem d_Hi_countPairsOf_3 : decode m_Hi_countPairsOf.2.1 3 = .ok (.istore 4, 2) := by decide +kernel
theorem d_Hi_countPairsOf_5 : decode m_Hi_countPairsOf.2.1 5 = .ok (.iload 4, 2) := by decide +kernel
theorem d_Hi_countPairsOf_7 : decode m_Hi_countPairsOf.2.1 7 = .ok (.aload_n 0, 1) := by decide +kernel
theorem d_Hi_countPairsOf_8 : decode m_Hi_countPairsOf.2.1 8 = .ok (.getfield 12, 3) := by decide +kernel
theorem d_Hi_countPairsOf_11 : decode m_Hi_countPairsOf.2.1 11 = .ok (.invokevirtual 32, 3) := by decide +kernel
theorem d_Hi_countPairsOf_14 : decode m_Hi_countPairsOf.2.1 14 = .ok (.if_icmp .ge 32, 3) := by decide +kernel
theorem d_Hi_countPairsOf_17 : decode m_Hi_countPairsOf.2.1 17 = .ok (.aload_n 0, 1) := by decide +kernel
theorem d_Hi_countPairsOf_18 : decode m_Hi_countPairsOf.2.1 18 = .ok (.getfield 12, 3) := by decide +kernel
theorem d_Hi_countPairsOf_21 : decode m_Hi_countPairsOf.2.1 21 = .ok (.iload 4, 2) := by decide +kernel
theorem d_Hi_countPairsOf_23 : decode m_Hi_countPairsOf.2.1 23 = .ok (.invokevirtual 40, 3) := by decide +kernel
theorem d_Hi_countPairsOf_26 : decode m_Hi_countPairsOf.2.1 26 = .ok (.checkcast 43, 3) := by decide +kernel
theorem d_Hi_countPairsOf_29 : decode m_Hi_countPairsOf.2.1 29 = .ok (.aload_n 1, 1) := by decide +kernel
theorem d_Hi_countPairsOf_30 : decode m_Hi_countPairsOf.2.1 30 = .ok (.iload_n 2, 1) := by decide +kernel
theorem d_Hi_countPairsOf_31 : decode m_Hi_countPairsOf.2.1 31 = .ok (.invokevirtual 45, 3) := by decide +kernel
theorem d_Hi_countPairsOf_34 : decode m_Hi_countPairsOf.2.1 34 = .ok (.ifCond .eq 6, 3) := by decide +kernel
theorem d_Hi_countPairsOf_37 : decode m_Hi_countPairsOf.2.1 37 = .ok (.iinc 3 1, 3) := by decide +kernel
theorem d_Hi_countPairsOf_40 : decode m_Hi_countPairsOf.2.1 40 = .ok (.iinc 4 1, 3) := by decide +kernel
theorem d_Hi_countPairsOf_43 : decode m_Hi_countPairsOf.2.1 43 = .ok (.goto (-38), 3) := by decide +kernel
theorem d_Hi_countPairsOf_46 : decode m_Hi_countPairsOf.2.1 46 = .ok (.iload_n 3, 1) := by decide +kernel
theorem d_Hi_countPairsOf_47 : decode m_Hi_countPairsOf.2.1 47 = .ok (.ireturn, 1) := by decide +kernel
theorem d_Hi_countPairs_0 : decode m_Hi_countPairs.2.1 0 = .ok (.iconst 0, 1) := by decide +kernel
theorem d_Hi_countPairs_1 : decode m_Hi_countPairs.2.1 1 = .ok (.istore_n 2, 1) := by decide +kernel
theorem d_Hi_countPairs_2 : decode m_Hi_countPairs.2.1 2 = .ok (.iconst 0, 1) := by decide +kernel
theorem d_Hi_countPairs_3 : decode m_Hi_countPairs.2.1 3 = .ok (.istore_n 3, 1) := by decide +kernel
theorem d_Hi_countPairs_4 : decode m_Hi_countPairs.2.1 4 = .ok (.iload_n 3, 1) := by decide +kernel
theorem d_Hi_countPairs_5 : decode m_Hi_countPairs.2.1 5 = .ok (.aload_n 0, 1) := by decide +kernel
theorem d_Hi_countPairs_6 : decode m_Hi_countPairs.2.1 6 = .ok (.getfield 12, 3) := by decide +kernel
theorem d_Hi_countPairs_9 : decode m_Hi_countPairs.2.1 9 = .ok (.invokevirtual 32, 3) := by decide +kernel
theorem d_Hi_countPairs_12 : decode m_Hi_countPairs.2.1 12 = .ok (.if_icmp .ge 57, 3) := by decide +kernel
theorem d_Hi_countPairs_15 : decode m_Hi_countPairs.2.1 15 = .ok (.iconst 0, 1) := by decide +kernel
theorem d_Hi_countPairs_16 : decode m_Hi_countPairs.2.1 16 = .ok (.istore 4, 2) := by decide +kernel
theorem d_Hi_countPairs_18 : decode m_Hi_countPairs.2.1 18 = .ok (.iload 4, 2) := by decide +kernel
theorem d_Hi_countPairs_20 : decode m_Hi_countPairs.2.1 20 = .ok (.iload_n 3, 1) := by decide +kernel
theorem d_Hi_countPairs_21 : decode m_Hi_countPairs.2.1 21 = .ok (.if_icmp .ge 42, 3) := by decide +kernel
theorem d_Hi_countPairs_24 : decode m_Hi_countPairs.2.1 24 = .ok (.aload_n 0, 1) := by decide +kernel
theorem d_Hi_countPairs_25 : decode m_Hi_countPairs.2.1 25 = .ok (.getfield 12, 3) := by decide +kernel
theorem d_Hi_countPairs_28 : decode m_Hi_countPairs.2.1 28 = .ok (.iload_n 3, 1) := by decide +kernel
theorem d_Hi_countPairs_29 : decode m_Hi_countPairs.2.1 29 = .ok (.invokevirtual 40, 3) := by decide +kernel
theorem d_Hi_countPairs_32 : decode m_Hi_countPairs.2.1 32 = .ok (.checkcast 43, 3) := by decide +kernel
theorem d_Hi_countPairs_35 : decode m_Hi_countPairs.2.1 35 = .ok (.aload_n 0, 1) := by decide +kernel
theorem d_Hi_countPairs_36 : decode m_Hi_countPairs.2.1 36 = .ok (.getfield 12, 3) := by decide +kernel
theorem d_Hi_countPairs_39 : decode m_Hi_countPairs.2.1 39 = .ok (.iload 4, 2) := by decide +kernel
theorem d_Hi_countPairs_41 : decode m_Hi_countPairs.2.1 41 = .ok (.invokevirtual 40, 3) := by decide +kernel
theorem d_Hi_countPairs_44 : decode m_Hi_countPairs.2.1 44 = .ok (.checkcast 43, 3) := by decide +kernel
theorem d_Hi_countPairs_47 : decode m_Hi_countPairs.2.1 47 = .ok (.iload_n 1, 1) := by decide +kernel
theorem d_Hi_countPairs_48 : decode m_Hi_countPairs.2.1 48 = .ok (.invokevirtual 45, 3) := by decide +kernel
theorem d_Hi_countPairs_51 : decode m_Hi_countPairs.2.1 51 = .ok (.ifCond .eq 6, 3) := by decide +kernel
theorem d_Hi_countPairs_54 : decode m_Hi_countPairs.2.1 54 = .ok (.iinc 2 1, 3) := by decide +kernel
theorem d_Hi_countPairs_57 : decode m_Hi_countPairs.2.1 57 = .ok (.iinc 4 1, 3) := by decide +kernel
theorem d_Hi_countPairs_60 : decode m_Hi_countPairs.2.1 60 = .ok (.goto (-42), 3) := by decide +kernel
theorem d_Hi_countPairs_63 : decode m_Hi_countPairs.2.1 63 = .ok (.iinc 3 1, 3) := by decide +kernel
theorem d_Hi_countPairs_66 : decode m_Hi_countPairs.2.1 66 = .ok (.goto (-62), 3) := by decide +kernel
theorem d_Hi_countPairs_69 : decode m_Hi_countPairs.2.1 69 = .ok (.iload_n 2, 1) := by decide +kernel
theorem d_Hi_countPairs_70 : decode m_Hi_countPairs.2.1 70 = .ok (.ireturn, 1) := by decide +kernel
theorem d_Hi_admittedAt_0 : decode m_Hi_admittedAt.2.1 0 = .ok (.iload_n 1, 1) := by decide +kernel
theorem d_Hi_admittedAt_1 : decode m_Hi_admittedAt.2.1 1 = .ok (.ifCond .lt 22, 3) := by decide +kernel
theorem d_Hi_admittedAt_4 : decode m_Hi_admittedAt.2.1 4 = .ok (.iload_n 1, 1) := by decide +kernel
theorem d_Hi_admittedAt_5 : decode m_Hi_admittedAt.2.1 5 = .ok (.aload_n 0, 1) := by decide +kernel
theorem d_Hi_admittedAt_6 : decode m_Hi_admittedAt.2.1 6 = .ok (.getfield 12, 3) := by decide +kernel
theorem d_Hi_admittedAt_9 : decode m_Hi_admittedAt.2.1 9 = .ok (.invokevirtual 32, 3) := by decide +kernel
theorem d_Hi_admittedAt_12 : decode m_Hi_admittedAt.2.1 12 = .ok (.if_icmp .ge 11, 3) := by decide +kernel
theorem d_Hi_admittedAt_15 : decode m_Hi_admittedAt.2.1 15 = .ok (.iload_n 1, 1) := by decide +kernel
theorem d_Hi_admittedAt_16 : decode m_Hi_admittedAt.2.1 16 = .ok (.aload_n 0, 1) := by decide +kernel
theorem d_Hi_admittedAt_17 : decode m_Hi_admittedAt.2.1 17 = .ok (.getfield 18, 3) := by decide +kernel
theorem d_Hi_admittedAt_20 : decode m_Hi_admittedAt.2.1 20 = .ok (.if_icmp .lt 5, 3) := by decide +kernel
theorem d_Hi_admittedAt_23 : decode m_Hi_admittedAt.2.1 23 = .ok (.aconst_null, 1) := by decide +kernel
theorem d_Hi_admittedAt_24 : decode m_Hi_admittedAt.2.1 24 = .ok (.areturn, 1) := by decide +kernel
theorem d_Hi_admittedAt_25 : decode m_Hi_admittedAt.2.1 25 = .ok (.aload_n 0, 1) := by decide +kernel
theorem d_Hi_admittedAt_26 : decode m_Hi_admittedAt.2.1 26 = .ok (.getfield 12, 3) := by decide +kernel
theorem d_Hi_admittedAt_29 : decode m_Hi_admittedAt.2.1 29 = .ok (.iload_n 1, 1) := by decide +kernel
theorem d_Hi_admittedAt_30 : decode m_Hi_admittedAt.2.1 30 = .ok (.invokevirtual 40, 3) := by decide +kernel
theorem d_Hi_admittedAt_33 : decode m_Hi_admittedAt.2.1 33 = .ok (.checkcast 43, 3) := by decide +kernel
theorem d_Hi_admittedAt_36 : decode m_Hi_admittedAt.2.1 36 = .ok (.astore 5, 2) := by decide +kernel
theorem d_Hi_admittedAt_38 : decode m_Hi_admittedAt.2.1 38 = .ok (.aload 5, 2) := by decide +kernel
theorem d_Hi_admittedAt_40 : decode m_Hi_admittedAt.2.1 40 = .ok (.getfield 49, 3) := by decide +kernel
theorem d_Hi_admittedAt_43 : decode m_Hi_admittedAt.2.1 43 = .ok (.iload_n 3, 1) := by decide +kernel
theorem d_Hi_admittedAt_44 : decode m_Hi_admittedAt.2.1 44 = .ok (.if_icmp .ne 19, 3) := by decide +kernel
theorem d_Hi_admittedAt_47 : decode m_Hi_admittedAt.2.1 47 = .ok (.aload_n 2, 1) := by decide +kernel
theorem d_Hi_admittedAt_48 : decode m_Hi_admittedAt.2.1 48 = .ok (.aload 5, 2) := by decide +kernel
theorem d_Hi_admittedAt_50 : decode m_Hi_admittedAt.2.1 50 = .ok (.iload 4, 2) := by decide +kernel
theorem d_Hi_admittedAt_52 : decode m_Hi_admittedAt.2.1 52 = .ok (.invokevirtual 52, 3) := by decide +kernel
theorem d_Hi_admittedAt_55 : decode m_Hi_admittedAt.2.1 55 = .ok (.ifCond .eq 8, 3) := by decide +kernel
theorem d_Hi_admittedAt_58 : decode m_Hi_admittedAt.2.1 58 = .ok (.aload 5, 2) := by decide +kernel
theorem d_Hi_admittedAt_60 : decode m_Hi_admittedAt.2.1 60 = .ok (.goto 4, 3) := by decide +kernel
theorem d_Hi_admittedAt_63 : decode m_Hi_admittedAt.2.1 63 = .ok (.aconst_null, 1) := by decide +kernel
theorem d_Hi_admittedAt_64 : decode m_Hi_admittedAt.2.1 64 = .ok (.areturn, 1) := by decide +kernel
theorem d_Hi_endByGap_0 : decode m_Hi_endByGap.2.1 0 = .ok (.iconst 0, 1) := by decide +kernel
theorem d_Hi_endByGap_1 : decode m_Hi_endByGap.2.1 1 = .ok (.istore 4, 2) := by decide +kernel
theorem d_Hi_endByGap_3 : decode m_Hi_endByGap.2.1 3 = .ok (.iconst 0, 1) := by decide +kernel
theorem d_Hi_endByGap_4 : decode m_Hi_endByGap.2.1 4 = .ok (.istore 5, 2) := by decide +kernel
theorem d_Hi_endByGap_6 : decode m_Hi_endByGap.2.1 6 = .ok (.iload 5, 2) := by decide +kernel
theorem d_Hi_endByGap_8 : decode m_Hi_endByGap.2.1 8 = .ok (.aload_n 0, 1) := by decide +kernel
theorem d_Hi_endByGap_9 : decode m_Hi_endByGap.2.1 9 = .ok (.getfield 18, 3) := by decide +kernel
theorem d_Hi_endByGap_12 : decode m_Hi_endByGap.2.1 12 = .ok (.if_icmp .ge 74, 3) := by decide +kernel
theorem d_Hi_endByGap_15 : decode m_Hi_endByGap.2.1 15 = .ok (.aload_n 0, 1) := by decide +kernel
theorem d_Hi_endByGap_16 : decode m_Hi_endByGap.2.1 16 = .ok (.iload 5, 2) := by decide +kernel
theorem d_Hi_endByGap_18 : decode m_Hi_endByGap.2.1 18 = .ok (.aload_n 1, 1) := by decide +kernel
theorem d_Hi_endByGap_19 : decode m_Hi_endByGap.2.1 19 = .ok (.iload_n 2, 1) := by decide +kernel
theorem d_Hi_endByGap_20 : decode m_Hi_endByGap.2.1 20 = .ok (.iconst (-1), 1) := by decide +kernel
theorem d_Hi_endByGap_21 : decode m_Hi_endByGap.2.1 21 = .ok (.invokevirtual 57, 3) := by decide +kernel
theorem d_Hi_endByGap_24 : decode m_Hi_endByGap.2.1 24 = .ok (.astore 6, 2) := by decide +kernel
theorem d_Hi_endByGap_26 : decode m_Hi_endByGap.2.1 26 = .ok (.aload 6, 2) := by decide +kernel
theorem d_Hi_endByGap_28 : decode m_Hi_endByGap.2.1 28 = .ok (.ifnull 28, 3) := by decide +kernel
theorem d_Hi_endByGap_31 : decode m_Hi_endByGap.2.1 31 = .ok (.aload 6, 2) := by decide +kernel
theorem d_Hi_endByGap_33 : decode m_Hi_endByGap.2.1 33 = .ok (.getfield 61, 3) := by decide +kernel
theorem d_Hi_endByGap_36 : decode m_Hi_endByGap.2.1 36 = .ok (.iload_n 3, 1) := by decide +kernel
theorem d_Hi_endByGap_37 : decode m_Hi_endByGap.2.1 37 = .ok (.if_icmp .ge 19, 3) := by decide +kernel
theorem d_Hi_endByGap_40 : decode m_Hi_endByGap.2.1 40 = .ok (.aload 6, 2) := by decide +kernel
theorem d_Hi_endByGap_42 : decode m_Hi_endByGap.2.1 42 = .ok (.getfield 61, 3) := by decide +kernel
theorem d_Hi_endByGap_45 : decode m_Hi_endByGap.2.1 45 = .ok (.aload_n 1, 1) := by decide +kernel
theorem d_Hi_endByGap_46 : decode m_Hi_endByGap.2.1 46 = .ok (.getfield 64, 3) := by decide +kernel
theorem d_Hi_endByGap_49 : decode m_Hi_endByGap.2.1 49 = .ok (.iadd, 1) := by decide +kernel
theorem d_Hi_endByGap_50 : decode m_Hi_endByGap.2.1 50 = .ok (.iload_n 3, 1) := by decide +kernel
theorem d_Hi_endByGap_51 : decode m_Hi_endByGap.2.1 51 = .ok (.if_icmp .le 5, 3) := by decide +kernel
theorem d_Hi_endByGap_54 : decode m_Hi_endByGap.2.1 54 = .ok (.iconst (-1), 1) := by decide +kernel
theorem d_Hi_endByGap_55 : decode m_Hi_endByGap.2.1 55 = .ok (.ireturn, 1) := by decide +kernel
theorem d_Hi_endByGap_56 : decode m_Hi_endByGap.2.1 56 = .ok (.iload 4, 2) := by decide +kernel
theorem d_Hi_endByGap_58 : decode m_Hi_endByGap.2.1 58 = .ok (.aload 6, 2) := by decide +kernel
theorem d_Hi_endByGap_60 : decode m_Hi_endByGap.2.1 60 = .ok (.ifnull 16, 3) := by decide +kernel
theorem d_Hi_endByGap_63 : decode m_Hi_endByGap.2.1 63 = .ok (.aload 6, 2) := by decide +kernel
theorem d_Hi_endByGap_65 : decode m_Hi_endByGap.2.1 65 = .ok (.getfield 61, 3) := by decide +kernel
theorem d_Hi_endByGap_68 : decode m_Hi_endByGap.2.1 68 = .ok (.iload_n 3, 1) := by decide +kernel
theorem d_Hi_endByGap_69 : decode m_Hi_endByGap.2.1 69 = .ok (.if_icmp .ne 7, 3) := by decide +kernel
theorem d_Hi_endByGap_72 : decode m_Hi_endByGap.2.1 72 = .ok (.iconst 1, 1) := by decide +kernel
theorem d_Hi_endByGap_73 : decode m_Hi_endByGap.2.1 73 = .ok (.goto 4, 3) := by decide +kernel
theorem d_Hi_endByGap_76 : decode m_Hi_endByGap.2.1 76 = .ok (.iconst 0, 1) := by decide +kernel
theorem d_Hi_endByGap_77 : decode m_Hi_endByGap.2.1 77 = .ok (.ior, 1) := by decide +kernel
theorem d_Hi_endByGap_78 : decode m_Hi_endByGap.2.1 78 = .ok (.istore 4, 2) := by decide +kernel
theorem d_Hi_endByGap_80 : decode m_Hi_endByGap.2.1 80 = .ok (.iinc 5 1, 3) := by decide +kernel
theorem d_Hi_endByGap_83 : decode m_Hi_endByGap.2.1 83 = .ok (.goto (-77), 3) := by decide +kernel
theorem d_Hi_endByGap_86 : decode m_Hi_endByGap.2.1 86 = .ok (.iload 4, 2) := by decide +kernel
theorem d_Hi_endByGap_88 : decode m_Hi_endByGap.2.1 88 = .ok (.ifCond .ne 5, 3) := by decide +kernel
theorem d_Hi_endByGap_91 : decode m_Hi_endByGap.2.1 91 = .ok (.iconst (-1), 1) := by decide +kernel
theorem d_Hi_endByGap_92 : decode m_Hi_endByGap.2.1 92 = .ok (.ireturn, 1) := by decide +kernel
theorem d_Hi_endByGap_93 : decode m_Hi_endByGap.2.1 93 = .ok (.iload_n 3, 1) := by decide +kernel
theorem d_Hi_endByGap_94 : decode m_Hi_endByGap.2.1 94 = .ok (.aload_n 1, 1) := by decide +kernel
theorem d_Hi_endByGap_95 : decode m_Hi_endByGap.2.1 95 = .ok (.getfield 64, 3) := by decide +kernel
theorem d_Hi_endByGap_98 : decode m_Hi_endByGap.2.1 98 = .ok (.iadd, 1) := by decide +kernel
theorem d_Hi_endByGap_99 : decode m_Hi_endByGap.2.1 99 = .ok (.istore 5, 2) := by decide +kernel
theorem d_Hi_endByGap_101 : decode m_Hi_endByGap.2.1 101 = .ok (.iconst 0, 1) := by decide +kernel
theorem d_Hi_endByGap_102 : decode m_Hi_endByGap.2.1 102 = .ok (.istore 6, 2) := by decide +kernel
theorem d_Hi_endByGap_104 : decode m_Hi_endByGap.2.1 104 = .ok (.iload 6, 2) := by decide +kernel
theorem d_Hi_endByGap_106 : decode m_Hi_endByGap.2.1 106 = .ok (.aload_n 0, 1) := by decide +kernel
theorem d_Hi_endByGap_107 : decode m_Hi_endByGap.2.1 107 = .ok (.getfield 18, 3) := by decide +kernel
theorem d_Hi_endByGap_110 : decode m_Hi_endByGap.2.1 110 = .ok (.if_icmp .ge 34, 3) := by decide +kernel
theorem d_Hi_endByGap_113 : decode m_Hi_endByGap.2.1 113 = .ok (.aload_n 0, 1) := by decide +kernel
theorem d_Hi_endByGap_114 : decode m_Hi_endByGap.2.1 114 = .ok (.aload_n 1, 1) := by decide +kernel
theorem d_Hi_endByGap_115 : decode m_Hi_endByGap.2.1 115 = .ok (.iload_n 2, 1) := by decide +kernel
theorem d_Hi_endByGap_116 : decode m_Hi_endByGap.2.1 116 = .ok (.iload_n 3, 1) := by decide +kernel
theorem d_Hi_endByGap_117 : decode m_Hi_endByGap.2.1 117 = .ok (.iload 5, 2) := by decide +kernel
theorem d_Hi_endByGap_119 : decode m_Hi_endByGap.2.1 119 = .ok (.invokevirtual 66, 3) := by decide +kernel
theorem d_Hi_endByGap_122 : decode m_Hi_endByGap.2.1 122 = .ok (.istore 7, 2) := by decide +kernel
theorem d_Hi_endByGap_124 : decode m_Hi_endByGap.2.1 124 = .ok (.iload 7, 2) := by decide +kernel
theorem d_Hi_endByGap_126 : decode m_Hi_endByGap.2.1 126 = .ok (.iload 5, 2) := by decide +kernel
theorem d_Hi_endByGap_128 : decode m_Hi_endByGap.2.1 128 = .ok (.if_icmp .ne 6, 3) := by decide +kernel
theorem d_Hi_endByGap_131 : decode m_Hi_endByGap.2.1 131 = .ok (.iload 5, 2) := by decide +kernel
theorem d_Hi_endByGap_133 : decode m_Hi_endByGap.2.1 133 = .ok (.ireturn, 1) := by decide +kernel
theorem d_Hi_endByGap_134 : decode m_Hi_endByGap.2.1 134 = .ok (.iload 7, 2) := by decide +kernel
theorem d_Hi_endByGap_136 : decode m_Hi_endByGap.2.1 136 = .ok (.istore 5, 2) := by decide +kernel
theorem d_Hi_endByGap_138 : decode m_Hi_endByGap.2.1 138 = .ok (.iinc 6 1, 3) := by decide +kernel
theorem d_Hi_endByGap_141 : decode m_Hi_endByGap.2.1 141 = .ok (.goto (-37), 3) := by decide +kernel
theorem d_Hi_endByGap_144 : decode m_Hi_endByGap.2.1 144 = .ok (.iload 5, 2) := by decide +kernel
theorem d_Hi_endByGap_146 : decode m_Hi_endByGap.2.1 146 = .ok (.ireturn, 1) := by decide +kernel
theorem d_Hi_furthestEnd_0 : decode m_Hi_furthestEnd.2.1 0 = .ok (.iload 4, 2) := by decide +kernel
theorem d_Hi_furthestEnd_2 : decode m_Hi_furthestEnd.2.1 2 = .ok (.istore 5, 2) := by decide +kernel
theorem d_Hi_furthestEnd_4 : decode m_Hi_furthestEnd.2.1 4 = .ok (.iconst 0, 1) := by decide +kernel
theorem d_Hi_furthestEnd_5 : decode m_Hi_furthestEnd.2.1 5 = .ok (.istore 6, 2) := by decide +kernel
theorem d_Hi_furthestEnd_7 : decode m_Hi_furthestEnd.2.1 7 = .ok (.iload 6, 2) := by decide +kernel
theorem d_Hi_furthestEnd_9 : decode m_Hi_furthestEnd.2.1 9 = .ok (.aload_n 0, 1) := by decide +kernel
theorem d_Hi_furthestEnd_10 : decode m_Hi_furthestEnd.2.1 10 = .ok (.getfield 18, 3) := by decide +kernel
theorem d_Hi_furthestEnd_13 : decode m_Hi_furthestEnd.2.1 13 = .ok (.if_icmp .ge 61, 3) := by decide +kernel
theorem d_Hi_furthestEnd_16 : decode m_Hi_furthestEnd.2.1 16 = .ok (.aload_n 0, 1) := by decide +kernel
theorem d_Hi_furthestEnd_17 : decode m_Hi_furthestEnd.2.1 17 = .ok (.iload 6, 2) := by decide +kernel
theorem d_Hi_furthestEnd_19 : decode m_Hi_furthestEnd.2.1 19 = .ok (.aload_n 1, 1) := by decide +kernel
theorem d_Hi_furthestEnd_20 : decode m_Hi_furthestEnd.2.1 20 = .ok (.iload_n 2, 1) := by decide +kernel
theorem d_Hi_furthestEnd_21 : decode m_Hi_furthestEnd.2.1 21 = .ok (.iconst (-1), 1) := by decide +kernel
theorem d_Hi_furthestEnd_22 : decode m_Hi_furthestEnd.2.1 22 = .ok (.invokevirtual 57, 3) := by decide +kernel
theorem d_Hi_furthestEnd_25 : decode m_Hi_furthestEnd.2.1 25 = .ok (.astore 7, 2) := by decide +kernel
theorem d_Hi_furthestEnd_27 : decode m_Hi_furthestEnd.2.1 27 = .ok (.aload 7, 2) := by decide +kernel
theorem d_Hi_furthestEnd_29 : decode m_Hi_furthestEnd.2.1 29 = .ok (.ifnull 39, 3) := by decide +kernel
theorem d_Hi_furthestEnd_32 : decode m_Hi_furthestEnd.2.1 32 = .ok (.aload 7, 2) := by decide +kernel
theorem d_Hi_furthestEnd_34 : decode m_Hi_furthestEnd.2.1 34 = .ok (.getfield 61, 3) := by decide +kernel
theorem d_Hi_furthestEnd_37 : decode m_Hi_furthestEnd.2.1 37 = .ok (.iload_n 3, 1) := by decide +kernel
theorem d_Hi_furthestEnd_38 : decode m_Hi_furthestEnd.2.1 38 = .ok (.if_icmp .lt 30, 3) := by decide +kernel
theorem d_Hi_furthestEnd_41 : decode m_Hi_furthestEnd.2.1 41 = .ok (.aload 7, 2) := by decide +kernel
theorem d_Hi_furthestEnd_43 : decode m_Hi_furthestEnd.2.1 43 = .ok (.getfield 61, 3) := by decide +kernel
theorem d_Hi_furthestEnd_46 : decode m_Hi_furthestEnd.2.1 46 = .ok (.iload 5, 2) := by decide +kernel
theorem d_Hi_furthestEnd_48 : decode m_Hi_furthestEnd.2.1 48 = .ok (.if_icmp .ge 20, 3) := by decide +kernel
theorem d_Hi_furthestEnd_51 : decode m_Hi_furthestEnd.2.1 51 = .ok (.iload 5, 2) := by decide +kernel
theorem d_Hi_furthestEnd_53 : decode m_Hi_furthestEnd.2.1 53 = .ok (.aload 7, 2) := by decide +kernel
theorem d_Hi_furthestEnd_55 : decode m_Hi_furthestEnd.2.1 55 = .ok (.getfield 61, 3) := by decide +kernel
theorem d_Hi_furthestEnd_58 : decode m_Hi_furthestEnd.2.1 58 = .ok (.aload_n 1, 1) := by decide +kernel
theorem d_Hi_furthestEnd_59 : decode m_Hi_furthestEnd.2.1 59 = .ok (.getfield 64, 3) := by decide +kernel
theorem d_Hi_furthestEnd_62 : decode m_Hi_furthestEnd.2.1 62 = .ok (.iadd, 1) := by decide +kernel
theorem d_Hi_furthestEnd_63 : decode m_Hi_furthestEnd.2.1 63 = .ok (.invokestatic 70, 3) := by decide +kernel
theorem d_Hi_furthestEnd_66 : decode m_Hi_furthestEnd.2.1 66 = .ok (.istore 5, 2) := by decide +kernel
theorem d_Hi_furthestEnd_68 : decode m_Hi_furthestEnd.2.1 68 = .ok (.iinc 6 1, 3) := by decide +kernel
theorem d_Hi_furthestEnd_71 : decode m_Hi_furthestEnd.2.1 71 = .ok (.goto (-64), 3) := by decide +kernel
theorem d_Hi_furthestEnd_74 : decode m_Hi_furthestEnd.2.1 74 = .ok (.iload 5, 2) := by decide +kernel
theorem d_Hi_furthestEnd_76 : decode m_Hi_furthestEnd.2.1 76 = .ok (.ireturn, 1) := by decide +kernel
theorem d_Hi_gather_0 : decode m_Hi_gather.2.1 0 = .ok (.aload_n 0, 1) := by decide +kernel
theorem d_Hi_gather_1 : decode m_Hi_gather.2.1 1 = .ok (.getfield 28, 3) := by decide +kernel
theorem d_Hi_gather_4 : decode m_Hi_gather.2.1 4 = .ok (.iload_n 2, 1) := by decide +kernel
theorem d_Hi_gather_5 : decode m_Hi_gather.2.1 5 = .ok (.iload_n 3, 1) := by decide +kernel
theorem d_Hi_gather_6 : decode m_Hi_gather.2.1 6 = .ok (.iload 4, 2) := by decide +kernel
theorem d_Hi_gather_8 : decode m_Hi_gather.2.1 8 = .ok (.invokevirtual 76, 3) := by decide +kernel
theorem d_Hi_gather_11 : decode m_Hi_gather.2.1 11 = .ok (.iconst 0, 1) := by decide +kernel
theorem d_Hi_gather_12 : decode m_Hi_gather.2.1 12 = .ok (.istore 5, 2) := by decide +kernel
theorem d_Hi_gather_14 : decode m_Hi_gather.2.1 14 = .ok (.iload 5, 2) := by decide +kernel
theorem d_Hi_gather_16 : decode m_Hi_gather.2.1 16 = .ok (.aload_n 0, 1) := by decide +kernel
theorem d_Hi_gather_17 : decode m_Hi_gather.2.1 17 = .ok (.getfield 18, 3) := by decide +kernel
theorem d_Hi_gather_20 : decode m_Hi_gather.2.1 20 = .ok (.if_icmp .ge 53, 3) := by decide +kernel
theorem d_Hi_gather_23 : decode m_Hi_gather.2.1 23 = .ok (.aload_n 0, 1) := by decide +kernel
theorem d_Hi_gather_24 : decode m_Hi_gather.2.1 24 = .ok (.iload 5, 2) := by decide +kernel
theorem d_Hi_gather_26 : decode m_Hi_gather.2.1 26 = .ok (.aload_n 1, 1) := by decide +kernel
theorem d_Hi_gather_27 : decode m_Hi_gather.2.1 27 = .ok (.iload_n 2, 1) := by decide +kernel
theorem d_Hi_gather_28 : decode m_Hi_gather.2.1 28 = .ok (.iload 4, 2) := by decide +kernel
theorem d_Hi_gather_30 : decode m_Hi_gather.2.1 30 = .ok (.invokevirtual 57, 3) := by decide +kernel
theorem d_Hi_gather_33 : decode m_Hi_gather.2.1 33 = .ok (.astore 6, 2) := by decide +kernel
theorem d_Hi_gather_35 : decode m_Hi_gather.2.1 35 = .ok (.aload 6, 2) := by decide +kernel
theorem d_Hi_gather_37 : decode m_Hi_gather.2.1 37 = .ok (.ifnull 30, 3) := by decide +kernel
theorem d_Hi_gather_40 : decode m_Hi_gather.2.1 40 = .ok (.aload_n 0, 1) := by decide +kernel
theorem d_Hi_gather_41 : decode m_Hi_gather.2.1 41 = .ok (.getfield 28, 3) := by decide +kernel
theorem d_Hi_gather_44 : decode m_Hi_gather.2.1 44 = .ok (.aload 6, 2) := by decide +kernel
theorem d_Hi_gather_46 : decode m_Hi_gather.2.1 46 = .ok (.getfield 61, 3) := by decide +kernel
theorem d_Hi_gather_49 : decode m_Hi_gather.2.1 49 = .ok (.invokevirtual 80, 3) := by decide +kernel
theorem d_Hi_gather_52 : decode m_Hi_gather.2.1 52 = .ok (.ifCond .eq 15, 3) := by decide +kernel
theorem d_Hi_gather_55 : decode m_Hi_gather.2.1 55 = .ok (.aload_n 0, 1) := by decide +kernel
theorem d_Hi_gather_56 : decode m_Hi_gather.2.1 56 = .ok (.getfield 28, 3) := by decide +kernel
theorem d_Hi_gather_59 : decode m_Hi_gather.2.1 59 = .ok (.aload 6, 2) := by decide +kernel
theorem d_Hi_gather_61 : decode m_Hi_gather.2.1 61 = .ok (.getfield 84, 3) := by decide +kernel
theorem d_Hi_gather_64 : decode m_Hi_gather.2.1 64 = .ok (.invokevirtual 87, 3) := by decide +kernel
theorem d_Hi_gather_67 : decode m_Hi_gather.2.1 67 = .ok (.iinc 5 1, 3) := by decide +kernel
theorem d_Hi_gather_70 : decode m_Hi_gather.2.1 70 = .ok (.goto (-56), 3) := by decide +kernel
theorem d_Hi_gather_73 : decode m_Hi_gather.2.1 73 = .ok (.aload_n 0, 1) := by decide +kernel
theorem d_Hi_gather_74 : decode m_Hi_gather.2.1 74 = .ok (.getfield 28, 3) := by decide +kernel
theorem d_Hi_gather_77 : decode m_Hi_gather.2.1 77 = .ok (.areturn, 1) := by decide +kernel
theorem d_Jo_init_0 : decode m_Jo_init.2.1 0 = .ok (.aload_n 0, 1) := by decide +kernel
theorem d_Jo_init_1 : decode m_Jo_init.2.1 1 = .ok (.invokespecial 3, 3) := by decide +kernel
theorem d_Jo_init_4 : decode m_Jo_init.2.1 4 = .ok (.aload_n 0, 1) := by decide +kernel
theorem d_Jo_init_5 : decode m_Jo_init.2.1 5 = .ok (.iconst 0, 1) := by decide +kernel
theorem d_Jo_init_6 : decode m_Jo_init.2.1 6 = .ok (.putfield 9, 3) := by decide +kernel
theorem d_Jo_init_9 : decode m_Jo_init.2.1 9 = .ok (.aload_n 0, 1) := by decide +kernel
theorem d_Jo_init_10 : decode m_Jo_init.2.1 10 = .ok (.bipush 10, 2) := by decide +kernel
theorem d_Jo_init_12 : decode m_Jo_init.2.1 12 = .ok (.putfield 15, 3) := by decide +kernel
theorem d_Jo_init_15 : decode m_Jo_init.2.1 15 = .ok (.aload_n 0, 1) := by decide +kernel
theorem d_Jo_init_16 : decode m_Jo_init.2.1 16 = .ok (.bipush 10, 2) := by decide +kernel
theorem d_Jo_init_18 : decode m_Jo_init.2.1 18 = .ok (.putfield 18, 3) := by decide +kernel
theorem d_Jo_init_21 : decode m_Jo_init.2.1 21 = .ok (.aload_n 0, 1) := by decide +kernel
theorem d_Jo_init_22 : decode m_Jo_init.2.1 22 = .ok (.iconst 0, 1) := by decide +kernel
theorem d_Jo_init_23 : decode m_Jo_init.2.1 23 = .ok (.putfield 21, 3) := by decide +kernel
theorem d_Jo_init_26 : decode m_Jo_init.2.1 26 = .ok (.aload_n 0, 1) := by decide +kernel
theorem d_Jo_init_27 : decode m_Jo_init.2.1 27 = .ok (.iconst 5, 1) := by decide +kernel
theorem d_Jo_init_28 : decode m_Jo_init.2.1 28 = .ok (.putfield 24, 3) := by decide +kernel
theorem d_Jo_init_31 : decode m_Jo_init.2.1 31 = .ok (.aload_n 0, 1) := by decide +kernel
theorem d_Jo_init_32 : decode m_Jo_init.2.1 32 = .ok (.iconst 1, 1) := by decide +kernel
theorem d_Jo_init_33 : decode m_Jo_init.2.1 33 = .ok (.putfield 27, 3) := by decide +kernel
theorem d_Jo_init_36 : decode m_Jo_init.2.1 36 = .ok (.return_, 1) := by decide +kernel
theorem d_Jo_admits_0 : decode m_Jo_admits.2.1 0 = .ok (.iload_n 1, 1) := by decide +kernel
theorem d_Jo_admits_1 : decode m_Jo_admits.2.1 1 = .ok (.aload_n 0, 1) := by decide +kernel
theorem d_Jo_admits_2 : decode m_Jo_admits.2.1 2 = .ok (.getfield 21, 3) := by decide +kernel
theorem d_Jo_admits_5 : decode m_Jo_admits.2.1 5 = .ok (.iadd, 1) := by decide +kernel
theorem d_Jo_admits_6 : decode m_Jo_admits.2.1 6 = .ok (.iload_n 2, 1) := by decide +kernel
theorem d_Jo_admits_7 : decode m_Jo_admits.2.1 7 = .ok (.if_icmp .le 7, 3) := by decide +kernel
theorem d_Jo_admits_10 : decode m_Jo_admits.2.1 10 = .ok (.iconst 1, 1) := by decide +kernel
theorem d_Jo_admits_11 : decode m_Jo_admits.2.1 11 = .ok (.goto 4, 3) := by decide +kernel
theorem d_Jo_admits_14 : decode m_Jo_admits.2.1 14 = .ok (.iconst 0, 1) := by decide +kernel
theorem d_Jo_admits_15 : decode m_Jo_admits.2.1 15 = .ok (.ireturn, 1) := by decide +kernel
theorem d_Jo_keepsOpen_0 : decode m_Jo_keepsOpen.2.1 0 = .ok (.iload_n 2, 1) := by decide +kernel
theorem d_Jo_keepsOpen_1 : decode m_Jo_keepsOpen.2.1 1 = .ok (.iload_n 1, 1) := by decide +kernel
theorem d_Jo_keepsOpen_2 : decode m_Jo_keepsOpen.2.1 2 = .ok (.aload_n 0, 1) := by decide +kernel
theorem d_Jo_keepsOpen_3 : decode m_Jo_keepsOpen.2.1 3 = .ok (.getfield 21, 3) := by decide +kernel
theorem d_Jo_keepsOpen_6 : decode m_Jo_keepsOpen.2.1 6 = .ok (.iadd, 1) := by decide +kernel
theorem d_Jo_keepsOpen_7 : decode m_Jo_keepsOpen.2.1 7 = .ok (.aload_n 0, 1) := by decide +kernel
theorem d_Jo_keepsOpen_8 : decode m_Jo_keepsOpen.2.1 8 = .ok (.getfield 9, 3) := by decide +kernel
theorem d_Jo_keepsOpen_11 : decode m_Jo_keepsOpen.2.1 11 = .ok (.iconst 2, 1) := by decide +kernel
theorem d_Jo_keepsOpen_12 : decode m_Jo_keepsOpen.2.1 12 = .ok (.if_icmp .ne 10, 3) := by decide +kernel
theorem d_Jo_keepsOpen_15 : decode m_Jo_keepsOpen.2.1 15 = .ok (.aload_n 0, 1) := by decide +kernel
theorem d_Jo_keepsOpen_16 : decode m_Jo_keepsOpen.2.1 16 = .ok (.getfield 15, 3) := by decide +kernel
theorem d_Jo_keepsOpen_19 : decode m_Jo_keepsOpen.2.1 19 = .ok (.goto 4, 3) := by decide +kernel
theorem d_Jo_keepsOpen_22 : decode m_Jo_keepsOpen.2.1 22 = .ok (.iconst 0, 1) := by decide +kernel
theorem d_Jo_keepsOpen_23 : decode m_Jo_keepsOpen.2.1 23 = .ok (.iadd, 1) := by decide +kernel
theorem d_Jo_keepsOpen_24 : decode m_Jo_keepsOpen.2.1 24 = .ok (.if_icmp .ge 7, 3) := by decide +kernel
theorem d_Jo_keepsOpen_27 : decode m_Jo_keepsOpen.2.1 27 = .ok (.iconst 1, 1) := by decide +kernel
theorem d_Jo_keepsOpen_28 : decode m_Jo_keepsOpen.2.1 28 = .ok (.goto 4, 3) := by decide +kernel
theorem d_Jo_keepsOpen_31 : decode m_Jo_keepsOpen.2.1 31 = .ok (.iconst 0, 1) := by decide +kernel
theorem d_Jo_keepsOpen_32 : decode m_Jo_keepsOpen.2.1 32 = .ok (.ireturn, 1) := by decide +kernel
theorem d_Jo_lastStart_0 : decode m_Jo_lastStart.2.1 0 = .ok (.aload_n 0, 1) := by decide +kernel
theorem d_Jo_lastStart_1 : decode m_Jo_lastStart.2.1 1 = .ok (.getfield 18, 3) := by decide +kernel
theorem d_Jo_lastStart_4 : decode m_Jo_lastStart.2.1 4 = .ok (.iconst 1, 1) := by decide +kernel
theorem d_Jo_lastStart_5 : decode m_Jo_lastStart.2.1 5 = .ok (.if_icmp .ge 7, 3) := by decide +kernel
theorem d_Jo_lastStart_8 : decode m_Jo_lastStart.2.1 8 = .ok (.iload_n 1, 1) := by decide +kernel
theorem d_Jo_lastStart_9 : decode m_Jo_lastStart.2.1 9 = .ok (.goto 11, 3) := by decide +kernel
theorem d_Jo_lastStart_12 : decode m_Jo_lastStart.2.1 12 = .ok (.iload_n 1, 1) := by decide +kernel
theorem d_Jo_lastStart_13 : decode m_Jo_lastStart.2.1 13 = .ok (.iload_n 1, 1) := by decide +kernel
theorem d_Jo_lastStart_14 : decode m_Jo_lastStart.2.1 14 = .ok (.aload_n 0, 1) := by decide +kernel
theorem d_Jo_lastStart_15 : decode m_Jo_lastStart.2.1 15 = .ok (.getfield 18, 3) := by decide +kernel
theorem d_Jo_lastStart_18 : decode m_Jo_lastStart.2.1 18 = .ok (.irem, 1) := by decide +kernel
theorem d_Jo_lastStart_19 : decode m_Jo_lastStart.2.1 19 = .ok (.isub, 1) := by decide +kernel
theorem d_Jo_lastStart_20 : decode m_Jo_lastStart.2.1 20 = .ok (.ireturn, 1) := by decide +kernel
theorem d_Jo_endBySteps_0 : decode m_Jo_endBySteps.2.1 0 = .ok (.aload_n 0, 1) := by decide +kernel
theorem d_Jo_endBySteps_1 : decode m_Jo_endBySteps.2.1 1 = .ok (.iload_n 1, 1) := by decide +kernel
theorem d_Jo_endBySteps_2 : decode m_Jo_endBySteps.2.1 2 = .ok (.invokevirtual 31, 3) := by decide +kernel
theorem d_Jo_endBySteps_5 : decode m_Jo_endBySteps.2.1 5 = .ok (.iload_n 1, 1) := by decide +kernel
theorem d_Jo_endBySteps_6 : decode m_Jo_endBySteps.2.1 6 = .ok (.if_icmp .ne 12, 3) := by decide +kernel
theorem d_Jo_endBySteps_9 : decode m_Jo_endBySteps.2.1 9 = .ok (.iload_n 1, 1) := by decide +kernel
theorem d_Jo_endBySteps_10 : decode m_Jo_endBySteps.2.1 10 = .ok (.aload_n 0, 1) := by decide +kernel
theorem d_Jo_endBySteps_11 : decode m_Jo_endBySteps.2.1 11 = .ok (.getfield 15, 3) := by decide +kernel
theorem d_Jo_endBySteps_14 : decode m_Jo_endBySteps.2.1 14 = .ok (.iadd, 1) := by decide +kernel
theorem d_Jo_endBySteps_15 : decode m_Jo_endBySteps.2.1 15 = .ok (.goto 4, 3) := by decide +kernel
theorem d_Jo_endBySteps_18 : decode m_Jo_endBySteps.2.1 18 = .ok (.iconst (-1), 1) := by decide +kernel
theorem d_Jo_endBySteps_19 : decode m_Jo_endBySteps.2.1 19 = .ok (.ireturn, 1) := by decide +kernel
theorem d_Jo_admitted_0 : decode m_Jo_admitted.2.1 0 = .ok (.aload_n 0, 1) := by decide +kernel
theorem d_Jo_admitted_1 : decode m_Jo_admitted.2.1 1 = .ok (.aload_n 0, 1) := by decide +kernel
theorem d_Jo_admitted_2 : decode m_Jo_admitted.2.1 2 = .ok (.getfield 9, 3) := by decide +kernel
theorem d_Jo_admitted_5 : decode m_Jo_admitted.2.1 5 = .ok (.iconst 2, 1) := by decide +kernel
theorem d_Jo_admitted_6 : decode m_Jo_admitted.2.1 6 = .ok (.if_icmp .ne 15, 3) := by decide +kernel
theorem d_Jo_admitted_9 : decode m_Jo_admitted.2.1 9 = .ok (.aload_n 1, 1) := by decide +kernel
theorem d_Jo_admitted_10 : decode m_Jo_admitted.2.1 10 = .ok (.getfield 35, 3) := by decide +kernel
theorem d_Jo_admitted_13 : decode m_Jo_admitted.2.1 13 = .ok (.aload_n 0, 1) := by decide +kernel
theorem d_Jo_admitted_14 : decode m_Jo_admitted.2.1 14 = .ok (.getfield 15, 3) := by decide +kernel
theorem d_Jo_admitted_17 : decode m_Jo_admitted.2.1 17 = .ok (.iadd, 1) := by decide +kernel
theorem d_Jo_admitted_18 : decode m_Jo_admitted.2.1 18 = .ok (.goto 4, 3) := by decide +kernel
theorem d_Jo_admitted_21 : decode m_Jo_admitted.2.1 21 = .ok (.iload_n 2, 1) := by decide +kernel
theorem d_Jo_admitted_22 : decode m_Jo_admitted.2.1 22 = .ok (.aload_n 1, 1) := by decide +kernel
theorem d_Jo_admitted_23 : decode m_Jo_admitted.2.1 23 = .ok (.getfield 40, 3) := by decide +kernel
theorem d_Jo_admitted_26 : decode m_Jo_admitted.2.1 26 = .ok (.invokevirtual 43, 3) := by decide +kernel
theorem d_Jo_admitted_29 : decode m_Jo_admitted.2.1 29 = .ok (.ireturn, 1) := by decide +kernel
theorem d_Pr_init_0 : decode m_Pr_init.2.1 0 = .ok (.aload_n 0, 1) := by decide +kernel
theorem d_Pr_init_1 : decode m_Pr_init.2.1 1 = .ok (.invokespecial 3, 3) := by decide +kernel
theorem d_Pr_init_4 : decode m_Pr_init.2.1 4 = .ok (.aload_n 0, 1) := by decide +kernel
theorem d_Pr_init_5 : decode m_Pr_init.2.1 5 = .ok (.iconst 3, 1) := by decide +kernel
theorem d_Pr_init_6 : decode m_Pr_init.2.1 6 = .ok (.newarray .int, 2) := by decide +kernel
theorem d_Pr_init_8 : decode m_Pr_init.2.1 8 = .ok (.putfield 9, 3) := by decide +kernel
theorem d_Pr_init_11 : decode m_Pr_init.2.1 11 = .ok (.aload_n 0, 1) := by decide +kernel
theorem d_Pr_init_12 : decode m_Pr_init.2.1 12 = .ok (.iconst 3, 1) := by decide +kernel
theorem d_Pr_init_13 : decode m_Pr_init.2.1 13 = .ok (.newarray .int, 2) := by decide +kernel
theorem d_Pr_init_15 : decode m_Pr_init.2.1 15 = .ok (.putfield 15, 3) := by decide +kernel
theorem d_Pr_init_18 : decode m_Pr_init.2.1 18 = .ok (.aload_n 0, 1) := by decide +kernel
theorem d_Pr_init_19 : decode m_Pr_init.2.1 19 = .ok (.iconst 3, 1) := by decide +kernel
theorem d_Pr_init_20 : decode m_Pr_init.2.1 20 = .ok (.newarray .int, 2) := by decide +kernel
theorem d_Pr_init_22 : decode m_Pr_init.2.1 22 = .ok (.dup, 1) := by decide +kernel
theorem d_Pr_init_23 : decode m_Pr_init.2.1 23 = .ok (.iconst 0, 1) := by decide +kernel
theorem d_Pr_init_24 : decode m_Pr_init.2.1 24 = .ok (.iconst (-1), 1) := by decide +kernel
theorem d_Pr_init_25 : decode m_Pr_init.2.1 25 = .ok (.iastore, 1) := by decide +kernel
theorem d_Pr_init_26 : decode m_Pr_init.2.1 26 = .ok (.dup, 1) := by decide +kernel
theorem d_Pr_init_27 : decode m_Pr_init.2.1 27 = .ok (.iconst 1, 1) := by decide +kernel
theorem d_Pr_init_28 : decode m_Pr_init.2.1 28 = .ok (.iconst (-1), 1) := by decide +kernel
theorem d_Pr_init_29 : decode m_Pr_init.2.1 29 = .ok (.iastore, 1) := by decide +kernel
theorem d_Pr_init_30 : decode m_Pr_init.2.1 30 = .ok (.dup, 1) := by decide +kernel
theorem d_Pr_init_31 : decode m_Pr_init.2.1 31 = .ok (.iconst 2, 1) := by decide +kernel
theorem d_Pr_init_32 : decode m_Pr_init.2.1 32 = .ok (.iconst (-1), 1) := by decide +kernel
theorem d_Pr_init_33 : decode m_Pr_init.2.1 33 = .ok (.iastore, 1) := by decide +kernel
theorem d_Pr_init_34 : decode m_Pr_init.2.1 34 = .ok (.putfield 18, 3) := by decide +kernel
theorem d_Pr_init_37 : decode m_Pr_init.2.1 37 = .ok (.aload_n 0, 1) := by decide +kernel
theorem d_Pr_init_38 : decode m_Pr_init.2.1 38 = .ok (.iconst (-1), 1) := by decide +kernel
theorem d_Pr_init_39 : decode m_Pr_init.2.1 39 = .ok (.putfield 21, 3) := by decide +kernel
theorem d_Pr_init_42 : decode m_Pr_init.2.1 42 = .ok (.aload_n 0, 1) := by decide +kernel
theorem d_Pr_init_43 : decode m_Pr_init.2.1 43 = .ok (.iconst 0, 1) := by decide +kernel
theorem d_Pr_init_44 : decode m_Pr_init.2.1 44 = .ok (.putfield 25, 3) := by decide +kernel
theorem d_Pr_init_47 : decode m_Pr_init.2.1 47 = .ok (.aload_n 0, 1) := by decide +kernel
theorem d_Pr_init_48 : decode m_Pr_init.2.1 48 = .ok (.iconst 0, 1) := by decide +kernel
theorem d_Pr_init_49 : decode m_Pr_init.2.1 49 = .ok (.putfield 28, 3) := by decide +kernel
theorem d_Pr_init_52 : decode m_Pr_init.2.1 52 = .ok (.aload_n 0, 1) := by decide +kernel
theorem d_Pr_init_53 : decode m_Pr_init.2.1 53 = .ok (.iconst 0, 1) := by decide +kernel
theorem d_Pr_init_54 : decode m_Pr_init.2.1 54 = .ok (.putfield 31, 3) := by decide +kernel
theorem d_Pr_init_57 : decode m_Pr_init.2.1 57 = .ok (.aload_n 0, 1) := by decide +kernel
theorem d_Pr_init_58 : decode m_Pr_init.2.1 58 = .ok (.new 34, 3) := by decide +kernel
theorem d_Pr_init_61 : decode m_Pr_init.2.1 61 = .ok (.dup, 1) := by decide +kernel
theorem d_Pr_init_62 : decode m_Pr_init.2.1 62 = .ok (.invokespecial 36, 3) := by decide +kernel
theorem d_Pr_init_65 : decode m_Pr_init.2.1 65 = .ok (.putfield 37, 3) := by decide +kernel
theorem d_Pr_init_68 : decode m_Pr_init.2.1 68 = .ok (.return_, 1) := by decide +kernel
theorem d_Pr_inChannelOf_0 : decode m_Pr_inChannelOf.2.1 0 = .ok (.aload_n 0, 1) := by decide +kernel
theorem d_Pr_inChannelOf_1 : decode m_Pr_inChannelOf.2.1 1 = .ok (.getfield 9, 3) := by decide +kernel
theorem d_Pr_inChannelOf_4 : decode m_Pr_inChannelOf.2.1 4 = .ok (.iload_n 1, 1) := by decide +kernel
theorem d_Pr_inChannelOf_5 : decode m_Pr_inChannelOf.2.1 5 = .ok (.iaload, 1) := by decide +kernel
theorem d_Pr_inChannelOf_6 : decode m_Pr_inChannelOf.2.1 6 = .ok (.aload_n 0, 1) := by decide +kernel
theorem d_Pr_inChannelOf_7 : decode m_Pr_inChannelOf.2.1 7 = .ok (.getfield 15, 3) := by decide +kernel
theorem d_Pr_inChannelOf_10 : decode m_Pr_inChannelOf.2.1 10 = .ok (.iload_n 1, 1) := by decide +kernel
theorem d_Pr_inChannelOf_11 : decode m_Pr_inChannelOf.2.1 11 = .ok (.iaload, 1) := by decide +kernel
theorem d_Pr_inChannelOf_12 : decode m_Pr_inChannelOf.2.1 12 = .ok (.isub, 1) := by decide +kernel
theorem d_Pr_inChannelOf_13 : decode m_Pr_inChannelOf.2.1 13 = .ok (.ireturn, 1) := by decide +kernel
theorem d_Pr_copyFrom_0 : decode m_Pr_copyFrom.2.1 0 = .ok (.iconst 0, 1) := by decide +kernel
theorem d_Pr_copyFrom_1 : decode m_Pr_copyFrom.2.1 1 = .ok (.istore_n 2, 1) := by decide +kernel
theorem d_Pr_copyFrom_2 : decode m_Pr_copyFrom.2.1 2 = .ok (.iload_n 2, 1) := by decide +kernel
theorem d_Pr_copyFrom_3 : decode m_Pr_copyFrom.2.1 3 = .ok (.iconst 3, 1) := by decide +kernel
theorem d_Pr_copyFrom_4 : decode m_Pr_copyFrom.2.1 4 = .ok (.if_icmp .ge 45, 3) := by decide +kernel
theorem d_Pr_copyFrom_7 : decode m_Pr_copyFrom.2.1 7 = .ok (.aload_n 0, 1) := by decide +kernel
theorem d_Pr_copyFrom_8 : decode m_Pr_copyFrom.2.1 8 = .ok (.getfield 9, 3) := by decide +kernel
theorem d_Pr_copyFrom_11 : decode m_Pr_copyFrom.2.1 11 = .ok (.iload_n 2, 1) := by decide +kernel
theorem d_Pr_copyFrom_12 : decode m_Pr_copyFrom.2.1 12 = .ok (.aload_n 1, 1) := by decide +kernel
theorem d_Pr_copyFrom_13 : decode m_Pr_copyFrom.2.1 13 = .ok (.getfield 9, 3) := by decide +kernel
theorem d_Pr_copyFrom_16 : decode m_Pr_copyFrom.2.1 16 = .ok (.iload_n 2, 1) := by decide +kernel
theorem d_Pr_copyFrom_17 : decode m_Pr_copyFrom.2.1 17 = .ok (.iaload, 1) := by decide +kernel
theorem d_Pr_copyFrom_18 : decode m_Pr_copyFrom.2.1 18 = .ok (.iastore, 1) := by decide +kernel
theorem d_Pr_copyFrom_19 : decode m_Pr_copyFrom.2.1 19 = .ok (.aload_n 0, 1) := by decide +kernel
theorem d_Pr_copyFrom_20 : decode m_Pr_copyFrom.2.1 20 = .ok (.getfield 15, 3) := by decide +kernel
theorem d_Pr_copyFrom_23 : decode m_Pr_copyFrom.2.1 23 = .ok (.iload_n 2, 1) := by decide +kernel
theorem d_Pr_copyFrom_24 : decode m_Pr_copyFrom.2.1 24 = .ok (.aload_n 1, 1) := by decide +kernel
theorem d_Pr_copyFrom_25 : decode m_Pr_copyFrom.2.1 25 = .ok (.getfield 15, 3) := by decide +kernel
theorem d_Pr_copyFrom_28 : decode m_Pr_copyFrom.2.1 28 = .ok (.iload_n 2, 1) := by decide +kernel
theorem d_Pr_copyFrom_29 : decode m_Pr_copyFrom.2.1 29 = .ok (.iaload, 1) := by decide +kernel
theorem d_Pr_copyFrom_30 : decode m_Pr_copyFrom.2.1 30 = .ok (.iastore, 1) := by decide +kernel
theorem d_Pr_copyFrom_31 : decode m_Pr_copyFrom.2.1 31 = .ok (.aload_n 0, 1) := by decide +kernel
theorem d_Pr_copyFrom_32 : decode m_Pr_copyFrom.2.1 32 = .ok (.getfield 18, 3) := by decide +kernel
theorem d_Pr_copyFrom_35 : decode m_Pr_copyFrom.2.1 35 = .ok (.iload_n 2, 1) := by decide +kernel
theorem d_Pr_copyFrom_36 : decode m_Pr_copyFrom.2.1 36 = .ok (.aload_n 1, 1) := by decide +kernel
theorem d_Pr_copyFrom_37 : decode m_Pr_copyFrom.2.1 37 = .ok (.getfield 18, 3) := by decide +kernel
theorem d_Pr_copyFrom_40 : decode m_Pr_copyFrom.2.1 40 = .ok (.iload_n 2, 1) := by decide +kernel
theorem d_Pr_copyFrom_41 : decode m_Pr_copyFrom.2.1 41 = .ok (.iaload, 1) := by decide +kernel
theorem d_Pr_copyFrom_42 : decode m_Pr_copyFrom.2.1 42 = .ok (.iastore, 1) := by decide +kernel
theorem d_Pr_copyFrom_43 : decode m_Pr_copyFrom.2.1 43 = .ok (.iinc 2 1, 3) := by decide +kernel
theorem d_Pr_copyFrom_46 : decode m_Pr_copyFrom.2.1 46 = .ok (.goto (-44), 3) := by decide +kernel
theorem d_Pr_copyFrom_49 : decode m_Pr_copyFrom.2.1 49 = .ok (.aload_n 0, 1) := by decide +kernel
theorem d_Pr_copyFrom_50 : decode m_Pr_copyFrom.2.1 50 = .ok (.aload_n 1, 1) := by decide +kernel
theorem d_Pr_copyFrom_51 : decode m_Pr_copyFrom.2.1 51 = .ok (.getfield 21, 3) := by decide +kernel
theorem d_Pr_copyFrom_54 : decode m_Pr_copyFrom.2.1 54 = .ok (.putfield 21, 3) := by decide +kernel
theorem d_Pr_copyFrom_57 : decode m_Pr_copyFrom.2.1 57 = .ok (.aload_n 0, 1) := by decide +kernel
theorem d_Pr_copyFrom_58 : decode m_Pr_copyFrom.2.1 58 = .ok (.aload_n 1, 1) := by decide +kernel
theorem d_Pr_copyFrom_59 : decode m_Pr_copyFrom.2.1 59 = .ok (.getfield 25, 3) := by decide +kernel
theorem d_Pr_copyFrom_62 : decode m_Pr_copyFrom.2.1 62 = .ok (.putfield 25, 3) := by decide +kernel
theorem d_Pr_copyFrom_65 : decode m_Pr_copyFrom.2.1 65 = .ok (.aload_n 0, 1) := by decide +kernel
theorem d_Pr_copyFrom_66 : decode m_Pr_copyFrom.2.1 66 = .ok (.aload_n 1, 1) := by decide +kernel
theorem d_Pr_copyFrom_67 : decode m_Pr_copyFrom.2.1 67 = .ok (.getfield 28, 3) := by decide +kernel
theorem d_Pr_copyFrom_70 : decode m_Pr_copyFrom.2.1 70 = .ok (.putfield 28, 3) := by decide +kernel
theorem d_Pr_copyFrom_73 : decode m_Pr_copyFrom.2.1 73 = .ok (.aload_n 0, 1) := by decide +kernel
theorem d_Pr_copyFrom_74 : decode m_Pr_copyFrom.2.1 74 = .ok (.aload_n 1, 1) := by decide +kernel
theorem d_Pr_copyFrom_75 : decode m_Pr_copyFrom.2.1 75 = .ok (.getfield 31, 3) := by decide +kernel
theorem d_Pr_copyFrom_78 : decode m_Pr_copyFrom.2.1 78 = .ok (.putfield 31, 3) := by decide +kernel
theorem d_Pr_copyFrom_81 : decode m_Pr_copyFrom.2.1 81 = .ok (.aload_n 0, 1) := by decide +kernel
theorem d_Pr_copyFrom_82 : decode m_Pr_copyFrom.2.1 82 = .ok (.getfield 37, 3) := by decide +kernel
theorem d_Pr_copyFrom_85 : decode m_Pr_copyFrom.2.1 85 = .ok (.aload_n 1, 1) := by decide +kernel
theorem d_Pr_copyFrom_86 : decode m_Pr_copyFrom.2.1 86 = .ok (.getfield 37, 3) := by decide +kernel
theorem d_Pr_copyFrom_89 : decode m_Pr_copyFrom.2.1 89 = .ok (.invokevirtual 41, 3) := by decide +kernel
theorem d_Pr_copyFrom_92 : decode m_Pr_copyFrom.2.1 92 = .ok (.return_, 1) := by decide +kernel
theorem d_Si_init_0 : decode m_Si_init.2.1 0 = .ok (.aload_n 0, 1) := by decide +kernel
theorem d_Si_init_1 : decode m_Si_init.2.1 1 = .ok (.invokespecial 1, 3) := by decide +kernel
theorem d_Si_init_4 : decode m_Si_init.2.1 4 = .ok (.aload_n 0, 1) := by decide +kernel
theorem d_Si_init_5 : decode m_Si_init.2.1 5 = .ok (.new 7, 3) := by decide +kernel
theorem d_Si_init_8 : decode m_Si_init.2.1 8 = .ok (.dup, 1) := by decide +kernel
theorem d_Si_init_9 : decode m_Si_init.2.1 9 = .ok (.invokespecial 9, 3) := by decide +kernel
theorem d_Si_init_12 : decode m_Si_init.2.1 12 = .ok (.putfield 10, 3) := by decide +kernel
theorem d_Si_init_15 : decode m_Si_init.2.1 15 = .ok (.aload_n 0, 1) := by decide +kernel
theorem d_Si_init_16 : decode m_Si_init.2.1 16 = .ok (.iconst 0, 1) := by decide +kernel
theorem d_Si_init_17 : decode m_Si_init.2.1 17 = .ok (.putfield 16, 3) := by decide +kernel
theorem d_Si_init_20 : decode m_Si_init.2.1 20 = .ok (.aload_n 0, 1) := by decide +kernel
theorem d_Si_init_21 : decode m_Si_init.2.1 21 = .ok (.iconst 0, 1) := by decide +kernel
theorem d_Si_init_22 : decode m_Si_init.2.1 22 = .ok (.putfield 20, 3) := by decide +kernel
theorem d_Si_init_25 : decode m_Si_init.2.1 25 = .ok (.aload_n 0, 1) := by decide +kernel
theorem d_Si_init_26 : decode m_Si_init.2.1 26 = .ok (.iconst 0, 1) := by decide +kernel
theorem d_Si_init_27 : decode m_Si_init.2.1 27 = .ok (.putfield 23, 3) := by decide +kernel
theorem d_Si_init_30 : decode m_Si_init.2.1 30 = .ok (.return_, 1) := by decide +kernel
theorem d_Si_write_0 : decode m_Si_write.2.1 0 = .ok (.aload_n 1, 1) := by decide +kernel
theorem d_Si_write_1 : decode m_Si_write.2.1 1 = .ok (.iload_n 2, 1) := by decide +kernel
theorem d_Si_write_2 : decode m_Si_write.2.1 2 = .ok (.putfield 26, 3) := by decide +kernel
theorem d_Si_write_5 : decode m_Si_write.2.1 5 = .ok (.aload_n 0, 1) := by decide +kernel
theorem d_Si_write_6 : decode m_Si_write.2.1 6 = .ok (.getfield 23, 3) := by decide +kernel
theorem d_Si_write_9 : decode m_Si_write.2.1 9 = .ok (.aload_n 0, 1) := by decide +kernel
theorem d_Si_write_10 : decode m_Si_write.2.1 10 = .ok (.getfield 10, 3) := by decide +kernel
theorem d_Si_write_13 : decode m_Si_write.2.1 13 = .ok (.invokevirtual 32, 3) := by decide +kernel
theorem d_Si_write_16 : decode m_Si_write.2.1 16 = .ok (.if_icmp .lt 18, 3) := by decide +kernel
theorem d_Si_write_19 : decode m_Si_write.2.1 19 = .ok (.aload_n 0, 1) := by decide +kernel
theorem d_Si_write_20 : decode m_Si_write.2.1 20 = .ok (.getfield 10, 3) := by decide +kernel
theorem d_Si_write_23 : decode m_Si_write.2.1 23 = .ok (.new 27, 3) := by decide +kernel
theorem d_Si_write_26 : decode m_Si_write.2.1 26 = .ok (.dup, 1) := by decide +kernel
theorem d_Si_write_27 : decode m_Si_write.2.1 27 = .ok (.invokespecial 36, 3) := by decide +kernel
theorem d_Si_write_30 : decode m_Si_write.2.1 30 = .ok (.invokevirtual 37, 3) := by decide +kernel
theorem d_Si_write_33 : decode m_Si_write.2.1 33 = .ok (.pop, 1) := by decide +kernel
theorem d_Si_write_34 : decode m_Si_write.2.1 34 = .ok (.aload_n 0, 1) := by decide +kernel
theorem d_Si_write_35 : decode m_Si_write.2.1 35 = .ok (.getfield 23, 3) := by decide +kernel
theorem d_Si_write_38 : decode m_Si_write.2.1 38 = .ok (.aload_n 0, 1) := by decide +kernel
theorem d_Si_write_39 : decode m_Si_write.2.1 39 = .ok (.getfield 10, 3) := by decide +kernel
theorem d_Si_write_42 : decode m_Si_write.2.1 42 = .ok (.invokevirtual 32, 3) := by decide +kernel
theorem d_Si_write_45 : decode m_Si_write.2.1 45 = .ok (.if_icmp .ge 31, 3) := by decide +kernel
theorem d_Si_write_48 : decode m_Si_write.2.1 48 = .ok (.aload_n 0, 1) := by decide +kernel
theorem d_Si_write_49 : decode m_Si_write.2.1 49 = .ok (.getfield 10, 3) := by decide +kernel
theorem d_Si_write_52 : decode m_Si_write.2.1 52 = .ok (.aload_n 0, 1) := by decide +kernel
theorem d_Si_write_53 : decode m_Si_write.2.1 53 = .ok (.getfield 23, 3) := by decide +kernel
theorem d_Si_write_56 : decode m_Si_write.2.1 56 = .ok (.invokevirtual 41, 3) := by decide +kernel
theorem d_Si_write_59 : decode m_Si_write.2.1 59 = .ok (.checkcast 27, 3) := by decide +kernel
theorem d_Si_write_62 : decode m_Si_write.2.1 62 = .ok (.aload_n 1, 1) := by decide +kernel
theorem d_Si_write_63 : decode m_Si_write.2.1 63 = .ok (.invokevirtual 45, 3) := by decide +kernel
theorem d_Si_write_66 : decode m_Si_write.2.1 66 = .ok (.aload_n 0, 1) := by decide +kernel
theorem d_Si_write_67 : decode m_Si_write.2.1 67 = .ok (.dup, 1) := by decide +kernel
theorem d_Si_write_68 : decode m_Si_write.2.1 68 = .ok (.getfield 23, 3) := by decide +kernel
theorem d_Si_write_71 : decode m_Si_write.2.1 71 = .ok (.iconst 1, 1) := by decide +kernel
theorem d_Si_write_72 : decode m_Si_write.2.1 72 = .ok (.iadd, 1) := by decide +kernel
theorem d_Si_write_73 : decode m_Si_write.2.1 73 = .ok (.putfield 23, 3) := by decide +kernel
theorem d_Si_write_76 : decode m_Si_write.2.1 76 = .ok (.return_, 1) := by decide +kernel
theorem d_Si_lastCommitted_0 : decode m_Si_lastCommitted.2.1 0 = .ok (.aconst_null, 1) := by decide +kernel
theorem d_Si_lastCommitted_1 : decode m_Si_lastCommitted.2.1 1 = .ok (.astore_n 3, 1) := by decide +kernel
theorem d_Si_lastCommitted_2 : decode m_Si_lastCommitted.2.1 2 = .ok (.iconst 0, 1) := by decide +kernel
theorem d_Si_lastCommitted_3 : decode m_Si_lastCommitted.2.1 3 = .ok (.istore 4, 2) := by decide +kernel
theorem d_Si_lastCommitted_5 : decode m_Si_lastCommitted.2.1 5 = .ok (.iload 4, 2) := by decide +kernel
theorem d_Si_lastCommitted_7 : decode m_Si_lastCommitted.2.1 7 = .ok (.aload_n 0, 1) := by decide +kernel
theorem d_Si_lastCommitted_8 : decode m_Si_lastCommitted.2.1 8 = .ok (.getfield 16, 3) := by decide +kernel
theorem d_Si_lastCommitted_11 : decode m_Si_lastCommitted.2.1 11 = .ok (.if_icmp .ge 56, 3) := by decide +kernel
theorem d_Si_lastCommitted_14 : decode m_Si_lastCommitted.2.1 14 = .ok (.iload 4, 2) := by decide +kernel
theorem d_Si_lastCommitted_16 : decode m_Si_lastCommitted.2.1 16 = .ok (.aload_n 0, 1) := by decide +kernel
theorem d_Si_lastCommitted_17 : decode m_Si_lastCommitted.2.1 17 = .ok (.getfield 10, 3) := by decide +kernel
theorem d_Si_lastCommitted_20 : decode m_Si_lastCommitted.2.1 20 = .ok (.invokevirtual 32, 3) := by decide +kernel
theorem d_Si_lastCommitted_23 : decode m_Si_lastCommitted.2.1 23 = .ok (.if_icmp .ge 44, 3) := by decide +kernel
theorem d_Si_lastCommitted_26 : decode m_Si_lastCommitted.2.1 26 = .ok (.aload_n 0, 1) := by decide +kernel
theorem d_Si_lastCommitted_27 : decode m_Si_lastCommitted.2.1 27 = .ok (.getfield 10, 3) := by decide +kernel
theorem d_Si_lastCommitted_30 : decode m_Si_lastCommitted.2.1 30 = .ok (.iload 4, 2) := by decide +kernel
theorem d_Si_lastCommitted_32 : decode m_Si_lastCommitted.2.1 32 = .ok (.invokevirtual 41, 3) := by decide +kernel
theorem d_Si_lastCommitted_35 : decode m_Si_lastCommitted.2.1 35 = .ok (.checkcast 27, 3) := by decide +kernel
theorem d_Si_lastCommitted_38 : decode m_Si_lastCommitted.2.1 38 = .ok (.astore 5, 2) := by decide +kernel
theorem d_Si_lastCommitted_40 : decode m_Si_lastCommitted.2.1 40 = .ok (.aload 5, 2) := by decide +kernel
theorem d_Si_lastCommitted_42 : decode m_Si_lastCommitted.2.1 42 = .ok (.getfield 49, 3) := by decide +kernel
theorem d_Si_lastCommitted_45 : decode m_Si_lastCommitted.2.1 45 = .ok (.iload_n 1, 1) := by decide +kernel
theorem d_Si_lastCommitted_46 : decode m_Si_lastCommitted.2.1 46 = .ok (.if_icmp .ne 15, 3) := by decide +kernel
theorem d_Si_lastCommitted_49 : decode m_Si_lastCommitted.2.1 49 = .ok (.aload 5, 2) := by decide +kernel
theorem d_Si_lastCommitted_51 : decode m_Si_lastCommitted.2.1 51 = .ok (.getfield 52, 3) := by decide +kernel
theorem d_Si_lastCommitted_54 : decode m_Si_lastCommitted.2.1 54 = .ok (.iload_n 2, 1) := by decide +kernel
theorem d_Si_lastCommitted_55 : decode m_Si_lastCommitted.2.1 55 = .ok (.if_icmp .ne 6, 3) := by decide +kernel
theorem d_Si_lastCommitted_58 : decode m_Si_lastCommitted.2.1 58 = .ok (.aload 5, 2) := by decide +kernel
theorem d_Si_lastCommitted_60 : decode m_Si_lastCommitted.2.1 60 = .ok (.astore_n 3, 1) := by decide +kernel
theorem d_Si_lastCommitted_61 : decode m_Si_lastCommitted.2.1 61 = .ok (.iinc 4 1, 3) := by decide +kernel
theorem d_Si_lastCommitted_64 : decode m_Si_lastCommitted.2.1 64 = .ok (.goto (-59), 3) := by decide +kernel
theorem d_Si_lastCommitted_67 : decode m_Si_lastCommitted.2.1 67 = .ok (.aload_n 3, 1) := by decide +kernel
theorem d_Si_lastCommitted_68 : decode m_Si_lastCommitted.2.1 68 = .ok (.areturn, 1) := by decide +kernel
theorem d_So_init_0 : decode m_So_init.2.1 0 = .ok (.aload_n 0, 1) := by decide +kernel
theorem d_So_init_1 : decode m_So_init.2.1 1 = .ok (.invokespecial 1, 3) := by decide +kernel
theorem d_So_init_4 : decode m_So_init.2.1 4 = .ok (.aload_n 0, 1) := by decide +kernel
theorem d_So_init_5 : decode m_So_init.2.1 5 = .ok (.new 7, 3) := by decide +kernel
theorem d_So_init_8 : decode m_So_init.2.1 8 = .ok (.dup, 1) := by decide +kernel
theorem d_So_init_9 : decode m_So_init.2.1 9 = .ok (.invokespecial 9, 3) := by decide +kernel
theorem d_So_init_12 : decode m_So_init.2.1 12 = .ok (.putfield 10, 3) := by decide +kernel
theorem d_So_init_15 : decode m_So_init.2.1 15 = .ok (.aload_n 0, 1) := by decide +kernel
theorem d_So_init_16 : decode m_So_init.2.1 16 = .ok (.iconst 0, 1) := by decide +kernel
theorem d_So_init_17 : decode m_So_init.2.1 17 = .ok (.putfield 16, 3) := by decide +kernel
theorem d_So_init_20 : decode m_So_init.2.1 20 = .ok (.aload_n 0, 1) := by decide +kernel
theorem d_So_init_21 : decode m_So_init.2.1 21 = .ok (.iconst 0, 1) := by decide +kernel
theorem d_So_init_22 : decode m_So_init.2.1 22 = .ok (.putfield 20, 3) := by decide +kernel
theorem d_So_init_25 : decode m_So_init.2.1 25 = .ok (.return_, 1) := by decide +kernel
theorem d_Wi_init_0 : decode m_Wi_init.2.1 0 = .ok (.aload_n 0, 1) := by decide +kernel
theorem d_Wi_init_1 : decode m_Wi_init.2.1 1 = .ok (.invokespecial 3, 3) := by decide +kernel
theorem d_Wi_init_4 : decode m_Wi_init.2.1 4 = .ok (.return_, 1) := by decide +kernel
theorem d_Wi_begin_0 : decode m_Wi_begin.2.1 0 = .ok (.aload_n 0, 1) := by decide +kernel
theorem d_Wi_begin_1 : decode m_Wi_begin.2.1 1 = .ok (.iload_n 1, 1) := by decide +kernel
theorem d_Wi_begin_2 : decode m_Wi_begin.2.1 2 = .ok (.putfield 9, 3) := by decide +kernel
theorem d_Wi_begin_5 : decode m_Wi_begin.2.1 5 = .ok (.aload_n 0, 1) := by decide +kernel
theorem d_Wi_begin_6 : decode m_Wi_begin.2.1 6 = .ok (.iload_n 2, 1) := by decide +kernel
theorem d_Wi_begin_7 : decode m_Wi_begin.2.1 7 = .ok (.putfield 15, 3) := by decide +kernel
theorem d_Wi_begin_10 : decode m_Wi_begin.2.1 10 = .ok (.aload_n 0, 1) := by decide +kernel
theorem d_Wi_begin_11 : decode m_Wi_begin.2.1 11 = .ok (.iload_n 3, 1) := by decide +kernel
theorem d_Wi_begin_12 : decode m_Wi_begin.2.1 12 = .ok (.putfield 18, 3) := by decide +kernel
theorem d_Wi_begin_15 : decode m_Wi_begin.2.1 15 = .ok (.aload_n 0, 1) := by decide +kernel
theorem d_Wi_begin_16 : decode m_Wi_begin.2.1 16 = .ok (.iconst 0, 1) := by decide +kernel
theorem d_Wi_begin_17 : decode m_Wi_begin.2.1 17 = .ok (.putfield 21, 3) := by decide +kernel
theorem d_Wi_begin_20 : decode m_Wi_begin.2.1 20 = .ok (.aload_n 0, 1) := by decide +kernel
theorem d_Wi_begin_21 : decode m_Wi_begin.2.1 21 = .ok (.iconst 0, 1) := by decide +kernel
theorem d_Wi_begin_22 : decode m_Wi_begin.2.1 22 = .ok (.putfield 24, 3) := by decide +kernel
theorem d_Wi_begin_25 : decode m_Wi_begin.2.1 25 = .ok (.aload_n 0, 1) := by decide +kernel
theorem d_Wi_begin_26 : decode m_Wi_begin.2.1 26 = .ok (.iconst 0, 1) := by decide +kernel
theorem d_Wi_begin_27 : decode m_Wi_begin.2.1 27 = .ok (.putfield 27, 3) := by decide +kernel
theorem d_Wi_begin_30 : decode m_Wi_begin.2.1 30 = .ok (.return_, 1) := by decide +kernel
theorem d_Wi_copyFrom_0 : decode m_Wi_copyFrom.2.1 0 = .ok (.aload_n 0, 1) := by decide +kernel
theorem d_Wi_copyFrom_1 : decode m_Wi_copyFrom.2.1 1 = .ok (.aload_n 1, 1) := by decide +kernel
theorem d_Wi_copyFrom_2 : decode m_Wi_copyFrom.2.1 2 = .ok (.getfield 9, 3) := by decide +kernel
theorem d_Wi_copyFrom_5 : decode m_Wi_copyFrom.2.1 5 = .ok (.putfield 9, 3) := by decide +kernel
theorem d_Wi_copyFrom_8 : decode m_Wi_copyFrom.2.1 8 = .ok (.aload_n 0, 1) := by decide +kernel
theorem d_Wi_copyFrom_9 : decode m_Wi_copyFrom.2.1 9 = .ok (.aload_n 1, 1) := by decide +kernel
theorem d_Wi_copyFrom_10 : decode m_Wi_copyFrom.2.1 10 = .ok (.getfield 15, 3) := by decide +kernel
theorem d_Wi_copyFrom_13 : decode m_Wi_copyFrom.2.1 13 = .ok (.putfield 15, 3) := by decide +kernel
theorem d_Wi_copyFrom_16 : decode m_Wi_copyFrom.2.1 16 = .ok (.aload_n 0, 1) := by decide +kernel
theorem d_Wi_copyFrom_17 : decode m_Wi_copyFrom.2.1 17 = .ok (.aload_n 1, 1) := by decide +kernel
theorem d_Wi_copyFrom_18 : decode m_Wi_copyFrom.2.1 18 = .ok (.getfield 18, 3) := by decide +kernel
theorem d_Wi_copyFrom_21 : decode m_Wi_copyFrom.2.1 21 = .ok (.putfield 18, 3) := by decide +kernel
theorem d_Wi_copyFrom_24 : decode m_Wi_copyFrom.2.1 24 = .ok (.aload_n 0, 1) := by decide +kernel
theorem d_Wi_copyFrom_25 : decode m_Wi_copyFrom.2.1 25 = .ok (.aload_n 1, 1) := by decide +kernel
theorem d_Wi_copyFrom_26 : decode m_Wi_copyFrom.2.1 26 = .ok (.getfield 21, 3) := by decide +kernel
theorem d_Wi_copyFrom_29 : decode m_Wi_copyFrom.2.1 29 = .ok (.putfield 21, 3) := by decide +kernel
theorem d_Wi_copyFrom_32 : decode m_Wi_copyFrom.2.1 32 = .ok (.aload_n 0, 1) := by decide +kernel
theorem d_Wi_copyFrom_33 : decode m_Wi_copyFrom.2.1 33 = .ok (.aload_n 1, 1) := by decide +kernel
theorem d_Wi_copyFrom_34 : decode m_Wi_copyFrom.2.1 34 = .ok (.getfield 24, 3) := by decide +kernel
theorem d_Wi_copyFrom_37 : decode m_Wi_copyFrom.2.1 37 = .ok (.putfield 24, 3) := by decide +kernel
theorem d_Wi_copyFrom_40 : decode m_Wi_copyFrom.2.1 40 = .ok (.aload_n 0, 1) := by decide +kernel
theorem d_Wi_copyFrom_41 : decode m_Wi_copyFrom.2.1 41 = .ok (.aload_n 1, 1) := by decide +kernel
theorem d_Wi_copyFrom_42 : decode m_Wi_copyFrom.2.1 42 = .ok (.getfield 27, 3) := by decide +kernel
theorem d_Wi_copyFrom_45 : decode m_Wi_copyFrom.2.1 45 = .ok (.putfield 27, 3) := by decide +kernel
theorem d_Wi_copyFrom_48 : decode m_Wi_copyFrom.2.1 48 = .ok (.return_, 1) := by decide +kernel
theorem d_Wi_addValue_0 : decode m_Wi_addValue.2.1 0 = .ok (.aload_n 0, 1) := by decide +kernel
theorem d_Wi_addValue_1 : decode m_Wi_addValue.2.1 1 = .ok (.dup, 1) := by decide +kernel
theorem d_Wi_addValue_2 : decode m_Wi_addValue.2.1 2 = .ok (.getfield 21, 3) := by decide +kernel
theorem d_Wi_addValue_5 : decode m_Wi_addValue.2.1 5 = .ok (.iconst 1, 1) := by decide +kernel
theorem d_Wi_addValue_6 : decode m_Wi_addValue.2.1 6 = .ok (.iadd, 1) := by decide +kernel
theorem d_Wi_addValue_7 : decode m_Wi_addValue.2.1 7 = .ok (.putfield 21, 3) := by decide +kernel
theorem d_Wi_addValue_10 : decode m_Wi_addValue.2.1 10 = .ok (.aload_n 0, 1) := by decide +kernel
theorem d_Wi_addValue_11 : decode m_Wi_addValue.2.1 11 = .ok (.dup, 1) := by decide +kernel
theorem d_Wi_addValue_12 : decode m_Wi_addValue.2.1 12 = .ok (.getfield 24, 3) := by decide +kernel
theorem d_Wi_addValue_15 : decode m_Wi_addValue.2.1 15 = .ok (.iload_n 1, 1) := by decide +kernel
theorem d_Wi_addValue_16 : decode m_Wi_addValue.2.1 16 = .ok (.iadd, 1) := by decide +kernel
theorem d_Wi_addValue_17 : decode m_Wi_addValue.2.1 17 = .ok (.putfield 24, 3) := by decide +kernel
theorem d_Wi_addValue_20 : decode m_Wi_addValue.2.1 20 = .ok (.return_, 1) := by decide +kernel
theorem d_Wi_absorb_0 : decode m_Wi_absorb.2.1 0 = .ok (.aload_n 0, 1) := by decide +kernel
theorem d_Wi_absorb_1 : decode m_Wi_absorb.2.1 1 = .ok (.aload_n 0, 1) := by decide +kernel
theorem d_Wi_absorb_2 : decode m_Wi_absorb.2.1 2 = .ok (.getfield 15, 3) := by decide +kernel
theorem d_Wi_absorb_5 : decode m_Wi_absorb.2.1 5 = .ok (.aload_n 1, 1) := by decide +kernel
theorem d_Wi_absorb_6 : decode m_Wi_absorb.2.1 6 = .ok (.getfield 15, 3) := by decide +kernel
theorem d_Wi_absorb_9 : decode m_Wi_absorb.2.1 9 = .ok (.invokestatic 31, 3) := by decide +kernel
theorem d_Wi_absorb_12 : decode m_Wi_absorb.2.1 12 = .ok (.putfield 15, 3) := by decide +kernel
theorem d_Wi_absorb_15 : decode m_Wi_absorb.2.1 15 = .ok (.aload_n 0, 1) := by decide +kernel
theorem d_Wi_absorb_16 : decode m_Wi_absorb.2.1 16 = .ok (.aload_n 0, 1) := by decide +kernel
theorem d_Wi_absorb_17 : decode m_Wi_absorb.2.1 17 = .ok (.getfield 18, 3) := by decide +kernel
theorem d_Wi_absorb_20 : decode m_Wi_absorb.2.1 20 = .ok (.aload_n 1, 1) := by decide +kernel
theorem d_Wi_absorb_21 : decode m_Wi_absorb.2.1 21 = .ok (.getfield 18, 3) := by decide +kernel
theorem d_Wi_absorb_24 : decode m_Wi_absorb.2.1 24 = .ok (.invokestatic 37, 3) := by decide +kernel
theorem d_Wi_absorb_27 : decode m_Wi_absorb.2.1 27 = .ok (.putfield 18, 3) := by decide +kernel
theorem d_Wi_absorb_30 : decode m_Wi_absorb.2.1 30 = .ok (.aload_n 0, 1) := by decide +kernel
theorem d_Wi_absorb_31 : decode m_Wi_absorb.2.1 31 = .ok (.dup, 1) := by decide +kernel
theorem d_Wi_absorb_32 : decode m_Wi_absorb.2.1 32 = .ok (.getfield 21, 3) := by decide +kernel
theorem d_Wi_absorb_35 : decode m_Wi_absorb.2.1 35 = .ok (.aload_n 1, 1) := by decide +kernel
theorem d_Wi_absorb_36 : decode m_Wi_absorb.2.1 36 = .ok (.getfield 21, 3) := by decide +kernel
theorem d_Wi_absorb_39 : decode m_Wi_absorb.2.1 39 = .ok (.iadd, 1) := by decide +kernel
theorem d_Wi_absorb_40 : decode m_Wi_absorb.2.1 40 = .ok (.putfield 21, 3) := by decide +kernel
theorem d_Wi_absorb_43 : decode m_Wi_absorb.2.1 43 = .ok (.aload_n 0, 1) := by decide +kernel
theorem d_Wi_absorb_44 : decode m_Wi_absorb.2.1 44 = .ok (.dup, 1) := by decide +kernel
theorem d_Wi_absorb_45 : decode m_Wi_absorb.2.1 45 = .ok (.getfield 24, 3) := by decide +kernel
theorem d_Wi_absorb_48 : decode m_Wi_absorb.2.1 48 = .ok (.aload_n 1, 1) := by decide +kernel
theorem d_Wi_absorb_49 : decode m_Wi_absorb.2.1 49 = .ok (.getfield 24, 3) := by decide +kernel
theorem d_Wi_absorb_52 : decode m_Wi_absorb.2.1 52 = .ok (.iadd, 1) := by decide +kernel
theorem d_Wi_absorb_53 : decode m_Wi_absorb.2.1 53 = .ok (.putfield 24, 3) := by decide +kernel
theorem d_Wi_absorb_56 : decode m_Wi_absorb.2.1 56 = .ok (.return_, 1) := by decide +kernel
theorem d_Wi_number_0 : decode m_Wi_number.2.1 0 = .ok (.iload_n 1, 1) := by decide +kernel
theorem d_Wi_number_1 : decode m_Wi_number.2.1 1 = .ok (.ifCond .ne 10, 3) := by decide +kernel
theorem d_Wi_number_4 : decode m_Wi_number.2.1 4 = .ok (.aload_n 0, 1) := by decide +kernel
theorem d_Wi_number_5 : decode m_Wi_number.2.1 5 = .ok (.getfield 21, 3) := by decide +kernel
theorem d_Wi_number_8 : decode m_Wi_number.2.1 8 = .ok (.goto 19, 3) := by decide +kernel
theorem d_Wi_number_11 : decode m_Wi_number.2.1 11 = .ok (.iload_n 1, 1) := by decide +kernel
theorem d_Wi_number_12 : decode m_Wi_number.2.1 12 = .ok (.iconst 1, 1) := by decide +kernel
theorem d_Wi_number_13 : decode m_Wi_number.2.1 13 = .ok (.if_icmp .ne 10, 3) := by decide +kernel
theorem d_Wi_number_16 : decode m_Wi_number.2.1 16 = .ok (.aload_n 0, 1) := by decide +kernel
theorem d_Wi_number_17 : decode m_Wi_number.2.1 17 = .ok (.getfield 24, 3) := by decide +kernel
theorem d_Wi_number_20 : decode m_Wi_number.2.1 20 = .ok (.goto 7, 3) := by decide +kernel
theorem d_Wi_number_23 : decode m_Wi_number.2.1 23 = .ok (.aload_n 0, 1) := by decide +kernel
theorem d_Wi_number_24 : decode m_Wi_number.2.1 24 = .ok (.getfield 18, 3) := by decide +kernel
theorem d_Wi_number_27 : decode m_Wi_number.2.1 27 = .ok (.ireturn, 1) := by decide +kernel
theorem d_Wi_hasMoment_0 : decode m_Wi_hasMoment.2.1 0 = .ok (.aload_n 0, 1) := by decide +kernel
theorem d_Wi_hasMoment_1 : decode m_Wi_hasMoment.2.1 1 = .ok (.getfield 15, 3) := by decide +kernel
theorem d_Wi_hasMoment_4 : decode m_Wi_hasMoment.2.1 4 = .ok (.iload_n 1, 1) := by decide +kernel
theorem d_Wi_hasMoment_5 : decode m_Wi_hasMoment.2.1 5 = .ok (.if_icmp .gt 15, 3) := by decide +kernel
theorem d_Wi_hasMoment_8 : decode m_Wi_hasMoment.2.1 8 = .ok (.iload_n 1, 1) := by decide +kernel
theorem d_Wi_hasMoment_9 : decode m_Wi_hasMoment.2.1 9 = .ok (.aload_n 0, 1) := by decide +kernel
theorem d_Wi_hasMoment_10 : decode m_Wi_hasMoment.2.1 10 = .ok (.getfield 18, 3) := by decide +kernel
theorem d_Wi_hasMoment_13 : decode m_Wi_hasMoment.2.1 13 = .ok (.if_icmp .ge 7, 3) := by decide +kernel
theorem d_Wi_hasMoment_16 : decode m_Wi_hasMoment.2.1 16 = .ok (.iconst 1, 1) := by decide +kernel
theorem d_Wi_hasMoment_17 : decode m_Wi_hasMoment.2.1 17 = .ok (.goto 4, 3) := by decide +kernel
theorem d_Wi_hasMoment_20 : decode m_Wi_hasMoment.2.1 20 = .ok (.iconst 0, 1) := by decide +kernel
theorem d_Wi_hasMoment_21 : decode m_Wi_hasMoment.2.1 21 = .ok (.ireturn, 1) := by decide +kernel
theorem d_Wi_meets_0 : decode m_Wi_meets.2.1 0 = .ok (.aload_n 0, 1) := by decide +kernel
theorem d_Wi_meets_1 : decode m_Wi_meets.2.1 1 = .ok (.getfield 9, 3) := by decide +kernel
theorem d_Wi_meets_4 : decode m_Wi_meets.2.1 4 = .ok (.aload_n 1, 1) := by decide +kernel
theorem d_Wi_meets_5 : decode m_Wi_meets.2.1 5 = .ok (.getfield 9, 3) := by decide +kernel
theorem d_Wi_meets_8 : decode m_Wi_meets.2.1 8 = .ok (.if_icmp .ne 29, 3) := by decide +kernel
theorem d_Wi_meets_11 : decode m_Wi_meets.2.1 11 = .ok (.aload_n 0, 1) := by decide +kernel
theorem d_Wi_meets_12 : decode m_Wi_meets.2.1 12 = .ok (.getfield 15, 3) := by decide +kernel
theorem d_Wi_meets_15 : decode m_Wi_meets.2.1 15 = .ok (.aload_n 1, 1) := by decide +kernel
theorem d_Wi_meets_16 : decode m_Wi_meets.2.1 16 = .ok (.getfield 18, 3) := by decide +kernel
theorem d_Wi_meets_19 : decode m_Wi_meets.2.1 19 = .ok (.if_icmp .ge 18, 3) := by decide +kernel
theorem d_Wi_meets_22 : decode m_Wi_meets.2.1 22 = .ok (.aload_n 1, 1) := by decide +kernel
theorem d_Wi_meets_23 : decode m_Wi_meets.2.1 23 = .ok (.getfield 15, 3) := by decide +kernel
theorem d_Wi_meets_26 : decode m_Wi_meets.2.1 26 = .ok (.aload_n 0, 1) := by decide +kernel
theorem d_Wi_meets_27 : decode m_Wi_meets.2.1 27 = .ok (.getfield 18, 3) := by decide +kernel
theorem d_Wi_meets_30 : decode m_Wi_meets.2.1 30 = .ok (.if_icmp .ge 7, 3) := by decide +kernel
theorem d_Wi_meets_33 : decode m_Wi_meets.2.1 33 = .ok (.iconst 1, 1) := by decide +kernel
theorem d_Wi_meets_34 : decode m_Wi_meets.2.1 34 = .ok (.goto 4, 3) := by decide +kernel
theorem d_Wi_meets_37 : decode m_Wi_meets.2.1 37 = .ok (.iconst 0, 1) := by decide +kernel
theorem d_Wi_meets_38 : decode m_Wi_meets.2.1 38 = .ok (.ireturn, 1) := by decide +kernel
theorem d_Wi_isAheadOf_0 : decode m_Wi_isAheadOf.2.1 0 = .ok (.aload_n 0, 1) := by decide +kernel
theorem d_Wi_isAheadOf_1 : decode m_Wi_isAheadOf.2.1 1 = .ok (.getfield 18, 3) := by decide +kernel
theorem d_Wi_isAheadOf_4 : decode m_Wi_isAheadOf.2.1 4 = .ok (.aload_n 1, 1) := by decide +kernel
theorem d_Wi_isAheadOf_5 : decode m_Wi_isAheadOf.2.1 5 = .ok (.getfield 18, 3) := by decide +kernel
theorem d_Wi_isAheadOf_8 : decode m_Wi_isAheadOf.2.1 8 = .ok (.if_icmp .eq 20, 3) := by decide +kernel
theorem d_Wi_isAheadOf_11 : decode m_Wi_isAheadOf.2.1 11 = .ok (.aload_n 0, 1) := by decide +kernel
theorem d_Wi_isAheadOf_12 : decode m_Wi_isAheadOf.2.1 12 = .ok (.getfield 18, 3) := by decide +kernel
theorem d_Wi_isAheadOf_15 : decode m_Wi_isAheadOf.2.1 15 = .ok (.aload_n 1, 1) := by decide +kernel
theorem d_Wi_isAheadOf_16 : decode m_Wi_isAheadOf.2.1 16 = .ok (.getfield 18, 3) := by decide +kernel
theorem d_Wi_isAheadOf_19 : decode m_Wi_isAheadOf.2.1 19 = .ok (.if_icmp .ge 7, 3) := by decide +kernel
theorem d_Wi_isAheadOf_22 : decode m_Wi_isAheadOf.2.1 22 = .ok (.iconst 1, 1) := by decide +kernel
theorem d_Wi_isAheadOf_23 : decode m_Wi_isAheadOf.2.1 23 = .ok (.goto 4, 3) := by decide +kernel
theorem d_Wi_isAheadOf_26 : decode m_Wi_isAheadOf.2.1 26 = .ok (.iconst 0, 1) := by decide +kernel
theorem d_Wi_isAheadOf_27 : decode m_Wi_isAheadOf.2.1 27 = .ok (.ireturn, 1) := by decide +kernel
theorem d_Wi_isAheadOf_28 : decode m_Wi_isAheadOf.2.1 28 = .ok (.aload_n 0, 1) := by decide +kernel
theorem d_Wi_isAheadOf_29 : decode m_Wi_isAheadOf.2.1 29 = .ok (.getfield 9, 3) := by decide +kernel
theorem d_Wi_isAheadOf_32 : decode m_Wi_isAheadOf.2.1 32 = .ok (.aload_n 1, 1) := by decide +kernel
theorem d_Wi_isAheadOf_33 : decode m_Wi_isAheadOf.2.1 33 = .ok (.getfield 9, 3) := by decide +kernel
theorem d_Wi_isAheadOf_36 : decode m_Wi_isAheadOf.2.1 36 = .ok (.if_icmp .eq 22, 3) := by decide +kernel
theorem d_Wi_isAheadOf_39 : decode m_Wi_isAheadOf.2.1 39 = .ok (.aload_n 0, 1) := by decide +kernel
theorem d_Wi_isAheadOf_40 : decode m_Wi_isAheadOf.2.1 40 = .ok (.getfield 9, 3) := by decide +kernel
theorem d_Wi_isAheadOf_43 : decode m_Wi_isAheadOf.2.1 43 = .ok (.aload_n 1, 1) := by decide +kernel
theorem d_Wi_isAheadOf_44 : decode m_Wi_isAheadOf.2.1 44 = .ok (.getfield 9, 3) := by decide +kernel
theorem d_Wi_isAheadOf_47 : decode m_Wi_isAheadOf.2.1 47 = .ok (.if_icmp .ge 7, 3) := by decide +kernel
theorem d_Wi_isAheadOf_50 : decode m_Wi_isAheadOf.2.1 50 = .ok (.iconst 1, 1) := by decide +kernel
theorem d_Wi_isAheadOf_51 : decode m_Wi_isAheadOf.2.1 51 = .ok (.goto 23, 3) := by decide +kernel
theorem d_Wi_isAheadOf_54 : decode m_Wi_isAheadOf.2.1 54 = .ok (.iconst 0, 1) := by decide +kernel
theorem d_Wi_isAheadOf_55 : decode m_Wi_isAheadOf.2.1 55 = .ok (.goto 19, 3) := by decide +kernel
theorem d_Wi_isAheadOf_58 : decode m_Wi_isAheadOf.2.1 58 = .ok (.aload_n 0, 1) := by decide +kernel
theorem d_Wi_isAheadOf_59 : decode m_Wi_isAheadOf.2.1 59 = .ok (.getfield 15, 3) := by decide +kernel
theorem d_Wi_isAheadOf_62 : decode m_Wi_isAheadOf.2.1 62 = .ok (.aload_n 1, 1) := by decide +kernel
theorem d_Wi_isAheadOf_63 : decode m_Wi_isAheadOf.2.1 63 = .ok (.getfield 15, 3) := by decide +kernel
theorem d_Wi_isAheadOf_66 : decode m_Wi_isAheadOf.2.1 66 = .ok (.if_icmp .ge 7, 3) := by decide +kernel
theorem d_Wi_isAheadOf_69 : decode m_Wi_isAheadOf.2.1 69 = .ok (.iconst 1, 1) := by decide +kernel
theorem d_Wi_isAheadOf_70 : decode m_Wi_isAheadOf.2.1 70 = .ok (.goto 4, 3) := by decide +kernel
theorem d_Wi_isAheadOf_73 : decode m_Wi_isAheadOf.2.1 73 = .ok (.iconst 0, 1) := by decide +kernel
theorem d_Wi_isAheadOf_74 : decode m_Wi_isAheadOf.2.1 74 = .ok (.ireturn, 1) := by decide +kernel
theorem d_Ws_init_0 : decode m_Ws_init.2.1 0 = .ok (.aload_n 0, 1) := by decide +kernel
theorem d_Ws_init_1 : decode m_Ws_init.2.1 1 = .ok (.invokespecial 3, 3) := by decide +kernel
theorem d_Ws_init_4 : decode m_Ws_init.2.1 4 = .ok (.aload_n 0, 1) := by decide +kernel
theorem d_Ws_init_5 : decode m_Ws_init.2.1 5 = .ok (.new 9, 3) := by decide +kernel
theorem d_Ws_init_8 : decode m_Ws_init.2.1 8 = .ok (.dup, 1) := by decide +kernel
theorem d_Ws_init_9 : decode m_Ws_init.2.1 9 = .ok (.invokespecial 11, 3) := by decide +kernel
theorem d_Ws_init_12 : decode m_Ws_init.2.1 12 = .ok (.putfield 12, 3) := by decide +kernel
theorem d_Ws_init_15 : decode m_Ws_init.2.1 15 = .ok (.aload_n 0, 1) := by decide +kernel
theorem d_Ws_init_16 : decode m_Ws_init.2.1 16 = .ok (.new 9, 3) := by decide +kernel
theorem d_Ws_init_19 : decode m_Ws_init.2.1 19 = .ok (.dup, 1) := by decide +kernel
theorem d_Ws_init_20 : decode m_Ws_init.2.1 20 = .ok (.invokespecial 11, 3) := by decide +kernel
theorem d_Ws_init_23 : decode m_Ws_init.2.1 23 = .ok (.putfield 18, 3) := by decide +kernel
theorem d_Ws_init_26 : decode m_Ws_init.2.1 26 = .ok (.return_, 1) := by decide +kernel
theorem d_Ws_unusedRow_0 : decode m_Ws_unusedRow.2.1 0 = .ok (.aload_n 0, 1) := by decide +kernel
theorem d_Ws_unusedRow_1 : decode m_Ws_unusedRow.2.1 1 = .ok (.getfield 18, 3) := by decide +kernel
theorem d_Ws_unusedRow_4 : decode m_Ws_unusedRow.2.1 4 = .ok (.invokevirtual 21, 3) := by decide +kernel
theorem d_Ws_unusedRow_7 : decode m_Ws_unusedRow.2.1 7 = .ok (.iconst 1, 1) := by decide +kernel
theorem d_Ws_unusedRow_8 : decode m_Ws_unusedRow.2.1 8 = .ok (.isub, 1) := by decide +kernel
theorem d_Ws_unusedRow_9 : decode m_Ws_unusedRow.2.1 9 = .ok (.istore_n 1, 1) := by decide +kernel
theorem d_Ws_unusedRow_10 : decode m_Ws_unusedRow.2.1 10 = .ok (.iload_n 1, 1) := by decide +kernel
theorem d_Ws_unusedRow_11 : decode m_Ws_unusedRow.2.1 11 = .ok (.ifCond .ge 13, 3) := by decide +kernel
theorem d_Ws_unusedRow_14 : decode m_Ws_unusedRow.2.1 14 = .ok (.new 25, 3) := by decide +kernel
theorem d_Ws_unusedRow_17 : decode m_Ws_unusedRow.2.1 17 = .ok (.dup, 1) := by decide +kernel
theorem d_Ws_unusedRow_18 : decode m_Ws_unusedRow.2.1 18 = .ok (.invokespecial 27, 3) := by decide +kernel
theorem d_Ws_unusedRow_21 : decode m_Ws_unusedRow.2.1 21 = .ok (.goto 14, 3) := by decide +kernel
theorem d_Ws_unusedRow_24 : decode m_Ws_unusedRow.2.1 24 = .ok (.aload_n 0, 1) := by decide +kernel
theorem d_Ws_unusedRow_25 : decode m_Ws_unusedRow.2.1 25 = .ok (.getfield 18, 3) := by decide +kernel
theorem d_Ws_unusedRow_28 : decode m_Ws_unusedRow.2.1 28 = .ok (.iload_n 1, 1) := by decide +kernel
theorem d_Ws_unusedRow_29 : decode m_Ws_unusedRow.2.1 29 = .ok (.invokevirtual 28, 3) := by decide +kernel
theorem d_Ws_unusedRow_32 : decode m_Ws_unusedRow.2.1 32 = .ok (.checkcast 25, 3) := by decide +kernel
theorem d_Ws_unusedRow_35 : decode m_Ws_unusedRow.2.1 35 = .ok (.areturn, 1) := by decide +kernel
theorem d_Ws_copyFrom_0 : decode m_Ws_copyFrom.2.1 0 = .ok (.aload_n 0, 1) := by decide +kernel
theorem d_Ws_copyFrom_1 : decode m_Ws_copyFrom.2.1 1 = .ok (.getfield 12, 3) := by decide +kernel
theorem d_Ws_copyFrom_4 : decode m_Ws_copyFrom.2.1 4 = .ok (.invokevirtual 21, 3) := by decide +kernel
theorem d_Ws_copyFrom_7 : decode m_Ws_copyFrom.2.1 7 = .ok (.iconst 1, 1) := by decide +kernel
theorem d_Ws_copyFrom_8 : decode m_Ws_copyFrom.2.1 8 = .ok (.isub, 1) := by decide +kernel
theorem d_Ws_copyFrom_9 : decode m_Ws_copyFrom.2.1 9 = .ok (.istore_n 2, 1) := by decide +kernel
theorem d_Ws_copyFrom_10 : decode m_Ws_copyFrom.2.1 10 = .ok (.iload_n 2, 1) := by decide +kernel
theorem d_Ws_copyFrom_11 : decode m_Ws_copyFrom.2.1 11 = .ok (.aload_n 1, 1) := by decide +kernel
theorem d_Ws_copyFrom_12 : decode m_Ws_copyFrom.2.1 12 = .ok (.getfield 12, 3) := by decide +kernel
theorem d_Ws_copyFrom_15 : decode m_Ws_copyFrom.2.1 15 = .ok (.invokevirtual 21, 3) := by decide +kernel
theorem d_Ws_copyFrom_18 : decode m_Ws_copyFrom.2.1 18 = .ok (.if_icmp .lt 28, 3) := by decide +kernel
theorem d_Ws_copyFrom_21 : decode m_Ws_copyFrom.2.1 21 = .ok (.aload_n 0, 1) := by decide +kernel
theorem d_Ws_copyFrom_22 : decode m_Ws_copyFrom.2.1 22 = .ok (.getfield 18, 3) := by decide +kernel
theorem d_Ws_copyFrom_25 : decode m_Ws_copyFrom.2.1 25 = .ok (.aload_n 0, 1) := by decide +kernel
theorem d_Ws_copyFrom_26 : decode m_Ws_copyFrom.2.1 26 = .ok (.getfield 12, 3) := by decide +kernel
theorem d_Ws_copyFrom_29 : decode m_Ws_copyFrom.2.1 29 = .ok (.iload_n 2, 1) := by decide +kernel
theorem d_Ws_copyFrom_30 : decode m_Ws_copyFrom.2.1 30 = .ok (.invokevirtual 28, 3) := by decide +kernel
theorem d_Ws_copyFrom_33 : decode m_Ws_copyFrom.2.1 33 = .ok (.checkcast 25, 3) := by decide +kernel
theorem d_Ws_copyFrom_36 : decode m_Ws_copyFrom.2.1 36 = .ok (.invokevirtual 32, 3) := by decide +kernel
theorem d_Ws_copyFrom_39 : decode m_Ws_copyFrom.2.1 39 = .ok (.pop, 1) := by decide +kernel
theorem d_Ws_copyFrom_40 : decode m_Ws_copyFrom.2.1 40 = .ok (.iinc 2 (-1), 3) := by decide +kernel
theorem d_Ws_copyFrom_43 : decode m_Ws_copyFrom.2.1 43 = .ok (.goto (-33), 3) := by decide +kernel
theorem d_Ws_copyFrom_46 : decode m_Ws_copyFrom.2.1 46 = .ok (.iconst 0, 1) := by decide +kernel
theorem d_Ws_copyFrom_47 : decode m_Ws_copyFrom.2.1 47 = .ok (.istore_n 2, 1) := by decide +kernel
theorem d_Ws_copyFrom_48 : decode m_Ws_copyFrom.2.1 48 = .ok (.iload_n 2, 1) := by decide +kernel
theorem d_Ws_copyFrom_49 : decode m_Ws_copyFrom.2.1 49 = .ok (.aload_n 1, 1) := by decide +kernel
theorem d_Ws_copyFrom_50 : decode m_Ws_copyFrom.2.1 50 = .ok (.getfield 12, 3) := by decide +kernel
theorem d_Ws_copyFrom_53 : decode m_Ws_copyFrom.2.1 53 = .ok (.invokevirtual 21, 3) := by decide +kernel
theorem d_Ws_copyFrom_56 : decode m_Ws_copyFrom.2.1 56 = .ok (.if_icmp .ge 57, 3) := by decide +kernel
theorem d_Ws_copyFrom_59 : decode m_Ws_copyFrom.2.1 59 = .ok (.iload_n 2, 1) := by decide +kernel
theorem d_Ws_copyFrom_60 : decode m_Ws_copyFrom.2.1 60 = .ok (.aload_n 0, 1) := by decide +kernel
theorem d_Ws_copyFrom_61 : decode m_Ws_copyFrom.2.1 61 = .ok (.getfield 12, 3) := by decide +kernel
theorem d_Ws_copyFrom_64 : decode m_Ws_copyFrom.2.1 64 = .ok (.invokevirtual 21, 3) := by decide +kernel
theorem d_Ws_copyFrom_67 : decode m_Ws_copyFrom.2.1 67 = .ok (.if_icmp .lt 15, 3) := by decide +kernel
theorem d_Ws_copyFrom_70 : decode m_Ws_copyFrom.2.1 70 = .ok (.aload_n 0, 1) := by decide +kernel
theorem d_Ws_copyFrom_71 : decode m_Ws_copyFrom.2.1 71 = .ok (.getfield 12, 3) := by decide +kernel
theorem d_Ws_copyFrom_74 : decode m_Ws_copyFrom.2.1 74 = .ok (.aload_n 0, 1) := by decide +kernel
theorem d_Ws_copyFrom_75 : decode m_Ws_copyFrom.2.1 75 = .ok (.invokevirtual 36, 3) := by decide +kernel
theorem d_Ws_copyFrom_78 : decode m_Ws_copyFrom.2.1 78 = .ok (.invokevirtual 32, 3) := by decide +kernel
theorem d_Ws_copyFrom_81 : decode m_Ws_copyFrom.2.1 81 = .ok (.pop, 1) := by decide +kernel
theorem d_Ws_copyFrom_82 : decode m_Ws_copyFrom.2.1 82 = .ok (.aload_n 0, 1) := by decide +kernel
theorem d_Ws_copyFrom_83 : decode m_Ws_copyFrom.2.1 83 = .ok (.getfield 12, 3) := by decide +kernel
theorem d_Ws_copyFrom_86 : decode m_Ws_copyFrom.2.1 86 = .ok (.iload_n 2, 1) := by decide +kernel
theorem d_Ws_copyFrom_87 : decode m_Ws_copyFrom.2.1 87 = .ok (.invokevirtual 40, 3) := by decide +kernel
theorem d_Ws_copyFrom_90 : decode m_Ws_copyFrom.2.1 90 = .ok (.checkcast 25, 3) := by decide +kernel
theorem d_Ws_copyFrom_93 : decode m_Ws_copyFrom.2.1 93 = .ok (.aload_n 1, 1) := by decide +kernel
theorem d_Ws_copyFrom_94 : decode m_Ws_copyFrom.2.1 94 = .ok (.getfield 12, 3) := by decide +kernel
theorem d_Ws_copyFrom_97 : decode m_Ws_copyFrom.2.1 97 = .ok (.iload_n 2, 1) := by decide +kernel
theorem d_Ws_copyFrom_98 : decode m_Ws_copyFrom.2.1 98 = .ok (.invokevirtual 40, 3) := by decide +kernel
theorem d_Ws_copyFrom_101 : decode m_Ws_copyFrom.2.1 101 = .ok (.checkcast 25, 3) := by decide +kernel
theorem d_Ws_copyFrom_104 : decode m_Ws_copyFrom.2.1 104 = .ok (.invokevirtual 43, 3) := by decide +kernel
theorem d_Ws_copyFrom_107 : decode m_Ws_copyFrom.2.1 107 = .ok (.iinc 2 1, 3) := by decide +kernel
theorem d_Ws_copyFrom_110 : decode m_Ws_copyFrom.2.1 110 = .ok (.goto (-62), 3) := by decide +kernel
theorem d_Ws_copyFrom_113 : decode m_Ws_copyFrom.2.1 113 = .ok (.return_, 1) := by decide +kernel
theorem d_Ws_insert_0 : decode m_Ws_insert.2.1 0 = .ok (.iconst 0, 1) := by decide +kernel
theorem d_Ws_insert_1 : decode m_Ws_insert.2.1 1 = .ok (.istore_n 2, 1) := by decide +kernel
theorem d_Ws_insert_2 : decode m_Ws_insert.2.1 2 = .ok (.iload_n 2, 1) := by decide +kernel
theorem d_Ws_insert_3 : decode m_Ws_insert.2.1 3 = .ok (.aload_n 0, 1) := by decide +kernel
theorem d_Ws_insert_4 : decode m_Ws_insert.2.1 4 = .ok (.getfield 12, 3) := by decide +kernel
theorem d_Ws_insert_7 : decode m_Ws_insert.2.1 7 = .ok (.invokevirtual 21, 3) := by decide +kernel
theorem d_Ws_insert_10 : decode m_Ws_insert.2.1 10 = .ok (.if_icmp .ge 27, 3) := by decide +kernel
theorem d_Ws_insert_13 : decode m_Ws_insert.2.1 13 = .ok (.aload_n 0, 1) := by decide +kernel
theorem d_Ws_insert_14 : decode m_Ws_insert.2.1 14 = .ok (.getfield 12, 3) := by decide +kernel
theorem d_Ws_insert_17 : decode m_Ws_insert.2.1 17 = .ok (.iload_n 2, 1) := by decide +kernel
theorem d_Ws_insert_18 : decode m_Ws_insert.2.1 18 = .ok (.invokevirtual 40, 3) := by decide +kernel
theorem d_Ws_insert_21 : decode m_Ws_insert.2.1 21 = .ok (.checkcast 25, 3) := by decide +kernel
theorem d_Ws_insert_24 : decode m_Ws_insert.2.1 24 = .ok (.aload_n 1, 1) := by decide +kernel
theorem d_Ws_insert_25 : decode m_Ws_insert.2.1 25 = .ok (.invokevirtual 47, 3) := by decide +kernel
theorem d_Ws_insert_28 : decode m_Ws_insert.2.1 28 = .ok (.ifCond .eq 9, 3) := by decide +kernel
theorem d_Ws_insert_31 : decode m_Ws_insert.2.1 31 = .ok (.iinc 2 1, 3) := by decide +kernel
theorem d_Ws_insert_34 : decode m_Ws_insert.2.1 34 = .ok (.goto (-32), 3) := by decide +kernel
theorem d_Ws_insert_37 : decode m_Ws_insert.2.1 37 = .ok (.aload_n 0, 1) := by decide +kernel
theorem d_Ws_insert_38 : decode m_Ws_insert.2.1 38 = .ok (.getfield 12, 3) := by decide +kernel
theorem d_Ws_insert_41 : decode m_Ws_insert.2.1 41 = .ok (.iload_n 2, 1) := by decide +kernel
theorem d_Ws_insert_42 : decode m_Ws_insert.2.1 42 = .ok (.aload_n 1, 1) := by decide +kernel
theorem d_Ws_insert_43 : decode m_Ws_insert.2.1 43 = .ok (.invokevirtual 51, 3) := by decide +kernel
theorem d_Ws_insert_46 : decode m_Ws_insert.2.1 46 = .ok (.return_, 1) := by decide +kernel
theorem d_Ws_find_0 : decode m_Ws_find.2.1 0 = .ok (.iconst 0, 1) := by decide +kernel
theorem d_Ws_find_1 : decode m_Ws_find.2.1 1 = .ok (.istore_n 3, 1) := by decide +kernel
theorem d_Ws_find_2 : decode m_Ws_find.2.1 2 = .ok (.iload_n 3, 1) := by decide +kernel
theorem d_Ws_find_3 : decode m_Ws_find.2.1 3 = .ok (.aload_n 0, 1) := by decide +kernel
theorem d_Ws_find_4 : decode m_Ws_find.2.1 4 = .ok (.getfield 12, 3) := by decide +kernel
theorem d_Ws_find_7 : decode m_Ws_find.2.1 7 = .ok (.invokevirtual 21, 3) := by decide +kernel
theorem d_Ws_find_10 : decode m_Ws_find.2.1 10 = .ok (.if_icmp .ge 43, 3) := by decide +kernel
theorem d_Ws_find_13 : decode m_Ws_find.2.1 13 = .ok (.aload_n 0, 1) := by decide +kernel
theorem d_Ws_find_14 : decode m_Ws_find.2.1 14 = .ok (.getfield 12, 3) := by decide +kernel
theorem d_Ws_find_17 : decode m_Ws_find.2.1 17 = .ok (.iload_n 3, 1) := by decide +kernel
theorem d_Ws_find_18 : decode m_Ws_find.2.1 18 = .ok (.invokevirtual 40, 3) := by decide +kernel
theorem d_Ws_find_21 : decode m_Ws_find.2.1 21 = .ok (.checkcast 25, 3) := by decide +kernel
theorem d_Ws_find_24 : decode m_Ws_find.2.1 24 = .ok (.astore 4, 2) := by decide +kernel
theorem d_Ws_find_26 : decode m_Ws_find.2.1 26 = .ok (.aload 4, 2) := by decide +kernel
theorem d_Ws_find_28 : decode m_Ws_find.2.1 28 = .ok (.getfield 54, 3) := by decide +kernel
theorem d_Ws_find_31 : decode m_Ws_find.2.1 31 = .ok (.iload_n 1, 1) := by decide +kernel
theorem d_Ws_find_32 : decode m_Ws_find.2.1 32 = .ok (.if_icmp .ne 15, 3) := by decide +kernel
theorem d_Ws_find_35 : decode m_Ws_find.2.1 35 = .ok (.aload 4, 2) := by decide +kernel
theorem d_Ws_find_37 : decode m_Ws_find.2.1 37 = .ok (.getfield 58, 3) := by decide +kernel
theorem d_Ws_find_40 : decode m_Ws_find.2.1 40 = .ok (.iload_n 2, 1) := by decide +kernel
theorem d_Ws_find_41 : decode m_Ws_find.2.1 41 = .ok (.if_icmp .ne 6, 3) := by decide +kernel
theorem d_Ws_find_44 : decode m_Ws_find.2.1 44 = .ok (.aload 4, 2) := by decide +kernel
theorem d_Ws_find_46 : decode m_Ws_find.2.1 46 = .ok (.areturn, 1) := by decide +kernel
theorem d_Ws_find_47 : decode m_Ws_find.2.1 47 = .ok (.iinc 3 1, 3) := by decide +kernel
theorem d_Ws_find_50 : decode m_Ws_find.2.1 50 = .ok (.goto (-48), 3) := by decide +kernel
theorem d_Ws_find_53 : decode m_Ws_find.2.1 53 = .ok (.aconst_null, 1) := by decide +kernel
theorem d_Ws_find_54 : decode m_Ws_find.2.1 54 = .ok (.areturn, 1) := by decide +kernel
theorem d_Ws_admitBySteps_0 : decode m_Ws_admitBySteps.2.1 0 = .ok (.aload_n 2, 1) := by decide +kernel
theorem d_Ws_admitBySteps_1 : decode m_Ws_admitBySteps.2.1 1 = .ok (.aload_n 1, 1) := by decide +kernel
theorem d_Ws_admitBySteps_2 : decode m_Ws_admitBySteps.2.1 2 = .ok (.getfield 61, 3) := by decide +kernel
theorem d_Ws_admitBySteps_5 : decode m_Ws_admitBySteps.2.1 5 = .ok (.invokevirtual 66, 3) := by decide +kernel
theorem d_Ws_admitBySteps_8 : decode m_Ws_admitBySteps.2.1 8 = .ok (.istore 4, 2) := by decide +kernel
theorem d_Ws_admitBySteps_10 : decode m_Ws_admitBySteps.2.1 10 = .ok (.iload 4, 2) := by decide +kernel
theorem d_Ws_admitBySteps_12 : decode m_Ws_admitBySteps.2.1 12 = .ok (.istore 5, 2) := by decide +kernel
theorem d_Ws_admitBySteps_14 : decode m_Ws_admitBySteps.2.1 14 = .ok (.iconst 1, 1) := by decide +kernel
theorem d_Ws_admitBySteps_15 : decode m_Ws_admitBySteps.2.1 15 = .ok (.istore 6, 2) := by decide +kernel
theorem d_Ws_admitBySteps_17 : decode m_Ws_admitBySteps.2.1 17 = .ok (.iload 6, 2) := by decide +kernel
theorem d_Ws_admitBySteps_19 : decode m_Ws_admitBySteps.2.1 19 = .ok (.bipush 8, 2) := by decide +kernel
theorem d_Ws_admitBySteps_21 : decode m_Ws_admitBySteps.2.1 21 = .ok (.if_icmp .ge 41, 3) := by decide +kernel
theorem d_Ws_admitBySteps_24 : decode m_Ws_admitBySteps.2.1 24 = .ok (.iload 5, 2) := by decide +kernel
theorem d_Ws_admitBySteps_26 : decode m_Ws_admitBySteps.2.1 26 = .ok (.aload_n 2, 1) := by decide +kernel
theorem d_Ws_admitBySteps_27 : decode m_Ws_admitBySteps.2.1 27 = .ok (.getfield 72, 3) := by decide +kernel
theorem d_Ws_admitBySteps_30 : decode m_Ws_admitBySteps.2.1 30 = .ok (.isub, 1) := by decide +kernel
theorem d_Ws_admitBySteps_31 : decode m_Ws_admitBySteps.2.1 31 = .ok (.istore 7, 2) := by decide +kernel
theorem d_Ws_admitBySteps_33 : decode m_Ws_admitBySteps.2.1 33 = .ok (.iload 7, 2) := by decide +kernel
theorem d_Ws_admitBySteps_35 : decode m_Ws_admitBySteps.2.1 35 = .ok (.ifCond .lt 21, 3) := by decide +kernel
theorem d_Ws_admitBySteps_38 : decode m_Ws_admitBySteps.2.1 38 = .ok (.iload 7, 2) := by decide +kernel
theorem d_Ws_admitBySteps_40 : decode m_Ws_admitBySteps.2.1 40 = .ok (.aload_n 2, 1) := by decide +kernel
theorem d_Ws_admitBySteps_41 : decode m_Ws_admitBySteps.2.1 41 = .ok (.getfield 75, 3) := by decide +kernel
theorem d_Ws_admitBySteps_44 : decode m_Ws_admitBySteps.2.1 44 = .ok (.iadd, 1) := by decide +kernel
theorem d_Ws_admitBySteps_45 : decode m_Ws_admitBySteps.2.1 45 = .ok (.aload_n 1, 1) := by decide +kernel
theorem d_Ws_admitBySteps_46 : decode m_Ws_admitBySteps.2.1 46 = .ok (.getfield 61, 3) := by decide +kernel
theorem d_Ws_admitBySteps_49 : decode m_Ws_admitBySteps.2.1 49 = .ok (.if_icmp .le 7, 3) := by decide +kernel
theorem d_Ws_admitBySteps_52 : decode m_Ws_admitBySteps.2.1 52 = .ok (.iload 7, 2) := by decide +kernel
theorem d_Ws_admitBySteps_54 : decode m_Ws_admitBySteps.2.1 54 = .ok (.istore 5, 2) := by decide +kernel
theorem d_Ws_admitBySteps_56 : decode m_Ws_admitBySteps.2.1 56 = .ok (.iinc 6 1, 3) := by decide +kernel
theorem d_Ws_admitBySteps_59 : decode m_Ws_admitBySteps.2.1 59 = .ok (.goto (-42), 3) := by decide +kernel
theorem d_Ws_admitBySteps_62 : decode m_Ws_admitBySteps.2.1 62 = .ok (.iconst 0, 1) := by decide +kernel
theorem d_Ws_admitBySteps_63 : decode m_Ws_admitBySteps.2.1 63 = .ok (.istore 6, 2) := by decide +kernel
theorem d_Ws_admitBySteps_65 : decode m_Ws_admitBySteps.2.1 65 = .ok (.iconst 0, 1) := by decide +kernel
theorem d_Ws_admitBySteps_66 : decode m_Ws_admitBySteps.2.1 66 = .ok (.istore 7, 2) := by decide +kernel
theorem d_Ws_admitBySteps_68 : decode m_Ws_admitBySteps.2.1 68 = .ok (.iload 7, 2) := by decide +kernel
theorem d_Ws_admitBySteps_70 : decode m_Ws_admitBySteps.2.1 70 = .ok (.bipush 8, 2) := by decide +kernel
theorem d_Ws_admitBySteps_72 : decode m_Ws_admitBySteps.2.1 72 = .ok (.if_icmp .ge 64, 3) := by decide +kernel
theorem d_Ws_admitBySteps_75 : decode m_Ws_admitBySteps.2.1 75 = .ok (.iload 5, 2) := by decide +kernel
theorem d_Ws_admitBySteps_77 : decode m_Ws_admitBySteps.2.1 77 = .ok (.iload 7, 2) := by decide +kernel
theorem d_Ws_admitBySteps_79 : decode m_Ws_admitBySteps.2.1 79 = .ok (.aload_n 2, 1) := by decide +kernel
theorem d_Ws_admitBySteps_80 : decode m_Ws_admitBySteps.2.1 80 = .ok (.getfield 72, 3) := by decide +kernel
theorem d_Ws_admitBySteps_83 : decode m_Ws_admitBySteps.2.1 83 = .ok (.imul, 1) := by decide +kernel
theorem d_Ws_admitBySteps_84 : decode m_Ws_admitBySteps.2.1 84 = .ok (.iadd, 1) := by decide +kernel
theorem d_Ws_admitBySteps_85 : decode m_Ws_admitBySteps.2.1 85 = .ok (.istore 8, 2) := by decide +kernel
theorem d_Ws_admitBySteps_87 : decode m_Ws_admitBySteps.2.1 87 = .ok (.iload 8, 2) := by decide +kernel
theorem d_Ws_admitBySteps_89 : decode m_Ws_admitBySteps.2.1 89 = .ok (.iload 4, 2) := by decide +kernel
theorem d_Ws_admitBySteps_91 : decode m_Ws_admitBySteps.2.1 91 = .ok (.if_icmp .gt 39, 3) := by decide +kernel
theorem d_Ws_admitBySteps_94 : decode m_Ws_admitBySteps.2.1 94 = .ok (.aload_n 2, 1) := by decide +kernel
theorem d_Ws_admitBySteps_95 : decode m_Ws_admitBySteps.2.1 95 = .ok (.iload 8, 2) := by decide +kernel
theorem d_Ws_admitBySteps_97 : decode m_Ws_admitBySteps.2.1 97 = .ok (.aload_n 2, 1) := by decide +kernel
theorem d_Ws_admitBySteps_98 : decode m_Ws_admitBySteps.2.1 98 = .ok (.getfield 75, 3) := by decide +kernel
theorem d_Ws_admitBySteps_101 : decode m_Ws_admitBySteps.2.1 101 = .ok (.iadd, 1) := by decide +kernel
theorem d_Ws_admitBySteps_102 : decode m_Ws_admitBySteps.2.1 102 = .ok (.aload_n 1, 1) := by decide +kernel
theorem d_Ws_admitBySteps_103 : decode m_Ws_admitBySteps.2.1 103 = .ok (.getfield 77, 3) := by decide +kernel
theorem d_Ws_admitBySteps_106 : decode m_Ws_admitBySteps.2.1 106 = .ok (.invokevirtual 80, 3) := by decide +kernel
theorem d_Ws_admitBySteps_109 : decode m_Ws_admitBySteps.2.1 109 = .ok (.ifCond .eq 21, 3) := by decide +kernel
theorem d_Ws_admitBySteps_112 : decode m_Ws_admitBySteps.2.1 112 = .ok (.aload_n 0, 1) := by decide +kernel
theorem d_Ws_admitBySteps_113 : decode m_Ws_admitBySteps.2.1 113 = .ok (.aload_n 1, 1) := by decide +kernel
theorem d_Ws_admitBySteps_114 : decode m_Ws_admitBySteps.2.1 114 = .ok (.iload 8, 2) := by decide +kernel
theorem d_Ws_admitBySteps_116 : decode m_Ws_admitBySteps.2.1 116 = .ok (.iload 8, 2) := by decide +kernel
theorem d_Ws_admitBySteps_118 : decode m_Ws_admitBySteps.2.1 118 = .ok (.aload_n 2, 1) := by decide +kernel
theorem d_Ws_admitBySteps_119 : decode m_Ws_admitBySteps.2.1 119 = .ok (.getfield 75, 3) := by decide +kernel
theorem d_Ws_admitBySteps_122 : decode m_Ws_admitBySteps.2.1 122 = .ok (.iadd, 1) := by decide +kernel
theorem d_Ws_admitBySteps_123 : decode m_Ws_admitBySteps.2.1 123 = .ok (.aload_n 3, 1) := by decide +kernel
theorem d_Ws_admitBySteps_124 : decode m_Ws_admitBySteps.2.1 124 = .ok (.invokevirtual 84, 3) := by decide +kernel
theorem d_Ws_admitBySteps_127 : decode m_Ws_admitBySteps.2.1 127 = .ok (.iconst 1, 1) := by decide +kernel
theorem d_Ws_admitBySteps_128 : decode m_Ws_admitBySteps.2.1 128 = .ok (.istore 6, 2) := by decide +kernel
theorem d_Ws_admitBySteps_130 : decode m_Ws_admitBySteps.2.1 130 = .ok (.iinc 7 1, 3) := by decide +kernel
theorem d_Ws_admitBySteps_133 : decode m_Ws_admitBySteps.2.1 133 = .ok (.goto (-65), 3) := by decide +kernel
theorem d_Ws_admitBySteps_136 : decode m_Ws_admitBySteps.2.1 136 = .ok (.iload 6, 2) := by decide +kernel
theorem d_Ws_admitBySteps_138 : decode m_Ws_admitBySteps.2.1 138 = .ok (.ireturn, 1) := by decide +kernel
theorem d_Ws_addToWindow_0 : decode m_Ws_addToWindow.2.1 0 = .ok (.aload_n 0, 1) := by decide +kernel
theorem d_Ws_addToWindow_1 : decode m_Ws_addToWindow.2.1 1 = .ok (.aload_n 1, 1) := by decide +kernel
theorem d_Ws_addToWindow_2 : decode m_Ws_addToWindow.2.1 2 = .ok (.getfield 88, 3) := by decide +kernel
theorem d_Ws_addToWindow_5 : decode m_Ws_addToWindow.2.1 5 = .ok (.iload_n 2, 1) := by decide +kernel
theorem d_Ws_addToWindow_6 : decode m_Ws_addToWindow.2.1 6 = .ok (.invokevirtual 89, 3) := by decide +kernel
theorem d_Ws_addToWindow_9 : decode m_Ws_addToWindow.2.1 9 = .ok (.astore 5, 2) := by decide +kernel
theorem d_Ws_addToWindow_11 : decode m_Ws_addToWindow.2.1 11 = .ok (.aload 5, 2) := by decide +kernel
theorem d_Ws_addToWindow_13 : decode m_Ws_addToWindow.2.1 13 = .ok (.ifnonnull 26, 3) := by decide +kernel
theorem d_Ws_addToWindow_16 : decode m_Ws_addToWindow.2.1 16 = .ok (.aload_n 0, 1) := by decide +kernel
theorem d_Ws_addToWindow_17 : decode m_Ws_addToWindow.2.1 17 = .ok (.invokevirtual 36, 3) := by decide +kernel
theorem d_Ws_addToWindow_20 : decode m_Ws_addToWindow.2.1 20 = .ok (.astore 5, 2) := by decide +kernel
theorem d_Ws_addToWindow_22 : decode m_Ws_addToWindow.2.1 22 = .ok (.aload 5, 2) := by decide +kernel
theorem d_Ws_addToWindow_24 : decode m_Ws_addToWindow.2.1 24 = .ok (.aload_n 1, 1) := by decide +kernel
theorem d_Ws_addToWindow_25 : decode m_Ws_addToWindow.2.1 25 = .ok (.getfield 88, 3) := by decide +kernel
theorem d_Ws_addToWindow_28 : decode m_Ws_addToWindow.2.1 28 = .ok (.iload_n 2, 1) := by decide +kernel
theorem d_Ws_addToWindow_29 : decode m_Ws_addToWindow.2.1 29 = .ok (.iload_n 3, 1) := by decide +kernel
theorem d_Ws_addToWindow_30 : decode m_Ws_addToWindow.2.1 30 = .ok (.invokevirtual 93, 3) := by decide +kernel
theorem d_Ws_addToWindow_33 : decode m_Ws_addToWindow.2.1 33 = .ok (.aload_n 0, 1) := by decide +kernel
theorem d_Ws_addToWindow_34 : decode m_Ws_addToWindow.2.1 34 = .ok (.aload 5, 2) := by decide +kernel
theorem d_Ws_addToWindow_36 : decode m_Ws_addToWindow.2.1 36 = .ok (.invokevirtual 97, 3) := by decide +kernel
theorem d_Ws_addToWindow_39 : decode m_Ws_addToWindow.2.1 39 = .ok (.aload 5, 2) := by decide +kernel
theorem d_Ws_addToWindow_41 : decode m_Ws_addToWindow.2.1 41 = .ok (.getfield 100, 3) := by decide +kernel
theorem d_Ws_addToWindow_44 : decode m_Ws_addToWindow.2.1 44 = .ok (.istore 6, 2) := by decide +kernel
theorem d_Ws_addToWindow_46 : decode m_Ws_addToWindow.2.1 46 = .ok (.iload 6, 2) := by decide +kernel
theorem d_Ws_addToWindow_48 : decode m_Ws_addToWindow.2.1 48 = .ok (.ifCond .eq 11, 3) := by decide +kernel
theorem d_Ws_addToWindow_51 : decode m_Ws_addToWindow.2.1 51 = .ok (.aload 4, 2) := by decide +kernel
theorem d_Ws_addToWindow_53 : decode m_Ws_addToWindow.2.1 53 = .ok (.aload 5, 2) := by decide +kernel
theorem d_Ws_addToWindow_55 : decode m_Ws_addToWindow.2.1 55 = .ok (.iconst 0, 1) := by decide +kernel
theorem d_Ws_addToWindow_56 : decode m_Ws_addToWindow.2.1 56 = .ok (.invokevirtual 104, 3) := by decide +kernel
theorem d_Ws_addToWindow_59 : decode m_Ws_addToWindow.2.1 59 = .ok (.aload 5, 2) := by decide +kernel
theorem d_Ws_addToWindow_61 : decode m_Ws_addToWindow.2.1 61 = .ok (.aload_n 1, 1) := by decide +kernel
theorem d_Ws_addToWindow_62 : decode m_Ws_addToWindow.2.1 62 = .ok (.getfield 110, 3) := by decide +kernel
theorem d_Ws_addToWindow_65 : decode m_Ws_addToWindow.2.1 65 = .ok (.invokevirtual 113, 3) := by decide +kernel
theorem d_Ws_addToWindow_68 : decode m_Ws_addToWindow.2.1 68 = .ok (.iload 6, 2) := by decide +kernel
theorem d_Ws_addToWindow_70 : decode m_Ws_addToWindow.2.1 70 = .ok (.ifCond .eq 15, 3) := by decide +kernel
theorem d_Ws_addToWindow_73 : decode m_Ws_addToWindow.2.1 73 = .ok (.aload_n 0, 1) := by decide +kernel
theorem d_Ws_addToWindow_74 : decode m_Ws_addToWindow.2.1 74 = .ok (.aload 5, 2) := by decide +kernel
theorem d_Ws_addToWindow_76 : decode m_Ws_addToWindow.2.1 76 = .ok (.aload_n 1, 1) := by decide +kernel
theorem d_Ws_addToWindow_77 : decode m_Ws_addToWindow.2.1 77 = .ok (.getfield 77, 3) := by decide +kernel
theorem d_Ws_addToWindow_80 : decode m_Ws_addToWindow.2.1 80 = .ok (.aload 4, 2) := by decide +kernel
theorem d_Ws_addToWindow_82 : decode m_Ws_addToWindow.2.1 82 = .ok (.invokevirtual 117, 3) := by decide +kernel
theorem d_Ws_addToWindow_85 : decode m_Ws_addToWindow.2.1 85 = .ok (.return_, 1) := by decide +kernel
theorem d_Ws_admitByGap_0 : decode m_Ws_admitByGap.2.1 0 = .ok (.aload_n 1, 1) := by decide +kernel
theorem d_Ws_admitByGap_1 : decode m_Ws_admitByGap.2.1 1 = .ok (.getfield 61, 3) := by decide +kernel
theorem d_Ws_admitByGap_4 : decode m_Ws_admitByGap.2.1 4 = .ok (.aload_n 2, 1) := by decide +kernel
theorem d_Ws_admitByGap_5 : decode m_Ws_admitByGap.2.1 5 = .ok (.getfield 75, 3) := by decide +kernel
theorem d_Ws_admitByGap_8 : decode m_Ws_admitByGap.2.1 8 = .ok (.iadd, 1) := by decide +kernel
theorem d_Ws_admitByGap_9 : decode m_Ws_admitByGap.2.1 9 = .ok (.istore 4, 2) := by decide +kernel
theorem d_Ws_admitByGap_11 : decode m_Ws_admitByGap.2.1 11 = .ok (.aload_n 2, 1) := by decide +kernel
theorem d_Ws_admitByGap_12 : decode m_Ws_admitByGap.2.1 12 = .ok (.iload 4, 2) := by decide +kernel
theorem d_Ws_admitByGap_14 : decode m_Ws_admitByGap.2.1 14 = .ok (.aload_n 1, 1) := by decide +kernel
theorem d_Ws_admitByGap_15 : decode m_Ws_admitByGap.2.1 15 = .ok (.getfield 77, 3) := by decide +kernel
theorem d_Ws_admitByGap_18 : decode m_Ws_admitByGap.2.1 18 = .ok (.invokevirtual 80, 3) := by decide +kernel
theorem d_Ws_admitByGap_21 : decode m_Ws_admitByGap.2.1 21 = .ok (.ifCond .ne 5, 3) := by decide +kernel
theorem d_Ws_admitByGap_24 : decode m_Ws_admitByGap.2.1 24 = .ok (.iconst 0, 1) := by decide +kernel
theorem d_Ws_admitByGap_25 : decode m_Ws_admitByGap.2.1 25 = .ok (.ireturn, 1) := by decide +kernel
theorem d_Ws_admitByGap_26 : decode m_Ws_admitByGap.2.1 26 = .ok (.aload_n 0, 1) := by decide +kernel
theorem d_Ws_admitByGap_27 : decode m_Ws_admitByGap.2.1 27 = .ok (.invokevirtual 36, 3) := by decide +kernel
theorem d_Ws_admitByGap_30 : decode m_Ws_admitByGap.2.1 30 = .ok (.astore 5, 2) := by decide +kernel
theorem d_Ws_admitByGap_32 : decode m_Ws_admitByGap.2.1 32 = .ok (.aload 5, 2) := by decide +kernel
theorem d_Ws_admitByGap_34 : decode m_Ws_admitByGap.2.1 34 = .ok (.aload_n 1, 1) := by decide +kernel
theorem d_Ws_admitByGap_35 : decode m_Ws_admitByGap.2.1 35 = .ok (.getfield 88, 3) := by decide +kernel
theorem d_Ws_admitByGap_38 : decode m_Ws_admitByGap.2.1 38 = .ok (.aload_n 1, 1) := by decide +kernel
theorem d_Ws_admitByGap_39 : decode m_Ws_admitByGap.2.1 39 = .ok (.getfield 61, 3) := by decide +kernel
theorem d_Ws_admitByGap_42 : decode m_Ws_admitByGap.2.1 42 = .ok (.iload 4, 2) := by decide +kernel
theorem d_Ws_admitByGap_44 : decode m_Ws_admitByGap.2.1 44 = .ok (.invokevirtual 93, 3) := by decide +kernel
theorem d_Ws_admitByGap_47 : decode m_Ws_admitByGap.2.1 47 = .ok (.aload 5, 2) := by decide +kernel
theorem d_Ws_admitByGap_49 : decode m_Ws_admitByGap.2.1 49 = .ok (.aload_n 1, 1) := by decide +kernel
theorem d_Ws_admitByGap_50 : decode m_Ws_admitByGap.2.1 50 = .ok (.getfield 110, 3) := by decide +kernel
theorem d_Ws_admitByGap_53 : decode m_Ws_admitByGap.2.1 53 = .ok (.invokevirtual 113, 3) := by decide +kernel
theorem d_Ws_admitByGap_56 : decode m_Ws_admitByGap.2.1 56 = .ok (.aload_n 0, 1) := by decide +kernel
theorem d_Ws_admitByGap_57 : decode m_Ws_admitByGap.2.1 57 = .ok (.aload 5, 2) := by decide +kernel
theorem d_Ws_admitByGap_59 : decode m_Ws_admitByGap.2.1 59 = .ok (.aload_n 3, 1) := by decide +kernel
theorem d_Ws_admitByGap_60 : decode m_Ws_admitByGap.2.1 60 = .ok (.invokevirtual 121, 3) := by decide +kernel
theorem d_Ws_admitByGap_63 : decode m_Ws_admitByGap.2.1 63 = .ok (.istore 6, 2) := by decide +kernel
theorem d_Ws_admitByGap_65 : decode m_Ws_admitByGap.2.1 65 = .ok (.aload_n 0, 1) := by decide +kernel
theorem d_Ws_admitByGap_66 : decode m_Ws_admitByGap.2.1 66 = .ok (.aload 5, 2) := by decide +kernel
theorem d_Ws_admitByGap_68 : decode m_Ws_admitByGap.2.1 68 = .ok (.invokevirtual 97, 3) := by decide +kernel
theorem d_Ws_admitByGap_71 : decode m_Ws_admitByGap.2.1 71 = .ok (.iload 6, 2) := by decide +kernel
theorem d_Ws_admitByGap_73 : decode m_Ws_admitByGap.2.1 73 = .ok (.ifCond .eq 14, 3) := by decide +kernel
theorem d_Ws_admitByGap_76 : decode m_Ws_admitByGap.2.1 76 = .ok (.aload_n 0, 1) := by decide +kernel
theorem d_Ws_admitByGap_77 : decode m_Ws_admitByGap.2.1 77 = .ok (.aload 5, 2) := by decide +kernel
theorem d_Ws_admitByGap_79 : decode m_Ws_admitByGap.2.1 79 = .ok (.aload_n 1, 1) := by decide +kernel
theorem d_Ws_admitByGap_80 : decode m_Ws_admitByGap.2.1 80 = .ok (.getfield 77, 3) := by decide +kernel
theorem d_Ws_admitByGap_83 : decode m_Ws_admitByGap.2.1 83 = .ok (.aload_n 3, 1) := by decide +kernel
theorem d_Ws_admitByGap_84 : decode m_Ws_admitByGap.2.1 84 = .ok (.invokevirtual 117, 3) := by decide +kernel
theorem d_Ws_admitByGap_87 : decode m_Ws_admitByGap.2.1 87 = .ok (.iconst 1, 1) := by decide +kernel
theorem d_Ws_admitByGap_88 : decode m_Ws_admitByGap.2.1 88 = .ok (.ireturn, 1) := by decide +kernel
theorem d_Ws_absorbMet_0 : decode m_Ws_absorbMet.2.1 0 = .ok (.iconst 0, 1) := by decide +kernel
theorem d_Ws_absorbMet_1 : decode m_Ws_absorbMet.2.1 1 = .ok (.istore_n 3, 1) := by decide +kernel
theorem d_Ws_absorbMet_2 : decode m_Ws_absorbMet.2.1 2 = .ok (.iconst 0, 1) := by decide +kernel
theorem d_Ws_absorbMet_3 : decode m_Ws_absorbMet.2.1 3 = .ok (.istore 4, 2) := by decide +kernel
theorem d_Ws_absorbMet_5 : decode m_Ws_absorbMet.2.1 5 = .ok (.aload_n 0, 1) := by decide +kernel
theorem d_Ws_absorbMet_6 : decode m_Ws_absorbMet.2.1 6 = .ok (.getfield 12, 3) := by decide +kernel
theorem d_Ws_absorbMet_9 : decode m_Ws_absorbMet.2.1 9 = .ok (.invokevirtual 21, 3) := by decide +kernel
theorem d_Ws_absorbMet_12 : decode m_Ws_absorbMet.2.1 12 = .ok (.istore 5, 2) := by decide +kernel
theorem d_Ws_absorbMet_14 : decode m_Ws_absorbMet.2.1 14 = .ok (.iload 5, 2) := by decide +kernel
theorem d_Ws_absorbMet_16 : decode m_Ws_absorbMet.2.1 16 = .ok (.ifCond .le 93, 3) := by decide +kernel
theorem d_Ws_absorbMet_19 : decode m_Ws_absorbMet.2.1 19 = .ok (.iload 4, 2) := by decide +kernel
theorem d_Ws_absorbMet_21 : decode m_Ws_absorbMet.2.1 21 = .ok (.aload_n 0, 1) := by decide +kernel
theorem d_Ws_absorbMet_22 : decode m_Ws_absorbMet.2.1 22 = .ok (.getfield 12, 3) := by decide +kernel
theorem d_Ws_absorbMet_25 : decode m_Ws_absorbMet.2.1 25 = .ok (.invokevirtual 21, 3) := by decide +kernel
theorem d_Ws_absorbMet_28 : decode m_Ws_absorbMet.2.1 28 = .ok (.if_icmp .ge 81, 3) := by decide +kernel
theorem d_Ws_absorbMet_31 : decode m_Ws_absorbMet.2.1 31 = .ok (.aload_n 0, 1) := by decide +kernel
theorem d_Ws_absorbMet_32 : decode m_Ws_absorbMet.2.1 32 = .ok (.getfield 12, 3) := by decide +kernel
theorem d_Ws_absorbMet_35 : decode m_Ws_absorbMet.2.1 35 = .ok (.iload 4, 2) := by decide +kernel
theorem d_Ws_absorbMet_37 : decode m_Ws_absorbMet.2.1 37 = .ok (.invokevirtual 40, 3) := by decide +kernel
theorem d_Ws_absorbMet_40 : decode m_Ws_absorbMet.2.1 40 = .ok (.checkcast 25, 3) := by decide +kernel
theorem d_Ws_absorbMet_43 : decode m_Ws_absorbMet.2.1 43 = .ok (.astore 6, 2) := by decide +kernel
theorem d_Ws_absorbMet_45 : decode m_Ws_absorbMet.2.1 45 = .ok (.aload_n 1, 1) := by decide +kernel
theorem d_Ws_absorbMet_46 : decode m_Ws_absorbMet.2.1 46 = .ok (.aload 6, 2) := by decide +kernel
theorem d_Ws_absorbMet_48 : decode m_Ws_absorbMet.2.1 48 = .ok (.invokevirtual 125, 3) := by decide +kernel
theorem d_Ws_absorbMet_51 : decode m_Ws_absorbMet.2.1 51 = .ok (.ifCond .ne 9, 3) := by decide +kernel
theorem d_Ws_absorbMet_54 : decode m_Ws_absorbMet.2.1 54 = .ok (.iinc 4 1, 3) := by decide +kernel
theorem d_Ws_absorbMet_57 : decode m_Ws_absorbMet.2.1 57 = .ok (.goto 46, 3) := by decide +kernel
theorem d_Ws_absorbMet_60 : decode m_Ws_absorbMet.2.1 60 = .ok (.aload 6, 2) := by decide +kernel
theorem d_Ws_absorbMet_62 : decode m_Ws_absorbMet.2.1 62 = .ok (.getfield 100, 3) := by decide +kernel
theorem d_Ws_absorbMet_65 : decode m_Ws_absorbMet.2.1 65 = .ok (.ifCond .eq 12, 3) := by decide +kernel
theorem d_Ws_absorbMet_68 : decode m_Ws_absorbMet.2.1 68 = .ok (.aload_n 2, 1) := by decide +kernel
theorem d_Ws_absorbMet_69 : decode m_Ws_absorbMet.2.1 69 = .ok (.aload 6, 2) := by decide +kernel
theorem d_Ws_absorbMet_71 : decode m_Ws_absorbMet.2.1 71 = .ok (.iconst 0, 1) := by decide +kernel
theorem d_Ws_absorbMet_72 : decode m_Ws_absorbMet.2.1 72 = .ok (.invokevirtual 104, 3) := by decide +kernel
theorem d_Ws_absorbMet_75 : decode m_Ws_absorbMet.2.1 75 = .ok (.iconst 1, 1) := by decide +kernel
theorem d_Ws_absorbMet_76 : decode m_Ws_absorbMet.2.1 76 = .ok (.istore_n 3, 1) := by decide +kernel
theorem d_Ws_absorbMet_77 : decode m_Ws_absorbMet.2.1 77 = .ok (.aload_n 1, 1) := by decide +kernel
theorem d_Ws_absorbMet_78 : decode m_Ws_absorbMet.2.1 78 = .ok (.aload 6, 2) := by decide +kernel
theorem d_Ws_absorbMet_80 : decode m_Ws_absorbMet.2.1 80 = .ok (.invokevirtual 128, 3) := by decide +kernel
theorem d_Ws_absorbMet_83 : decode m_Ws_absorbMet.2.1 83 = .ok (.aload_n 0, 1) := by decide +kernel
theorem d_Ws_absorbMet_84 : decode m_Ws_absorbMet.2.1 84 = .ok (.getfield 18, 3) := by decide +kernel
theorem d_Ws_absorbMet_87 : decode m_Ws_absorbMet.2.1 87 = .ok (.aload_n 0, 1) := by decide +kernel
theorem d_Ws_absorbMet_88 : decode m_Ws_absorbMet.2.1 88 = .ok (.getfield 12, 3) := by decide +kernel
theorem d_Ws_absorbMet_91 : decode m_Ws_absorbMet.2.1 91 = .ok (.iload 4, 2) := by decide +kernel
theorem d_Ws_absorbMet_93 : decode m_Ws_absorbMet.2.1 93 = .ok (.invokevirtual 28, 3) := by decide +kernel
theorem d_Ws_absorbMet_96 : decode m_Ws_absorbMet.2.1 96 = .ok (.checkcast 25, 3) := by decide +kernel
theorem d_Ws_absorbMet_99 : decode m_Ws_absorbMet.2.1 99 = .ok (.invokevirtual 32, 3) := by decide +kernel
theorem d_Ws_absorbMet_102 : decode m_Ws_absorbMet.2.1 102 = .ok (.pop, 1) := by decide +kernel
theorem d_Ws_absorbMet_103 : decode m_Ws_absorbMet.2.1 103 = .ok (.iinc 5 (-1), 3) := by decide +kernel
theorem d_Ws_absorbMet_106 : decode m_Ws_absorbMet.2.1 106 = .ok (.goto (-92), 3) := by decide +kernel
theorem d_Ws_absorbMet_109 : decode m_Ws_absorbMet.2.1 109 = .ok (.iload_n 3, 1) := by decide +kernel
theorem d_Ws_absorbMet_110 : decode m_Ws_absorbMet.2.1 110 = .ok (.ireturn, 1) := by decide +kernel
theorem d_Ws_emitIfDue_0 : decode m_Ws_emitIfDue.2.1 0 = .ok (.aload_n 1, 1) := by decide +kernel
theorem d_Ws_emitIfDue_1 : decode m_Ws_emitIfDue.2.1 1 = .ok (.getfield 131, 3) := by decide +kernel
theorem d_Ws_emitIfDue_4 : decode m_Ws_emitIfDue.2.1 4 = .ok (.iload_n 2, 1) := by decide +kernel
theorem d_Ws_emitIfDue_5 : decode m_Ws_emitIfDue.2.1 5 = .ok (.if_icmp .gt 9, 3) := by decide +kernel
theorem d_Ws_emitIfDue_8 : decode m_Ws_emitIfDue.2.1 8 = .ok (.aload_n 3, 1) := by decide +kernel
theorem d_Ws_emitIfDue_9 : decode m_Ws_emitIfDue.2.1 9 = .ok (.aload_n 1, 1) := by decide +kernel
theorem d_Ws_emitIfDue_10 : decode m_Ws_emitIfDue.2.1 10 = .ok (.iconst 1, 1) := by decide +kernel
theorem d_Ws_emitIfDue_11 : decode m_Ws_emitIfDue.2.1 11 = .ok (.invokevirtual 104, 3) := by decide +kernel
theorem d_Ws_emitIfDue_14 : decode m_Ws_emitIfDue.2.1 14 = .ok (.return_, 1) := by decide +kernel
theorem d_Ws_emitDue_0 : decode m_Ws_emitDue.2.1 0 = .ok (.iconst 0, 1) := by decide +kernel
theorem d_Ws_emitDue_1 : decode m_Ws_emitDue.2.1 1 = .ok (.istore_n 3, 1) := by decide +kernel
theorem d_Ws_emitDue_2 : decode m_Ws_emitDue.2.1 2 = .ok (.iload_n 3, 1) := by decide +kernel
theorem d_Ws_emitDue_3 : decode m_Ws_emitDue.2.1 3 = .ok (.aload_n 0, 1) := by decide +kernel
theorem d_Ws_emitDue_4 : decode m_Ws_emitDue.2.1 4 = .ok (.getfield 12, 3) := by decide +kernel
theorem d_Ws_emitDue_7 : decode m_Ws_emitDue.2.1 7 = .ok (.invokevirtual 21, 3) := by decide +kernel
theorem d_Ws_emitDue_10 : decode m_Ws_emitDue.2.1 10 = .ok (.if_icmp .ge 47, 3) := by decide +kernel
theorem d_Ws_emitDue_13 : decode m_Ws_emitDue.2.1 13 = .ok (.aload_n 0, 1) := by decide +kernel
theorem d_Ws_emitDue_14 : decode m_Ws_emitDue.2.1 14 = .ok (.getfield 12, 3) := by decide +kernel
theorem d_Ws_emitDue_17 : decode m_Ws_emitDue.2.1 17 = .ok (.iload_n 3, 1) := by decide +kernel
theorem d_Ws_emitDue_18 : decode m_Ws_emitDue.2.1 18 = .ok (.invokevirtual 40, 3) := by decide +kernel
theorem d_Ws_emitDue_21 : decode m_Ws_emitDue.2.1 21 = .ok (.checkcast 25, 3) := by decide +kernel
theorem d_Ws_emitDue_24 : decode m_Ws_emitDue.2.1 24 = .ok (.astore 4, 2) := by decide +kernel
theorem d_Ws_emitDue_26 : decode m_Ws_emitDue.2.1 26 = .ok (.aload 4, 2) := by decide +kernel
theorem d_Ws_emitDue_28 : decode m_Ws_emitDue.2.1 28 = .ok (.getfield 131, 3) := by decide +kernel
theorem d_Ws_emitDue_31 : decode m_Ws_emitDue.2.1 31 = .ok (.iload_n 1, 1) := by decide +kernel
theorem d_Ws_emitDue_32 : decode m_Ws_emitDue.2.1 32 = .ok (.if_icmp .le 4, 3) := by decide +kernel
theorem d_Ws_emitDue_35 : decode m_Ws_emitDue.2.1 35 = .ok (.return_, 1) := by decide +kernel
theorem d_Ws_emitDue_36 : decode m_Ws_emitDue.2.1 36 = .ok (.aload 4, 2) := by decide +kernel
theorem d_Ws_emitDue_38 : decode m_Ws_emitDue.2.1 38 = .ok (.getfield 100, 3) := by decide +kernel
theorem d_Ws_emitDue_41 : decode m_Ws_emitDue.2.1 41 = .ok (.ifCond .ne 10, 3) := by decide +kernel
theorem d_Ws_emitDue_44 : decode m_Ws_emitDue.2.1 44 = .ok (.aload_n 2, 1) := by decide +kernel
theorem d_Ws_emitDue_45 : decode m_Ws_emitDue.2.1 45 = .ok (.aload 4, 2) := by decide +kernel
theorem d_Ws_emitDue_47 : decode m_Ws_emitDue.2.1 47 = .ok (.iconst 1, 1) := by decide +kernel
theorem d_Ws_emitDue_48 : decode m_Ws_emitDue.2.1 48 = .ok (.invokevirtual 104, 3) := by decide +kernel
theorem d_Ws_emitDue_51 : decode m_Ws_emitDue.2.1 51 = .ok (.iinc 3 1, 3) := by decide +kernel
theorem d_Ws_emitDue_54 : decode m_Ws_emitDue.2.1 54 = .ok (.goto (-52), 3) := by decide +kernel
theorem d_Ws_emitDue_57 : decode m_Ws_emitDue.2.1 57 = .ok (.return_, 1) := by decide +kernel
theorem d_St_init_0 : decode m_St_init.2.1 0 = .ok (.aload_n 0, 1) := by decide +kernel
theorem d_St_init_1 : decode m_St_init.2.1 1 = .ok (.invokespecial 1, 3) := by decide +kernel
theorem d_St_init_4 : decode m_St_init.2.1 4 = .ok (.aload_n 0, 1) := by decide +kernel
theorem d_St_init_5 : decode m_St_init.2.1 5 = .ok (.new 7, 3) := by decide +kernel
theorem d_St_init_8 : decode m_St_init.2.1 8 = .ok (.dup, 1) := by decide +kernel
theorem d_St_init_9 : decode m_St_init.2.1 9 = .ok (.invokespecial 9, 3) := by decide +kernel
theorem d_St_init_12 : decode m_St_init.2.1 12 = .ok (.putfield 10, 3) := by decide +kernel
theorem d_St_init_15 : decode m_St_init.2.1 15 = .ok (.aload_n 0, 1) := by decide +kernel
theorem d_St_init_16 : decode m_St_init.2.1 16 = .ok (.iconst 3, 1) := by decide +kernel
theorem d_St_init_17 : decode m_St_init.2.1 17 = .ok (.anewarray 16, 3) := by decide +kernel
theorem d_St_init_20 : decode m_St_init.2.1 20 = .ok (.dup, 1) := by decide +kernel
theorem d_St_init_21 : decode m_St_init.2.1 21 = .ok (.iconst 0, 1) := by decide +kernel
theorem d_St_init_22 : decode m_St_init.2.1 22 = .ok (.new 16, 3) := by decide +kernel
theorem d_St_init_25 : decode m_St_init.2.1 25 = .ok (.dup, 1) := by decide +kernel
theorem d_St_init_26 : decode m_St_init.2.1 26 = .ok (.invokespecial 18, 3) := by decide +kernel
theorem d_St_init_29 : decode m_St_init.2.1 29 = .ok (.aastore, 1) := by decide +kernel
theorem d_St_init_30 : decode m_St_init.2.1 30 = .ok (.dup, 1) := by decide +kernel
theorem d_St_init_31 : decode m_St_init.2.1 31 = .ok (.iconst 1, 1) := by decide +kernel
theorem d_St_init_32 : decode m_St_init.2.1 32 = .ok (.new 16, 3) := by decide +kernel
theorem d_St_init_35 : decode m_St_init.2.1 35 = .ok (.dup, 1) := by decide +kernel
theorem d_St_init_36 : decode m_St_init.2.1 36 = .ok (.invokespecial 18, 3) := by decide +kernel
theorem d_St_init_39 : decode m_St_init.2.1 39 = .ok (.aastore, 1) := by decide +kernel
theorem d_St_init_40 : decode m_St_init.2.1 40 = .ok (.dup, 1) := by decide +kernel
theorem d_St_init_41 : decode m_St_init.2.1 41 = .ok (.iconst 2, 1) := by decide +kernel
theorem d_St_init_42 : decode m_St_init.2.1 42 = .ok (.new 16, 3) := by decide +kernel
theorem d_St_init_45 : decode m_St_init.2.1 45 = .ok (.dup, 1) := by decide +kernel
theorem d_St_init_46 : decode m_St_init.2.1 46 = .ok (.invokespecial 18, 3) := by decide +kernel
theorem d_St_init_49 : decode m_St_init.2.1 49 = .ok (.aastore, 1) := by decide +kernel
theorem d_St_init_50 : decode m_St_init.2.1 50 = .ok (.putfield 19, 3) := by decide +kernel
theorem d_St_init_53 : decode m_St_init.2.1 53 = .ok (.aload_n 0, 1) := by decide +kernel
theorem d_St_init_54 : decode m_St_init.2.1 54 = .ok (.new 23, 3) := by decide +kernel
theorem d_St_init_57 : decode m_St_init.2.1 57 = .ok (.dup, 1) := by decide +kernel
theorem d_St_init_58 : decode m_St_init.2.1 58 = .ok (.invokespecial 25, 3) := by decide +kernel
theorem d_St_init_61 : decode m_St_init.2.1 61 = .ok (.putfield 26, 3) := by decide +kernel
theorem d_St_init_64 : decode m_St_init.2.1 64 = .ok (.aload_n 0, 1) := by decide +kernel
theorem d_St_init_65 : decode m_St_init.2.1 65 = .ok (.new 23, 3) := by decide +kernel
theorem d_St_init_68 : decode m_St_init.2.1 68 = .ok (.dup, 1) := by decide +kernel
theorem d_St_init_69 : decode m_St_init.2.1 69 = .ok (.invokespecial 25, 3) := by decide +kernel
theorem d_St_init_72 : decode m_St_init.2.1 72 = .ok (.putfield 30, 3) := by decide +kernel
theorem d_St_init_75 : decode m_St_init.2.1 75 = .ok (.aload_n 0, 1) := by decide +kernel
theorem d_St_init_76 : decode m_St_init.2.1 76 = .ok (.new 33, 3) := by decide +kernel
theorem d_St_init_79 : decode m_St_init.2.1 79 = .ok (.dup, 1) := by decide +kernel
theorem d_St_init_80 : decode m_St_init.2.1 80 = .ok (.invokespecial 35, 3) := by decide +kernel
theorem d_St_init_83 : decode m_St_init.2.1 83 = .ok (.putfield 36, 3) := by decide +kernel
theorem d_St_init_86 : decode m_St_init.2.1 86 = .ok (.aload_n 0, 1) := by decide +kernel
theorem d_St_init_87 : decode m_St_init.2.1 87 = .ok (.new 40, 3) := by decide +kernel
theorem d_St_init_90 : decode m_St_init.2.1 90 = .ok (.dup, 1) := by decide +kernel
theorem d_St_init_91 : decode m_St_init.2.1 91 = .ok (.invokespecial 42, 3) := by decide +kernel
theorem d_St_init_94 : decode m_St_init.2.1 94 = .ok (.putfield 43, 3) := by decide +kernel
theorem d_St_init_97 : decode m_St_init.2.1 97 = .ok (.aload_n 0, 1) := by decide +kernel
theorem d_St_init_98 : decode m_St_init.2.1 98 = .ok (.new 47, 3) := by decide +kernel
theorem d_St_init_101 : decode m_St_init.2.1 101 = .ok (.dup, 1) := by decide +kernel
theorem d_St_init_102 : decode m_St_init.2.1 102 = .ok (.invokespecial 49, 3) := by decide +kernel
theorem d_St_init_105 : decode m_St_init.2.1 105 = .ok (.putfield 50, 3) := by decide +kernel
theorem d_St_init_108 : decode m_St_init.2.1 108 = .ok (.aload_n 0, 1) := by decide +kernel
theorem d_St_init_109 : decode m_St_init.2.1 109 = .ok (.iconst 0, 1) := by decide +kernel
theorem d_St_init_110 : decode m_St_init.2.1 110 = .ok (.putfield 54, 3) := by decide +kernel
theorem d_St_init_113 : decode m_St_init.2.1 113 = .ok (.aload_n 0, 1) := by decide +kernel
theorem d_St_init_114 : decode m_St_init.2.1 114 = .ok (.iconst 0, 1) := by decide +kernel
theorem d_St_init_115 : decode m_St_init.2.1 115 = .ok (.putfield 58, 3) := by decide +kernel
theorem d_St_init_118 : decode m_St_init.2.1 118 = .ok (.aload_n 0, 1) := by decide +kernel
theorem d_St_init_119 : decode m_St_init.2.1 119 = .ok (.iconst 0, 1) := by decide +kernel
theorem d_St_init_120 : decode m_St_init.2.1 120 = .ok (.putfield 62, 3) := by decide +kernel
theorem d_St_init_123 : decode m_St_init.2.1 123 = .ok (.aload_n 0, 1) := by decide +kernel
theorem d_St_init_124 : decode m_St_init.2.1 124 = .ok (.iconst 1, 1) := by decide +kernel
theorem d_St_init_125 : decode m_St_init.2.1 125 = .ok (.putfield 65, 3) := by decide +kernel
theorem d_St_init_128 : decode m_St_init.2.1 128 = .ok (.return_, 1) := by decide +kernel
theorem d_St_job_0 : decode m_St_job.2.1 0 = .ok (.iload_n 1, 1) := by decide +kernel
theorem d_St_job_1 : decode m_St_job.2.1 1 = .ok (.ifCond .lt 36, 3) := by decide +kernel
theorem d_St_job_4 : decode m_St_job.2.1 4 = .ok (.iload_n 1, 1) := by decide +kernel
theorem d_St_job_5 : decode m_St_job.2.1 5 = .ok (.iconst 2, 1) := by decide +kernel
theorem d_St_job_6 : decode m_St_job.2.1 6 = .ok (.if_icmp .gt 31, 3) := by decide +kernel
theorem d_St_job_9 : decode m_St_job.2.1 9 = .ok (.iload_n 2, 1) := by decide +kernel
theorem d_St_job_10 : decode m_St_job.2.1 10 = .ok (.iconst 1, 1) := by decide +kernel
theorem d_St_job_11 : decode m_St_job.2.1 11 = .ok (.if_icmp .lt 26, 3) := by decide +kernel
theorem d_St_job_14 : decode m_St_job.2.1 14 = .ok (.iload_n 2, 1) := by decide +kernel
theorem d_St_job_15 : decode m_St_job.2.1 15 = .ok (.sipush 200, 3) := by decide +kernel
theorem d_St_job_18 : decode m_St_job.2.1 18 = .ok (.if_icmp .gt 19, 3) := by decide +kernel
theorem d_St_job_21 : decode m_St_job.2.1 21 = .ok (.iload 4, 2) := by decide +kernel
theorem d_St_job_23 : decode m_St_job.2.1 23 = .ok (.invokestatic 68, 3) := by decide +kernel
theorem d_St_job_26 : decode m_St_job.2.1 26 = .ok (.ifCond .eq 11, 3) := by decide +kernel
theorem d_St_job_29 : decode m_St_job.2.1 29 = .ok (.iload 5, 2) := by decide +kernel
theorem d_St_job_31 : decode m_St_job.2.1 31 = .ok (.invokestatic 68, 3) := by decide +kernel
theorem d_St_job_34 : decode m_St_job.2.1 34 = .ok (.ifCond .ne 13, 3) := by decide +kernel
theorem d_St_job_37 : decode m_St_job.2.1 37 = .ok (.new 72, 3) := by decide +kernel
theorem d_St_job_40 : decode m_St_job.2.1 40 = .ok (.dup, 1) := by decide +kernel
theorem d_St_job_41 : decode m_St_job.2.1 41 = .ok (.ldc 74, 2) := by decide +kernel
theorem d_St_job_43 : decode m_St_job.2.1 43 = .ok (.invokespecial 76, 3) := by decide +kernel
theorem d_St_job_46 : decode m_St_job.2.1 46 = .ok (.athrow, 1) := by decide +kernel
theorem d_St_job_47 : decode m_St_job.2.1 47 = .ok (.iload_n 1, 1) := by decide +kernel
theorem d_St_job_48 : decode m_St_job.2.1 48 = .ok (.iconst 1, 1) := by decide +kernel
theorem d_St_job_49 : decode m_St_job.2.1 49 = .ok (.if_icmp .ne 21, 3) := by decide +kernel
theorem d_St_job_52 : decode m_St_job.2.1 52 = .ok (.iload_n 3, 1) := by decide +kernel
theorem d_St_job_53 : decode m_St_job.2.1 53 = .ok (.iload_n 2, 1) := by decide +kernel
theorem d_St_job_54 : decode m_St_job.2.1 54 = .ok (.invokestatic 79, 3) := by decide +kernel
theorem d_St_job_57 : decode m_St_job.2.1 57 = .ok (.ifCond .ne 13, 3) := by decide +kernel
theorem d_St_job_60 : decode m_St_job.2.1 60 = .ok (.new 72, 3) := by decide +kernel
theorem d_St_job_63 : decode m_St_job.2.1 63 = .ok (.dup, 1) := by decide +kernel
theorem d_St_job_64 : decode m_St_job.2.1 64 = .ok (.ldc 83, 2) := by decide +kernel
theorem d_St_job_66 : decode m_St_job.2.1 66 = .ok (.invokespecial 76, 3) := by decide +kernel
theorem d_St_job_69 : decode m_St_job.2.1 69 = .ok (.athrow, 1) := by decide +kernel
theorem d_St_job_70 : decode m_St_job.2.1 70 = .ok (.aload_n 0, 1) := by decide +kernel
theorem d_St_job_71 : decode m_St_job.2.1 71 = .ok (.invokevirtual 85, 3) := by decide +kernel
theorem d_St_job_74 : decode m_St_job.2.1 74 = .ok (.aload_n 0, 1) := by decide +kernel
theorem d_St_job_75 : decode m_St_job.2.1 75 = .ok (.getfield 10, 3) := by decide +kernel
theorem d_St_job_78 : decode m_St_job.2.1 78 = .ok (.iload_n 1, 1) := by decide +kernel
theorem d_St_job_79 : decode m_St_job.2.1 79 = .ok (.putfield 88, 3) := by decide +kernel
theorem d_St_job_82 : decode m_St_job.2.1 82 = .ok (.aload_n 0, 1) := by decide +kernel
theorem d_St_job_83 : decode m_St_job.2.1 83 = .ok (.getfield 10, 3) := by decide +kernel
theorem d_St_job_86 : decode m_St_job.2.1 86 = .ok (.iload_n 2, 1) := by decide +kernel
theorem d_St_job_87 : decode m_St_job.2.1 87 = .ok (.putfield 91, 3) := by decide +kernel
theorem d_St_job_90 : decode m_St_job.2.1 90 = .ok (.aload_n 0, 1) := by decide +kernel
theorem d_St_job_91 : decode m_St_job.2.1 91 = .ok (.getfield 10, 3) := by decide +kernel
theorem d_St_job_94 : decode m_St_job.2.1 94 = .ok (.iload_n 1, 1) := by decide +kernel
theorem d_St_job_95 : decode m_St_job.2.1 95 = .ok (.iconst 1, 1) := by decide +kernel
theorem d_St_job_96 : decode m_St_job.2.1 96 = .ok (.if_icmp .ne 7, 3) := by decide +kernel
theorem d_St_job_99 : decode m_St_job.2.1 99 = .ok (.iload_n 3, 1) := by decide +kernel
theorem d_St_job_100 : decode m_St_job.2.1 100 = .ok (.goto 4, 3) := by decide +kernel
theorem d_St_job_103 : decode m_St_job.2.1 103 = .ok (.iload_n 2, 1) := by decide +kernel
theorem d_St_job_104 : decode m_St_job.2.1 104 = .ok (.putfield 94, 3) := by decide +kernel
theorem d_St_job_107 : decode m_St_job.2.1 107 = .ok (.aload_n 0, 1) := by decide +kernel
theorem d_St_job_108 : decode m_St_job.2.1 108 = .ok (.getfield 10, 3) := by decide +kernel
theorem d_St_job_111 : decode m_St_job.2.1 111 = .ok (.iload 4, 2) := by decide +kernel
theorem d_St_job_113 : decode m_St_job.2.1 113 = .ok (.putfield 97, 3) := by decide +kernel
theorem d_St_job_116 : decode m_St_job.2.1 116 = .ok (.aload_n 0, 1) := by decide +kernel
theorem d_St_job_117 : decode m_St_job.2.1 117 = .ok (.getfield 10, 3) := by decide +kernel
theorem d_St_job_120 : decode m_St_job.2.1 120 = .ok (.iload 5, 2) := by decide +kernel
theorem d_St_job_122 : decode m_St_job.2.1 122 = .ok (.putfield 100, 3) := by decide +kernel
theorem d_St_job_125 : decode m_St_job.2.1 125 = .ok (.aload_n 0, 1) := by decide +kernel
theorem d_St_job_126 : decode m_St_job.2.1 126 = .ok (.getfield 10, 3) := by decide +kernel
theorem d_St_job_129 : decode m_St_job.2.1 129 = .ok (.iload 6, 2) := by decide +kernel
theorem d_St_job_131 : decode m_St_job.2.1 131 = .ok (.putfield 103, 3) := by decide +kernel
theorem d_St_job_134 : decode m_St_job.2.1 134 = .ok (.return_, 1) := by decide +kernel
theorem d_St_append_0 : decode m_St_append.2.1 0 = .ok (.iload_n 1, 1) := by decide +kernel
theorem d_St_append_1 : decode m_St_append.2.1 1 = .ok (.invokestatic 106, 3) := by decide +kernel
theorem d_St_append_4 : decode m_St_append.2.1 4 = .ok (.iload_n 2, 1) := by decide +kernel
theorem d_St_append_5 : decode m_St_append.2.1 5 = .ok (.ifCond .lt 33, 3) := by decide +kernel
theorem d_St_append_8 : decode m_St_append.2.1 8 = .ok (.iload_n 2, 1) := by decide +kernel
theorem d_St_append_9 : decode m_St_append.2.1 9 = .ok (.sipush 999, 3) := by decide +kernel
theorem d_St_append_12 : decode m_St_append.2.1 12 = .ok (.if_icmp .gt 26, 3) := by decide +kernel
theorem d_St_append_15 : decode m_St_append.2.1 15 = .ok (.iload_n 3, 1) := by decide +kernel
theorem d_St_append_16 : decode m_St_append.2.1 16 = .ok (.invokestatic 115, 3) := by decide +kernel
theorem d_St_append_19 : decode m_St_append.2.1 19 = .ok (.ifCond .eq 19, 3) := by decide +kernel
theorem d_St_append_22 : decode m_St_append.2.1 22 = .ok (.iload 4, 2) := by decide +kernel
theorem d_St_append_24 : decode m_St_append.2.1 24 = .ok (.sipush (-1000), 3) := by decide +kernel
theorem d_St_append_27 : decode m_St_append.2.1 27 = .ok (.if_icmp .lt 11, 3) := by decide +kernel
theorem d_St_append_30 : decode m_St_append.2.1 30 = .ok (.iload 4, 2) := by decide +kernel
theorem d_St_append_32 : decode m_St_append.2.1 32 = .ok (.sipush 1000, 3) := by decide +kernel
theorem d_St_append_35 : decode m_St_append.2.1 35 = .ok (.if_icmp .le 13, 3) := by decide +kernel
theorem d_St_append_38 : decode m_St_append.2.1 38 = .ok (.new 72, 3) := by decide +kernel
theorem d_St_append_41 : decode m_St_append.2.1 41 = .ok (.dup, 1) := by decide +kernel
theorem d_St_append_42 : decode m_St_append.2.1 42 = .ok (.ldc 118, 2) := by decide +kernel
theorem d_St_append_44 : decode m_St_append.2.1 44 = .ok (.invokespecial 76, 3) := by decide +kernel
theorem d_St_append_47 : decode m_St_append.2.1 47 = .ok (.athrow, 1) := by decide +kernel
theorem d_St_append_48 : decode m_St_append.2.1 48 = .ok (.aload_n 0, 1) := by decide +kernel
theorem d_St_append_49 : decode m_St_append.2.1 49 = .ok (.getfield 19, 3) := by decide +kernel
theorem d_St_append_52 : decode m_St_append.2.1 52 = .ok (.iload_n 1, 1) := by decide +kernel
theorem d_St_append_53 : decode m_St_append.2.1 53 = .ok (.aaload, 1) := by decide +kernel
theorem d_St_append_54 : decode m_St_append.2.1 54 = .ok (.getfield 120, 3) := by decide +kernel
theorem d_St_append_57 : decode m_St_append.2.1 57 = .ok (.astore 5, 2) := by decide +kernel
theorem d_St_append_59 : decode m_St_append.2.1 59 = .ok (.aload 5, 2) := by decide +kernel
theorem d_St_append_61 : decode m_St_append.2.1 61 = .ok (.invokevirtual 124, 3) := by decide +kernel
theorem d_St_append_64 : decode m_St_append.2.1 64 = .ok (.bipush 40, 2) := by decide +kernel
theorem d_St_append_66 : decode m_St_append.2.1 66 = .ok (.if_icmp .lt 13, 3) := by decide +kernel
theorem d_St_append_69 : decode m_St_append.2.1 69 = .ok (.new 129, 3) := by decide +kernel
theorem d_St_append_72 : decode m_St_append.2.1 72 = .ok (.dup, 1) := by decide +kernel
theorem d_St_append_73 : decode m_St_append.2.1 73 = .ok (.ldc 131, 2) := by decide +kernel
theorem d_St_append_75 : decode m_St_append.2.1 75 = .ok (.invokespecial 133, 3) := by decide +kernel
theorem d_St_append_78 : decode m_St_append.2.1 78 = .ok (.athrow, 1) := by decide +kernel
theorem d_St_append_79 : decode m_St_append.2.1 79 = .ok (.aload 5, 2) := by decide +kernel
theorem d_St_append_81 : decode m_St_append.2.1 81 = .ok (.new 134, 3) := by decide +kernel
theorem d_St_append_84 : decode m_St_append.2.1 84 = .ok (.dup, 1) := by decide +kernel
theorem d_St_append_85 : decode m_St_append.2.1 85 = .ok (.iload_n 1, 1) := by decide +kernel
theorem d_St_append_86 : decode m_St_append.2.1 86 = .ok (.iload_n 2, 1) := by decide +kernel
theorem d_St_append_87 : decode m_St_append.2.1 87 = .ok (.iload_n 3, 1) := by decide +kernel
theorem d_St_append_88 : decode m_St_append.2.1 88 = .ok (.iload 4, 2) := by decide +kernel
theorem d_St_append_90 : decode m_St_append.2.1 90 = .ok (.invokespecial 136, 3) := by decide +kernel
theorem d_St_append_93 : decode m_St_append.2.1 93 = .ok (.invokevirtual 139, 3) := by decide +kernel
theorem d_St_append_96 : decode m_St_append.2.1 96 = .ok (.pop, 1) := by decide +kernel
theorem d_St_append_97 : decode m_St_append.2.1 97 = .ok (.aload 5, 2) := by decide +kernel
theorem d_St_append_99 : decode m_St_append.2.1 99 = .ok (.invokevirtual 124, 3) := by decide +kernel
theorem d_St_append_102 : decode m_St_append.2.1 102 = .ok (.iconst 1, 1) := by decide +kernel
theorem d_St_append_103 : decode m_St_append.2.1 103 = .ok (.isub, 1) := by decide +kernel
theorem d_St_append_104 : decode m_St_append.2.1 104 = .ok (.ireturn, 1) := by decide +kernel
theorem d_St_read_0 : decode m_St_read.2.1 0 = .ok (.iload_n 1, 1) := by decide +kernel
theorem d_St_read_1 : decode m_St_read.2.1 1 = .ok (.invokestatic 106, 3) := by decide +kernel
theorem d_St_read_4 : decode m_St_read.2.1 4 = .ok (.aload_n 0, 1) := by decide +kernel
theorem d_St_read_5 : decode m_St_read.2.1 5 = .ok (.getfield 26, 3) := by decide +kernel
theorem d_St_read_8 : decode m_St_read.2.1 8 = .ok (.getfield 143, 3) := by decide +kernel
theorem d_St_read_11 : decode m_St_read.2.1 11 = .ok (.iload_n 1, 1) := by decide +kernel
theorem d_St_read_12 : decode m_St_read.2.1 12 = .ok (.iaload, 1) := by decide +kernel
theorem d_St_read_13 : decode m_St_read.2.1 13 = .ok (.aload_n 0, 1) := by decide +kernel
theorem d_St_read_14 : decode m_St_read.2.1 14 = .ok (.getfield 19, 3) := by decide +kernel
theorem d_St_read_17 : decode m_St_read.2.1 17 = .ok (.iload_n 1, 1) := by decide +kernel
theorem d_St_read_18 : decode m_St_read.2.1 18 = .ok (.aaload, 1) := by decide +kernel
theorem d_St_read_19 : decode m_St_read.2.1 19 = .ok (.getfield 120, 3) := by decide +kernel
theorem d_St_read_22 : decode m_St_read.2.1 22 = .ok (.invokevirtual 124, 3) := by decide +kernel
theorem d_St_read_25 : decode m_St_read.2.1 25 = .ok (.if_icmp .lt 13, 3) := by decide +kernel
theorem d_St_read_28 : decode m_St_read.2.1 28 = .ok (.new 129, 3) := by decide +kernel
theorem d_St_read_31 : decode m_St_read.2.1 31 = .ok (.dup, 1) := by decide +kernel
theorem d_St_read_32 : decode m_St_read.2.1 32 = .ok (.ldc 147, 2) := by decide +kernel
theorem d_St_read_34 : decode m_St_read.2.1 34 = .ok (.invokespecial 133, 3) := by decide +kernel
theorem d_St_read_37 : decode m_St_read.2.1 37 = .ok (.athrow, 1) := by decide +kernel
theorem d_St_read_38 : decode m_St_read.2.1 38 = .ok (.aload_n 0, 1) := by decide +kernel
theorem d_St_read_39 : decode m_St_read.2.1 39 = .ok (.getfield 26, 3) := by decide +kernel
theorem d_St_read_42 : decode m_St_read.2.1 42 = .ok (.iload_n 1, 1) := by decide +kernel
theorem d_St_read_43 : decode m_St_read.2.1 43 = .ok (.invokevirtual 149, 3) := by decide +kernel
theorem d_St_read_46 : decode m_St_read.2.1 46 = .ok (.iconst 4, 1) := by decide +kernel
theorem d_St_read_47 : decode m_St_read.2.1 47 = .ok (.if_icmp .lt 13, 3) := by decide +kernel
theorem d_St_read_50 : decode m_St_read.2.1 50 = .ok (.new 129, 3) := by decide +kernel
theorem d_St_read_53 : decode m_St_read.2.1 53 = .ok (.dup, 1) := by decide +kernel
theorem d_St_read_54 : decode m_St_read.2.1 54 = .ok (.ldc 153, 2) := by decide +kernel
theorem d_St_read_56 : decode m_St_read.2.1 56 = .ok (.invokespecial 133, 3) := by decide +kernel
theorem d_St_read_59 : decode m_St_read.2.1 59 = .ok (.athrow, 1) := by decide +kernel
theorem d_St_read_60 : decode m_St_read.2.1 60 = .ok (.aload_n 0, 1) := by decide +kernel
theorem d_St_read_61 : decode m_St_read.2.1 61 = .ok (.iconst 1, 1) := by decide +kernel
theorem d_St_read_62 : decode m_St_read.2.1 62 = .ok (.putfield 54, 3) := by decide +kernel
theorem d_St_read_65 : decode m_St_read.2.1 65 = .ok (.aload_n 0, 1) := by decide +kernel
theorem d_St_read_66 : decode m_St_read.2.1 66 = .ok (.getfield 26, 3) := by decide +kernel
theorem d_St_read_69 : decode m_St_read.2.1 69 = .ok (.getfield 143, 3) := by decide +kernel
theorem d_St_read_72 : decode m_St_read.2.1 72 = .ok (.iload_n 1, 1) := by decide +kernel
theorem d_St_read_73 : decode m_St_read.2.1 73 = .ok (.dup2, 1) := by decide +kernel
theorem d_St_read_74 : decode m_St_read.2.1 74 = .ok (.iaload, 1) := by decide +kernel
theorem d_St_read_75 : decode m_St_read.2.1 75 = .ok (.iconst 1, 1) := by decide +kernel
theorem d_St_read_76 : decode m_St_read.2.1 76 = .ok (.iadd, 1) := by decide +kernel
theorem d_St_read_77 : decode m_St_read.2.1 77 = .ok (.iastore, 1) := by decide +kernel
theorem d_St_read_78 : decode m_St_read.2.1 78 = .ok (.aload_n 0, 1) := by decide +kernel
theorem d_St_read_79 : decode m_St_read.2.1 79 = .ok (.getfield 26, 3) := by decide +kernel
theorem d_St_read_82 : decode m_St_read.2.1 82 = .ok (.iload_n 1, 1) := by decide +kernel
theorem d_St_read_83 : decode m_St_read.2.1 83 = .ok (.invokevirtual 149, 3) := by decide +kernel
theorem d_St_read_86 : decode m_St_read.2.1 86 = .ok (.ireturn, 1) := by decide +kernel
theorem d_St_idle_0 : decode m_St_idle.2.1 0 = .ok (.iload_n 1, 1) := by decide +kernel
theorem d_St_idle_1 : decode m_St_idle.2.1 1 = .ok (.invokestatic 106, 3) := by decide +kernel
theorem d_St_idle_4 : decode m_St_idle.2.1 4 = .ok (.aload_n 0, 1) := by decide +kernel
theorem d_St_idle_5 : decode m_St_idle.2.1 5 = .ok (.getfield 19, 3) := by decide +kernel
theorem d_St_idle_8 : decode m_St_idle.2.1 8 = .ok (.iload_n 1, 1) := by decide +kernel
theorem d_St_idle_9 : decode m_St_idle.2.1 9 = .ok (.aaload, 1) := by decide +kernel
theorem d_St_idle_10 : decode m_St_idle.2.1 10 = .ok (.getfield 155, 3) := by decide +kernel
theorem d_St_idle_13 : decode m_St_idle.2.1 13 = .ok (.istore_n 3, 1) := by decide +kernel
theorem d_St_idle_14 : decode m_St_idle.2.1 14 = .ok (.aload_n 0, 1) := by decide +kernel
theorem d_St_idle_15 : decode m_St_idle.2.1 15 = .ok (.getfield 19, 3) := by decide +kernel
theorem d_St_idle_18 : decode m_St_idle.2.1 18 = .ok (.iload_n 1, 1) := by decide +kernel
theorem d_St_idle_19 : decode m_St_idle.2.1 19 = .ok (.aaload, 1) := by decide +kernel
theorem d_St_idle_20 : decode m_St_idle.2.1 20 = .ok (.iload_n 2, 1) := by decide +kernel
theorem d_St_idle_21 : decode m_St_idle.2.1 21 = .ok (.putfield 155, 3) := by decide +kernel
theorem d_St_idle_24 : decode m_St_idle.2.1 24 = .ok (.aload_n 0, 1) := by decide +kernel
theorem d_St_idle_25 : decode m_St_idle.2.1 25 = .ok (.invokevirtual 158, 3) := by decide +kernel
theorem d_St_idle_28 : decode m_St_idle.2.1 28 = .ok (.iload_n 3, 1) := by decide +kernel
theorem d_St_idle_29 : decode m_St_idle.2.1 29 = .ok (.ireturn, 1) := by decide +kernel
theorem d_St_take_0 : decode m_St_take.2.1 0 = .ok (.iload_n 1, 1) := by decide +kernel
theorem d_St_take_1 : decode m_St_take.2.1 1 = .ok (.invokestatic 106, 3) := by decide +kernel
theorem d_St_take_4 : decode m_St_take.2.1 4 = .ok (.aload_n 0, 1) := by decide +kernel
theorem d_St_take_5 : decode m_St_take.2.1 5 = .ok (.getfield 50, 3) := by decide +kernel
theorem d_St_take_8 : decode m_St_take.2.1 8 = .ok (.iload_n 1, 1) := by decide +kernel
theorem d_St_take_9 : decode m_St_take.2.1 9 = .ok (.invokevirtual 161, 3) := by decide +kernel
theorem d_St_take_12 : decode m_St_take.2.1 12 = .ok (.ifCond .eq 13, 3) := by decide +kernel
theorem d_St_take_15 : decode m_St_take.2.1 15 = .ok (.new 129, 3) := by decide +kernel
theorem d_St_take_18 : decode m_St_take.2.1 18 = .ok (.dup, 1) := by decide +kernel
theorem d_St_take_19 : decode m_St_take.2.1 19 = .ok (.ldc 164, 2) := by decide +kernel
theorem d_St_take_21 : decode m_St_take.2.1 21 = .ok (.invokespecial 133, 3) := by decide +kernel
theorem d_St_take_24 : decode m_St_take.2.1 24 = .ok (.athrow, 1) := by decide +kernel
theorem d_St_take_25 : decode m_St_take.2.1 25 = .ok (.aload_n 0, 1) := by decide +kernel
theorem d_St_take_26 : decode m_St_take.2.1 26 = .ok (.getfield 50, 3) := by decide +kernel
theorem d_St_take_29 : decode m_St_take.2.1 29 = .ok (.iload_n 1, 1) := by decide +kernel
theorem d_St_take_30 : decode m_St_take.2.1 30 = .ok (.aload_n 0, 1) := by decide +kernel
theorem d_St_take_31 : decode m_St_take.2.1 31 = .ok (.getfield 26, 3) := by decide +kernel
theorem d_St_take_34 : decode m_St_take.2.1 34 = .ok (.getfield 166, 3) := by decide +kernel
theorem d_St_take_37 : decode m_St_take.2.1 37 = .ok (.iload_n 1, 1) := by decide +kernel
theorem d_St_take_38 : decode m_St_take.2.1 38 = .ok (.iaload, 1) := by decide +kernel
theorem d_St_take_39 : decode m_St_take.2.1 39 = .ok (.invokevirtual 169, 3) := by decide +kernel
theorem d_St_take_42 : decode m_St_take.2.1 42 = .ok (.ifCond .eq 9, 3) := by decide +kernel
theorem d_St_take_45 : decode m_St_take.2.1 45 = .ok (.aload_n 0, 1) := by decide +kernel
theorem d_St_take_46 : decode m_St_take.2.1 46 = .ok (.iload_n 1, 1) := by decide +kernel
theorem d_St_take_47 : decode m_St_take.2.1 47 = .ok (.invokevirtual 172, 3) := by decide +kernel
theorem d_St_take_50 : decode m_St_take.2.1 50 = .ok (.ireturn, 1) := by decide +kernel
theorem d_St_take_51 : decode m_St_take.2.1 51 = .ok (.aload_n 0, 1) := by decide +kernel
theorem d_St_take_52 : decode m_St_take.2.1 52 = .ok (.iload_n 1, 1) := by decide +kernel
theorem d_St_take_53 : decode m_St_take.2.1 53 = .ok (.invokevirtual 175, 3) := by decide +kernel
theorem d_St_take_56 : decode m_St_take.2.1 56 = .ok (.astore_n 2, 1) := by decide +kernel
theorem d_St_take_57 : decode m_St_take.2.1 57 = .ok (.aload_n 2, 1) := by decide +kernel
theorem d_St_take_58 : decode m_St_take.2.1 58 = .ok (.ifnonnull 13, 3) := by decide +kernel
theorem d_St_take_61 : decode m_St_take.2.1 61 = .ok (.new 129, 3) := by decide +kernel
theorem d_St_take_64 : decode m_St_take.2.1 64 = .ok (.dup, 1) := by decide +kernel
theorem d_St_take_65 : decode m_St_take.2.1 65 = .ok (.ldc 179, 2) := by decide +kernel
theorem d_St_take_67 : decode m_St_take.2.1 67 = .ok (.invokespecial 133, 3) := by decide +kernel
theorem d_St_take_70 : decode m_St_take.2.1 70 = .ok (.athrow, 1) := by decide +kernel
theorem d_St_take_71 : decode m_St_take.2.1 71 = .ok (.aload_n 0, 1) := by decide +kernel
theorem d_St_take_72 : decode m_St_take.2.1 72 = .ok (.iload_n 1, 1) := by decide +kernel
theorem d_St_take_73 : decode m_St_take.2.1 73 = .ok (.aload_n 2, 1) := by decide +kernel
theorem d_St_take_74 : decode m_St_take.2.1 74 = .ok (.invokevirtual 181, 3) := by decide +kernel
theorem d_St_take_77 : decode m_St_take.2.1 77 = .ok (.ireturn, 1) := by decide +kernel
theorem d_St_barrier_0 : decode m_St_barrier.2.1 0 = .ok (.aload_n 0, 1) := by decide +kernel
theorem d_St_barrier_1 : decode m_St_barrier.2.1 1 = .ok (.getfield 50, 3) := by decide +kernel
theorem d_St_barrier_4 : decode m_St_barrier.2.1 4 = .ok (.getfield 185, 3) := by decide +kernel
theorem d_St_barrier_7 : decode m_St_barrier.2.1 7 = .ok (.ifCond .eq 13, 3) := by decide +kernel
theorem d_St_barrier_10 : decode m_St_barrier.2.1 10 = .ok (.new 129, 3) := by decide +kernel
theorem d_St_barrier_13 : decode m_St_barrier.2.1 13 = .ok (.dup, 1) := by decide +kernel
theorem d_St_barrier_14 : decode m_St_barrier.2.1 14 = .ok (.ldc 188, 2) := by decide +kernel
theorem d_St_barrier_16 : decode m_St_barrier.2.1 16 = .ok (.invokespecial 133, 3) := by decide +kernel
theorem d_St_barrier_19 : decode m_St_barrier.2.1 19 = .ok (.athrow, 1) := by decide +kernel
theorem d_St_barrier_20 : decode m_St_barrier.2.1 20 = .ok (.aload_n 0, 1) := by decide +kernel
theorem d_St_barrier_21 : decode m_St_barrier.2.1 21 = .ok (.iconst 1, 1) := by decide +kernel
theorem d_St_barrier_22 : decode m_St_barrier.2.1 22 = .ok (.putfield 54, 3) := by decide +kernel
