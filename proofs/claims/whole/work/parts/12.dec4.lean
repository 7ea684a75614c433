/-! decode rows, printed by wip/gen/evid.py -/
theorem d_Ar_copyOf_1 : decode m_Ar_copyOf.2.1 1 = .ok (.iload_n 1, 1) := by decide +kernel
theorem d_Ar_copyOf_2 : decode m_Ar_copyOf.2.1 2 = .ok (.aload_n 0, 1) := by decide +kernel
theorem d_Ar_copyOf_3 : decode m_Ar_copyOf.2.1 3 = .ok (.invokevirtual 86, 3) := by decide +kernel
theorem d_Ar_copyOf_6 : decode m_Ar_copyOf.2.1 6 = .ok (.invokestatic 300, 3) := by decide +kernel
theorem d_Ar_copyOf_9 : decode m_Ar_copyOf.2.1 9 = .ok (.areturn, 1) := by decide +kernel
theorem d_Ar_copyOf3_0 : decode m_Ar_copyOf3.2.1 0 = .ok (.aload_n 2, 1) := by decide +kernel
theorem d_Ar_copyOf3_1 : decode m_Ar_copyOf3.2.1 1 = .ok (.ldc 110, 2) := by decide +kernel
theorem d_Ar_copyOf3_3 : decode m_Ar_copyOf3.2.1 3 = .ok (.if_acmp .ne 10, 3) := by decide +kernel
theorem d_Ar_copyOf3_6 : decode m_Ar_copyOf3.2.1 6 = .ok (.iload_n 1, 1) := by decide +kernel
theorem d_Ar_copyOf3_7 : decode m_Ar_copyOf3.2.1 7 = .ok (.anewarray 2, 3) := by decide +kernel
theorem d_Ar_copyOf3_10 : decode m_Ar_copyOf3.2.1 10 = .ok (.goto 14, 3) := by decide +kernel
theorem d_Ar_copyOf3_13 : decode m_Ar_copyOf3.2.1 13 = .ok (.aload_n 2, 1) := by decide +kernel
theorem d_Ar_copyOf3_14 : decode m_Ar_copyOf3.2.1 14 = .ok (.invokevirtual 90, 3) := by decide +kernel
theorem d_Ar_copyOf3_17 : decode m_Ar_copyOf3.2.1 17 = .ok (.iload_n 1, 1) := by decide +kernel
theorem d_Ar_copyOf3_18 : decode m_Ar_copyOf3.2.1 18 = .ok (.invokestatic 95, 3) := by decide +kernel
theorem d_Ar_copyOf3_21 : decode m_Ar_copyOf3.2.1 21 = .ok (.checkcast 110, 3) := by decide +kernel
theorem d_Ar_copyOf3_24 : decode m_Ar_copyOf3.2.1 24 = .ok (.astore_n 3, 1) := by decide +kernel
theorem d_Ar_copyOf3_25 : decode m_Ar_copyOf3.2.1 25 = .ok (.aload_n 0, 1) := by decide +kernel
theorem d_Ar_copyOf3_26 : decode m_Ar_copyOf3.2.1 26 = .ok (.iconst 0, 1) := by decide +kernel
theorem d_Ar_copyOf3_27 : decode m_Ar_copyOf3.2.1 27 = .ok (.aload_n 3, 1) := by decide +kernel
theorem d_Ar_copyOf3_28 : decode m_Ar_copyOf3.2.1 28 = .ok (.iconst 0, 1) := by decide +kernel
theorem d_Ar_copyOf3_29 : decode m_Ar_copyOf3.2.1 29 = .ok (.aload_n 0, 1) := by decide +kernel
theorem d_Ar_copyOf3_30 : decode m_Ar_copyOf3.2.1 30 = .ok (.arraylength, 1) := by decide +kernel
theorem d_Ar_copyOf3_31 : decode m_Ar_copyOf3.2.1 31 = .ok (.iload_n 1, 1) := by decide +kernel
theorem d_Ar_copyOf3_32 : decode m_Ar_copyOf3.2.1 32 = .ok (.invokestatic 304, 3) := by decide +kernel
theorem d_Ar_copyOf3_35 : decode m_Ar_copyOf3.2.1 35 = .ok (.invokestatic 150, 3) := by decide +kernel
theorem d_Ar_copyOf3_38 : decode m_Ar_copyOf3.2.1 38 = .ok (.aload_n 3, 1) := by decide +kernel
theorem d_Ar_copyOf3_39 : decode m_Ar_copyOf3.2.1 39 = .ok (.areturn, 1) := by decide +kernel
theorem d_Ob_checkIndex_0 : decode m_Ob_checkIndex.2.1 0 = .ok (.iload_n 0, 1) := by decide +kernel
theorem d_Ob_checkIndex_1 : decode m_Ob_checkIndex.2.1 1 = .ok (.iload_n 1, 1) := by decide +kernel
theorem d_Ob_checkIndex_2 : decode m_Ob_checkIndex.2.1 2 = .ok (.aconst_null, 1) := by decide +kernel
theorem d_Ob_checkIndex_3 : decode m_Ob_checkIndex.2.1 3 = .ok (.invokestatic 105, 3) := by decide +kernel
theorem d_Ob_checkIndex_6 : decode m_Ob_checkIndex.2.1 6 = .ok (.ireturn, 1) := by decide +kernel
theorem d_AS_newLength_0 : decode m_AS_newLength.2.1 0 = .ok (.iload_n 0, 1) := by decide +kernel
theorem d_AS_newLength_1 : decode m_AS_newLength.2.1 1 = .ok (.iload_n 1, 1) := by decide +kernel
theorem d_AS_newLength_2 : decode m_AS_newLength.2.1 2 = .ok (.iload_n 2, 1) := by decide +kernel
theorem d_AS_newLength_3 : decode m_AS_newLength.2.1 3 = .ok (.invokestatic 194, 3) := by decide +kernel
theorem d_AS_newLength_6 : decode m_AS_newLength.2.1 6 = .ok (.iadd, 1) := by decide +kernel
theorem d_AS_newLength_7 : decode m_AS_newLength.2.1 7 = .ok (.istore_n 3, 1) := by decide +kernel
theorem d_AS_newLength_8 : decode m_AS_newLength.2.1 8 = .ok (.iconst 0, 1) := by decide +kernel
theorem d_AS_newLength_9 : decode m_AS_newLength.2.1 9 = .ok (.iload_n 3, 1) := by decide +kernel
theorem d_AS_newLength_10 : decode m_AS_newLength.2.1 10 = .ok (.if_icmp .ge 11, 3) := by decide +kernel
theorem d_AS_newLength_13 : decode m_AS_newLength.2.1 13 = .ok (.iload_n 3, 1) := by decide +kernel
theorem d_AS_newLength_14 : decode m_AS_newLength.2.1 14 = .ok (.ldc 200, 2) := by decide +kernel
theorem d_AS_newLength_16 : decode m_AS_newLength.2.1 16 = .ok (.if_icmp .gt 5, 3) := by decide +kernel
theorem d_AS_newLength_19 : decode m_AS_newLength.2.1 19 = .ok (.iload_n 3, 1) := by decide +kernel
theorem d_AS_newLength_20 : decode m_AS_newLength.2.1 20 = .ok (.ireturn, 1) := by decide +kernel
theorem d_AS_newLength_21 : decode m_AS_newLength.2.1 21 = .ok (.iload_n 0, 1) := by decide +kernel
theorem d_AS_newLength_22 : decode m_AS_newLength.2.1 22 = .ok (.iload_n 1, 1) := by decide +kernel
theorem d_AS_newLength_23 : decode m_AS_newLength.2.1 23 = .ok (.invokestatic 201, 3) := by decide +kernel
theorem d_AS_newLength_26 : decode m_AS_newLength.2.1 26 = .ok (.ireturn, 1) := by decide +kernel
theorem d_Pc_checkIndex_0 : decode m_Pc_checkIndex.2.1 0 = .ok (.iload_n 0, 1) := by decide +kernel
theorem d_Pc_checkIndex_1 : decode m_Pc_checkIndex.2.1 1 = .ok (.ifCond .lt 8, 3) := by decide +kernel
theorem d_Pc_checkIndex_4 : decode m_Pc_checkIndex.2.1 4 = .ok (.iload_n 0, 1) := by decide +kernel
theorem d_Pc_checkIndex_5 : decode m_Pc_checkIndex.2.1 5 = .ok (.iload_n 1, 1) := by decide +kernel
theorem d_Pc_checkIndex_6 : decode m_Pc_checkIndex.2.1 6 = .ok (.if_icmp .lt 10, 3) := by decide +kernel
theorem d_Pc_checkIndex_9 : decode m_Pc_checkIndex.2.1 9 = .ok (.aload_n 2, 1) := by decide +kernel
theorem d_Pc_checkIndex_10 : decode m_Pc_checkIndex.2.1 10 = .ok (.iload_n 0, 1) := by decide +kernel
theorem d_Pc_checkIndex_11 : decode m_Pc_checkIndex.2.1 11 = .ok (.iload_n 1, 1) := by decide +kernel
theorem d_Pc_checkIndex_12 : decode m_Pc_checkIndex.2.1 12 = .ok (.invokestatic 95, 3) := by decide +kernel
theorem d_Pc_checkIndex_15 : decode m_Pc_checkIndex.2.1 15 = .ok (.athrow, 1) := by decide +kernel
theorem d_Pc_checkIndex_16 : decode m_Pc_checkIndex.2.1 16 = .ok (.iload_n 0, 1) := by decide +kernel
theorem d_Pc_checkIndex_17 : decode m_Pc_checkIndex.2.1 17 = .ok (.ireturn, 1) := by decide +kernel
theorem d_La_job_0 : decode m_La_job.2.1 0 = .ok (.aload_n 0, 1) := by decide +kernel
theorem d_La_job_1 : decode m_La_job.2.1 1 = .ok (.iload_n 1, 1) := by decide +kernel
theorem d_La_job_2 : decode m_La_job.2.1 2 = .ok (.iload_n 2, 1) := by decide +kernel
theorem d_La_job_3 : decode m_La_job.2.1 3 = .ok (.iload_n 3, 1) := by decide +kernel
theorem d_La_job_4 : decode m_La_job.2.1 4 = .ok (.iload 4, 2) := by decide +kernel
theorem d_La_job_6 : decode m_La_job.2.1 6 = .ok (.iload 5, 2) := by decide +kernel
theorem d_La_job_8 : decode m_La_job.2.1 8 = .ok (.iload 6, 2) := by decide +kernel
theorem d_La_job_10 : decode m_La_job.2.1 10 = .ok (.invokevirtual 7, 3) := by decide +kernel
theorem d_La_job_13 : decode m_La_job.2.1 13 = .ok (.goto 11, 3) := by decide +kernel
theorem d_La_job_16 : decode m_La_job.2.1 16 = .ok (.astore 7, 2) := by decide +kernel
theorem d_La_job_18 : decode m_La_job.2.1 18 = .ok (.iconst 1, 1) := by decide +kernel
theorem d_La_job_19 : decode m_La_job.2.1 19 = .ok (.ireturn, 1) := by decide +kernel
theorem d_La_job_20 : decode m_La_job.2.1 20 = .ok (.astore 7, 2) := by decide +kernel
theorem d_La_job_22 : decode m_La_job.2.1 22 = .ok (.iconst 2, 1) := by decide +kernel
theorem d_La_job_23 : decode m_La_job.2.1 23 = .ok (.ireturn, 1) := by decide +kernel
theorem d_La_job_24 : decode m_La_job.2.1 24 = .ok (.iconst 0, 1) := by decide +kernel
theorem d_La_job_25 : decode m_La_job.2.1 25 = .ok (.ireturn, 1) := by decide +kernel
theorem d_La_slack_0 : decode m_La_slack.2.1 0 = .ok (.aload_n 3, 1) := by decide +kernel
theorem d_La_slack_1 : decode m_La_slack.2.1 1 = .ok (.iconst 0, 1) := by decide +kernel
theorem d_La_slack_2 : decode m_La_slack.2.1 2 = .ok (.aload_n 0, 1) := by decide +kernel
theorem d_La_slack_3 : decode m_La_slack.2.1 3 = .ok (.iload_n 1, 1) := by decide +kernel
theorem d_La_slack_4 : decode m_La_slack.2.1 4 = .ok (.iload_n 2, 1) := by decide +kernel
theorem d_La_slack_5 : decode m_La_slack.2.1 5 = .ok (.invokevirtual 17, 3) := by decide +kernel
theorem d_La_slack_8 : decode m_La_slack.2.1 8 = .ok (.i2l, 1) := by decide +kernel
theorem d_La_slack_9 : decode m_La_slack.2.1 9 = .ok (.lastore, 1) := by decide +kernel
theorem d_La_slack_10 : decode m_La_slack.2.1 10 = .ok (.goto 15, 3) := by decide +kernel
theorem d_La_slack_13 : decode m_La_slack.2.1 13 = .ok (.astore 4, 2) := by decide +kernel
theorem d_La_slack_15 : decode m_La_slack.2.1 15 = .ok (.iconst 1, 1) := by decide +kernel
theorem d_La_slack_16 : decode m_La_slack.2.1 16 = .ok (.ireturn, 1) := by decide +kernel
theorem d_La_slack_17 : decode m_La_slack.2.1 17 = .ok (.astore 4, 2) := by decide +kernel
theorem d_La_slack_19 : decode m_La_slack.2.1 19 = .ok (.iconst 2, 1) := by decide +kernel
theorem d_La_slack_20 : decode m_La_slack.2.1 20 = .ok (.ireturn, 1) := by decide +kernel
theorem d_La_slack_21 : decode m_La_slack.2.1 21 = .ok (.astore 4, 2) := by decide +kernel
theorem d_La_slack_23 : decode m_La_slack.2.1 23 = .ok (.iconst 3, 1) := by decide +kernel
theorem d_La_slack_24 : decode m_La_slack.2.1 24 = .ok (.ireturn, 1) := by decide +kernel
theorem d_La_slack_25 : decode m_La_slack.2.1 25 = .ok (.iconst 0, 1) := by decide +kernel
theorem d_La_slack_26 : decode m_La_slack.2.1 26 = .ok (.ireturn, 1) := by decide +kernel
theorem d_La_append_0 : decode m_La_append.2.1 0 = .ok (.aload 5, 2) := by decide +kernel
theorem d_La_append_2 : decode m_La_append.2.1 2 = .ok (.iconst 0, 1) := by decide +kernel
theorem d_La_append_3 : decode m_La_append.2.1 3 = .ok (.aload_n 0, 1) := by decide +kernel
theorem d_La_append_4 : decode m_La_append.2.1 4 = .ok (.iload_n 1, 1) := by decide +kernel
theorem d_La_append_5 : decode m_La_append.2.1 5 = .ok (.iload_n 2, 1) := by decide +kernel
theorem d_La_append_6 : decode m_La_append.2.1 6 = .ok (.iload_n 3, 1) := by decide +kernel
theorem d_La_append_7 : decode m_La_append.2.1 7 = .ok (.iload 4, 2) := by decide +kernel
theorem d_La_append_9 : decode m_La_append.2.1 9 = .ok (.invokevirtual 23, 3) := by decide +kernel
theorem d_La_append_12 : decode m_La_append.2.1 12 = .ok (.i2l, 1) := by decide +kernel
theorem d_La_append_13 : decode m_La_append.2.1 13 = .ok (.lastore, 1) := by decide +kernel
theorem d_La_append_14 : decode m_La_append.2.1 14 = .ok (.goto 15, 3) := by decide +kernel
theorem d_La_append_17 : decode m_La_append.2.1 17 = .ok (.astore 6, 2) := by decide +kernel
theorem d_La_append_19 : decode m_La_append.2.1 19 = .ok (.iconst 1, 1) := by decide +kernel
theorem d_La_append_20 : decode m_La_append.2.1 20 = .ok (.ireturn, 1) := by decide +kernel
theorem d_La_append_21 : decode m_La_append.2.1 21 = .ok (.astore 6, 2) := by decide +kernel
theorem d_La_append_23 : decode m_La_append.2.1 23 = .ok (.iconst 2, 1) := by decide +kernel
theorem d_La_append_24 : decode m_La_append.2.1 24 = .ok (.ireturn, 1) := by decide +kernel
theorem d_La_append_25 : decode m_La_append.2.1 25 = .ok (.astore 6, 2) := by decide +kernel
theorem d_La_append_27 : decode m_La_append.2.1 27 = .ok (.iconst 3, 1) := by decide +kernel
theorem d_La_append_28 : decode m_La_append.2.1 28 = .ok (.ireturn, 1) := by decide +kernel
theorem d_La_append_29 : decode m_La_append.2.1 29 = .ok (.iconst 0, 1) := by decide +kernel
theorem d_La_append_30 : decode m_La_append.2.1 30 = .ok (.ireturn, 1) := by decide +kernel
theorem d_La_read_0 : decode m_La_read.2.1 0 = .ok (.aload_n 2, 1) := by decide +kernel
theorem d_La_read_1 : decode m_La_read.2.1 1 = .ok (.iconst 0, 1) := by decide +kernel
theorem d_La_read_2 : decode m_La_read.2.1 2 = .ok (.aload_n 0, 1) := by decide +kernel
theorem d_La_read_3 : decode m_La_read.2.1 3 = .ok (.iload_n 1, 1) := by decide +kernel
theorem d_La_read_4 : decode m_La_read.2.1 4 = .ok (.invokevirtual 27, 3) := by decide +kernel
theorem d_La_read_7 : decode m_La_read.2.1 7 = .ok (.i2l, 1) := by decide +kernel
theorem d_La_read_8 : decode m_La_read.2.1 8 = .ok (.lastore, 1) := by decide +kernel
theorem d_La_read_9 : decode m_La_read.2.1 9 = .ok (.goto 9, 3) := by decide +kernel
theorem d_La_read_12 : decode m_La_read.2.1 12 = .ok (.astore_n 3, 1) := by decide +kernel
theorem d_La_read_13 : decode m_La_read.2.1 13 = .ok (.iconst 1, 1) := by decide +kernel
theorem d_La_read_14 : decode m_La_read.2.1 14 = .ok (.ireturn, 1) := by decide +kernel
theorem d_La_read_15 : decode m_La_read.2.1 15 = .ok (.astore_n 3, 1) := by decide +kernel
theorem d_La_read_16 : decode m_La_read.2.1 16 = .ok (.iconst 2, 1) := by decide +kernel
theorem d_La_read_17 : decode m_La_read.2.1 17 = .ok (.ireturn, 1) := by decide +kernel
theorem d_La_read_18 : decode m_La_read.2.1 18 = .ok (.iconst 0, 1) := by decide +kernel
theorem d_La_read_19 : decode m_La_read.2.1 19 = .ok (.ireturn, 1) := by decide +kernel
theorem d_La_idle_0 : decode m_La_idle.2.1 0 = .ok (.aload_n 3, 1) := by decide +kernel
theorem d_La_idle_1 : decode m_La_idle.2.1 1 = .ok (.iconst 0, 1) := by decide +kernel
theorem d_La_idle_2 : decode m_La_idle.2.1 2 = .ok (.aload_n 0, 1) := by decide +kernel
theorem d_La_idle_3 : decode m_La_idle.2.1 3 = .ok (.iload_n 1, 1) := by decide +kernel
theorem d_La_idle_4 : decode m_La_idle.2.1 4 = .ok (.iload_n 2, 1) := by decide +kernel
theorem d_La_idle_5 : decode m_La_idle.2.1 5 = .ok (.invokevirtual 31, 3) := by decide +kernel
theorem d_La_idle_8 : decode m_La_idle.2.1 8 = .ok (.ifCond .eq 7, 3) := by decide +kernel
theorem d_La_idle_11 : decode m_La_idle.2.1 11 = .ok (.lconst 1, 1) := by decide +kernel
theorem d_La_idle_12 : decode m_La_idle.2.1 12 = .ok (.goto 4, 3) := by decide +kernel
theorem d_La_idle_15 : decode m_La_idle.2.1 15 = .ok (.lconst 0, 1) := by decide +kernel
theorem d_La_idle_16 : decode m_La_idle.2.1 16 = .ok (.lastore, 1) := by decide +kernel
theorem d_La_idle_17 : decode m_La_idle.2.1 17 = .ok (.goto 7, 3) := by decide +kernel
theorem d_La_idle_20 : decode m_La_idle.2.1 20 = .ok (.astore 4, 2) := by decide +kernel
theorem d_La_idle_22 : decode m_La_idle.2.1 22 = .ok (.iconst 1, 1) := by decide +kernel
theorem d_La_idle_23 : decode m_La_idle.2.1 23 = .ok (.ireturn, 1) := by decide +kernel
theorem d_La_idle_24 : decode m_La_idle.2.1 24 = .ok (.iconst 0, 1) := by decide +kernel
theorem d_La_idle_25 : decode m_La_idle.2.1 25 = .ok (.ireturn, 1) := by decide +kernel
theorem d_La_take_0 : decode m_La_take.2.1 0 = .ok (.aload_n 2, 1) := by decide +kernel
theorem d_La_take_1 : decode m_La_take.2.1 1 = .ok (.iconst 0, 1) := by decide +kernel
theorem d_La_take_2 : decode m_La_take.2.1 2 = .ok (.aload_n 0, 1) := by decide +kernel
theorem d_La_take_3 : decode m_La_take.2.1 3 = .ok (.iload_n 1, 1) := by decide +kernel
theorem d_La_take_4 : decode m_La_take.2.1 4 = .ok (.invokevirtual 35, 3) := by decide +kernel
theorem d_La_take_7 : decode m_La_take.2.1 7 = .ok (.i2l, 1) := by decide +kernel
theorem d_La_take_8 : decode m_La_take.2.1 8 = .ok (.lastore, 1) := by decide +kernel
theorem d_La_take_9 : decode m_La_take.2.1 9 = .ok (.goto 9, 3) := by decide +kernel
theorem d_La_take_12 : decode m_La_take.2.1 12 = .ok (.astore_n 3, 1) := by decide +kernel
theorem d_La_take_13 : decode m_La_take.2.1 13 = .ok (.iconst 1, 1) := by decide +kernel
theorem d_La_take_14 : decode m_La_take.2.1 14 = .ok (.ireturn, 1) := by decide +kernel
theorem d_La_take_15 : decode m_La_take.2.1 15 = .ok (.astore_n 3, 1) := by decide +kernel
theorem d_La_take_16 : decode m_La_take.2.1 16 = .ok (.iconst 2, 1) := by decide +kernel
theorem d_La_take_17 : decode m_La_take.2.1 17 = .ok (.ireturn, 1) := by decide +kernel
theorem d_La_take_18 : decode m_La_take.2.1 18 = .ok (.iconst 0, 1) := by decide +kernel
theorem d_La_take_19 : decode m_La_take.2.1 19 = .ok (.ireturn, 1) := by decide +kernel
theorem d_La_barrier_0 : decode m_La_barrier.2.1 0 = .ok (.aload_n 1, 1) := by decide +kernel
theorem d_La_barrier_1 : decode m_La_barrier.2.1 1 = .ok (.iconst 0, 1) := by decide +kernel
theorem d_La_barrier_2 : decode m_La_barrier.2.1 2 = .ok (.aload_n 0, 1) := by decide +kernel
theorem d_La_barrier_3 : decode m_La_barrier.2.1 3 = .ok (.invokevirtual 38, 3) := by decide +kernel
theorem d_La_barrier_6 : decode m_La_barrier.2.1 6 = .ok (.i2l, 1) := by decide +kernel
theorem d_La_barrier_7 : decode m_La_barrier.2.1 7 = .ok (.lastore, 1) := by decide +kernel
theorem d_La_barrier_8 : decode m_La_barrier.2.1 8 = .ok (.goto 6, 3) := by decide +kernel
theorem d_La_barrier_11 : decode m_La_barrier.2.1 11 = .ok (.astore_n 2, 1) := by decide +kernel
theorem d_La_barrier_12 : decode m_La_barrier.2.1 12 = .ok (.iconst 1, 1) := by decide +kernel
theorem d_La_barrier_13 : decode m_La_barrier.2.1 13 = .ok (.ireturn, 1) := by decide +kernel
theorem d_La_barrier_14 : decode m_La_barrier.2.1 14 = .ok (.iconst 0, 1) := by decide +kernel
theorem d_La_barrier_15 : decode m_La_barrier.2.1 15 = .ok (.ireturn, 1) := by decide +kernel
theorem d_La_confirm_0 : decode m_La_confirm.2.1 0 = .ok (.aload_n 1, 1) := by decide +kernel
theorem d_La_confirm_1 : decode m_La_confirm.2.1 1 = .ok (.iconst 0, 1) := by decide +kernel
theorem d_La_confirm_2 : decode m_La_confirm.2.1 2 = .ok (.aload_n 0, 1) := by decide +kernel
theorem d_La_confirm_3 : decode m_La_confirm.2.1 3 = .ok (.invokevirtual 42, 3) := by decide +kernel
theorem d_La_confirm_6 : decode m_La_confirm.2.1 6 = .ok (.i2l, 1) := by decide +kernel
theorem d_La_confirm_7 : decode m_La_confirm.2.1 7 = .ok (.lastore, 1) := by decide +kernel
theorem d_La_confirm_8 : decode m_La_confirm.2.1 8 = .ok (.goto 6, 3) := by decide +kernel
theorem d_La_confirm_11 : decode m_La_confirm.2.1 11 = .ok (.astore_n 2, 1) := by decide +kernel
theorem d_La_confirm_12 : decode m_La_confirm.2.1 12 = .ok (.iconst 1, 1) := by decide +kernel
theorem d_La_confirm_13 : decode m_La_confirm.2.1 13 = .ok (.ireturn, 1) := by decide +kernel
theorem d_La_confirm_14 : decode m_La_confirm.2.1 14 = .ok (.iconst 0, 1) := by decide +kernel
theorem d_La_confirm_15 : decode m_La_confirm.2.1 15 = .ok (.ireturn, 1) := by decide +kernel
theorem d_La_workers_0 : decode m_La_workers.2.1 0 = .ok (.aload_n 2, 1) := by decide +kernel
theorem d_La_workers_1 : decode m_La_workers.2.1 1 = .ok (.iconst 0, 1) := by decide +kernel
theorem d_La_workers_2 : decode m_La_workers.2.1 2 = .ok (.aload_n 0, 1) := by decide +kernel
theorem d_La_workers_3 : decode m_La_workers.2.1 3 = .ok (.iload_n 1, 1) := by decide +kernel
theorem d_La_workers_4 : decode m_La_workers.2.1 4 = .ok (.invokevirtual 45, 3) := by decide +kernel
theorem d_La_workers_7 : decode m_La_workers.2.1 7 = .ok (.i2l, 1) := by decide +kernel
theorem d_La_workers_8 : decode m_La_workers.2.1 8 = .ok (.lastore, 1) := by decide +kernel
theorem d_La_workers_9 : decode m_La_workers.2.1 9 = .ok (.goto 9, 3) := by decide +kernel
theorem d_La_workers_12 : decode m_La_workers.2.1 12 = .ok (.astore_n 3, 1) := by decide +kernel
theorem d_La_workers_13 : decode m_La_workers.2.1 13 = .ok (.iconst 1, 1) := by decide +kernel
theorem d_La_workers_14 : decode m_La_workers.2.1 14 = .ok (.ireturn, 1) := by decide +kernel
theorem d_La_workers_15 : decode m_La_workers.2.1 15 = .ok (.astore_n 3, 1) := by decide +kernel
theorem d_La_workers_16 : decode m_La_workers.2.1 16 = .ok (.iconst 2, 1) := by decide +kernel
theorem d_La_workers_17 : decode m_La_workers.2.1 17 = .ok (.ireturn, 1) := by decide +kernel
theorem d_La_workers_18 : decode m_La_workers.2.1 18 = .ok (.iconst 0, 1) := by decide +kernel
theorem d_La_workers_19 : decode m_La_workers.2.1 19 = .ok (.ireturn, 1) := by decide +kernel
theorem d_La_sourceWatermark_0 : decode m_La_sourceWatermark.2.1 0 = .ok (.aload_n 2, 1) := by decide +kernel
theorem d_La_sourceWatermark_1 : decode m_La_sourceWatermark.2.1 1 = .ok (.iconst 0, 1) := by decide +kernel
theorem d_La_sourceWatermark_2 : decode m_La_sourceWatermark.2.1 2 = .ok (.aload_n 0, 1) := by decide +kernel
theorem d_La_sourceWatermark_3 : decode m_La_sourceWatermark.2.1 3 = .ok (.iload_n 1, 1) := by decide +kernel
theorem d_La_sourceWatermark_4 : decode m_La_sourceWatermark.2.1 4 = .ok (.invokevirtual 48, 3) := by decide +kernel
theorem d_La_sourceWatermark_7 : decode m_La_sourceWatermark.2.1 7 = .ok (.i2l, 1) := by decide +kernel
theorem d_La_sourceWatermark_8 : decode m_La_sourceWatermark.2.1 8 = .ok (.lastore, 1) := by decide +kernel
theorem d_La_sourceWatermark_9 : decode m_La_sourceWatermark.2.1 9 = .ok (.goto 6, 3) := by decide +kernel
theorem d_La_sourceWatermark_12 : decode m_La_sourceWatermark.2.1 12 = .ok (.astore_n 3, 1) := by decide +kernel
theorem d_La_sourceWatermark_13 : decode m_La_sourceWatermark.2.1 13 = .ok (.iconst 1, 1) := by decide +kernel
theorem d_La_sourceWatermark_14 : decode m_La_sourceWatermark.2.1 14 = .ok (.ireturn, 1) := by decide +kernel
theorem d_La_sourceWatermark_15 : decode m_La_sourceWatermark.2.1 15 = .ok (.iconst 0, 1) := by decide +kernel
theorem d_La_sourceWatermark_16 : decode m_La_sourceWatermark.2.1 16 = .ok (.ireturn, 1) := by decide +kernel
theorem d_La_offset_0 : decode m_La_offset.2.1 0 = .ok (.aload_n 2, 1) := by decide +kernel
theorem d_La_offset_1 : decode m_La_offset.2.1 1 = .ok (.iconst 0, 1) := by decide +kernel
theorem d_La_offset_2 : decode m_La_offset.2.1 2 = .ok (.aload_n 0, 1) := by decide +kernel
theorem d_La_offset_3 : decode m_La_offset.2.1 3 = .ok (.iload_n 1, 1) := by decide +kernel
theorem d_La_offset_4 : decode m_La_offset.2.1 4 = .ok (.invokevirtual 51, 3) := by decide +kernel
theorem d_La_offset_7 : decode m_La_offset.2.1 7 = .ok (.i2l, 1) := by decide +kernel
theorem d_La_offset_8 : decode m_La_offset.2.1 8 = .ok (.lastore, 1) := by decide +kernel
theorem d_La_offset_9 : decode m_La_offset.2.1 9 = .ok (.goto 6, 3) := by decide +kernel
theorem d_La_offset_12 : decode m_La_offset.2.1 12 = .ok (.astore_n 3, 1) := by decide +kernel
theorem d_La_offset_13 : decode m_La_offset.2.1 13 = .ok (.iconst 1, 1) := by decide +kernel
theorem d_La_offset_14 : decode m_La_offset.2.1 14 = .ok (.ireturn, 1) := by decide +kernel
theorem d_La_offset_15 : decode m_La_offset.2.1 15 = .ok (.iconst 0, 1) := by decide +kernel
theorem d_La_offset_16 : decode m_La_offset.2.1 16 = .ok (.ireturn, 1) := by decide +kernel
theorem d_La_inChannel_0 : decode m_La_inChannel.2.1 0 = .ok (.aload_n 2, 1) := by decide +kernel
theorem d_La_inChannel_1 : decode m_La_inChannel.2.1 1 = .ok (.iconst 0, 1) := by decide +kernel
theorem d_La_inChannel_2 : decode m_La_inChannel.2.1 2 = .ok (.aload_n 0, 1) := by decide +kernel
theorem d_La_inChannel_3 : decode m_La_inChannel.2.1 3 = .ok (.iload_n 1, 1) := by decide +kernel
theorem d_La_inChannel_4 : decode m_La_inChannel.2.1 4 = .ok (.invokevirtual 54, 3) := by decide +kernel
theorem d_La_inChannel_7 : decode m_La_inChannel.2.1 7 = .ok (.i2l, 1) := by decide +kernel
theorem d_La_inChannel_8 : decode m_La_inChannel.2.1 8 = .ok (.lastore, 1) := by decide +kernel
theorem d_La_inChannel_9 : decode m_La_inChannel.2.1 9 = .ok (.goto 6, 3) := by decide +kernel
theorem d_La_inChannel_12 : decode m_La_inChannel.2.1 12 = .ok (.astore_n 3, 1) := by decide +kernel
theorem d_La_inChannel_13 : decode m_La_inChannel.2.1 13 = .ok (.iconst 1, 1) := by decide +kernel
theorem d_La_inChannel_14 : decode m_La_inChannel.2.1 14 = .ok (.ireturn, 1) := by decide +kernel
theorem d_La_inChannel_15 : decode m_La_inChannel.2.1 15 = .ok (.iconst 0, 1) := by decide +kernel
theorem d_La_inChannel_16 : decode m_La_inChannel.2.1 16 = .ok (.ireturn, 1) := by decide +kernel
theorem d_La_open_0 : decode m_La_open.2.1 0 = .ok (.aload_n 2, 1) := by decide +kernel
theorem d_La_open_1 : decode m_La_open.2.1 1 = .ok (.iconst 0, 1) := by decide +kernel
theorem d_La_open_2 : decode m_La_open.2.1 2 = .ok (.aload_n 0, 1) := by decide +kernel
theorem d_La_open_3 : decode m_La_open.2.1 3 = .ok (.iload_n 1, 1) := by decide +kernel
theorem d_La_open_4 : decode m_La_open.2.1 4 = .ok (.invokevirtual 57, 3) := by decide +kernel
theorem d_La_open_7 : decode m_La_open.2.1 7 = .ok (.i2l, 1) := by decide +kernel
theorem d_La_open_8 : decode m_La_open.2.1 8 = .ok (.lastore, 1) := by decide +kernel
theorem d_La_open_9 : decode m_La_open.2.1 9 = .ok (.goto 6, 3) := by decide +kernel
theorem d_La_open_12 : decode m_La_open.2.1 12 = .ok (.astore_n 3, 1) := by decide +kernel
theorem d_La_open_13 : decode m_La_open.2.1 13 = .ok (.iconst 1, 1) := by decide +kernel
theorem d_La_open_14 : decode m_La_open.2.1 14 = .ok (.ireturn, 1) := by decide +kernel
theorem d_La_open_15 : decode m_La_open.2.1 15 = .ok (.iconst 0, 1) := by decide +kernel
theorem d_La_open_16 : decode m_La_open.2.1 16 = .ok (.ireturn, 1) := by decide +kernel
theorem d_La_sumAt_0 : decode m_La_sumAt.2.1 0 = .ok (.aload_n 3, 1) := by decide +kernel
theorem d_La_sumAt_1 : decode m_La_sumAt.2.1 1 = .ok (.iconst 0, 1) := by decide +kernel
theorem d_La_sumAt_2 : decode m_La_sumAt.2.1 2 = .ok (.aload_n 0, 1) := by decide +kernel
theorem d_La_sumAt_3 : decode m_La_sumAt.2.1 3 = .ok (.iload_n 1, 1) := by decide +kernel
theorem d_La_sumAt_4 : decode m_La_sumAt.2.1 4 = .ok (.iload_n 2, 1) := by decide +kernel
theorem d_La_sumAt_5 : decode m_La_sumAt.2.1 5 = .ok (.invokevirtual 60, 3) := by decide +kernel
theorem d_La_sumAt_8 : decode m_La_sumAt.2.1 8 = .ok (.i2l, 1) := by decide +kernel
theorem d_La_sumAt_9 : decode m_La_sumAt.2.1 9 = .ok (.lastore, 1) := by decide +kernel
theorem d_La_sumAt_10 : decode m_La_sumAt.2.1 10 = .ok (.goto 11, 3) := by decide +kernel
theorem d_La_sumAt_13 : decode m_La_sumAt.2.1 13 = .ok (.astore 4, 2) := by decide +kernel
theorem d_La_sumAt_15 : decode m_La_sumAt.2.1 15 = .ok (.iconst 1, 1) := by decide +kernel
theorem d_La_sumAt_16 : decode m_La_sumAt.2.1 16 = .ok (.ireturn, 1) := by decide +kernel
theorem d_La_sumAt_17 : decode m_La_sumAt.2.1 17 = .ok (.astore 4, 2) := by decide +kernel
theorem d_La_sumAt_19 : decode m_La_sumAt.2.1 19 = .ok (.iconst 2, 1) := by decide +kernel
theorem d_La_sumAt_20 : decode m_La_sumAt.2.1 20 = .ok (.ireturn, 1) := by decide +kernel
theorem d_La_sumAt_21 : decode m_La_sumAt.2.1 21 = .ok (.iconst 0, 1) := by decide +kernel
theorem d_La_sumAt_22 : decode m_La_sumAt.2.1 22 = .ok (.ireturn, 1) := by decide +kernel
theorem d_La_result_0 : decode m_La_result.2.1 0 = .ok (.aload 4, 2) := by decide +kernel
theorem d_La_result_2 : decode m_La_result.2.1 2 = .ok (.iconst 0, 1) := by decide +kernel
theorem d_La_result_3 : decode m_La_result.2.1 3 = .ok (.aload_n 0, 1) := by decide +kernel
theorem d_La_result_4 : decode m_La_result.2.1 4 = .ok (.iload_n 1, 1) := by decide +kernel
theorem d_La_result_5 : decode m_La_result.2.1 5 = .ok (.iload_n 2, 1) := by decide +kernel
theorem d_La_result_6 : decode m_La_result.2.1 6 = .ok (.iload_n 3, 1) := by decide +kernel
theorem d_La_result_7 : decode m_La_result.2.1 7 = .ok (.invokevirtual 63, 3) := by decide +kernel
theorem d_La_result_10 : decode m_La_result.2.1 10 = .ok (.i2l, 1) := by decide +kernel
theorem d_La_result_11 : decode m_La_result.2.1 11 = .ok (.lastore, 1) := by decide +kernel
theorem d_La_result_12 : decode m_La_result.2.1 12 = .ok (.goto 11, 3) := by decide +kernel
theorem d_La_result_15 : decode m_La_result.2.1 15 = .ok (.astore 5, 2) := by decide +kernel
theorem d_La_result_17 : decode m_La_result.2.1 17 = .ok (.iconst 1, 1) := by decide +kernel
theorem d_La_result_18 : decode m_La_result.2.1 18 = .ok (.ireturn, 1) := by decide +kernel
theorem d_La_result_19 : decode m_La_result.2.1 19 = .ok (.astore 5, 2) := by decide +kernel
theorem d_La_result_21 : decode m_La_result.2.1 21 = .ok (.iconst 2, 1) := by decide +kernel
theorem d_La_result_22 : decode m_La_result.2.1 22 = .ok (.ireturn, 1) := by decide +kernel
theorem d_La_result_23 : decode m_La_result.2.1 23 = .ok (.iconst 0, 1) := by decide +kernel
theorem d_La_result_24 : decode m_La_result.2.1 24 = .ok (.ireturn, 1) := by decide +kernel
theorem d_La_resultAnew_0 : decode m_La_resultAnew.2.1 0 = .ok (.aload 4, 2) := by decide +kernel
theorem d_La_resultAnew_2 : decode m_La_resultAnew.2.1 2 = .ok (.iconst 0, 1) := by decide +kernel
theorem d_La_resultAnew_3 : decode m_La_resultAnew.2.1 3 = .ok (.aload_n 0, 1) := by decide +kernel
theorem d_La_resultAnew_4 : decode m_La_resultAnew.2.1 4 = .ok (.iload_n 1, 1) := by decide +kernel
theorem d_La_resultAnew_5 : decode m_La_resultAnew.2.1 5 = .ok (.iload_n 2, 1) := by decide +kernel
theorem d_La_resultAnew_6 : decode m_La_resultAnew.2.1 6 = .ok (.iload_n 3, 1) := by decide +kernel
theorem d_La_resultAnew_7 : decode m_La_resultAnew.2.1 7 = .ok (.invokevirtual 67, 3) := by decide +kernel
theorem d_La_resultAnew_10 : decode m_La_resultAnew.2.1 10 = .ok (.i2l, 1) := by decide +kernel
theorem d_La_resultAnew_11 : decode m_La_resultAnew.2.1 11 = .ok (.lastore, 1) := by decide +kernel
theorem d_La_resultAnew_12 : decode m_La_resultAnew.2.1 12 = .ok (.goto 11, 3) := by decide +kernel
theorem d_La_resultAnew_15 : decode m_La_resultAnew.2.1 15 = .ok (.astore 5, 2) := by decide +kernel
theorem d_La_resultAnew_17 : decode m_La_resultAnew.2.1 17 = .ok (.iconst 1, 1) := by decide +kernel
theorem d_La_resultAnew_18 : decode m_La_resultAnew.2.1 18 = .ok (.ireturn, 1) := by decide +kernel
theorem d_La_resultAnew_19 : decode m_La_resultAnew.2.1 19 = .ok (.astore 5, 2) := by decide +kernel
theorem d_La_resultAnew_21 : decode m_La_resultAnew.2.1 21 = .ok (.iconst 2, 1) := by decide +kernel
theorem d_La_resultAnew_22 : decode m_La_resultAnew.2.1 22 = .ok (.ireturn, 1) := by decide +kernel
theorem d_La_resultAnew_23 : decode m_La_resultAnew.2.1 23 = .ok (.iconst 0, 1) := by decide +kernel
theorem d_La_resultAnew_24 : decode m_La_resultAnew.2.1 24 = .ok (.ireturn, 1) := by decide +kernel
theorem d_La_law_0 : decode m_La_law.2.1 0 = .ok (.new 8, 3) := by decide +kernel
theorem d_La_law_3 : decode m_La_law.2.1 3 = .ok (.dup, 1) := by decide +kernel
theorem d_La_law_4 : decode m_La_law.2.1 4 = .ok (.invokespecial 70, 3) := by decide +kernel
theorem d_La_law_7 : decode m_La_law.2.1 7 = .ok (.astore_n 1, 1) := by decide +kernel
theorem d_La_law_8 : decode m_La_law.2.1 8 = .ok (.new 71, 3) := by decide +kernel
theorem d_La_law_11 : decode m_La_law.2.1 11 = .ok (.dup, 1) := by decide +kernel
theorem d_La_law_12 : decode m_La_law.2.1 12 = .ok (.invokespecial 73, 3) := by decide +kernel
theorem d_La_law_15 : decode m_La_law.2.1 15 = .ok (.astore_n 2, 1) := by decide +kernel
theorem d_La_law_16 : decode m_La_law.2.1 16 = .ok (.iconst 1, 1) := by decide +kernel
theorem d_La_law_17 : decode m_La_law.2.1 17 = .ok (.newarray .long, 2) := by decide +kernel
theorem d_La_law_19 : decode m_La_law.2.1 19 = .ok (.astore_n 3, 1) := by decide +kernel
theorem d_La_law_20 : decode m_La_law.2.1 20 = .ok (.iconst 0, 1) := by decide +kernel
theorem d_La_law_21 : decode m_La_law.2.1 21 = .ok (.istore 4, 2) := by decide +kernel
theorem d_La_law_23 : decode m_La_law.2.1 23 = .ok (.iload 4, 2) := by decide +kernel
theorem d_La_law_25 : decode m_La_law.2.1 25 = .ok (.aload_n 0, 1) := by decide +kernel
theorem d_La_law_26 : decode m_La_law.2.1 26 = .ok (.arraylength, 1) := by decide +kernel
theorem d_La_law_27 : decode m_La_law.2.1 27 = .ok (.bipush 7, 2) := by decide +kernel
theorem d_La_law_29 : decode m_La_law.2.1 29 = .ok (.isub, 1) := by decide +kernel
theorem d_La_law_30 : decode m_La_law.2.1 30 = .ok (.if_icmp .gt 1271, 3) := by decide +kernel
theorem d_La_law_33 : decode m_La_law.2.1 33 = .ok (.aload_n 0, 1) := by decide +kernel
theorem d_La_law_34 : decode m_La_law.2.1 34 = .ok (.iload 4, 2) := by decide +kernel
theorem d_La_law_36 : decode m_La_law.2.1 36 = .ok (.iaload, 1) := by decide +kernel
theorem d_La_law_37 : decode m_La_law.2.1 37 = .ok (.bipush 31, 2) := by decide +kernel
theorem d_La_law_39 : decode m_La_law.2.1 39 = .ok (.iand, 1) := by decide +kernel
theorem d_La_law_40 : decode m_La_law.2.1 40 = .ok (.tableswitch 1255 0 21 #[104, 218, 286, 378, 434, 525, 581, 625, 669, 682, 738, 751, 807, 863, 919, 975, 1043, 1056, 1069, 1082, 1095, 1175], 104) := by decide +kernel
theorem d_La_law_144 : decode m_La_law.2.1 144 = .ok (.aload_n 1, 1) := by decide +kernel
theorem d_La_law_145 : decode m_La_law.2.1 145 = .ok (.aload_n 0, 1) := by decide +kernel
theorem d_La_law_146 : decode m_La_law.2.1 146 = .ok (.iload 4, 2) := by decide +kernel
theorem d_La_law_148 : decode m_La_law.2.1 148 = .ok (.iconst 1, 1) := by decide +kernel
theorem d_La_law_149 : decode m_La_law.2.1 149 = .ok (.iadd, 1) := by decide +kernel
theorem d_La_law_150 : decode m_La_law.2.1 150 = .ok (.iaload, 1) := by decide +kernel
theorem d_La_law_151 : decode m_La_law.2.1 151 = .ok (.aload_n 0, 1) := by decide +kernel
theorem d_La_law_152 : decode m_La_law.2.1 152 = .ok (.iload 4, 2) := by decide +kernel
theorem d_La_law_154 : decode m_La_law.2.1 154 = .ok (.iconst 2, 1) := by decide +kernel
theorem d_La_law_155 : decode m_La_law.2.1 155 = .ok (.iadd, 1) := by decide +kernel
theorem d_La_law_156 : decode m_La_law.2.1 156 = .ok (.iaload, 1) := by decide +kernel
theorem d_La_law_157 : decode m_La_law.2.1 157 = .ok (.aload_n 0, 1) := by decide +kernel
theorem d_La_law_158 : decode m_La_law.2.1 158 = .ok (.iload 4, 2) := by decide +kernel
theorem d_La_law_160 : decode m_La_law.2.1 160 = .ok (.iconst 3, 1) := by decide +kernel
theorem d_La_law_161 : decode m_La_law.2.1 161 = .ok (.iadd, 1) := by decide +kernel
theorem d_La_law_162 : decode m_La_law.2.1 162 = .ok (.iaload, 1) := by decide +kernel
theorem d_La_law_163 : decode m_La_law.2.1 163 = .ok (.aload_n 0, 1) := by decide +kernel
theorem d_La_law_164 : decode m_La_law.2.1 164 = .ok (.iload 4, 2) := by decide +kernel
theorem d_La_law_166 : decode m_La_law.2.1 166 = .ok (.iconst 4, 1) := by decide +kernel
theorem d_La_law_167 : decode m_La_law.2.1 167 = .ok (.iadd, 1) := by decide +kernel
theorem d_La_law_168 : decode m_La_law.2.1 168 = .ok (.iaload, 1) := by decide +kernel
theorem d_La_law_169 : decode m_La_law.2.1 169 = .ok (.aload_n 0, 1) := by decide +kernel
theorem d_La_law_170 : decode m_La_law.2.1 170 = .ok (.iload 4, 2) := by decide +kernel
theorem d_La_law_172 : decode m_La_law.2.1 172 = .ok (.iconst 5, 1) := by decide +kernel
theorem d_La_law_173 : decode m_La_law.2.1 173 = .ok (.iadd, 1) := by decide +kernel
theorem d_La_law_174 : decode m_La_law.2.1 174 = .ok (.iaload, 1) := by decide +kernel
theorem d_La_law_175 : decode m_La_law.2.1 175 = .ok (.aload_n 0, 1) := by decide +kernel
theorem d_La_law_176 : decode m_La_law.2.1 176 = .ok (.iload 4, 2) := by decide +kernel
theorem d_La_law_178 : decode m_La_law.2.1 178 = .ok (.bipush 6, 2) := by decide +kernel
theorem d_La_law_180 : decode m_La_law.2.1 180 = .ok (.iadd, 1) := by decide +kernel
theorem d_La_law_181 : decode m_La_law.2.1 181 = .ok (.iaload, 1) := by decide +kernel
theorem d_La_law_182 : decode m_La_law.2.1 182 = .ok (.ifCond .eq 7, 3) := by decide +kernel
theorem d_La_law_185 : decode m_La_law.2.1 185 = .ok (.iconst 1, 1) := by decide +kernel
theorem d_La_law_186 : decode m_La_law.2.1 186 = .ok (.goto 4, 3) := by decide +kernel
theorem d_La_law_189 : decode m_La_law.2.1 189 = .ok (.iconst 0, 1) := by decide +kernel
theorem d_La_law_190 : decode m_La_law.2.1 190 = .ok (.invokestatic 74, 3) := by decide +kernel
theorem d_La_law_193 : decode m_La_law.2.1 193 = .ok (.istore 5, 2) := by decide +kernel
theorem d_La_law_195 : decode m_La_law.2.1 195 = .ok (.aload_n 2, 1) := by decide +kernel
theorem d_La_law_196 : decode m_La_law.2.1 196 = .ok (.aload_n 0, 1) := by decide +kernel
theorem d_La_law_197 : decode m_La_law.2.1 197 = .ok (.iload 4, 2) := by decide +kernel
theorem d_La_law_199 : decode m_La_law.2.1 199 = .ok (.iconst 1, 1) := by decide +kernel
theorem d_La_law_200 : decode m_La_law.2.1 200 = .ok (.iadd, 1) := by decide +kernel
theorem d_La_law_201 : decode m_La_law.2.1 201 = .ok (.iaload, 1) := by decide +kernel
theorem d_La_law_202 : decode m_La_law.2.1 202 = .ok (.aload_n 0, 1) := by decide +kernel
theorem d_La_law_203 : decode m_La_law.2.1 203 = .ok (.iload 4, 2) := by decide +kernel
theorem d_La_law_205 : decode m_La_law.2.1 205 = .ok (.iconst 2, 1) := by decide +kernel
theorem d_La_law_206 : decode m_La_law.2.1 206 = .ok (.iadd, 1) := by decide +kernel
theorem d_La_law_207 : decode m_La_law.2.1 207 = .ok (.iaload, 1) := by decide +kernel
theorem d_La_law_208 : decode m_La_law.2.1 208 = .ok (.aload_n 0, 1) := by decide +kernel
theorem d_La_law_209 : decode m_La_law.2.1 209 = .ok (.iload 4, 2) := by decide +kernel
theorem d_La_law_211 : decode m_La_law.2.1 211 = .ok (.iconst 3, 1) := by decide +kernel
theorem d_La_law_212 : decode m_La_law.2.1 212 = .ok (.iadd, 1) := by decide +kernel
theorem d_La_law_213 : decode m_La_law.2.1 213 = .ok (.iaload, 1) := by decide +kernel
theorem d_La_law_214 : decode m_La_law.2.1 214 = .ok (.aload_n 0, 1) := by decide +kernel
theorem d_La_law_215 : decode m_La_law.2.1 215 = .ok (.iload 4, 2) := by decide +kernel
theorem d_La_law_217 : decode m_La_law.2.1 217 = .ok (.iconst 4, 1) := by decide +kernel
theorem d_La_law_218 : decode m_La_law.2.1 218 = .ok (.iadd, 1) := by decide +kernel
theorem d_La_law_219 : decode m_La_law.2.1 219 = .ok (.iaload, 1) := by decide +kernel
theorem d_La_law_220 : decode m_La_law.2.1 220 = .ok (.aload_n 0, 1) := by decide +kernel
theorem d_La_law_221 : decode m_La_law.2.1 221 = .ok (.iload 4, 2) := by decide +kernel
theorem d_La_law_223 : decode m_La_law.2.1 223 = .ok (.iconst 5, 1) := by decide +kernel
theorem d_La_law_224 : decode m_La_law.2.1 224 = .ok (.iadd, 1) := by decide +kernel
theorem d_La_law_225 : decode m_La_law.2.1 225 = .ok (.iaload, 1) := by decide +kernel
theorem d_La_law_226 : decode m_La_law.2.1 226 = .ok (.aload_n 0, 1) := by decide +kernel
theorem d_La_law_227 : decode m_La_law.2.1 227 = .ok (.iload 4, 2) := by decide +kernel
theorem d_La_law_229 : decode m_La_law.2.1 229 = .ok (.bipush 6, 2) := by decide +kernel
theorem d_La_law_231 : decode m_La_law.2.1 231 = .ok (.iadd, 1) := by decide +kernel
theorem d_La_law_232 : decode m_La_law.2.1 232 = .ok (.iaload, 1) := by decide +kernel
theorem d_La_law_233 : decode m_La_law.2.1 233 = .ok (.ifCond .eq 7, 3) := by decide +kernel
theorem d_La_law_236 : decode m_La_law.2.1 236 = .ok (.iconst 1, 1) := by decide +kernel
theorem d_La_law_237 : decode m_La_law.2.1 237 = .ok (.goto 4, 3) := by decide +kernel
theorem d_La_law_240 : decode m_La_law.2.1 240 = .ok (.iconst 0, 1) := by decide +kernel
theorem d_La_law_241 : decode m_La_law.2.1 241 = .ok (.invokevirtual 79, 3) := by decide +kernel
theorem d_La_law_244 : decode m_La_law.2.1 244 = .ok (.aload_n 2, 1) := by decide +kernel
theorem d_La_law_245 : decode m_La_law.2.1 245 = .ok (.invokevirtual 80, 3) := by decide +kernel
theorem d_La_law_248 : decode m_La_law.2.1 248 = .ok (.iload 5, 2) := by decide +kernel
theorem d_La_law_250 : decode m_La_law.2.1 250 = .ok (.if_icmp .eq 5, 3) := by decide +kernel
theorem d_La_law_253 : decode m_La_law.2.1 253 = .ok (.iconst 0, 1) := by decide +kernel
theorem d_La_law_254 : decode m_La_law.2.1 254 = .ok (.ireturn, 1) := by decide +kernel
theorem d_La_law_255 : decode m_La_law.2.1 255 = .ok (.goto 1040, 3) := by decide +kernel
theorem d_La_law_258 : decode m_La_law.2.1 258 = .ok (.aload_n 1, 1) := by decide +kernel
theorem d_La_law_259 : decode m_La_law.2.1 259 = .ok (.aload_n 0, 1) := by decide +kernel
theorem d_La_law_260 : decode m_La_law.2.1 260 = .ok (.iload 4, 2) := by decide +kernel
theorem d_La_law_262 : decode m_La_law.2.1 262 = .ok (.iconst 1, 1) := by decide +kernel
theorem d_La_law_263 : decode m_La_law.2.1 263 = .ok (.iadd, 1) := by decide +kernel
theorem d_La_law_264 : decode m_La_law.2.1 264 = .ok (.iaload, 1) := by decide +kernel
theorem d_La_law_265 : decode m_La_law.2.1 265 = .ok (.aload_n 0, 1) := by decide +kernel
theorem d_La_law_266 : decode m_La_law.2.1 266 = .ok (.iload 4, 2) := by decide +kernel
theorem d_La_law_268 : decode m_La_law.2.1 268 = .ok (.iconst 2, 1) := by decide +kernel
theorem d_La_law_269 : decode m_La_law.2.1 269 = .ok (.iadd, 1) := by decide +kernel
theorem d_La_law_270 : decode m_La_law.2.1 270 = .ok (.iaload, 1) := by decide +kernel
theorem d_La_law_271 : decode m_La_law.2.1 271 = .ok (.aload_n 3, 1) := by decide +kernel
theorem d_La_law_272 : decode m_La_law.2.1 272 = .ok (.invokestatic 83, 3) := by decide +kernel
theorem d_La_law_275 : decode m_La_law.2.1 275 = .ok (.istore 5, 2) := by decide +kernel
theorem d_La_law_277 : decode m_La_law.2.1 277 = .ok (.aload_n 2, 1) := by decide +kernel
theorem d_La_law_278 : decode m_La_law.2.1 278 = .ok (.aload_n 0, 1) := by decide +kernel
theorem d_La_law_279 : decode m_La_law.2.1 279 = .ok (.iload 4, 2) := by decide +kernel
theorem d_La_law_281 : decode m_La_law.2.1 281 = .ok (.iconst 1, 1) := by decide +kernel
theorem d_La_law_282 : decode m_La_law.2.1 282 = .ok (.iadd, 1) := by decide +kernel
theorem d_La_law_283 : decode m_La_law.2.1 283 = .ok (.iaload, 1) := by decide +kernel
theorem d_La_law_284 : decode m_La_law.2.1 284 = .ok (.aload_n 0, 1) := by decide +kernel
theorem d_La_law_285 : decode m_La_law.2.1 285 = .ok (.iload 4, 2) := by decide +kernel
theorem d_La_law_287 : decode m_La_law.2.1 287 = .ok (.iconst 2, 1) := by decide +kernel
theorem d_La_law_288 : decode m_La_law.2.1 288 = .ok (.iadd, 1) := by decide +kernel
theorem d_La_law_289 : decode m_La_law.2.1 289 = .ok (.iaload, 1) := by decide +kernel
theorem d_La_law_290 : decode m_La_law.2.1 290 = .ok (.invokevirtual 86, 3) := by decide +kernel
theorem d_La_law_293 : decode m_La_law.2.1 293 = .ok (.istore 6, 2) := by decide +kernel
theorem d_La_law_295 : decode m_La_law.2.1 295 = .ok (.aload_n 2, 1) := by decide +kernel
theorem d_La_law_296 : decode m_La_law.2.1 296 = .ok (.invokevirtual 80, 3) := by decide +kernel
theorem d_La_law_299 : decode m_La_law.2.1 299 = .ok (.iload 5, 2) := by decide +kernel
theorem d_La_law_301 : decode m_La_law.2.1 301 = .ok (.if_icmp .eq 5, 3) := by decide +kernel
theorem d_La_law_304 : decode m_La_law.2.1 304 = .ok (.iconst 0, 1) := by decide +kernel
theorem d_La_law_305 : decode m_La_law.2.1 305 = .ok (.ireturn, 1) := by decide +kernel
theorem d_La_law_306 : decode m_La_law.2.1 306 = .ok (.iload 5, 2) := by decide +kernel
theorem d_La_law_308 : decode m_La_law.2.1 308 = .ok (.ifCond .ne 15, 3) := by decide +kernel
theorem d_La_law_311 : decode m_La_law.2.1 311 = .ok (.aload_n 3, 1) := by decide +kernel
theorem d_La_law_312 : decode m_La_law.2.1 312 = .ok (.iconst 0, 1) := by decide +kernel
theorem d_La_law_313 : decode m_La_law.2.1 313 = .ok (.laload, 1) := by decide +kernel
theorem d_La_law_314 : decode m_La_law.2.1 314 = .ok (.iload 6, 2) := by decide +kernel
theorem d_La_law_316 : decode m_La_law.2.1 316 = .ok (.i2l, 1) := by decide +kernel
theorem d_La_law_317 : decode m_La_law.2.1 317 = .ok (.lcmp, 1) := by decide +kernel
theorem d_La_law_318 : decode m_La_law.2.1 318 = .ok (.ifCond .eq 5, 3) := by decide +kernel
theorem d_La_law_321 : decode m_La_law.2.1 321 = .ok (.iconst 0, 1) := by decide +kernel
theorem d_La_law_322 : decode m_La_law.2.1 322 = .ok (.ireturn, 1) := by decide +kernel
theorem d_La_law_323 : decode m_La_law.2.1 323 = .ok (.goto 972, 3) := by decide +kernel
theorem d_La_law_326 : decode m_La_law.2.1 326 = .ok (.aload_n 1, 1) := by decide +kernel
theorem d_La_law_327 : decode m_La_law.2.1 327 = .ok (.aload_n 0, 1) := by decide +kernel
theorem d_La_law_328 : decode m_La_law.2.1 328 = .ok (.iload 4, 2) := by decide +kernel
theorem d_La_law_330 : decode m_La_law.2.1 330 = .ok (.iconst 1, 1) := by decide +kernel
theorem d_La_law_331 : decode m_La_law.2.1 331 = .ok (.iadd, 1) := by decide +kernel
theorem d_La_law_332 : decode m_La_law.2.1 332 = .ok (.iaload, 1) := by decide +kernel
theorem d_La_law_333 : decode m_La_law.2.1 333 = .ok (.aload_n 0, 1) := by decide +kernel
theorem d_La_law_334 : decode m_La_law.2.1 334 = .ok (.iload 4, 2) := by decide +kernel
theorem d_La_law_336 : decode m_La_law.2.1 336 = .ok (.iconst 2, 1) := by decide +kernel
theorem d_La_law_337 : decode m_La_law.2.1 337 = .ok (.iadd, 1) := by decide +kernel
theorem d_La_law_338 : decode m_La_law.2.1 338 = .ok (.iaload, 1) := by decide +kernel
theorem d_La_law_339 : decode m_La_law.2.1 339 = .ok (.aload_n 0, 1) := by decide +kernel
theorem d_La_law_340 : decode m_La_law.2.1 340 = .ok (.iload 4, 2) := by decide +kernel
theorem d_La_law_342 : decode m_La_law.2.1 342 = .ok (.iconst 3, 1) := by decide +kernel
theorem d_La_law_343 : decode m_La_law.2.1 343 = .ok (.iadd, 1) := by decide +kernel
theorem d_La_law_344 : decode m_La_law.2.1 344 = .ok (.iaload, 1) := by decide +kernel
theorem d_La_law_345 : decode m_La_law.2.1 345 = .ok (.aload_n 0, 1) := by decide +kernel
theorem d_La_law_346 : decode m_La_law.2.1 346 = .ok (.iload 4, 2) := by decide +kernel
theorem d_La_law_348 : decode m_La_law.2.1 348 = .ok (.iconst 4, 1) := by decide +kernel
theorem d_La_law_349 : decode m_La_law.2.1 349 = .ok (.iadd, 1) := by decide +kernel
theorem d_La_law_350 : decode m_La_law.2.1 350 = .ok (.iaload, 1) := by decide +kernel
theorem d_La_law_351 : decode m_La_law.2.1 351 = .ok (.aload_n 3, 1) := by decide +kernel
theorem d_La_law_352 : decode m_La_law.2.1 352 = .ok (.invokestatic 87, 3) := by decide +kernel
theorem d_La_law_355 : decode m_La_law.2.1 355 = .ok (.istore 5, 2) := by decide +kernel
theorem d_La_law_357 : decode m_La_law.2.1 357 = .ok (.aload_n 2, 1) := by decide +kernel
theorem d_La_law_358 : decode m_La_law.2.1 358 = .ok (.aload_n 0, 1) := by decide +kernel
theorem d_La_law_359 : decode m_La_law.2.1 359 = .ok (.iload 4, 2) := by decide +kernel
theorem d_La_law_361 : decode m_La_law.2.1 361 = .ok (.iconst 1, 1) := by decide +kernel
theorem d_La_law_362 : decode m_La_law.2.1 362 = .ok (.iadd, 1) := by decide +kernel
theorem d_La_law_363 : decode m_La_law.2.1 363 = .ok (.iaload, 1) := by decide +kernel
theorem d_La_law_364 : decode m_La_law.2.1 364 = .ok (.aload_n 0, 1) := by decide +kernel
theorem d_La_law_365 : decode m_La_law.2.1 365 = .ok (.iload 4, 2) := by decide +kernel
theorem d_La_law_367 : decode m_La_law.2.1 367 = .ok (.iconst 2, 1) := by decide +kernel
theorem d_La_law_368 : decode m_La_law.2.1 368 = .ok (.iadd, 1) := by decide +kernel
theorem d_La_law_369 : decode m_La_law.2.1 369 = .ok (.iaload, 1) := by decide +kernel
theorem d_La_law_370 : decode m_La_law.2.1 370 = .ok (.aload_n 0, 1) := by decide +kernel
theorem d_La_law_371 : decode m_La_law.2.1 371 = .ok (.iload 4, 2) := by decide +kernel
theorem d_La_law_373 : decode m_La_law.2.1 373 = .ok (.iconst 3, 1) := by decide +kernel
theorem d_La_law_374 : decode m_La_law.2.1 374 = .ok (.iadd, 1) := by decide +kernel
theorem d_La_law_375 : decode m_La_law.2.1 375 = .ok (.iaload, 1) := by decide +kernel
theorem d_La_law_376 : decode m_La_law.2.1 376 = .ok (.aload_n 0, 1) := by decide +kernel
theorem d_La_law_377 : decode m_La_law.2.1 377 = .ok (.iload 4, 2) := by decide +kernel
theorem d_La_law_379 : decode m_La_law.2.1 379 = .ok (.iconst 4, 1) := by decide +kernel
theorem d_La_law_380 : decode m_La_law.2.1 380 = .ok (.iadd, 1) := by decide +kernel
theorem d_La_law_381 : decode m_La_law.2.1 381 = .ok (.iaload, 1) := by decide +kernel
theorem d_La_law_382 : decode m_La_law.2.1 382 = .ok (.invokevirtual 90, 3) := by decide +kernel
theorem d_La_law_385 : decode m_La_law.2.1 385 = .ok (.istore 6, 2) := by decide +kernel
theorem d_La_law_387 : decode m_La_law.2.1 387 = .ok (.aload_n 2, 1) := by decide +kernel
theorem d_La_law_388 : decode m_La_law.2.1 388 = .ok (.invokevirtual 80, 3) := by decide +kernel
theorem d_La_law_391 : decode m_La_law.2.1 391 = .ok (.iload 5, 2) := by decide +kernel
theorem d_La_law_393 : decode m_La_law.2.1 393 = .ok (.if_icmp .eq 5, 3) := by decide +kernel
theorem d_La_law_396 : decode m_La_law.2.1 396 = .ok (.iconst 0, 1) := by decide +kernel
theorem d_La_law_397 : decode m_La_law.2.1 397 = .ok (.ireturn, 1) := by decide +kernel
theorem d_La_law_398 : decode m_La_law.2.1 398 = .ok (.iload 5, 2) := by decide +kernel
theorem d_La_law_400 : decode m_La_law.2.1 400 = .ok (.ifCond .ne 15, 3) := by decide +kernel
theorem d_La_law_403 : decode m_La_law.2.1 403 = .ok (.aload_n 3, 1) := by decide +kernel
theorem d_La_law_404 : decode m_La_law.2.1 404 = .ok (.iconst 0, 1) := by decide +kernel
theorem d_La_law_405 : decode m_La_law.2.1 405 = .ok (.laload, 1) := by decide +kernel
theorem d_La_law_406 : decode m_La_law.2.1 406 = .ok (.iload 6, 2) := by decide +kernel
theorem d_La_law_408 : decode m_La_law.2.1 408 = .ok (.i2l, 1) := by decide +kernel
theorem d_La_law_409 : decode m_La_law.2.1 409 = .ok (.lcmp, 1) := by decide +kernel
theorem d_La_law_410 : decode m_La_law.2.1 410 = .ok (.ifCond .eq 5, 3) := by decide +kernel
theorem d_La_law_413 : decode m_La_law.2.1 413 = .ok (.iconst 0, 1) := by decide +kernel
theorem d_La_law_414 : decode m_La_law.2.1 414 = .ok (.ireturn, 1) := by decide +kernel
theorem d_La_law_415 : decode m_La_law.2.1 415 = .ok (.goto 880, 3) := by decide +kernel
theorem d_La_law_418 : decode m_La_law.2.1 418 = .ok (.aload_n 1, 1) := by decide +kernel
theorem d_La_law_419 : decode m_La_law.2.1 419 = .ok (.aload_n 0, 1) := by decide +kernel
theorem d_La_law_420 : decode m_La_law.2.1 420 = .ok (.iload 4, 2) := by decide +kernel
theorem d_La_law_422 : decode m_La_law.2.1 422 = .ok (.iconst 1, 1) := by decide +kernel
theorem d_La_law_423 : decode m_La_law.2.1 423 = .ok (.iadd, 1) := by decide +kernel
theorem d_La_law_424 : decode m_La_law.2.1 424 = .ok (.iaload, 1) := by decide +kernel
theorem d_La_law_425 : decode m_La_law.2.1 425 = .ok (.aload_n 3, 1) := by decide +kernel
theorem d_La_law_426 : decode m_La_law.2.1 426 = .ok (.invokestatic 91, 3) := by decide +kernel
theorem d_La_law_429 : decode m_La_law.2.1 429 = .ok (.istore 5, 2) := by decide +kernel
theorem d_La_law_431 : decode m_La_law.2.1 431 = .ok (.aload_n 2, 1) := by decide +kernel
theorem d_La_law_432 : decode m_La_law.2.1 432 = .ok (.aload_n 0, 1) := by decide +kernel
theorem d_La_law_433 : decode m_La_law.2.1 433 = .ok (.iload 4, 2) := by decide +kernel
theorem d_La_law_435 : decode m_La_law.2.1 435 = .ok (.iconst 1, 1) := by decide +kernel
theorem d_La_law_436 : decode m_La_law.2.1 436 = .ok (.iadd, 1) := by decide +kernel
theorem d_La_law_437 : decode m_La_law.2.1 437 = .ok (.iaload, 1) := by decide +kernel
theorem d_La_law_438 : decode m_La_law.2.1 438 = .ok (.invokevirtual 94, 3) := by decide +kernel
theorem d_La_law_441 : decode m_La_law.2.1 441 = .ok (.istore 6, 2) := by decide +kernel
theorem d_La_law_443 : decode m_La_law.2.1 443 = .ok (.aload_n 2, 1) := by decide +kernel
theorem d_La_law_444 : decode m_La_law.2.1 444 = .ok (.invokevirtual 80, 3) := by decide +kernel
theorem d_La_law_447 : decode m_La_law.2.1 447 = .ok (.iload 5, 2) := by decide +kernel
theorem d_La_law_449 : decode m_La_law.2.1 449 = .ok (.if_icmp .eq 5, 3) := by decide +kernel
theorem d_La_law_452 : decode m_La_law.2.1 452 = .ok (.iconst 0, 1) := by decide +kernel
theorem d_La_law_453 : decode m_La_law.2.1 453 = .ok (.ireturn, 1) := by decide +kernel
theorem d_La_law_454 : decode m_La_law.2.1 454 = .ok (.iload 5, 2) := by decide +kernel
theorem d_La_law_456 : decode m_La_law.2.1 456 = .ok (.ifCond .ne 15, 3) := by decide +kernel
theorem d_La_law_459 : decode m_La_law.2.1 459 = .ok (.aload_n 3, 1) := by decide +kernel
theorem d_La_law_460 : decode m_La_law.2.1 460 = .ok (.iconst 0, 1) := by decide +kernel
theorem d_La_law_461 : decode m_La_law.2.1 461 = .ok (.laload, 1) := by decide +kernel
theorem d_La_law_462 : decode m_La_law.2.1 462 = .ok (.iload 6, 2) := by decide +kernel
theorem d_La_law_464 : decode m_La_law.2.1 464 = .ok (.i2l, 1) := by decide +kernel
theorem d_La_law_465 : decode m_La_law.2.1 465 = .ok (.lcmp, 1) := by decide +kernel
theorem d_La_law_466 : decode m_La_law.2.1 466 = .ok (.ifCond .eq 5, 3) := by decide +kernel
theorem d_La_law_469 : decode m_La_law.2.1 469 = .ok (.iconst 0, 1) := by decide +kernel
theorem d_La_law_470 : decode m_La_law.2.1 470 = .ok (.ireturn, 1) := by decide +kernel
theorem d_La_law_471 : decode m_La_law.2.1 471 = .ok (.goto 824, 3) := by decide +kernel
theorem d_La_law_474 : decode m_La_law.2.1 474 = .ok (.aload_n 1, 1) := by decide +kernel
theorem d_La_law_475 : decode m_La_law.2.1 475 = .ok (.aload_n 0, 1) := by decide +kernel
theorem d_La_law_476 : decode m_La_law.2.1 476 = .ok (.iload 4, 2) := by decide +kernel
theorem d_La_law_478 : decode m_La_law.2.1 478 = .ok (.iconst 1, 1) := by decide +kernel
theorem d_La_law_479 : decode m_La_law.2.1 479 = .ok (.iadd, 1) := by decide +kernel
theorem d_La_law_480 : decode m_La_law.2.1 480 = .ok (.iaload, 1) := by decide +kernel
theorem d_La_law_481 : decode m_La_law.2.1 481 = .ok (.aload_n 0, 1) := by decide +kernel
theorem d_La_law_482 : decode m_La_law.2.1 482 = .ok (.iload 4, 2) := by decide +kernel
theorem d_La_law_484 : decode m_La_law.2.1 484 = .ok (.iconst 2, 1) := by decide +kernel
theorem d_La_law_485 : decode m_La_law.2.1 485 = .ok (.iadd, 1) := by decide +kernel
theorem d_La_law_486 : decode m_La_law.2.1 486 = .ok (.iaload, 1) := by decide +kernel
theorem d_La_law_487 : decode m_La_law.2.1 487 = .ok (.ifCond .eq 7, 3) := by decide +kernel
theorem d_La_law_490 : decode m_La_law.2.1 490 = .ok (.iconst 1, 1) := by decide +kernel
theorem d_La_law_491 : decode m_La_law.2.1 491 = .ok (.goto 4, 3) := by decide +kernel
theorem d_La_law_494 : decode m_La_law.2.1 494 = .ok (.iconst 0, 1) := by decide +kernel
theorem d_La_law_495 : decode m_La_law.2.1 495 = .ok (.aload_n 3, 1) := by decide +kernel
theorem d_La_law_496 : decode m_La_law.2.1 496 = .ok (.invokestatic 95, 3) := by decide +kernel
theorem d_La_law_499 : decode m_La_law.2.1 499 = .ok (.istore 5, 2) := by decide +kernel
theorem d_La_law_501 : decode m_La_law.2.1 501 = .ok (.aload_n 2, 1) := by decide +kernel
theorem d_La_law_502 : decode m_La_law.2.1 502 = .ok (.aload_n 0, 1) := by decide +kernel
theorem d_La_law_503 : decode m_La_law.2.1 503 = .ok (.iload 4, 2) := by decide +kernel
theorem d_La_law_505 : decode m_La_law.2.1 505 = .ok (.iconst 1, 1) := by decide +kernel
theorem d_La_law_506 : decode m_La_law.2.1 506 = .ok (.iadd, 1) := by decide +kernel
theorem d_La_law_507 : decode m_La_law.2.1 507 = .ok (.iaload, 1) := by decide +kernel
theorem d_La_law_508 : decode m_La_law.2.1 508 = .ok (.aload_n 0, 1) := by decide +kernel
theorem d_La_law_509 : decode m_La_law.2.1 509 = .ok (.iload 4, 2) := by decide +kernel
theorem d_La_law_511 : decode m_La_law.2.1 511 = .ok (.iconst 2, 1) := by decide +kernel
theorem d_La_law_512 : decode m_La_law.2.1 512 = .ok (.iadd, 1) := by decide +kernel
theorem d_La_law_513 : decode m_La_law.2.1 513 = .ok (.iaload, 1) := by decide +kernel
theorem d_La_law_514 : decode m_La_law.2.1 514 = .ok (.ifCond .eq 7, 3) := by decide +kernel
theorem d_La_law_517 : decode m_La_law.2.1 517 = .ok (.iconst 1, 1) := by decide +kernel
theorem d_La_law_518 : decode m_La_law.2.1 518 = .ok (.goto 4, 3) := by decide +kernel
theorem d_La_law_521 : decode m_La_law.2.1 521 = .ok (.iconst 0, 1) := by decide +kernel
theorem d_La_law_522 : decode m_La_law.2.1 522 = .ok (.invokevirtual 98, 3) := by decide +kernel
theorem d_La_law_525 : decode m_La_law.2.1 525 = .ok (.istore 6, 2) := by decide +kernel
theorem d_La_law_527 : decode m_La_law.2.1 527 = .ok (.aload_n 2, 1) := by decide +kernel
theorem d_La_law_528 : decode m_La_law.2.1 528 = .ok (.invokevirtual 80, 3) := by decide +kernel
theorem d_La_law_531 : decode m_La_law.2.1 531 = .ok (.iload 5, 2) := by decide +kernel
theorem d_La_law_533 : decode m_La_law.2.1 533 = .ok (.if_icmp .eq 5, 3) := by decide +kernel
theorem d_La_law_536 : decode m_La_law.2.1 536 = .ok (.iconst 0, 1) := by decide +kernel
theorem d_La_law_537 : decode m_La_law.2.1 537 = .ok (.ireturn, 1) := by decide +kernel
theorem d_La_law_538 : decode m_La_law.2.1 538 = .ok (.iload 5, 2) := by decide +kernel
theorem d_La_law_540 : decode m_La_law.2.1 540 = .ok (.ifCond .ne 22, 3) := by decide +kernel
theorem d_La_law_543 : decode m_La_law.2.1 543 = .ok (.aload_n 3, 1) := by decide +kernel
theorem d_La_law_544 : decode m_La_law.2.1 544 = .ok (.iconst 0, 1) := by decide +kernel
theorem d_La_law_545 : decode m_La_law.2.1 545 = .ok (.laload, 1) := by decide +kernel
theorem d_La_law_546 : decode m_La_law.2.1 546 = .ok (.iload 6, 2) := by decide +kernel
theorem d_La_law_548 : decode m_La_law.2.1 548 = .ok (.ifCond .eq 7, 3) := by decide +kernel
theorem d_La_law_551 : decode m_La_law.2.1 551 = .ok (.lconst 1, 1) := by decide +kernel
theorem d_La_law_552 : decode m_La_law.2.1 552 = .ok (.goto 4, 3) := by decide +kernel
theorem d_La_law_555 : decode m_La_law.2.1 555 = .ok (.lconst 0, 1) := by decide +kernel
theorem d_La_law_556 : decode m_La_law.2.1 556 = .ok (.lcmp, 1) := by decide +kernel
theorem d_La_law_557 : decode m_La_law.2.1 557 = .ok (.ifCond .eq 5, 3) := by decide +kernel
theorem d_La_law_560 : decode m_La_law.2.1 560 = .ok (.iconst 0, 1) := by decide +kernel
theorem d_La_law_561 : decode m_La_law.2.1 561 = .ok (.ireturn, 1) := by decide +kernel
theorem d_La_law_562 : decode m_La_law.2.1 562 = .ok (.goto 733, 3) := by decide +kernel
theorem d_La_law_565 : decode m_La_law.2.1 565 = .ok (.aload_n 1, 1) := by decide +kernel
theorem d_La_law_566 : decode m_La_law.2.1 566 = .ok (.aload_n 0, 1) := by decide +kernel
theorem d_La_law_567 : decode m_La_law.2.1 567 = .ok (.iload 4, 2) := by decide +kernel
theorem d_La_law_569 : decode m_La_law.2.1 569 = .ok (.iconst 1, 1) := by decide +kernel
theorem d_La_law_570 : decode m_La_law.2.1 570 = .ok (.iadd, 1) := by decide +kernel
theorem d_La_law_571 : decode m_La_law.2.1 571 = .ok (.iaload, 1) := by decide +kernel
theorem d_La_law_572 : decode m_La_law.2.1 572 = .ok (.aload_n 3, 1) := by decide +kernel
theorem d_La_law_573 : decode m_La_law.2.1 573 = .ok (.invokestatic 99, 3) := by decide +kernel
theorem d_La_law_576 : decode m_La_law.2.1 576 = .ok (.istore 5, 2) := by decide +kernel
theorem d_La_law_578 : decode m_La_law.2.1 578 = .ok (.aload_n 2, 1) := by decide +kernel
theorem d_La_law_579 : decode m_La_law.2.1 579 = .ok (.aload_n 0, 1) := by decide +kernel
theorem d_La_law_580 : decode m_La_law.2.1 580 = .ok (.iload 4, 2) := by decide +kernel
theorem d_La_law_582 : decode m_La_law.2.1 582 = .ok (.iconst 1, 1) := by decide +kernel
theorem d_La_law_583 : decode m_La_law.2.1 583 = .ok (.iadd, 1) := by decide +kernel
theorem d_La_law_584 : decode m_La_law.2.1 584 = .ok (.iaload, 1) := by decide +kernel
theorem d_La_law_585 : decode m_La_law.2.1 585 = .ok (.invokevirtual 101, 3) := by decide +kernel
theorem d_La_law_588 : decode m_La_law.2.1 588 = .ok (.istore 6, 2) := by decide +kernel
theorem d_La_law_590 : decode m_La_law.2.1 590 = .ok (.aload_n 2, 1) := by decide +kernel
theorem d_La_law_591 : decode m_La_law.2.1 591 = .ok (.invokevirtual 80, 3) := by decide +kernel
theorem d_La_law_594 : decode m_La_law.2.1 594 = .ok (.iload 5, 2) := by decide +kernel
theorem d_La_law_596 : decode m_La_law.2.1 596 = .ok (.if_icmp .eq 5, 3) := by decide +kernel
theorem d_La_law_599 : decode m_La_law.2.1 599 = .ok (.iconst 0, 1) := by decide +kernel
theorem d_La_law_600 : decode m_La_law.2.1 600 = .ok (.ireturn, 1) := by decide +kernel
theorem d_La_law_601 : decode m_La_law.2.1 601 = .ok (.iload 5, 2) := by decide +kernel
theorem d_La_law_603 : decode m_La_law.2.1 603 = .ok (.ifCond .ne 15, 3) := by decide +kernel
theorem d_La_law_606 : decode m_La_law.2.1 606 = .ok (.aload_n 3, 1) := by decide +kernel
theorem d_La_law_607 : decode m_La_law.2.1 607 = .ok (.iconst 0, 1) := by decide +kernel
theorem d_La_law_608 : decode m_La_law.2.1 608 = .ok (.laload, 1) := by decide +kernel
theorem d_La_law_609 : decode m_La_law.2.1 609 = .ok (.iload 6, 2) := by decide +kernel
theorem d_La_law_611 : decode m_La_law.2.1 611 = .ok (.i2l, 1) := by decide +kernel
theorem d_La_law_612 : decode m_La_law.2.1 612 = .ok (.lcmp, 1) := by decide +kernel
theorem d_La_law_613 : decode m_La_law.2.1 613 = .ok (.ifCond .eq 5, 3) := by decide +kernel
theorem d_La_law_616 : decode m_La_law.2.1 616 = .ok (.iconst 0, 1) := by decide +kernel
theorem d_La_law_617 : decode m_La_law.2.1 617 = .ok (.ireturn, 1) := by decide +kernel
theorem d_La_law_618 : decode m_La_law.2.1 618 = .ok (.goto 677, 3) := by decide +kernel
theorem d_La_law_621 : decode m_La_law.2.1 621 = .ok (.aload_n 1, 1) := by decide +kernel
theorem d_La_law_622 : decode m_La_law.2.1 622 = .ok (.aload_n 3, 1) := by decide +kernel
theorem d_La_law_623 : decode m_La_law.2.1 623 = .ok (.invokestatic 102, 3) := by decide +kernel
theorem d_La_law_626 : decode m_La_law.2.1 626 = .ok (.istore 5, 2) := by decide +kernel
theorem d_La_law_628 : decode m_La_law.2.1 628 = .ok (.aload_n 2, 1) := by decide +kernel
theorem d_La_law_629 : decode m_La_law.2.1 629 = .ok (.invokevirtual 105, 3) := by decide +kernel
theorem d_La_law_632 : decode m_La_law.2.1 632 = .ok (.istore 6, 2) := by decide +kernel
theorem d_La_law_634 : decode m_La_law.2.1 634 = .ok (.aload_n 2, 1) := by decide +kernel
theorem d_La_law_635 : decode m_La_law.2.1 635 = .ok (.invokevirtual 80, 3) := by decide +kernel
theorem d_La_law_638 : decode m_La_law.2.1 638 = .ok (.iload 5, 2) := by decide +kernel
theorem d_La_law_640 : decode m_La_law.2.1 640 = .ok (.if_icmp .eq 5, 3) := by decide +kernel
theorem d_La_law_643 : decode m_La_law.2.1 643 = .ok (.iconst 0, 1) := by decide +kernel
theorem d_La_law_644 : decode m_La_law.2.1 644 = .ok (.ireturn, 1) := by decide +kernel
theorem d_La_law_645 : decode m_La_law.2.1 645 = .ok (.iload 5, 2) := by decide +kernel
theorem d_La_law_647 : decode m_La_law.2.1 647 = .ok (.ifCond .ne 15, 3) := by decide +kernel
theorem d_La_law_650 : decode m_La_law.2.1 650 = .ok (.aload_n 3, 1) := by decide +kernel
theorem d_La_law_651 : decode m_La_law.2.1 651 = .ok (.iconst 0, 1) := by decide +kernel
theorem d_La_law_652 : decode m_La_law.2.1 652 = .ok (.laload, 1) := by decide +kernel
theorem d_La_law_653 : decode m_La_law.2.1 653 = .ok (.iload 6, 2) := by decide +kernel
theorem d_La_law_655 : decode m_La_law.2.1 655 = .ok (.i2l, 1) := by decide +kernel
theorem d_La_law_656 : decode m_La_law.2.1 656 = .ok (.lcmp, 1) := by decide +kernel
theorem d_La_law_657 : decode m_La_law.2.1 657 = .ok (.ifCond .eq 5, 3) := by decide +kernel
theorem d_La_law_660 : decode m_La_law.2.1 660 = .ok (.iconst 0, 1) := by decide +kernel
theorem d_La_law_661 : decode m_La_law.2.1 661 = .ok (.ireturn, 1) := by decide +kernel
theorem d_La_law_662 : decode m_La_law.2.1 662 = .ok (.goto 633, 3) := by decide +kernel
theorem d_La_law_665 : decode m_La_law.2.1 665 = .ok (.aload_n 1, 1) := by decide +kernel
theorem d_La_law_666 : decode m_La_law.2.1 666 = .ok (.aload_n 3, 1) := by decide +kernel
theorem d_La_law_667 : decode m_La_law.2.1 667 = .ok (.invokestatic 106, 3) := by decide +kernel
theorem d_La_law_670 : decode m_La_law.2.1 670 = .ok (.istore 5, 2) := by decide +kernel
theorem d_La_law_672 : decode m_La_law.2.1 672 = .ok (.aload_n 2, 1) := by decide +kernel
theorem d_La_law_673 : decode m_La_law.2.1 673 = .ok (.invokevirtual 108, 3) := by decide +kernel
theorem d_La_law_676 : decode m_La_law.2.1 676 = .ok (.istore 6, 2) := by decide +kernel
theorem d_La_law_678 : decode m_La_law.2.1 678 = .ok (.aload_n 2, 1) := by decide +kernel
theorem d_La_law_679 : decode m_La_law.2.1 679 = .ok (.invokevirtual 80, 3) := by decide +kernel
theorem d_La_law_682 : decode m_La_law.2.1 682 = .ok (.iload 5, 2) := by decide +kernel
theorem d_La_law_684 : decode m_La_law.2.1 684 = .ok (.if_icmp .eq 5, 3) := by decide +kernel
theorem d_La_law_687 : decode m_La_law.2.1 687 = .ok (.iconst 0, 1) := by decide +kernel
theorem d_La_law_688 : decode m_La_law.2.1 688 = .ok (.ireturn, 1) := by decide +kernel
theorem d_La_law_689 : decode m_La_law.2.1 689 = .ok (.iload 5, 2) := by decide +kernel
theorem d_La_law_691 : decode m_La_law.2.1 691 = .ok (.ifCond .ne 15, 3) := by decide +kernel
theorem d_La_law_694 : decode m_La_law.2.1 694 = .ok (.aload_n 3, 1) := by decide +kernel
theorem d_La_law_695 : decode m_La_law.2.1 695 = .ok (.iconst 0, 1) := by decide +kernel
theorem d_La_law_696 : decode m_La_law.2.1 696 = .ok (.laload, 1) := by decide +kernel
theorem d_La_law_697 : decode m_La_law.2.1 697 = .ok (.iload 6, 2) := by decide +kernel
theorem d_La_law_699 : decode m_La_law.2.1 699 = .ok (.i2l, 1) := by decide +kernel
theorem d_La_law_700 : decode m_La_law.2.1 700 = .ok (.lcmp, 1) := by decide +kernel
theorem d_La_law_701 : decode m_La_law.2.1 701 = .ok (.ifCond .eq 5, 3) := by decide +kernel
theorem d_La_law_704 : decode m_La_law.2.1 704 = .ok (.iconst 0, 1) := by decide +kernel
theorem d_La_law_705 : decode m_La_law.2.1 705 = .ok (.ireturn, 1) := by decide +kernel
theorem d_La_law_706 : decode m_La_law.2.1 706 = .ok (.goto 589, 3) := by decide +kernel
theorem d_La_law_709 : decode m_La_law.2.1 709 = .ok (.aload_n 1, 1) := by decide +kernel
theorem d_La_law_710 : decode m_La_law.2.1 710 = .ok (.invokevirtual 109, 3) := by decide +kernel
theorem d_La_law_713 : decode m_La_law.2.1 713 = .ok (.aload_n 2, 1) := by decide +kernel
theorem d_La_law_714 : decode m_La_law.2.1 714 = .ok (.invokevirtual 112, 3) := by decide +kernel
theorem d_La_law_717 : decode m_La_law.2.1 717 = .ok (.if_icmp .eq 578, 3) := by decide +kernel
theorem d_La_law_720 : decode m_La_law.2.1 720 = .ok (.iconst 0, 1) := by decide +kernel
theorem d_La_law_721 : decode m_La_law.2.1 721 = .ok (.ireturn, 1) := by decide +kernel
theorem d_La_law_722 : decode m_La_law.2.1 722 = .ok (.aload_n 1, 1) := by decide +kernel
theorem d_La_law_723 : decode m_La_law.2.1 723 = .ok (.aload_n 0, 1) := by decide +kernel
theorem d_La_law_724 : decode m_La_law.2.1 724 = .ok (.iload 4, 2) := by decide +kernel
theorem d_La_law_726 : decode m_La_law.2.1 726 = .ok (.iconst 1, 1) := by decide +kernel
theorem d_La_law_727 : decode m_La_law.2.1 727 = .ok (.iadd, 1) := by decide +kernel
theorem d_La_law_728 : decode m_La_law.2.1 728 = .ok (.iaload, 1) := by decide +kernel
theorem d_La_law_729 : decode m_La_law.2.1 729 = .ok (.aload_n 3, 1) := by decide +kernel
theorem d_La_law_730 : decode m_La_law.2.1 730 = .ok (.invokestatic 113, 3) := by decide +kernel
theorem d_La_law_733 : decode m_La_law.2.1 733 = .ok (.istore 5, 2) := by decide +kernel
theorem d_La_law_735 : decode m_La_law.2.1 735 = .ok (.aload_n 2, 1) := by decide +kernel
theorem d_La_law_736 : decode m_La_law.2.1 736 = .ok (.aload_n 0, 1) := by decide +kernel
theorem d_La_law_737 : decode m_La_law.2.1 737 = .ok (.iload 4, 2) := by decide +kernel
theorem d_La_law_739 : decode m_La_law.2.1 739 = .ok (.iconst 1, 1) := by decide +kernel
theorem d_La_law_740 : decode m_La_law.2.1 740 = .ok (.iadd, 1) := by decide +kernel
theorem d_La_law_741 : decode m_La_law.2.1 741 = .ok (.iaload, 1) := by decide +kernel
theorem d_La_law_742 : decode m_La_law.2.1 742 = .ok (.invokevirtual 115, 3) := by decide +kernel
theorem d_La_law_745 : decode m_La_law.2.1 745 = .ok (.istore 6, 2) := by decide +kernel
theorem d_La_law_747 : decode m_La_law.2.1 747 = .ok (.aload_n 2, 1) := by decide +kernel
theorem d_La_law_748 : decode m_La_law.2.1 748 = .ok (.invokevirtual 80, 3) := by decide +kernel
theorem d_La_law_751 : decode m_La_law.2.1 751 = .ok (.iload 5, 2) := by decide +kernel
theorem d_La_law_753 : decode m_La_law.2.1 753 = .ok (.if_icmp .eq 5, 3) := by decide +kernel
theorem d_La_law_756 : decode m_La_law.2.1 756 = .ok (.iconst 0, 1) := by decide +kernel
theorem d_La_law_757 : decode m_La_law.2.1 757 = .ok (.ireturn, 1) := by decide +kernel
theorem d_La_law_758 : decode m_La_law.2.1 758 = .ok (.iload 5, 2) := by decide +kernel
theorem d_La_law_760 : decode m_La_law.2.1 760 = .ok (.ifCond .ne 15, 3) := by decide +kernel
theorem d_La_law_763 : decode m_La_law.2.1 763 = .ok (.aload_n 3, 1) := by decide +kernel
theorem d_La_law_764 : decode m_La_law.2.1 764 = .ok (.iconst 0, 1) := by decide +kernel
theorem d_La_law_765 : decode m_La_law.2.1 765 = .ok (.laload, 1) := by decide +kernel
theorem d_La_law_766 : decode m_La_law.2.1 766 = .ok (.iload 6, 2) := by decide +kernel
theorem d_La_law_768 : decode m_La_law.2.1 768 = .ok (.i2l, 1) := by decide +kernel
theorem d_La_law_769 : decode m_La_law.2.1 769 = .ok (.lcmp, 1) := by decide +kernel
theorem d_La_law_770 : decode m_La_law.2.1 770 = .ok (.ifCond .eq 5, 3) := by decide +kernel
theorem d_La_law_773 : decode m_La_law.2.1 773 = .ok (.iconst 0, 1) := by decide +kernel
theorem d_La_law_774 : decode m_La_law.2.1 774 = .ok (.ireturn, 1) := by decide +kernel
theorem d_La_law_775 : decode m_La_law.2.1 775 = .ok (.goto 520, 3) := by decide +kernel
theorem d_La_law_778 : decode m_La_law.2.1 778 = .ok (.aload_n 1, 1) := by decide +kernel
theorem d_La_law_779 : decode m_La_law.2.1 779 = .ok (.invokevirtual 116, 3) := by decide +kernel
theorem d_La_law_782 : decode m_La_law.2.1 782 = .ok (.aload_n 2, 1) := by decide +kernel
theorem d_La_law_783 : decode m_La_law.2.1 783 = .ok (.invokevirtual 119, 3) := by decide +kernel
theorem d_La_law_786 : decode m_La_law.2.1 786 = .ok (.if_icmp .eq 509, 3) := by decide +kernel
theorem d_La_law_789 : decode m_La_law.2.1 789 = .ok (.iconst 0, 1) := by decide +kernel
theorem d_La_law_790 : decode m_La_law.2.1 790 = .ok (.ireturn, 1) := by decide +kernel
theorem d_La_law_791 : decode m_La_law.2.1 791 = .ok (.aload_n 1, 1) := by decide +kernel
theorem d_La_law_792 : decode m_La_law.2.1 792 = .ok (.aload_n 0, 1) := by decide +kernel
theorem d_La_law_793 : decode m_La_law.2.1 793 = .ok (.iload 4, 2) := by decide +kernel
theorem d_La_law_795 : decode m_La_law.2.1 795 = .ok (.iconst 1, 1) := by decide +kernel
theorem d_La_law_796 : decode m_La_law.2.1 796 = .ok (.iadd, 1) := by decide +kernel
theorem d_La_law_797 : decode m_La_law.2.1 797 = .ok (.iaload, 1) := by decide +kernel
theorem d_La_law_798 : decode m_La_law.2.1 798 = .ok (.aload_n 3, 1) := by decide +kernel
theorem d_La_law_799 : decode m_La_law.2.1 799 = .ok (.invokestatic 120, 3) := by decide +kernel
theorem d_La_law_802 : decode m_La_law.2.1 802 = .ok (.istore 5, 2) := by decide +kernel
theorem d_La_law_804 : decode m_La_law.2.1 804 = .ok (.aload_n 2, 1) := by decide +kernel
theorem d_La_law_805 : decode m_La_law.2.1 805 = .ok (.aload_n 0, 1) := by decide +kernel
theorem d_La_law_806 : decode m_La_law.2.1 806 = .ok (.iload 4, 2) := by decide +kernel
theorem d_La_law_808 : decode m_La_law.2.1 808 = .ok (.iconst 1, 1) := by decide +kernel
theorem d_La_law_809 : decode m_La_law.2.1 809 = .ok (.iadd, 1) := by decide +kernel
theorem d_La_law_810 : decode m_La_law.2.1 810 = .ok (.iaload, 1) := by decide +kernel
theorem d_La_law_811 : decode m_La_law.2.1 811 = .ok (.invokevirtual 122, 3) := by decide +kernel
theorem d_La_law_814 : decode m_La_law.2.1 814 = .ok (.istore 6, 2) := by decide +kernel
theorem d_La_law_816 : decode m_La_law.2.1 816 = .ok (.aload_n 2, 1) := by decide +kernel
theorem d_La_law_817 : decode m_La_law.2.1 817 = .ok (.invokevirtual 80, 3) := by decide +kernel
theorem d_La_law_820 : decode m_La_law.2.1 820 = .ok (.iload 5, 2) := by decide +kernel
theorem d_La_law_822 : decode m_La_law.2.1 822 = .ok (.if_icmp .eq 5, 3) := by decide +kernel
theorem d_La_law_825 : decode m_La_law.2.1 825 = .ok (.iconst 0, 1) := by decide +kernel
theorem d_La_law_826 : decode m_La_law.2.1 826 = .ok (.ireturn, 1) := by decide +kernel
theorem d_La_law_827 : decode m_La_law.2.1 827 = .ok (.iload 5, 2) := by decide +kernel
theorem d_La_law_829 : decode m_La_law.2.1 829 = .ok (.ifCond .ne 15, 3) := by decide +kernel
theorem d_La_law_832 : decode m_La_law.2.1 832 = .ok (.aload_n 3, 1) := by decide +kernel
theorem d_La_law_833 : decode m_La_law.2.1 833 = .ok (.iconst 0, 1) := by decide +kernel
theorem d_La_law_834 : decode m_La_law.2.1 834 = .ok (.laload, 1) := by decide +kernel
theorem d_La_law_835 : decode m_La_law.2.1 835 = .ok (.iload 6, 2) := by decide +kernel
theorem d_La_law_837 : decode m_La_law.2.1 837 = .ok (.i2l, 1) := by decide +kernel
theorem d_La_law_838 : decode m_La_law.2.1 838 = .ok (.lcmp, 1) := by decide +kernel
theorem d_La_law_839 : decode m_La_law.2.1 839 = .ok (.ifCond .eq 5, 3) := by decide +kernel
theorem d_La_law_842 : decode m_La_law.2.1 842 = .ok (.iconst 0, 1) := by decide +kernel
theorem d_La_law_843 : decode m_La_law.2.1 843 = .ok (.ireturn, 1) := by decide +kernel
theorem d_La_law_844 : decode m_La_law.2.1 844 = .ok (.goto 451, 3) := by decide +kernel
theorem d_La_law_847 : decode m_La_law.2.1 847 = .ok (.aload_n 1, 1) := by decide +kernel
theorem d_La_law_848 : decode m_La_law.2.1 848 = .ok (.aload_n 0, 1) := by decide +kernel
theorem d_La_law_849 : decode m_La_law.2.1 849 = .ok (.iload 4, 2) := by decide +kernel
theorem d_La_law_851 : decode m_La_law.2.1 851 = .ok (.iconst 1, 1) := by decide +kernel
theorem d_La_law_852 : decode m_La_law.2.1 852 = .ok (.iadd, 1) := by decide +kernel
theorem d_La_law_853 : decode m_La_law.2.1 853 = .ok (.iaload, 1) := by decide +kernel
theorem d_La_law_854 : decode m_La_law.2.1 854 = .ok (.aload_n 3, 1) := by decide +kernel
theorem d_La_law_855 : decode m_La_law.2.1 855 = .ok (.invokestatic 123, 3) := by decide +kernel
theorem d_La_law_858 : decode m_La_law.2.1 858 = .ok (.istore 5, 2) := by decide +kernel
theorem d_La_law_860 : decode m_La_law.2.1 860 = .ok (.aload_n 2, 1) := by decide +kernel
theorem d_La_law_861 : decode m_La_law.2.1 861 = .ok (.aload_n 0, 1) := by decide +kernel
theorem d_La_law_862 : decode m_La_law.2.1 862 = .ok (.iload 4, 2) := by decide +kernel
theorem d_La_law_864 : decode m_La_law.2.1 864 = .ok (.iconst 1, 1) := by decide +kernel
theorem d_La_law_865 : decode m_La_law.2.1 865 = .ok (.iadd, 1) := by decide +kernel
theorem d_La_law_866 : decode m_La_law.2.1 866 = .ok (.iaload, 1) := by decide +kernel
theorem d_La_law_867 : decode m_La_law.2.1 867 = .ok (.invokevirtual 125, 3) := by decide +kernel
theorem d_La_law_870 : decode m_La_law.2.1 870 = .ok (.istore 6, 2) := by decide +kernel
theorem d_La_law_872 : decode m_La_law.2.1 872 = .ok (.aload_n 2, 1) := by decide +kernel
theorem d_La_law_873 : decode m_La_law.2.1 873 = .ok (.invokevirtual 80, 3) := by decide +kernel
theorem d_La_law_876 : decode m_La_law.2.1 876 = .ok (.iload 5, 2) := by decide +kernel
theorem d_La_law_878 : decode m_La_law.2.1 878 = .ok (.if_icmp .eq 5, 3) := by decide +kernel
theorem d_La_law_881 : decode m_La_law.2.1 881 = .ok (.iconst 0, 1) := by decide +kernel
theorem d_La_law_882 : decode m_La_law.2.1 882 = .ok (.ireturn, 1) := by decide +kernel
theorem d_La_law_883 : decode m_La_law.2.1 883 = .ok (.iload 5, 2) := by decide +kernel
theorem d_La_law_885 : decode m_La_law.2.1 885 = .ok (.ifCond .ne 15, 3) := by decide +kernel
theorem d_La_law_888 : decode m_La_law.2.1 888 = .ok (.aload_n 3, 1) := by decide +kernel
theorem d_La_law_889 : decode m_La_law.2.1 889 = .ok (.iconst 0, 1) := by decide +kernel
theorem d_La_law_890 : decode m_La_law.2.1 890 = .ok (.laload, 1) := by decide +kernel
theorem d_La_law_891 : decode m_La_law.2.1 891 = .ok (.iload 6, 2) := by decide +kernel
theorem d_La_law_893 : decode m_La_law.2.1 893 = .ok (.i2l, 1) := by decide +kernel
theorem d_La_law_894 : decode m_La_law.2.1 894 = .ok (.lcmp, 1) := by decide +kernel
theorem d_La_law_895 : decode m_La_law.2.1 895 = .ok (.ifCond .eq 5, 3) := by decide +kernel
theorem d_La_law_898 : decode m_La_law.2.1 898 = .ok (.iconst 0, 1) := by decide +kernel
theorem d_La_law_899 : decode m_La_law.2.1 899 = .ok (.ireturn, 1) := by decide +kernel
theorem d_La_law_900 : decode m_La_law.2.1 900 = .ok (.goto 395, 3) := by decide +kernel
theorem d_La_law_903 : decode m_La_law.2.1 903 = .ok (.aload_n 1, 1) := by decide +kernel
theorem d_La_law_904 : decode m_La_law.2.1 904 = .ok (.aload_n 0, 1) := by decide +kernel
theorem d_La_law_905 : decode m_La_law.2.1 905 = .ok (.iload 4, 2) := by decide +kernel
theorem d_La_law_907 : decode m_La_law.2.1 907 = .ok (.iconst 1, 1) := by decide +kernel
theorem d_La_law_908 : decode m_La_law.2.1 908 = .ok (.iadd, 1) := by decide +kernel
theorem d_La_law_909 : decode m_La_law.2.1 909 = .ok (.iaload, 1) := by decide +kernel
theorem d_La_law_910 : decode m_La_law.2.1 910 = .ok (.aload_n 3, 1) := by decide +kernel
theorem d_La_law_911 : decode m_La_law.2.1 911 = .ok (.invokestatic 126, 3) := by decide +kernel
theorem d_La_law_914 : decode m_La_law.2.1 914 = .ok (.istore 5, 2) := by decide +kernel
theorem d_La_law_916 : decode m_La_law.2.1 916 = .ok (.aload_n 2, 1) := by decide +kernel
theorem d_La_law_917 : decode m_La_law.2.1 917 = .ok (.aload_n 0, 1) := by decide +kernel
theorem d_La_law_918 : decode m_La_law.2.1 918 = .ok (.iload 4, 2) := by decide +kernel
theorem d_La_law_920 : decode m_La_law.2.1 920 = .ok (.iconst 1, 1) := by decide +kernel
theorem d_La_law_921 : decode m_La_law.2.1 921 = .ok (.iadd, 1) := by decide +kernel
theorem d_La_law_922 : decode m_La_law.2.1 922 = .ok (.iaload, 1) := by decide +kernel
theorem d_La_law_923 : decode m_La_law.2.1 923 = .ok (.invokevirtual 128, 3) := by decide +kernel
theorem d_La_law_926 : decode m_La_law.2.1 926 = .ok (.istore 6, 2) := by decide +kernel
theorem d_La_law_928 : decode m_La_law.2.1 928 = .ok (.aload_n 2, 1) := by decide +kernel
theorem d_La_law_929 : decode m_La_law.2.1 929 = .ok (.invokevirtual 80, 3) := by decide +kernel
theorem d_La_law_932 : decode m_La_law.2.1 932 = .ok (.iload 5, 2) := by decide +kernel
theorem d_La_law_934 : decode m_La_law.2.1 934 = .ok (.if_icmp .eq 5, 3) := by decide +kernel
theorem d_La_law_937 : decode m_La_law.2.1 937 = .ok (.iconst 0, 1) := by decide +kernel
theorem d_La_law_938 : decode m_La_law.2.1 938 = .ok (.ireturn, 1) := by decide +kernel
theorem d_La_law_939 : decode m_La_law.2.1 939 = .ok (.iload 5, 2) := by decide +kernel
theorem d_La_law_941 : decode m_La_law.2.1 941 = .ok (.ifCond .ne 15, 3) := by decide +kernel
theorem d_La_law_944 : decode m_La_law.2.1 944 = .ok (.aload_n 3, 1) := by decide +kernel
theorem d_La_law_945 : decode m_La_law.2.1 945 = .ok (.iconst 0, 1) := by decide +kernel
theorem d_La_law_946 : decode m_La_law.2.1 946 = .ok (.laload, 1) := by decide +kernel
theorem d_La_law_947 : decode m_La_law.2.1 947 = .ok (.iload 6, 2) := by decide +kernel
theorem d_La_law_949 : decode m_La_law.2.1 949 = .ok (.i2l, 1) := by decide +kernel
theorem d_La_law_950 : decode m_La_law.2.1 950 = .ok (.lcmp, 1) := by decide +kernel
theorem d_La_law_951 : decode m_La_law.2.1 951 = .ok (.ifCond .eq 5, 3) := by decide +kernel
theorem d_La_law_954 : decode m_La_law.2.1 954 = .ok (.iconst 0, 1) := by decide +kernel
theorem d_La_law_955 : decode m_La_law.2.1 955 = .ok (.ireturn, 1) := by decide +kernel
theorem d_La_law_956 : decode m_La_law.2.1 956 = .ok (.goto 339, 3) := by decide +kernel
theorem d_La_law_959 : decode m_La_law.2.1 959 = .ok (.aload_n 1, 1) := by decide +kernel
theorem d_La_law_960 : decode m_La_law.2.1 960 = .ok (.aload_n 0, 1) := by decide +kernel
theorem d_La_law_961 : decode m_La_law.2.1 961 = .ok (.iload 4, 2) := by decide +kernel
theorem d_La_law_963 : decode m_La_law.2.1 963 = .ok (.iconst 1, 1) := by decide +kernel
theorem d_La_law_964 : decode m_La_law.2.1 964 = .ok (.iadd, 1) := by decide +kernel
theorem d_La_law_965 : decode m_La_law.2.1 965 = .ok (.iaload, 1) := by decide +kernel
theorem d_La_law_966 : decode m_La_law.2.1 966 = .ok (.aload_n 3, 1) := by decide +kernel
theorem d_La_law_967 : decode m_La_law.2.1 967 = .ok (.invokestatic 129, 3) := by decide +kernel
theorem d_La_law_970 : decode m_La_law.2.1 970 = .ok (.istore 5, 2) := by decide +kernel
theorem d_La_law_972 : decode m_La_law.2.1 972 = .ok (.aload_n 2, 1) := by decide +kernel
theorem d_La_law_973 : decode m_La_law.2.1 973 = .ok (.aload_n 0, 1) := by decide +kernel
theorem d_La_law_974 : decode m_La_law.2.1 974 = .ok (.iload 4, 2) := by decide +kernel
theorem d_La_law_976 : decode m_La_law.2.1 976 = .ok (.iconst 1, 1) := by decide +kernel
theorem d_La_law_977 : decode m_La_law.2.1 977 = .ok (.iadd, 1) := by decide +kernel
theorem d_La_law_978 : decode m_La_law.2.1 978 = .ok (.iaload, 1) := by decide +kernel
theorem d_La_law_979 : decode m_La_law.2.1 979 = .ok (.invokevirtual 131, 3) := by decide +kernel
theorem d_La_law_982 : decode m_La_law.2.1 982 = .ok (.istore 6, 2) := by decide +kernel
theorem d_La_law_984 : decode m_La_law.2.1 984 = .ok (.aload_n 2, 1) := by decide +kernel
theorem d_La_law_985 : decode m_La_law.2.1 985 = .ok (.invokevirtual 80, 3) := by decide +kernel
theorem d_La_law_988 : decode m_La_law.2.1 988 = .ok (.iload 5, 2) := by decide +kernel
theorem d_La_law_990 : decode m_La_law.2.1 990 = .ok (.if_icmp .eq 5, 3) := by decide +kernel
theorem d_La_law_993 : decode m_La_law.2.1 993 = .ok (.iconst 0, 1) := by decide +kernel
theorem d_La_law_994 : decode m_La_law.2.1 994 = .ok (.ireturn, 1) := by decide +kernel
theorem d_La_law_995 : decode m_La_law.2.1 995 = .ok (.iload 5, 2) := by decide +kernel
theorem d_La_law_997 : decode m_La_law.2.1 997 = .ok (.ifCond .ne 15, 3) := by decide +kernel
theorem d_La_law_1000 : decode m_La_law.2.1 1000 = .ok (.aload_n 3, 1) := by decide +kernel
theorem d_La_law_1001 : decode m_La_law.2.1 1001 = .ok (.iconst 0, 1) := by decide +kernel
theorem d_La_law_1002 : decode m_La_law.2.1 1002 = .ok (.laload, 1) := by decide +kernel
theorem d_La_law_1003 : decode m_La_law.2.1 1003 = .ok (.iload 6, 2) := by decide +kernel
theorem d_La_law_1005 : decode m_La_law.2.1 1005 = .ok (.i2l, 1) := by decide +kernel
theorem d_La_law_1006 : decode m_La_law.2.1 1006 = .ok (.lcmp, 1) := by decide +kernel
theorem d_La_law_1007 : decode m_La_law.2.1 1007 = .ok (.ifCond .eq 5, 3) := by decide +kernel
theorem d_La_law_1010 : decode m_La_law.2.1 1010 = .ok (.iconst 0, 1) := by decide +kernel
theorem d_La_law_1011 : decode m_La_law.2.1 1011 = .ok (.ireturn, 1) := by decide +kernel
theorem d_La_law_1012 : decode m_La_law.2.1 1012 = .ok (.goto 283, 3) := by decide +kernel
theorem d_La_law_1015 : decode m_La_law.2.1 1015 = .ok (.aload_n 1, 1) := by decide +kernel
theorem d_La_law_1016 : decode m_La_law.2.1 1016 = .ok (.aload_n 0, 1) := by decide +kernel
theorem d_La_law_1017 : decode m_La_law.2.1 1017 = .ok (.iload 4, 2) := by decide +kernel
theorem d_La_law_1019 : decode m_La_law.2.1 1019 = .ok (.iconst 1, 1) := by decide +kernel
theorem d_La_law_1020 : decode m_La_law.2.1 1020 = .ok (.iadd, 1) := by decide +kernel
theorem d_La_law_1021 : decode m_La_law.2.1 1021 = .ok (.iaload, 1) := by decide +kernel
theorem d_La_law_1022 : decode m_La_law.2.1 1022 = .ok (.aload_n 0, 1) := by decide +kernel
theorem d_La_law_1023 : decode m_La_law.2.1 1023 = .ok (.iload 4, 2) := by decide +kernel
theorem d_La_law_1025 : decode m_La_law.2.1 1025 = .ok (.iconst 2, 1) := by decide +kernel
theorem d_La_law_1026 : decode m_La_law.2.1 1026 = .ok (.iadd, 1) := by decide +kernel
theorem d_La_law_1027 : decode m_La_law.2.1 1027 = .ok (.iaload, 1) := by decide +kernel
theorem d_La_law_1028 : decode m_La_law.2.1 1028 = .ok (.aload_n 3, 1) := by decide +kernel
theorem d_La_law_1029 : decode m_La_law.2.1 1029 = .ok (.invokestatic 132, 3) := by decide +kernel
theorem d_La_law_1032 : decode m_La_law.2.1 1032 = .ok (.istore 5, 2) := by decide +kernel
theorem d_La_law_1034 : decode m_La_law.2.1 1034 = .ok (.aload_n 2, 1) := by decide +kernel
theorem d_La_law_1035 : decode m_La_law.2.1 1035 = .ok (.aload_n 0, 1) := by decide +kernel
theorem d_La_law_1036 : decode m_La_law.2.1 1036 = .ok (.iload 4, 2) := by decide +kernel
theorem d_La_law_1038 : decode m_La_law.2.1 1038 = .ok (.iconst 1, 1) := by decide +kernel
theorem d_La_law_1039 : decode m_La_law.2.1 1039 = .ok (.iadd, 1) := by decide +kernel
theorem d_La_law_1040 : decode m_La_law.2.1 1040 = .ok (.iaload, 1) := by decide +kernel
theorem d_La_law_1041 : decode m_La_law.2.1 1041 = .ok (.aload_n 0, 1) := by decide +kernel
theorem d_La_law_1042 : decode m_La_law.2.1 1042 = .ok (.iload 4, 2) := by decide +kernel
theorem d_La_law_1044 : decode m_La_law.2.1 1044 = .ok (.iconst 2, 1) := by decide +kernel
theorem d_La_law_1045 : decode m_La_law.2.1 1045 = .ok (.iadd, 1) := by decide +kernel
theorem d_La_law_1046 : decode m_La_law.2.1 1046 = .ok (.iaload, 1) := by decide +kernel
theorem d_La_law_1047 : decode m_La_law.2.1 1047 = .ok (.invokevirtual 134, 3) := by decide +kernel
theorem d_La_law_1050 : decode m_La_law.2.1 1050 = .ok (.istore 6, 2) := by decide +kernel
theorem d_La_law_1052 : decode m_La_law.2.1 1052 = .ok (.aload_n 2, 1) := by decide +kernel
theorem d_La_law_1053 : decode m_La_law.2.1 1053 = .ok (.invokevirtual 80, 3) := by decide +kernel
theorem d_La_law_1056 : decode m_La_law.2.1 1056 = .ok (.iload 5, 2) := by decide +kernel
theorem d_La_law_1058 : decode m_La_law.2.1 1058 = .ok (.if_icmp .eq 5, 3) := by decide +kernel
theorem d_La_law_1061 : decode m_La_law.2.1 1061 = .ok (.iconst 0, 1) := by decide +kernel
theorem d_La_law_1062 : decode m_La_law.2.1 1062 = .ok (.ireturn, 1) := by decide +kernel
theorem d_La_law_1063 : decode m_La_law.2.1 1063 = .ok (.iload 5, 2) := by decide +kernel
theorem d_La_law_1065 : decode m_La_law.2.1 1065 = .ok (.ifCond .ne 15, 3) := by decide +kernel
theorem d_La_law_1068 : decode m_La_law.2.1 1068 = .ok (.aload_n 3, 1) := by decide +kernel
theorem d_La_law_1069 : decode m_La_law.2.1 1069 = .ok (.iconst 0, 1) := by decide +kernel
theorem d_La_law_1070 : decode m_La_law.2.1 1070 = .ok (.laload, 1) := by decide +kernel
theorem d_La_law_1071 : decode m_La_law.2.1 1071 = .ok (.iload 6, 2) := by decide +kernel
theorem d_La_law_1073 : decode m_La_law.2.1 1073 = .ok (.i2l, 1) := by decide +kernel
theorem d_La_law_1074 : decode m_La_law.2.1 1074 = .ok (.lcmp, 1) := by decide +kernel
theorem d_La_law_1075 : decode m_La_law.2.1 1075 = .ok (.ifCond .eq 5, 3) := by decide +kernel
theorem d_La_law_1078 : decode m_La_law.2.1 1078 = .ok (.iconst 0, 1) := by decide +kernel
theorem d_La_law_1079 : decode m_La_law.2.1 1079 = .ok (.ireturn, 1) := by decide +kernel
theorem d_La_law_1080 : decode m_La_law.2.1 1080 = .ok (.goto 215, 3) := by decide +kernel
theorem d_La_law_1083 : decode m_La_law.2.1 1083 = .ok (.aload_n 1, 1) := by decide +kernel
theorem d_La_law_1084 : decode m_La_law.2.1 1084 = .ok (.invokevirtual 135, 3) := by decide +kernel
theorem d_La_law_1087 : decode m_La_law.2.1 1087 = .ok (.aload_n 2, 1) := by decide +kernel
theorem d_La_law_1088 : decode m_La_law.2.1 1088 = .ok (.invokevirtual 138, 3) := by decide +kernel
theorem d_La_law_1091 : decode m_La_law.2.1 1091 = .ok (.if_icmp .eq 204, 3) := by decide +kernel
theorem d_La_law_1094 : decode m_La_law.2.1 1094 = .ok (.iconst 0, 1) := by decide +kernel
theorem d_La_law_1095 : decode m_La_law.2.1 1095 = .ok (.ireturn, 1) := by decide +kernel
theorem d_La_law_1096 : decode m_La_law.2.1 1096 = .ok (.aload_n 1, 1) := by decide +kernel
theorem d_La_law_1097 : decode m_La_law.2.1 1097 = .ok (.invokevirtual 139, 3) := by decide +kernel
theorem d_La_law_1100 : decode m_La_law.2.1 1100 = .ok (.aload_n 2, 1) := by decide +kernel
theorem d_La_law_1101 : decode m_La_law.2.1 1101 = .ok (.invokevirtual 142, 3) := by decide +kernel
theorem d_La_law_1104 : decode m_La_law.2.1 1104 = .ok (.if_icmp .eq 191, 3) := by decide +kernel
theorem d_La_law_1107 : decode m_La_law.2.1 1107 = .ok (.iconst 0, 1) := by decide +kernel
theorem d_La_law_1108 : decode m_La_law.2.1 1108 = .ok (.ireturn, 1) := by decide +kernel
theorem d_La_law_1109 : decode m_La_law.2.1 1109 = .ok (.aload_n 1, 1) := by decide +kernel
theorem d_La_law_1110 : decode m_La_law.2.1 1110 = .ok (.invokevirtual 143, 3) := by decide +kernel
theorem d_La_law_1113 : decode m_La_law.2.1 1113 = .ok (.aload_n 2, 1) := by decide +kernel
theorem d_La_law_1114 : decode m_La_law.2.1 1114 = .ok (.invokevirtual 146, 3) := by decide +kernel
theorem d_La_law_1117 : decode m_La_law.2.1 1117 = .ok (.if_icmp .eq 178, 3) := by decide +kernel
theorem d_La_law_1120 : decode m_La_law.2.1 1120 = .ok (.iconst 0, 1) := by decide +kernel
theorem d_La_law_1121 : decode m_La_law.2.1 1121 = .ok (.ireturn, 1) := by decide +kernel
theorem d_La_law_1122 : decode m_La_law.2.1 1122 = .ok (.aload_n 1, 1) := by decide +kernel
theorem d_La_law_1123 : decode m_La_law.2.1 1123 = .ok (.invokevirtual 147, 3) := by decide +kernel
theorem d_La_law_1126 : decode m_La_law.2.1 1126 = .ok (.aload_n 2, 1) := by decide +kernel
theorem d_La_law_1127 : decode m_La_law.2.1 1127 = .ok (.invokevirtual 150, 3) := by decide +kernel
theorem d_La_law_1130 : decode m_La_law.2.1 1130 = .ok (.if_icmp .eq 165, 3) := by decide +kernel
theorem d_La_law_1133 : decode m_La_law.2.1 1133 = .ok (.iconst 0, 1) := by decide +kernel
theorem d_La_law_1134 : decode m_La_law.2.1 1134 = .ok (.ireturn, 1) := by decide +kernel
theorem d_La_law_1135 : decode m_La_law.2.1 1135 = .ok (.aload_n 1, 1) := by decide +kernel
theorem d_La_law_1136 : decode m_La_law.2.1 1136 = .ok (.aload_n 0, 1) := by decide +kernel
theorem d_La_law_1137 : decode m_La_law.2.1 1137 = .ok (.iload 4, 2) := by decide +kernel
theorem d_La_law_1139 : decode m_La_law.2.1 1139 = .ok (.iconst 1, 1) := by decide +kernel
theorem d_La_law_1140 : decode m_La_law.2.1 1140 = .ok (.iadd, 1) := by decide +kernel
theorem d_La_law_1141 : decode m_La_law.2.1 1141 = .ok (.iaload, 1) := by decide +kernel
theorem d_La_law_1142 : decode m_La_law.2.1 1142 = .ok (.aload_n 0, 1) := by decide +kernel
theorem d_La_law_1143 : decode m_La_law.2.1 1143 = .ok (.iload 4, 2) := by decide +kernel
theorem d_La_law_1145 : decode m_La_law.2.1 1145 = .ok (.iconst 2, 1) := by decide +kernel
theorem d_La_law_1146 : decode m_La_law.2.1 1146 = .ok (.iadd, 1) := by decide +kernel
theorem d_La_law_1147 : decode m_La_law.2.1 1147 = .ok (.iaload, 1) := by decide +kernel
theorem d_La_law_1148 : decode m_La_law.2.1 1148 = .ok (.aload_n 0, 1) := by decide +kernel
theorem d_La_law_1149 : decode m_La_law.2.1 1149 = .ok (.iload 4, 2) := by decide +kernel
theorem d_La_law_1151 : decode m_La_law.2.1 1151 = .ok (.iconst 3, 1) := by decide +kernel
theorem d_La_law_1152 : decode m_La_law.2.1 1152 = .ok (.iadd, 1) := by decide +kernel
theorem d_La_law_1153 : decode m_La_law.2.1 1153 = .ok (.iaload, 1) := by decide +kernel
theorem d_La_law_1154 : decode m_La_law.2.1 1154 = .ok (.aload_n 3, 1) := by decide +kernel
theorem d_La_law_1155 : decode m_La_law.2.1 1155 = .ok (.invokestatic 151, 3) := by decide +kernel
theorem d_La_law_1158 : decode m_La_law.2.1 1158 = .ok (.istore 5, 2) := by decide +kernel
theorem d_La_law_1160 : decode m_La_law.2.1 1160 = .ok (.aload_n 2, 1) := by decide +kernel
theorem d_La_law_1161 : decode m_La_law.2.1 1161 = .ok (.aload_n 0, 1) := by decide +kernel
theorem d_La_law_1162 : decode m_La_law.2.1 1162 = .ok (.iload 4, 2) := by decide +kernel
theorem d_La_law_1164 : decode m_La_law.2.1 1164 = .ok (.iconst 1, 1) := by decide +kernel
theorem d_La_law_1165 : decode m_La_law.2.1 1165 = .ok (.iadd, 1) := by decide +kernel
theorem d_La_law_1166 : decode m_La_law.2.1 1166 = .ok (.iaload, 1) := by decide +kernel
theorem d_La_law_1167 : decode m_La_law.2.1 1167 = .ok (.aload_n 0, 1) := by decide +kernel
theorem d_La_law_1168 : decode m_La_law.2.1 1168 = .ok (.iload 4, 2) := by decide +kernel
theorem d_La_law_1170 : decode m_La_law.2.1 1170 = .ok (.iconst 2, 1) := by decide +kernel
theorem d_La_law_1171 : decode m_La_law.2.1 1171 = .ok (.iadd, 1) := by decide +kernel
theorem d_La_law_1172 : decode m_La_law.2.1 1172 = .ok (.iaload, 1) := by decide +kernel
theorem d_La_law_1173 : decode m_La_law.2.1 1173 = .ok (.aload_n 0, 1) := by decide +kernel
theorem d_La_law_1174 : decode m_La_law.2.1 1174 = .ok (.iload 4, 2) := by decide +kernel
theorem d_La_law_1176 : decode m_La_law.2.1 1176 = .ok (.iconst 3, 1) := by decide +kernel
theorem d_La_law_1177 : decode m_La_law.2.1 1177 = .ok (.iadd, 1) := by decide +kernel
theorem d_La_law_1178 : decode m_La_law.2.1 1178 = .ok (.iaload, 1) := by decide +kernel
theorem d_La_law_1179 : decode m_La_law.2.1 1179 = .ok (.invokevirtual 154, 3) := by decide +kernel
theorem d_La_law_1182 : decode m_La_law.2.1 1182 = .ok (.istore 6, 2) := by decide +kernel
theorem d_La_law_1184 : decode m_La_law.2.1 1184 = .ok (.aload_n 2, 1) := by decide +kernel
theorem d_La_law_1185 : decode m_La_law.2.1 1185 = .ok (.invokevirtual 80, 3) := by decide +kernel
theorem d_La_law_1188 : decode m_La_law.2.1 1188 = .ok (.iload 5, 2) := by decide +kernel
theorem d_La_law_1190 : decode m_La_law.2.1 1190 = .ok (.if_icmp .eq 5, 3) := by decide +kernel
theorem d_La_law_1193 : decode m_La_law.2.1 1193 = .ok (.iconst 0, 1) := by decide +kernel
theorem d_La_law_1194 : decode m_La_law.2.1 1194 = .ok (.ireturn, 1) := by decide +kernel
theorem d_La_law_1195 : decode m_La_law.2.1 1195 = .ok (.iload 5, 2) := by decide +kernel
theorem d_La_law_1197 : decode m_La_law.2.1 1197 = .ok (.ifCond .ne 15, 3) := by decide +kernel
theorem d_La_law_1200 : decode m_La_law.2.1 1200 = .ok (.aload_n 3, 1) := by decide +kernel
theorem d_La_law_1201 : decode m_La_law.2.1 1201 = .ok (.iconst 0, 1) := by decide +kernel
theorem d_La_law_1202 : decode m_La_law.2.1 1202 = .ok (.laload, 1) := by decide +kernel
theorem d_La_law_1203 : decode m_La_law.2.1 1203 = .ok (.iload 6, 2) := by decide +kernel
theorem d_La_law_1205 : decode m_La_law.2.1 1205 = .ok (.i2l, 1) := by decide +kernel
theorem d_La_law_1206 : decode m_La_law.2.1 1206 = .ok (.lcmp, 1) := by decide +kernel
theorem d_La_law_1207 : decode m_La_law.2.1 1207 = .ok (.ifCond .eq 5, 3) := by decide +kernel
theorem d_La_law_1210 : decode m_La_law.2.1 1210 = .ok (.iconst 0, 1) := by decide +kernel
theorem d_La_law_1211 : decode m_La_law.2.1 1211 = .ok (.ireturn, 1) := by decide +kernel
theorem d_La_law_1212 : decode m_La_law.2.1 1212 = .ok (.goto 83, 3) := by decide +kernel
theorem d_La_law_1215 : decode m_La_law.2.1 1215 = .ok (.aload_n 1, 1) := by decide +kernel
theorem d_La_law_1216 : decode m_La_law.2.1 1216 = .ok (.aload_n 0, 1) := by decide +kernel
theorem d_La_law_1217 : decode m_La_law.2.1 1217 = .ok (.iload 4, 2) := by decide +kernel
theorem d_La_law_1219 : decode m_La_law.2.1 1219 = .ok (.iconst 1, 1) := by decide +kernel
theorem d_La_law_1220 : decode m_La_law.2.1 1220 = .ok (.iadd, 1) := by decide +kernel
theorem d_La_law_1221 : decode m_La_law.2.1 1221 = .ok (.iaload, 1) := by decide +kernel
theorem d_La_law_1222 : decode m_La_law.2.1 1222 = .ok (.aload_n 0, 1) := by decide +kernel
theorem d_La_law_1223 : decode m_La_law.2.1 1223 = .ok (.iload 4, 2) := by decide +kernel
theorem d_La_law_1225 : decode m_La_law.2.1 1225 = .ok (.iconst 2, 1) := by decide +kernel
theorem d_La_law_1226 : decode m_La_law.2.1 1226 = .ok (.iadd, 1) := by decide +kernel
theorem d_La_law_1227 : decode m_La_law.2.1 1227 = .ok (.iaload, 1) := by decide +kernel
theorem d_La_law_1228 : decode m_La_law.2.1 1228 = .ok (.aload_n 0, 1) := by decide +kernel
theorem d_La_law_1229 : decode m_La_law.2.1 1229 = .ok (.iload 4, 2) := by decide +kernel
theorem d_La_law_1231 : decode m_La_law.2.1 1231 = .ok (.iconst 3, 1) := by decide +kernel
theorem d_La_law_1232 : decode m_La_law.2.1 1232 = .ok (.iadd, 1) := by decide +kernel
theorem d_La_law_1233 : decode m_La_law.2.1 1233 = .ok (.iaload, 1) := by decide +kernel
theorem d_La_law_1234 : decode m_La_law.2.1 1234 = .ok (.aload_n 3, 1) := by decide +kernel
theorem d_La_law_1235 : decode m_La_law.2.1 1235 = .ok (.invokestatic 155, 3) := by decide +kernel
theorem d_La_law_1238 : decode m_La_law.2.1 1238 = .ok (.istore 5, 2) := by decide +kernel
theorem d_La_law_1240 : decode m_La_law.2.1 1240 = .ok (.aload_n 2, 1) := by decide +kernel
theorem d_La_law_1241 : decode m_La_law.2.1 1241 = .ok (.aload_n 0, 1) := by decide +kernel
theorem d_La_law_1242 : decode m_La_law.2.1 1242 = .ok (.iload 4, 2) := by decide +kernel
theorem d_La_law_1244 : decode m_La_law.2.1 1244 = .ok (.iconst 1, 1) := by decide +kernel
theorem d_La_law_1245 : decode m_La_law.2.1 1245 = .ok (.iadd, 1) := by decide +kernel
theorem d_La_law_1246 : decode m_La_law.2.1 1246 = .ok (.iaload, 1) := by decide +kernel
theorem d_La_law_1247 : decode m_La_law.2.1 1247 = .ok (.aload_n 0, 1) := by decide +kernel
theorem d_La_law_1248 : decode m_La_law.2.1 1248 = .ok (.iload 4, 2) := by decide +kernel
theorem d_La_law_1250 : decode m_La_law.2.1 1250 = .ok (.iconst 2, 1) := by decide +kernel
theorem d_La_law_1251 : decode m_La_law.2.1 1251 = .ok (.iadd, 1) := by decide +kernel
theorem d_La_law_1252 : decode m_La_law.2.1 1252 = .ok (.iaload, 1) := by decide +kernel
theorem d_La_law_1253 : decode m_La_law.2.1 1253 = .ok (.aload_n 0, 1) := by decide +kernel
theorem d_La_law_1254 : decode m_La_law.2.1 1254 = .ok (.iload 4, 2) := by decide +kernel
theorem d_La_law_1256 : decode m_La_law.2.1 1256 = .ok (.iconst 3, 1) := by decide +kernel
theorem d_La_law_1257 : decode m_La_law.2.1 1257 = .ok (.iadd, 1) := by decide +kernel
theorem d_La_law_1258 : decode m_La_law.2.1 1258 = .ok (.iaload, 1) := by decide +kernel
theorem d_La_law_1259 : decode m_La_law.2.1 1259 = .ok (.invokevirtual 157, 3) := by decide +kernel
theorem d_La_law_1262 : decode m_La_law.2.1 1262 = .ok (.istore 6, 2) := by decide +kernel
theorem d_La_law_1264 : decode m_La_law.2.1 1264 = .ok (.aload_n 2, 1) := by decide +kernel
theorem d_La_law_1265 : decode m_La_law.2.1 1265 = .ok (.invokevirtual 80, 3) := by decide +kernel
theorem d_La_law_1268 : decode m_La_law.2.1 1268 = .ok (.iload 5, 2) := by decide +kernel
theorem d_La_law_1270 : decode m_La_law.2.1 1270 = .ok (.if_icmp .eq 5, 3) := by decide +kernel
theorem d_La_law_1273 : decode m_La_law.2.1 1273 = .ok (.iconst 0, 1) := by decide +kernel
theorem d_La_law_1274 : decode m_La_law.2.1 1274 = .ok (.ireturn, 1) := by decide +kernel
theorem d_La_law_1275 : decode m_La_law.2.1 1275 = .ok (.iload 5, 2) := by decide +kernel
theorem d_La_law_1277 : decode m_La_law.2.1 1277 = .ok (.ifCond .ne 15, 3) := by decide +kernel
theorem d_La_law_1280 : decode m_La_law.2.1 1280 = .ok (.aload_n 3, 1) := by decide +kernel
theorem d_La_law_1281 : decode m_La_law.2.1 1281 = .ok (.iconst 0, 1) := by decide +kernel
theorem d_La_law_1282 : decode m_La_law.2.1 1282 = .ok (.laload, 1) := by decide +kernel
theorem d_La_law_1283 : decode m_La_law.2.1 1283 = .ok (.iload 6, 2) := by decide +kernel
theorem d_La_law_1285 : decode m_La_law.2.1 1285 = .ok (.i2l, 1) := by decide +kernel
theorem d_La_law_1286 : decode m_La_law.2.1 1286 = .ok (.lcmp, 1) := by decide +kernel
theorem d_La_law_1287 : decode m_La_law.2.1 1287 = .ok (.ifCond .eq 5, 3) := by decide +kernel
theorem d_La_law_1290 : decode m_La_law.2.1 1290 = .ok (.iconst 0, 1) := by decide +kernel
theorem d_La_law_1291 : decode m_La_law.2.1 1291 = .ok (.ireturn, 1) := by decide +kernel
theorem d_La_law_1292 : decode m_La_law.2.1 1292 = .ok (.goto 3, 3) := by decide +kernel
theorem d_La_law_1295 : decode m_La_law.2.1 1295 = .ok (.iinc 4 7, 3) := by decide +kernel
theorem d_La_law_1298 : decode m_La_law.2.1 1298 = .ok (.goto (-1275), 3) := by decide +kernel
theorem d_La_law_1301 : decode m_La_law.2.1 1301 = .ok (.iconst 1, 1) := by decide +kernel
theorem d_La_law_1302 : decode m_La_law.2.1 1302 = .ok (.ireturn, 1) := by decide +kernel
