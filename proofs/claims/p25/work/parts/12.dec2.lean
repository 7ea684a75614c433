/-! decode rows, printed by wip/gen/evid.py -/
theorem d_St_barrier_25 : decode m_St_barrier.2.1 25 = .ok (.aload_n 0, 1) := by decide +kernel
theorem d_St_barrier_26 : decode m_St_barrier.2.1 26 = .ok (.getfield 50, 3) := by decide +kernel
theorem d_St_barrier_29 : decode m_St_barrier.2.1 29 = .ok (.aload_n 0, 1) := by decide +kernel
theorem d_St_barrier_30 : decode m_St_barrier.2.1 30 = .ok (.getfield 26, 3) := by decide +kernel
theorem d_St_barrier_33 : decode m_St_barrier.2.1 33 = .ok (.getfield 143, 3) := by decide +kernel
theorem d_St_barrier_36 : decode m_St_barrier.2.1 36 = .ok (.aload_n 0, 1) := by decide +kernel
theorem d_St_barrier_37 : decode m_St_barrier.2.1 37 = .ok (.getfield 10, 3) := by decide +kernel
theorem d_St_barrier_40 : decode m_St_barrier.2.1 40 = .ok (.getfield 103, 3) := by decide +kernel
theorem d_St_barrier_43 : decode m_St_barrier.2.1 43 = .ok (.invokevirtual 190, 3) := by decide +kernel
theorem d_St_barrier_46 : decode m_St_barrier.2.1 46 = .ok (.aload_n 0, 1) := by decide +kernel
theorem d_St_barrier_47 : decode m_St_barrier.2.1 47 = .ok (.getfield 10, 3) := by decide +kernel
theorem d_St_barrier_50 : decode m_St_barrier.2.1 50 = .ok (.getfield 103, 3) := by decide +kernel
theorem d_St_barrier_53 : decode m_St_barrier.2.1 53 = .ok (.ifCond .ne 7, 3) := by decide +kernel
theorem d_St_barrier_56 : decode m_St_barrier.2.1 56 = .ok (.aload_n 0, 1) := by decide +kernel
theorem d_St_barrier_57 : decode m_St_barrier.2.1 57 = .ok (.invokevirtual 194, 3) := by decide +kernel
theorem d_St_barrier_60 : decode m_St_barrier.2.1 60 = .ok (.aload_n 0, 1) := by decide +kernel
theorem d_St_barrier_61 : decode m_St_barrier.2.1 61 = .ok (.getfield 58, 3) := by decide +kernel
theorem d_St_barrier_64 : decode m_St_barrier.2.1 64 = .ok (.ireturn, 1) := by decide +kernel
theorem d_St_confirm_0 : decode m_St_confirm.2.1 0 = .ok (.aload_n 0, 1) := by decide +kernel
theorem d_St_confirm_1 : decode m_St_confirm.2.1 1 = .ok (.getfield 62, 3) := by decide +kernel
theorem d_St_confirm_4 : decode m_St_confirm.2.1 4 = .ok (.ifCond .ne 13, 3) := by decide +kernel
theorem d_St_confirm_7 : decode m_St_confirm.2.1 7 = .ok (.new 129, 3) := by decide +kernel
theorem d_St_confirm_10 : decode m_St_confirm.2.1 10 = .ok (.dup, 1) := by decide +kernel
theorem d_St_confirm_11 : decode m_St_confirm.2.1 11 = .ok (.ldc 197, 2) := by decide +kernel
theorem d_St_confirm_13 : decode m_St_confirm.2.1 13 = .ok (.invokespecial 133, 3) := by decide +kernel
theorem d_St_confirm_16 : decode m_St_confirm.2.1 16 = .ok (.athrow, 1) := by decide +kernel
theorem d_St_confirm_17 : decode m_St_confirm.2.1 17 = .ok (.aload_n 0, 1) := by decide +kernel
theorem d_St_confirm_18 : decode m_St_confirm.2.1 18 = .ok (.invokevirtual 199, 3) := by decide +kernel
theorem d_St_confirm_21 : decode m_St_confirm.2.1 21 = .ok (.aload_n 0, 1) := by decide +kernel
theorem d_St_confirm_22 : decode m_St_confirm.2.1 22 = .ok (.getfield 43, 3) := by decide +kernel
theorem d_St_confirm_25 : decode m_St_confirm.2.1 25 = .ok (.getfield 202, 3) := by decide +kernel
theorem d_St_confirm_28 : decode m_St_confirm.2.1 28 = .ok (.ireturn, 1) := by decide +kernel
theorem d_St_fail_0 : decode m_St_fail.2.1 0 = .ok (.aload_n 0, 1) := by decide +kernel
theorem d_St_fail_1 : decode m_St_fail.2.1 1 = .ok (.invokevirtual 205, 3) := by decide +kernel
theorem d_St_fail_4 : decode m_St_fail.2.1 4 = .ok (.aload_n 0, 1) := by decide +kernel
theorem d_St_fail_5 : decode m_St_fail.2.1 5 = .ok (.getfield 43, 3) := by decide +kernel
theorem d_St_fail_8 : decode m_St_fail.2.1 8 = .ok (.getfield 202, 3) := by decide +kernel
theorem d_St_fail_11 : decode m_St_fail.2.1 11 = .ok (.ireturn, 1) := by decide +kernel
theorem d_St_workers_0 : decode m_St_workers.2.1 0 = .ok (.iload_n 1, 1) := by decide +kernel
theorem d_St_workers_1 : decode m_St_workers.2.1 1 = .ok (.iconst 1, 1) := by decide +kernel
theorem d_St_workers_2 : decode m_St_workers.2.1 2 = .ok (.if_icmp .lt 8, 3) := by decide +kernel
theorem d_St_workers_5 : decode m_St_workers.2.1 5 = .ok (.iload_n 1, 1) := by decide +kernel
theorem d_St_workers_6 : decode m_St_workers.2.1 6 = .ok (.iconst 3, 1) := by decide +kernel
theorem d_St_workers_7 : decode m_St_workers.2.1 7 = .ok (.if_icmp .le 13, 3) := by decide +kernel
theorem d_St_workers_10 : decode m_St_workers.2.1 10 = .ok (.new 72, 3) := by decide +kernel
theorem d_St_workers_13 : decode m_St_workers.2.1 13 = .ok (.dup, 1) := by decide +kernel
theorem d_St_workers_14 : decode m_St_workers.2.1 14 = .ok (.ldc 208, 2) := by decide +kernel
theorem d_St_workers_16 : decode m_St_workers.2.1 16 = .ok (.invokespecial 76, 3) := by decide +kernel
theorem d_St_workers_19 : decode m_St_workers.2.1 19 = .ok (.athrow, 1) := by decide +kernel
theorem d_St_workers_20 : decode m_St_workers.2.1 20 = .ok (.aload_n 0, 1) := by decide +kernel
theorem d_St_workers_21 : decode m_St_workers.2.1 21 = .ok (.getfield 58, 3) := by decide +kernel
theorem d_St_workers_24 : decode m_St_workers.2.1 24 = .ok (.ifCond .ne 13, 3) := by decide +kernel
theorem d_St_workers_27 : decode m_St_workers.2.1 27 = .ok (.new 129, 3) := by decide +kernel
theorem d_St_workers_30 : decode m_St_workers.2.1 30 = .ok (.dup, 1) := by decide +kernel
theorem d_St_workers_31 : decode m_St_workers.2.1 31 = .ok (.ldc 210, 2) := by decide +kernel
theorem d_St_workers_33 : decode m_St_workers.2.1 33 = .ok (.invokespecial 133, 3) := by decide +kernel
theorem d_St_workers_36 : decode m_St_workers.2.1 36 = .ok (.athrow, 1) := by decide +kernel
theorem d_St_workers_37 : decode m_St_workers.2.1 37 = .ok (.iconst 0, 1) := by decide +kernel
theorem d_St_workers_38 : decode m_St_workers.2.1 38 = .ok (.istore_n 2, 1) := by decide +kernel
theorem d_St_workers_39 : decode m_St_workers.2.1 39 = .ok (.iconst 0, 1) := by decide +kernel
theorem d_St_workers_40 : decode m_St_workers.2.1 40 = .ok (.istore_n 3, 1) := by decide +kernel
theorem d_St_workers_41 : decode m_St_workers.2.1 41 = .ok (.iload_n 3, 1) := by decide +kernel
theorem d_St_workers_42 : decode m_St_workers.2.1 42 = .ok (.bipush 6, 2) := by decide +kernel
theorem d_St_workers_44 : decode m_St_workers.2.1 44 = .ok (.if_icmp .ge 28, 3) := by decide +kernel
theorem d_St_workers_47 : decode m_St_workers.2.1 47 = .ok (.iload_n 3, 1) := by decide +kernel
theorem d_St_workers_48 : decode m_St_workers.2.1 48 = .ok (.aload_n 0, 1) := by decide +kernel
theorem d_St_workers_49 : decode m_St_workers.2.1 49 = .ok (.getfield 65, 3) := by decide +kernel
theorem d_St_workers_52 : decode m_St_workers.2.1 52 = .ok (.invokestatic 212, 3) := by decide +kernel
theorem d_St_workers_55 : decode m_St_workers.2.1 55 = .ok (.iload_n 3, 1) := by decide +kernel
theorem d_St_workers_56 : decode m_St_workers.2.1 56 = .ok (.iload_n 1, 1) := by decide +kernel
theorem d_St_workers_57 : decode m_St_workers.2.1 57 = .ok (.invokestatic 212, 3) := by decide +kernel
theorem d_St_workers_60 : decode m_St_workers.2.1 60 = .ok (.if_icmp .eq 6, 3) := by decide +kernel
theorem d_St_workers_63 : decode m_St_workers.2.1 63 = .ok (.iinc 2 1, 3) := by decide +kernel
theorem d_St_workers_66 : decode m_St_workers.2.1 66 = .ok (.iinc 3 1, 3) := by decide +kernel
theorem d_St_workers_69 : decode m_St_workers.2.1 69 = .ok (.goto (-28), 3) := by decide +kernel
theorem d_St_workers_72 : decode m_St_workers.2.1 72 = .ok (.aload_n 0, 1) := by decide +kernel
theorem d_St_workers_73 : decode m_St_workers.2.1 73 = .ok (.iload_n 1, 1) := by decide +kernel
theorem d_St_workers_74 : decode m_St_workers.2.1 74 = .ok (.putfield 65, 3) := by decide +kernel
theorem d_St_workers_77 : decode m_St_workers.2.1 77 = .ok (.aload_n 0, 1) := by decide +kernel
theorem d_St_workers_78 : decode m_St_workers.2.1 78 = .ok (.invokevirtual 205, 3) := by decide +kernel
theorem d_St_workers_81 : decode m_St_workers.2.1 81 = .ok (.iload_n 2, 1) := by decide +kernel
theorem d_St_workers_82 : decode m_St_workers.2.1 82 = .ok (.ireturn, 1) := by decide +kernel
theorem d_St_watermark_0 : decode m_St_watermark.2.1 0 = .ok (.aload_n 0, 1) := by decide +kernel
theorem d_St_watermark_1 : decode m_St_watermark.2.1 1 = .ok (.getfield 26, 3) := by decide +kernel
theorem d_St_watermark_4 : decode m_St_watermark.2.1 4 = .ok (.getfield 216, 3) := by decide +kernel
theorem d_St_watermark_7 : decode m_St_watermark.2.1 7 = .ok (.ireturn, 1) := by decide +kernel
theorem d_St_sourceWatermark_0 : decode m_St_sourceWatermark.2.1 0 = .ok (.iload_n 1, 1) := by decide +kernel
theorem d_St_sourceWatermark_1 : decode m_St_sourceWatermark.2.1 1 = .ok (.invokestatic 106, 3) := by decide +kernel
theorem d_St_sourceWatermark_4 : decode m_St_sourceWatermark.2.1 4 = .ok (.aload_n 0, 1) := by decide +kernel
theorem d_St_sourceWatermark_5 : decode m_St_sourceWatermark.2.1 5 = .ok (.iload_n 1, 1) := by decide +kernel
theorem d_St_sourceWatermark_6 : decode m_St_sourceWatermark.2.1 6 = .ok (.invokevirtual 219, 3) := by decide +kernel
theorem d_St_sourceWatermark_9 : decode m_St_sourceWatermark.2.1 9 = .ok (.ireturn, 1) := by decide +kernel
theorem d_St_offset_0 : decode m_St_offset.2.1 0 = .ok (.iload_n 1, 1) := by decide +kernel
theorem d_St_offset_1 : decode m_St_offset.2.1 1 = .ok (.invokestatic 106, 3) := by decide +kernel
theorem d_St_offset_4 : decode m_St_offset.2.1 4 = .ok (.aload_n 0, 1) := by decide +kernel
theorem d_St_offset_5 : decode m_St_offset.2.1 5 = .ok (.getfield 26, 3) := by decide +kernel
theorem d_St_offset_8 : decode m_St_offset.2.1 8 = .ok (.getfield 143, 3) := by decide +kernel
theorem d_St_offset_11 : decode m_St_offset.2.1 11 = .ok (.iload_n 1, 1) := by decide +kernel
theorem d_St_offset_12 : decode m_St_offset.2.1 12 = .ok (.iaload, 1) := by decide +kernel
theorem d_St_offset_13 : decode m_St_offset.2.1 13 = .ok (.ireturn, 1) := by decide +kernel
theorem d_St_inChannel_0 : decode m_St_inChannel.2.1 0 = .ok (.iload_n 1, 1) := by decide +kernel
theorem d_St_inChannel_1 : decode m_St_inChannel.2.1 1 = .ok (.invokestatic 106, 3) := by decide +kernel
theorem d_St_inChannel_4 : decode m_St_inChannel.2.1 4 = .ok (.aload_n 0, 1) := by decide +kernel
theorem d_St_inChannel_5 : decode m_St_inChannel.2.1 5 = .ok (.getfield 26, 3) := by decide +kernel
theorem d_St_inChannel_8 : decode m_St_inChannel.2.1 8 = .ok (.iload_n 1, 1) := by decide +kernel
theorem d_St_inChannel_9 : decode m_St_inChannel.2.1 9 = .ok (.invokevirtual 149, 3) := by decide +kernel
theorem d_St_inChannel_12 : decode m_St_inChannel.2.1 12 = .ok (.ireturn, 1) := by decide +kernel
theorem d_St_open_0 : decode m_St_open.2.1 0 = .ok (.iload_n 1, 1) := by decide +kernel
theorem d_St_open_1 : decode m_St_open.2.1 1 = .ok (.ifCond .lt 11, 3) := by decide +kernel
theorem d_St_open_4 : decode m_St_open.2.1 4 = .ok (.iload_n 1, 1) := by decide +kernel
theorem d_St_open_5 : decode m_St_open.2.1 5 = .ok (.aload_n 0, 1) := by decide +kernel
theorem d_St_open_6 : decode m_St_open.2.1 6 = .ok (.getfield 65, 3) := by decide +kernel
theorem d_St_open_9 : decode m_St_open.2.1 9 = .ok (.if_icmp .lt 13, 3) := by decide +kernel
theorem d_St_open_12 : decode m_St_open.2.1 12 = .ok (.new 222, 3) := by decide +kernel
theorem d_St_open_15 : decode m_St_open.2.1 15 = .ok (.dup, 1) := by decide +kernel
theorem d_St_open_16 : decode m_St_open.2.1 16 = .ok (.ldc 224, 2) := by decide +kernel
theorem d_St_open_18 : decode m_St_open.2.1 18 = .ok (.invokespecial 226, 3) := by decide +kernel
theorem d_St_open_21 : decode m_St_open.2.1 21 = .ok (.athrow, 1) := by decide +kernel
theorem d_St_open_22 : decode m_St_open.2.1 22 = .ok (.iconst 0, 1) := by decide +kernel
theorem d_St_open_23 : decode m_St_open.2.1 23 = .ok (.istore_n 2, 1) := by decide +kernel
theorem d_St_open_24 : decode m_St_open.2.1 24 = .ok (.iconst 0, 1) := by decide +kernel
theorem d_St_open_25 : decode m_St_open.2.1 25 = .ok (.istore_n 3, 1) := by decide +kernel
theorem d_St_open_26 : decode m_St_open.2.1 26 = .ok (.iload_n 3, 1) := by decide +kernel
theorem d_St_open_27 : decode m_St_open.2.1 27 = .ok (.aload_n 0, 1) := by decide +kernel
theorem d_St_open_28 : decode m_St_open.2.1 28 = .ok (.getfield 26, 3) := by decide +kernel
theorem d_St_open_31 : decode m_St_open.2.1 31 = .ok (.getfield 227, 3) := by decide +kernel
theorem d_St_open_34 : decode m_St_open.2.1 34 = .ok (.getfield 231, 3) := by decide +kernel
theorem d_St_open_37 : decode m_St_open.2.1 37 = .ok (.invokevirtual 124, 3) := by decide +kernel
theorem d_St_open_40 : decode m_St_open.2.1 40 = .ok (.if_icmp .ge 69, 3) := by decide +kernel
theorem d_St_open_43 : decode m_St_open.2.1 43 = .ok (.aload_n 0, 1) := by decide +kernel
theorem d_St_open_44 : decode m_St_open.2.1 44 = .ok (.getfield 26, 3) := by decide +kernel
theorem d_St_open_47 : decode m_St_open.2.1 47 = .ok (.getfield 227, 3) := by decide +kernel
theorem d_St_open_50 : decode m_St_open.2.1 50 = .ok (.getfield 231, 3) := by decide +kernel
theorem d_St_open_53 : decode m_St_open.2.1 53 = .ok (.iload_n 3, 1) := by decide +kernel
theorem d_St_open_54 : decode m_St_open.2.1 54 = .ok (.invokevirtual 236, 3) := by decide +kernel
theorem d_St_open_57 : decode m_St_open.2.1 57 = .ok (.checkcast 240, 3) := by decide +kernel
theorem d_St_open_60 : decode m_St_open.2.1 60 = .ok (.astore 4, 2) := by decide +kernel
theorem d_St_open_62 : decode m_St_open.2.1 62 = .ok (.aload 4, 2) := by decide +kernel
theorem d_St_open_64 : decode m_St_open.2.1 64 = .ok (.getfield 242, 3) := by decide +kernel
theorem d_St_open_67 : decode m_St_open.2.1 67 = .ok (.aload_n 0, 1) := by decide +kernel
theorem d_St_open_68 : decode m_St_open.2.1 68 = .ok (.getfield 65, 3) := by decide +kernel
theorem d_St_open_71 : decode m_St_open.2.1 71 = .ok (.invokestatic 212, 3) := by decide +kernel
theorem d_St_open_74 : decode m_St_open.2.1 74 = .ok (.iload_n 1, 1) := by decide +kernel
theorem d_St_open_75 : decode m_St_open.2.1 75 = .ok (.if_icmp .ne 28, 3) := by decide +kernel
theorem d_St_open_78 : decode m_St_open.2.1 78 = .ok (.aload_n 0, 1) := by decide +kernel
theorem d_St_open_79 : decode m_St_open.2.1 79 = .ok (.getfield 10, 3) := by decide +kernel
theorem d_St_open_82 : decode m_St_open.2.1 82 = .ok (.aload 4, 2) := by decide +kernel
theorem d_St_open_84 : decode m_St_open.2.1 84 = .ok (.getfield 245, 3) := by decide +kernel
theorem d_St_open_87 : decode m_St_open.2.1 87 = .ok (.aload_n 0, 1) := by decide +kernel
theorem d_St_open_88 : decode m_St_open.2.1 88 = .ok (.getfield 26, 3) := by decide +kernel
theorem d_St_open_91 : decode m_St_open.2.1 91 = .ok (.getfield 216, 3) := by decide +kernel
theorem d_St_open_94 : decode m_St_open.2.1 94 = .ok (.invokevirtual 248, 3) := by decide +kernel
theorem d_St_open_97 : decode m_St_open.2.1 97 = .ok (.ifCond .eq 6, 3) := by decide +kernel
theorem d_St_open_100 : decode m_St_open.2.1 100 = .ok (.iinc 2 1, 3) := by decide +kernel
theorem d_St_open_103 : decode m_St_open.2.1 103 = .ok (.iinc 3 1, 3) := by decide +kernel
theorem d_St_open_106 : decode m_St_open.2.1 106 = .ok (.goto (-80), 3) := by decide +kernel
theorem d_St_open_109 : decode m_St_open.2.1 109 = .ok (.iload_n 2, 1) := by decide +kernel
theorem d_St_open_110 : decode m_St_open.2.1 110 = .ok (.ireturn, 1) := by decide +kernel
theorem d_St_dropped_0 : decode m_St_dropped.2.1 0 = .ok (.aload_n 0, 1) := by decide +kernel
theorem d_St_dropped_1 : decode m_St_dropped.2.1 1 = .ok (.getfield 26, 3) := by decide +kernel
theorem d_St_dropped_4 : decode m_St_dropped.2.1 4 = .ok (.getfield 266, 3) := by decide +kernel
theorem d_St_dropped_7 : decode m_St_dropped.2.1 7 = .ok (.ireturn, 1) := by decide +kernel
theorem d_St_pairs_0 : decode m_St_pairs.2.1 0 = .ok (.aload_n 0, 1) := by decide +kernel
theorem d_St_pairs_1 : decode m_St_pairs.2.1 1 = .ok (.getfield 26, 3) := by decide +kernel
theorem d_St_pairs_4 : decode m_St_pairs.2.1 4 = .ok (.getfield 269, 3) := by decide +kernel
theorem d_St_pairs_7 : decode m_St_pairs.2.1 7 = .ok (.ireturn, 1) := by decide +kernel
theorem d_St_pairsAnew_0 : decode m_St_pairsAnew.2.1 0 = .ok (.aload_n 0, 1) := by decide +kernel
theorem d_St_pairsAnew_1 : decode m_St_pairsAnew.2.1 1 = .ok (.getfield 36, 3) := by decide +kernel
theorem d_St_pairsAnew_4 : decode m_St_pairsAnew.2.1 4 = .ok (.aload_n 0, 1) := by decide +kernel
theorem d_St_pairsAnew_5 : decode m_St_pairsAnew.2.1 5 = .ok (.getfield 10, 3) := by decide +kernel
theorem d_St_pairsAnew_8 : decode m_St_pairsAnew.2.1 8 = .ok (.getfield 100, 3) := by decide +kernel
theorem d_St_pairsAnew_11 : decode m_St_pairsAnew.2.1 11 = .ok (.invokevirtual 272, 3) := by decide +kernel
theorem d_St_pairsAnew_14 : decode m_St_pairsAnew.2.1 14 = .ok (.ireturn, 1) := by decide +kernel
theorem d_St_uncommitted_0 : decode m_St_uncommitted.2.1 0 = .ok (.aload_n 0, 1) := by decide +kernel
theorem d_St_uncommitted_1 : decode m_St_uncommitted.2.1 1 = .ok (.getfield 43, 3) := by decide +kernel
theorem d_St_uncommitted_4 : decode m_St_uncommitted.2.1 4 = .ok (.getfield 275, 3) := by decide +kernel
theorem d_St_uncommitted_7 : decode m_St_uncommitted.2.1 7 = .ok (.aload_n 0, 1) := by decide +kernel
theorem d_St_uncommitted_8 : decode m_St_uncommitted.2.1 8 = .ok (.getfield 43, 3) := by decide +kernel
theorem d_St_uncommitted_11 : decode m_St_uncommitted.2.1 11 = .ok (.getfield 202, 3) := by decide +kernel
theorem d_St_uncommitted_14 : decode m_St_uncommitted.2.1 14 = .ok (.isub, 1) := by decide +kernel
theorem d_St_uncommitted_15 : decode m_St_uncommitted.2.1 15 = .ok (.ireturn, 1) := by decide +kernel
theorem d_St_result_0 : decode m_St_result.2.1 0 = .ok (.iload_n 1, 1) := by decide +kernel
theorem d_St_result_1 : decode m_St_result.2.1 1 = .ok (.iload_n 2, 1) := by decide +kernel
theorem d_St_result_2 : decode m_St_result.2.1 2 = .ok (.iload_n 3, 1) := by decide +kernel
theorem d_St_result_3 : decode m_St_result.2.1 3 = .ok (.invokestatic 278, 3) := by decide +kernel
theorem d_St_result_6 : decode m_St_result.2.1 6 = .ok (.aload_n 0, 1) := by decide +kernel
theorem d_St_result_7 : decode m_St_result.2.1 7 = .ok (.getfield 43, 3) := by decide +kernel
theorem d_St_result_10 : decode m_St_result.2.1 10 = .ok (.iload_n 1, 1) := by decide +kernel
theorem d_St_result_11 : decode m_St_result.2.1 11 = .ok (.iload_n 2, 1) := by decide +kernel
theorem d_St_result_12 : decode m_St_result.2.1 12 = .ok (.invokevirtual 282, 3) := by decide +kernel
theorem d_St_result_15 : decode m_St_result.2.1 15 = .ok (.astore 4, 2) := by decide +kernel
theorem d_St_result_17 : decode m_St_result.2.1 17 = .ok (.aload 4, 2) := by decide +kernel
theorem d_St_result_19 : decode m_St_result.2.1 19 = .ok (.ifnull 11, 3) := by decide +kernel
theorem d_St_result_22 : decode m_St_result.2.1 22 = .ok (.aload 4, 2) := by decide +kernel
theorem d_St_result_24 : decode m_St_result.2.1 24 = .ok (.getfield 286, 3) := by decide +kernel
theorem d_St_result_27 : decode m_St_result.2.1 27 = .ok (.ifCond .ne 9, 3) := by decide +kernel
theorem d_St_result_30 : decode m_St_result.2.1 30 = .ok (.ldc_w 262, 3) := by decide +kernel
theorem d_St_result_33 : decode m_St_result.2.1 33 = .ok (.goto 9, 3) := by decide +kernel
theorem d_St_result_36 : decode m_St_result.2.1 36 = .ok (.aload 4, 2) := by decide +kernel
theorem d_St_result_38 : decode m_St_result.2.1 38 = .ok (.iload_n 3, 1) := by decide +kernel
theorem d_St_result_39 : decode m_St_result.2.1 39 = .ok (.invokevirtual 289, 3) := by decide +kernel
theorem d_St_result_42 : decode m_St_result.2.1 42 = .ok (.ireturn, 1) := by decide +kernel
theorem d_St_resultAnew_0 : decode m_St_resultAnew.2.1 0 = .ok (.iload_n 1, 1) := by decide +kernel
theorem d_St_resultAnew_1 : decode m_St_resultAnew.2.1 1 = .ok (.iload_n 2, 1) := by decide +kernel
theorem d_St_resultAnew_2 : decode m_St_resultAnew.2.1 2 = .ok (.iload_n 3, 1) := by decide +kernel
theorem d_St_resultAnew_3 : decode m_St_resultAnew.2.1 3 = .ok (.invokestatic 278, 3) := by decide +kernel
theorem d_St_resultAnew_6 : decode m_St_resultAnew.2.1 6 = .ok (.aload_n 0, 1) := by decide +kernel
theorem d_St_resultAnew_7 : decode m_St_resultAnew.2.1 7 = .ok (.getfield 10, 3) := by decide +kernel
theorem d_St_resultAnew_10 : decode m_St_resultAnew.2.1 10 = .ok (.getfield 88, 3) := by decide +kernel
theorem d_St_resultAnew_13 : decode m_St_resultAnew.2.1 13 = .ok (.iconst 2, 1) := by decide +kernel
theorem d_St_resultAnew_14 : decode m_St_resultAnew.2.1 14 = .ok (.if_icmp .ne 19, 3) := by decide +kernel
theorem d_St_resultAnew_17 : decode m_St_resultAnew.2.1 17 = .ok (.aload_n 0, 1) := by decide +kernel
theorem d_St_resultAnew_18 : decode m_St_resultAnew.2.1 18 = .ok (.getfield 36, 3) := by decide +kernel
theorem d_St_resultAnew_21 : decode m_St_resultAnew.2.1 21 = .ok (.aload_n 0, 1) := by decide +kernel
theorem d_St_resultAnew_22 : decode m_St_resultAnew.2.1 22 = .ok (.getfield 10, 3) := by decide +kernel
theorem d_St_resultAnew_25 : decode m_St_resultAnew.2.1 25 = .ok (.iload_n 1, 1) := by decide +kernel
theorem d_St_resultAnew_26 : decode m_St_resultAnew.2.1 26 = .ok (.iload_n 2, 1) := by decide +kernel
theorem d_St_resultAnew_27 : decode m_St_resultAnew.2.1 27 = .ok (.invokevirtual 292, 3) := by decide +kernel
theorem d_St_resultAnew_30 : decode m_St_resultAnew.2.1 30 = .ok (.goto 11, 3) := by decide +kernel
theorem d_St_resultAnew_33 : decode m_St_resultAnew.2.1 33 = .ok (.aload_n 0, 1) := by decide +kernel
theorem d_St_resultAnew_34 : decode m_St_resultAnew.2.1 34 = .ok (.getfield 10, 3) := by decide +kernel
theorem d_St_resultAnew_37 : decode m_St_resultAnew.2.1 37 = .ok (.iload_n 2, 1) := by decide +kernel
theorem d_St_resultAnew_38 : decode m_St_resultAnew.2.1 38 = .ok (.invokevirtual 296, 3) := by decide +kernel
theorem d_St_resultAnew_41 : decode m_St_resultAnew.2.1 41 = .ok (.istore 4, 2) := by decide +kernel
theorem d_St_resultAnew_43 : decode m_St_resultAnew.2.1 43 = .ok (.iload 4, 2) := by decide +kernel
theorem d_St_resultAnew_45 : decode m_St_resultAnew.2.1 45 = .ok (.iconst (-1), 1) := by decide +kernel
theorem d_St_resultAnew_46 : decode m_St_resultAnew.2.1 46 = .ok (.if_icmp .eq 15, 3) := by decide +kernel
theorem d_St_resultAnew_49 : decode m_St_resultAnew.2.1 49 = .ok (.iload 4, 2) := by decide +kernel
theorem d_St_resultAnew_51 : decode m_St_resultAnew.2.1 51 = .ok (.aload_n 0, 1) := by decide +kernel
theorem d_St_resultAnew_52 : decode m_St_resultAnew.2.1 52 = .ok (.getfield 36, 3) := by decide +kernel
theorem d_St_resultAnew_55 : decode m_St_resultAnew.2.1 55 = .ok (.getfield 299, 3) := by decide +kernel
theorem d_St_resultAnew_58 : decode m_St_resultAnew.2.1 58 = .ok (.if_icmp .le 7, 3) := by decide +kernel
theorem d_St_resultAnew_61 : decode m_St_resultAnew.2.1 61 = .ok (.ldc_w 262, 3) := by decide +kernel
theorem d_St_resultAnew_64 : decode m_St_resultAnew.2.1 64 = .ok (.ireturn, 1) := by decide +kernel
theorem d_St_resultAnew_65 : decode m_St_resultAnew.2.1 65 = .ok (.aload_n 0, 1) := by decide +kernel
theorem d_St_resultAnew_66 : decode m_St_resultAnew.2.1 66 = .ok (.getfield 36, 3) := by decide +kernel
theorem d_St_resultAnew_69 : decode m_St_resultAnew.2.1 69 = .ok (.aload_n 0, 1) := by decide +kernel
theorem d_St_resultAnew_70 : decode m_St_resultAnew.2.1 70 = .ok (.getfield 10, 3) := by decide +kernel
theorem d_St_resultAnew_73 : decode m_St_resultAnew.2.1 73 = .ok (.iload_n 1, 1) := by decide +kernel
theorem d_St_resultAnew_74 : decode m_St_resultAnew.2.1 74 = .ok (.iload_n 2, 1) := by decide +kernel
theorem d_St_resultAnew_75 : decode m_St_resultAnew.2.1 75 = .ok (.iload 4, 2) := by decide +kernel
theorem d_St_resultAnew_77 : decode m_St_resultAnew.2.1 77 = .ok (.invokevirtual 302, 3) := by decide +kernel
theorem d_St_resultAnew_80 : decode m_St_resultAnew.2.1 80 = .ok (.astore 5, 2) := by decide +kernel
theorem d_St_resultAnew_82 : decode m_St_resultAnew.2.1 82 = .ok (.aload 5, 2) := by decide +kernel
theorem d_St_resultAnew_84 : decode m_St_resultAnew.2.1 84 = .ok (.getfield 306, 3) := by decide +kernel
theorem d_St_resultAnew_87 : decode m_St_resultAnew.2.1 87 = .ok (.ifCond .ne 9, 3) := by decide +kernel
theorem d_St_resultAnew_90 : decode m_St_resultAnew.2.1 90 = .ok (.ldc_w 262, 3) := by decide +kernel
theorem d_St_resultAnew_93 : decode m_St_resultAnew.2.1 93 = .ok (.goto 9, 3) := by decide +kernel
theorem d_St_resultAnew_96 : decode m_St_resultAnew.2.1 96 = .ok (.aload 5, 2) := by decide +kernel
theorem d_St_resultAnew_98 : decode m_St_resultAnew.2.1 98 = .ok (.iload_n 3, 1) := by decide +kernel
theorem d_St_resultAnew_99 : decode m_St_resultAnew.2.1 99 = .ok (.invokevirtual 289, 3) := by decide +kernel
theorem d_St_resultAnew_102 : decode m_St_resultAnew.2.1 102 = .ok (.ireturn, 1) := by decide +kernel
theorem d_St_needSource_0 : decode m_St_needSource.2.1 0 = .ok (.iload_n 0, 1) := by decide +kernel
theorem d_St_needSource_1 : decode m_St_needSource.2.1 1 = .ok (.ifCond .lt 8, 3) := by decide +kernel
theorem d_St_needSource_4 : decode m_St_needSource.2.1 4 = .ok (.iload_n 0, 1) := by decide +kernel
theorem d_St_needSource_5 : decode m_St_needSource.2.1 5 = .ok (.iconst 3, 1) := by decide +kernel
theorem d_St_needSource_6 : decode m_St_needSource.2.1 6 = .ok (.if_icmp .lt 14, 3) := by decide +kernel
theorem d_St_needSource_9 : decode m_St_needSource.2.1 9 = .ok (.new 222, 3) := by decide +kernel
theorem d_St_needSource_12 : decode m_St_needSource.2.1 12 = .ok (.dup, 1) := by decide +kernel
theorem d_St_needSource_13 : decode m_St_needSource.2.1 13 = .ok (.ldc_w 309, 3) := by decide +kernel
theorem d_St_needSource_16 : decode m_St_needSource.2.1 16 = .ok (.invokespecial 226, 3) := by decide +kernel
theorem d_St_needSource_19 : decode m_St_needSource.2.1 19 = .ok (.athrow, 1) := by decide +kernel
theorem d_St_needSource_20 : decode m_St_needSource.2.1 20 = .ok (.return_, 1) := by decide +kernel
theorem d_St_needKey_0 : decode m_St_needKey.2.1 0 = .ok (.iload_n 0, 1) := by decide +kernel
theorem d_St_needKey_1 : decode m_St_needKey.2.1 1 = .ok (.invokestatic 115, 3) := by decide +kernel
theorem d_St_needKey_4 : decode m_St_needKey.2.1 4 = .ok (.ifCond .ne 14, 3) := by decide +kernel
theorem d_St_needKey_7 : decode m_St_needKey.2.1 7 = .ok (.new 222, 3) := by decide +kernel
theorem d_St_needKey_10 : decode m_St_needKey.2.1 10 = .ok (.dup, 1) := by decide +kernel
theorem d_St_needKey_11 : decode m_St_needKey.2.1 11 = .ok (.ldc_w 311, 3) := by decide +kernel
theorem d_St_needKey_14 : decode m_St_needKey.2.1 14 = .ok (.invokespecial 226, 3) := by decide +kernel
theorem d_St_needKey_17 : decode m_St_needKey.2.1 17 = .ok (.athrow, 1) := by decide +kernel
theorem d_St_needKey_18 : decode m_St_needKey.2.1 18 = .ok (.return_, 1) := by decide +kernel
theorem d_St_needResultOf_0 : decode m_St_needResultOf.2.1 0 = .ok (.iload_n 0, 1) := by decide +kernel
theorem d_St_needResultOf_1 : decode m_St_needResultOf.2.1 1 = .ok (.invokestatic 251, 3) := by decide +kernel
theorem d_St_needResultOf_4 : decode m_St_needResultOf.2.1 4 = .ok (.iload_n 1, 1) := by decide +kernel
theorem d_St_needResultOf_5 : decode m_St_needResultOf.2.1 5 = .ok (.ifCond .lt 19, 3) := by decide +kernel
theorem d_St_needResultOf_8 : decode m_St_needResultOf.2.1 8 = .ok (.iload_n 1, 1) := by decide +kernel
theorem d_St_needResultOf_9 : decode m_St_needResultOf.2.1 9 = .ok (.sipush 999, 3) := by decide +kernel
theorem d_St_needResultOf_12 : decode m_St_needResultOf.2.1 12 = .ok (.if_icmp .gt 12, 3) := by decide +kernel
theorem d_St_needResultOf_15 : decode m_St_needResultOf.2.1 15 = .ok (.iload_n 2, 1) := by decide +kernel
theorem d_St_needResultOf_16 : decode m_St_needResultOf.2.1 16 = .ok (.ifCond .lt 8, 3) := by decide +kernel
theorem d_St_needResultOf_19 : decode m_St_needResultOf.2.1 19 = .ok (.iload_n 2, 1) := by decide +kernel
theorem d_St_needResultOf_20 : decode m_St_needResultOf.2.1 20 = .ok (.iconst 2, 1) := by decide +kernel
theorem d_St_needResultOf_21 : decode m_St_needResultOf.2.1 21 = .ok (.if_icmp .le 14, 3) := by decide +kernel
theorem d_St_needResultOf_24 : decode m_St_needResultOf.2.1 24 = .ok (.new 72, 3) := by decide +kernel
theorem d_St_needResultOf_27 : decode m_St_needResultOf.2.1 27 = .ok (.dup, 1) := by decide +kernel
theorem d_St_needResultOf_28 : decode m_St_needResultOf.2.1 28 = .ok (.ldc_w 313, 3) := by decide +kernel
theorem d_St_needResultOf_31 : decode m_St_needResultOf.2.1 31 = .ok (.invokespecial 76, 3) := by decide +kernel
theorem d_St_needResultOf_34 : decode m_St_needResultOf.2.1 34 = .ok (.athrow, 1) := by decide +kernel
theorem d_St_needResultOf_35 : decode m_St_needResultOf.2.1 35 = .ok (.return_, 1) := by decide +kernel
theorem d_St_needNotBegun_0 : decode m_St_needNotBegun.2.1 0 = .ok (.aload_n 0, 1) := by decide +kernel
theorem d_St_needNotBegun_1 : decode m_St_needNotBegun.2.1 1 = .ok (.getfield 54, 3) := by decide +kernel
theorem d_St_needNotBegun_4 : decode m_St_needNotBegun.2.1 4 = .ok (.ifCond .eq 14, 3) := by decide +kernel
theorem d_St_needNotBegun_7 : decode m_St_needNotBegun.2.1 7 = .ok (.new 129, 3) := by decide +kernel
theorem d_St_needNotBegun_10 : decode m_St_needNotBegun.2.1 10 = .ok (.dup, 1) := by decide +kernel
theorem d_St_needNotBegun_11 : decode m_St_needNotBegun.2.1 11 = .ok (.ldc_w 315, 3) := by decide +kernel
theorem d_St_needNotBegun_14 : decode m_St_needNotBegun.2.1 14 = .ok (.invokespecial 133, 3) := by decide +kernel
theorem d_St_needNotBegun_17 : decode m_St_needNotBegun.2.1 17 = .ok (.athrow, 1) := by decide +kernel
theorem d_St_needNotBegun_18 : decode m_St_needNotBegun.2.1 18 = .ok (.return_, 1) := by decide +kernel
theorem d_St_isKey_0 : decode m_St_isKey.2.1 0 = .ok (.iload_n 0, 1) := by decide +kernel
theorem d_St_isKey_1 : decode m_St_isKey.2.1 1 = .ok (.ifCond .lt 13, 3) := by decide +kernel
theorem d_St_isKey_4 : decode m_St_isKey.2.1 4 = .ok (.iload_n 0, 1) := by decide +kernel
theorem d_St_isKey_5 : decode m_St_isKey.2.1 5 = .ok (.bipush 6, 2) := by decide +kernel
theorem d_St_isKey_7 : decode m_St_isKey.2.1 7 = .ok (.if_icmp .ge 7, 3) := by decide +kernel
theorem d_St_isKey_10 : decode m_St_isKey.2.1 10 = .ok (.iconst 1, 1) := by decide +kernel
theorem d_St_isKey_11 : decode m_St_isKey.2.1 11 = .ok (.goto 4, 3) := by decide +kernel
theorem d_St_isKey_14 : decode m_St_isKey.2.1 14 = .ok (.iconst 0, 1) := by decide +kernel
theorem d_St_isKey_15 : decode m_St_isKey.2.1 15 = .ok (.ireturn, 1) := by decide +kernel
theorem d_St_isSpan_0 : decode m_St_isSpan.2.1 0 = .ok (.iload_n 0, 1) := by decide +kernel
theorem d_St_isSpan_1 : decode m_St_isSpan.2.1 1 = .ok (.ifCond .lt 14, 3) := by decide +kernel
theorem d_St_isSpan_4 : decode m_St_isSpan.2.1 4 = .ok (.iload_n 0, 1) := by decide +kernel
theorem d_St_isSpan_5 : decode m_St_isSpan.2.1 5 = .ok (.sipush 200, 3) := by decide +kernel
theorem d_St_isSpan_8 : decode m_St_isSpan.2.1 8 = .ok (.if_icmp .gt 7, 3) := by decide +kernel
theorem d_St_isSpan_11 : decode m_St_isSpan.2.1 11 = .ok (.iconst 1, 1) := by decide +kernel
theorem d_St_isSpan_12 : decode m_St_isSpan.2.1 12 = .ok (.goto 4, 3) := by decide +kernel
theorem d_St_isSpan_15 : decode m_St_isSpan.2.1 15 = .ok (.iconst 0, 1) := by decide +kernel
theorem d_St_isSpan_16 : decode m_St_isSpan.2.1 16 = .ok (.ireturn, 1) := by decide +kernel
theorem d_St_isSlide_0 : decode m_St_isSlide.2.1 0 = .ok (.iload_n 0, 1) := by decide +kernel
theorem d_St_isSlide_1 : decode m_St_isSlide.2.1 1 = .ok (.iconst 1, 1) := by decide +kernel
theorem d_St_isSlide_2 : decode m_St_isSlide.2.1 2 = .ok (.if_icmp .lt 20, 3) := by decide +kernel
theorem d_St_isSlide_5 : decode m_St_isSlide.2.1 5 = .ok (.iload_n 0, 1) := by decide +kernel
theorem d_St_isSlide_6 : decode m_St_isSlide.2.1 6 = .ok (.iload_n 1, 1) := by decide +kernel
theorem d_St_isSlide_7 : decode m_St_isSlide.2.1 7 = .ok (.if_icmp .gt 15, 3) := by decide +kernel
theorem d_St_isSlide_10 : decode m_St_isSlide.2.1 10 = .ok (.iload_n 1, 1) := by decide +kernel
theorem d_St_isSlide_11 : decode m_St_isSlide.2.1 11 = .ok (.bipush 8, 2) := by decide +kernel
theorem d_St_isSlide_13 : decode m_St_isSlide.2.1 13 = .ok (.iload_n 0, 1) := by decide +kernel
theorem d_St_isSlide_14 : decode m_St_isSlide.2.1 14 = .ok (.imul, 1) := by decide +kernel
theorem d_St_isSlide_15 : decode m_St_isSlide.2.1 15 = .ok (.if_icmp .gt 7, 3) := by decide +kernel
theorem d_St_isSlide_18 : decode m_St_isSlide.2.1 18 = .ok (.iconst 1, 1) := by decide +kernel
theorem d_St_isSlide_19 : decode m_St_isSlide.2.1 19 = .ok (.goto 4, 3) := by decide +kernel
theorem d_St_isSlide_22 : decode m_St_isSlide.2.1 22 = .ok (.iconst 0, 1) := by decide +kernel
theorem d_St_isSlide_23 : decode m_St_isSlide.2.1 23 = .ok (.ireturn, 1) := by decide +kernel
theorem d_St_workerOf_0 : decode m_St_workerOf.2.1 0 = .ok (.iload_n 0, 1) := by decide +kernel
theorem d_St_workerOf_1 : decode m_St_workerOf.2.1 1 = .ok (.iload_n 1, 1) := by decide +kernel
theorem d_St_workerOf_2 : decode m_St_workerOf.2.1 2 = .ok (.imul, 1) := by decide +kernel
theorem d_St_workerOf_3 : decode m_St_workerOf.2.1 3 = .ok (.bipush 6, 2) := by decide +kernel
theorem d_St_workerOf_5 : decode m_St_workerOf.2.1 5 = .ok (.idiv, 1) := by decide +kernel
theorem d_St_workerOf_6 : decode m_St_workerOf.2.1 6 = .ok (.ireturn, 1) := by decide +kernel
theorem d_St_markOf_0 : decode m_St_markOf.2.1 0 = .ok (.iconst (-1), 1) := by decide +kernel
theorem d_St_markOf_1 : decode m_St_markOf.2.1 1 = .ok (.aload_n 0, 1) := by decide +kernel
theorem d_St_markOf_2 : decode m_St_markOf.2.1 2 = .ok (.getfield 26, 3) := by decide +kernel
theorem d_St_markOf_5 : decode m_St_markOf.2.1 5 = .ok (.getfield 317, 3) := by decide +kernel
theorem d_St_markOf_8 : decode m_St_markOf.2.1 8 = .ok (.iload_n 1, 1) := by decide +kernel
theorem d_St_markOf_9 : decode m_St_markOf.2.1 9 = .ok (.iaload, 1) := by decide +kernel
theorem d_St_markOf_10 : decode m_St_markOf.2.1 10 = .ok (.aload_n 0, 1) := by decide +kernel
theorem d_St_markOf_11 : decode m_St_markOf.2.1 11 = .ok (.getfield 19, 3) := by decide +kernel
theorem d_St_markOf_14 : decode m_St_markOf.2.1 14 = .ok (.iload_n 1, 1) := by decide +kernel
theorem d_St_markOf_15 : decode m_St_markOf.2.1 15 = .ok (.aaload, 1) := by decide +kernel
theorem d_St_markOf_16 : decode m_St_markOf.2.1 16 = .ok (.getfield 112, 3) := by decide +kernel
theorem d_St_markOf_19 : decode m_St_markOf.2.1 19 = .ok (.isub, 1) := by decide +kernel
theorem d_St_markOf_20 : decode m_St_markOf.2.1 20 = .ok (.invokestatic 320, 3) := by decide +kernel
theorem d_St_markOf_23 : decode m_St_markOf.2.1 23 = .ok (.ireturn, 1) := by decide +kernel
theorem d_St_frontOf_0 : decode m_St_frontOf.2.1 0 = .ok (.aload_n 0, 1) := by decide +kernel
theorem d_St_frontOf_1 : decode m_St_frontOf.2.1 1 = .ok (.getfield 26, 3) := by decide +kernel
theorem d_St_frontOf_4 : decode m_St_frontOf.2.1 4 = .ok (.getfield 166, 3) := by decide +kernel
theorem d_St_frontOf_7 : decode m_St_frontOf.2.1 7 = .ok (.iload_n 1, 1) := by decide +kernel
theorem d_St_frontOf_8 : decode m_St_frontOf.2.1 8 = .ok (.iaload, 1) := by decide +kernel
theorem d_St_frontOf_9 : decode m_St_frontOf.2.1 9 = .ok (.istore_n 2, 1) := by decide +kernel
theorem d_St_frontOf_10 : decode m_St_frontOf.2.1 10 = .ok (.aload_n 0, 1) := by decide +kernel
theorem d_St_frontOf_11 : decode m_St_frontOf.2.1 11 = .ok (.getfield 19, 3) := by decide +kernel
theorem d_St_frontOf_14 : decode m_St_frontOf.2.1 14 = .ok (.iload_n 1, 1) := by decide +kernel
theorem d_St_frontOf_15 : decode m_St_frontOf.2.1 15 = .ok (.aaload, 1) := by decide +kernel
theorem d_St_frontOf_16 : decode m_St_frontOf.2.1 16 = .ok (.getfield 120, 3) := by decide +kernel
theorem d_St_frontOf_19 : decode m_St_frontOf.2.1 19 = .ok (.astore_n 3, 1) := by decide +kernel
theorem d_St_frontOf_20 : decode m_St_frontOf.2.1 20 = .ok (.iload_n 2, 1) := by decide +kernel
theorem d_St_frontOf_21 : decode m_St_frontOf.2.1 21 = .ok (.ifCond .lt 35, 3) := by decide +kernel
theorem d_St_frontOf_24 : decode m_St_frontOf.2.1 24 = .ok (.iload_n 2, 1) := by decide +kernel
theorem d_St_frontOf_25 : decode m_St_frontOf.2.1 25 = .ok (.aload_n 0, 1) := by decide +kernel
theorem d_St_frontOf_26 : decode m_St_frontOf.2.1 26 = .ok (.getfield 26, 3) := by decide +kernel
theorem d_St_frontOf_29 : decode m_St_frontOf.2.1 29 = .ok (.getfield 143, 3) := by decide +kernel
theorem d_St_frontOf_32 : decode m_St_frontOf.2.1 32 = .ok (.iload_n 1, 1) := by decide +kernel
theorem d_St_frontOf_33 : decode m_St_frontOf.2.1 33 = .ok (.iaload, 1) := by decide +kernel
theorem d_St_frontOf_34 : decode m_St_frontOf.2.1 34 = .ok (.if_icmp .ge 22, 3) := by decide +kernel
theorem d_St_frontOf_37 : decode m_St_frontOf.2.1 37 = .ok (.iload_n 2, 1) := by decide +kernel
theorem d_St_frontOf_38 : decode m_St_frontOf.2.1 38 = .ok (.aload_n 3, 1) := by decide +kernel
theorem d_St_frontOf_39 : decode m_St_frontOf.2.1 39 = .ok (.invokevirtual 124, 3) := by decide +kernel
theorem d_St_frontOf_42 : decode m_St_frontOf.2.1 42 = .ok (.if_icmp .ge 14, 3) := by decide +kernel
theorem d_St_frontOf_45 : decode m_St_frontOf.2.1 45 = .ok (.aload_n 3, 1) := by decide +kernel
theorem d_St_frontOf_46 : decode m_St_frontOf.2.1 46 = .ok (.iload_n 2, 1) := by decide +kernel
theorem d_St_frontOf_47 : decode m_St_frontOf.2.1 47 = .ok (.invokevirtual 236, 3) := by decide +kernel
theorem d_St_frontOf_50 : decode m_St_frontOf.2.1 50 = .ok (.checkcast 134, 3) := by decide +kernel
theorem d_St_frontOf_53 : decode m_St_frontOf.2.1 53 = .ok (.goto 4, 3) := by decide +kernel
theorem d_St_frontOf_56 : decode m_St_frontOf.2.1 56 = .ok (.aconst_null, 1) := by decide +kernel
theorem d_St_frontOf_57 : decode m_St_frontOf.2.1 57 = .ok (.areturn, 1) := by decide +kernel
theorem d_St_takeBarrier_0 : decode m_St_takeBarrier.2.1 0 = .ok (.aload_n 0, 1) := by decide +kernel
theorem d_St_takeBarrier_1 : decode m_St_takeBarrier.2.1 1 = .ok (.getfield 50, 3) := by decide +kernel
theorem d_St_takeBarrier_4 : decode m_St_takeBarrier.2.1 4 = .ok (.iload_n 1, 1) := by decide +kernel
theorem d_St_takeBarrier_5 : decode m_St_takeBarrier.2.1 5 = .ok (.invokevirtual 325, 3) := by decide +kernel
theorem d_St_takeBarrier_8 : decode m_St_takeBarrier.2.1 8 = .ok (.aload_n 0, 1) := by decide +kernel
theorem d_St_takeBarrier_9 : decode m_St_takeBarrier.2.1 9 = .ok (.getfield 50, 3) := by decide +kernel
theorem d_St_takeBarrier_12 : decode m_St_takeBarrier.2.1 12 = .ok (.invokevirtual 328, 3) := by decide +kernel
theorem d_St_takeBarrier_15 : decode m_St_takeBarrier.2.1 15 = .ok (.ifCond .ne 5, 3) := by decide +kernel
theorem d_St_takeBarrier_18 : decode m_St_takeBarrier.2.1 18 = .ok (.iconst 3, 1) := by decide +kernel
theorem d_St_takeBarrier_19 : decode m_St_takeBarrier.2.1 19 = .ok (.ireturn, 1) := by decide +kernel
theorem d_St_takeBarrier_20 : decode m_St_takeBarrier.2.1 20 = .ok (.aload_n 0, 1) := by decide +kernel
theorem d_St_takeBarrier_21 : decode m_St_takeBarrier.2.1 21 = .ok (.getfield 50, 3) := by decide +kernel
theorem d_St_takeBarrier_24 : decode m_St_takeBarrier.2.1 24 = .ok (.iconst 0, 1) := by decide +kernel
theorem d_St_takeBarrier_25 : decode m_St_takeBarrier.2.1 25 = .ok (.putfield 185, 3) := by decide +kernel
theorem d_St_takeBarrier_28 : decode m_St_takeBarrier.2.1 28 = .ok (.aload_n 0, 1) := by decide +kernel
theorem d_St_takeBarrier_29 : decode m_St_takeBarrier.2.1 29 = .ok (.invokevirtual 194, 3) := by decide +kernel
theorem d_St_takeBarrier_32 : decode m_St_takeBarrier.2.1 32 = .ok (.iconst 4, 1) := by decide +kernel
theorem d_St_takeBarrier_33 : decode m_St_takeBarrier.2.1 33 = .ok (.ireturn, 1) := by decide +kernel
theorem d_St_takeEvent_0 : decode m_St_takeEvent.2.1 0 = .ok (.aload_n 2, 1) := by decide +kernel
theorem d_St_takeEvent_1 : decode m_St_takeEvent.2.1 1 = .ok (.aload_n 0, 1) := by decide +kernel
theorem d_St_takeEvent_2 : decode m_St_takeEvent.2.1 2 = .ok (.getfield 26, 3) := by decide +kernel
theorem d_St_takeEvent_5 : decode m_St_takeEvent.2.1 5 = .ok (.getfield 216, 3) := by decide +kernel
theorem d_St_takeEvent_8 : decode m_St_takeEvent.2.1 8 = .ok (.putfield 332, 3) := by decide +kernel
theorem d_St_takeEvent_11 : decode m_St_takeEvent.2.1 11 = .ok (.aload_n 0, 1) := by decide +kernel
theorem d_St_takeEvent_12 : decode m_St_takeEvent.2.1 12 = .ok (.getfield 26, 3) := by decide +kernel
theorem d_St_takeEvent_15 : decode m_St_takeEvent.2.1 15 = .ok (.dup, 1) := by decide +kernel
theorem d_St_takeEvent_16 : decode m_St_takeEvent.2.1 16 = .ok (.getfield 269, 3) := by decide +kernel
theorem d_St_takeEvent_19 : decode m_St_takeEvent.2.1 19 = .ok (.aload_n 0, 1) := by decide +kernel
theorem d_St_takeEvent_20 : decode m_St_takeEvent.2.1 20 = .ok (.getfield 36, 3) := by decide +kernel
theorem d_St_takeEvent_23 : decode m_St_takeEvent.2.1 23 = .ok (.aload_n 2, 1) := by decide +kernel
theorem d_St_takeEvent_24 : decode m_St_takeEvent.2.1 24 = .ok (.aload_n 0, 1) := by decide +kernel
theorem d_St_takeEvent_25 : decode m_St_takeEvent.2.1 25 = .ok (.getfield 10, 3) := by decide +kernel
theorem d_St_takeEvent_28 : decode m_St_takeEvent.2.1 28 = .ok (.getfield 100, 3) := by decide +kernel
theorem d_St_takeEvent_31 : decode m_St_takeEvent.2.1 31 = .ok (.invokevirtual 333, 3) := by decide +kernel
theorem d_St_takeEvent_34 : decode m_St_takeEvent.2.1 34 = .ok (.iadd, 1) := by decide +kernel
theorem d_St_takeEvent_35 : decode m_St_takeEvent.2.1 35 = .ok (.putfield 269, 3) := by decide +kernel
theorem d_St_takeEvent_38 : decode m_St_takeEvent.2.1 38 = .ok (.aload_n 0, 1) := by decide +kernel
theorem d_St_takeEvent_39 : decode m_St_takeEvent.2.1 39 = .ok (.getfield 36, 3) := by decide +kernel
theorem d_St_takeEvent_42 : decode m_St_takeEvent.2.1 42 = .ok (.getfield 337, 3) := by decide +kernel
theorem d_St_takeEvent_45 : decode m_St_takeEvent.2.1 45 = .ok (.aload_n 2, 1) := by decide +kernel
theorem d_St_takeEvent_46 : decode m_St_takeEvent.2.1 46 = .ok (.invokevirtual 139, 3) := by decide +kernel
theorem d_St_takeEvent_49 : decode m_St_takeEvent.2.1 49 = .ok (.pop, 1) := by decide +kernel
theorem d_St_takeEvent_50 : decode m_St_takeEvent.2.1 50 = .ok (.aload_n 0, 1) := by decide +kernel
theorem d_St_takeEvent_51 : decode m_St_takeEvent.2.1 51 = .ok (.getfield 26, 3) := by decide +kernel
theorem d_St_takeEvent_54 : decode m_St_takeEvent.2.1 54 = .ok (.dup, 1) := by decide +kernel
theorem d_St_takeEvent_55 : decode m_St_takeEvent.2.1 55 = .ok (.getfield 338, 3) := by decide +kernel
theorem d_St_takeEvent_58 : decode m_St_takeEvent.2.1 58 = .ok (.iconst 1, 1) := by decide +kernel
theorem d_St_takeEvent_59 : decode m_St_takeEvent.2.1 59 = .ok (.iadd, 1) := by decide +kernel
theorem d_St_takeEvent_60 : decode m_St_takeEvent.2.1 60 = .ok (.putfield 338, 3) := by decide +kernel
theorem d_St_takeEvent_63 : decode m_St_takeEvent.2.1 63 = .ok (.aload_n 0, 1) := by decide +kernel
theorem d_St_takeEvent_64 : decode m_St_takeEvent.2.1 64 = .ok (.getfield 26, 3) := by decide +kernel
theorem d_St_takeEvent_67 : decode m_St_takeEvent.2.1 67 = .ok (.getfield 166, 3) := by decide +kernel
theorem d_St_takeEvent_70 : decode m_St_takeEvent.2.1 70 = .ok (.iload_n 1, 1) := by decide +kernel
theorem d_St_takeEvent_71 : decode m_St_takeEvent.2.1 71 = .ok (.dup2, 1) := by decide +kernel
theorem d_St_takeEvent_72 : decode m_St_takeEvent.2.1 72 = .ok (.iaload, 1) := by decide +kernel
theorem d_St_takeEvent_73 : decode m_St_takeEvent.2.1 73 = .ok (.iconst 1, 1) := by decide +kernel
theorem d_St_takeEvent_74 : decode m_St_takeEvent.2.1 74 = .ok (.iadd, 1) := by decide +kernel
theorem d_St_takeEvent_75 : decode m_St_takeEvent.2.1 75 = .ok (.iastore, 1) := by decide +kernel
theorem d_St_takeEvent_76 : decode m_St_takeEvent.2.1 76 = .ok (.aload_n 0, 1) := by decide +kernel
theorem d_St_takeEvent_77 : decode m_St_takeEvent.2.1 77 = .ok (.getfield 26, 3) := by decide +kernel
theorem d_St_takeEvent_80 : decode m_St_takeEvent.2.1 80 = .ok (.getfield 317, 3) := by decide +kernel
theorem d_St_takeEvent_83 : decode m_St_takeEvent.2.1 83 = .ok (.iload_n 1, 1) := by decide +kernel
theorem d_St_takeEvent_84 : decode m_St_takeEvent.2.1 84 = .ok (.aload_n 0, 1) := by decide +kernel
theorem d_St_takeEvent_85 : decode m_St_takeEvent.2.1 85 = .ok (.getfield 26, 3) := by decide +kernel
theorem d_St_takeEvent_88 : decode m_St_takeEvent.2.1 88 = .ok (.getfield 317, 3) := by decide +kernel
theorem d_St_takeEvent_91 : decode m_St_takeEvent.2.1 91 = .ok (.iload_n 1, 1) := by decide +kernel
theorem d_St_takeEvent_92 : decode m_St_takeEvent.2.1 92 = .ok (.iaload, 1) := by decide +kernel
theorem d_St_takeEvent_93 : decode m_St_takeEvent.2.1 93 = .ok (.aload_n 2, 1) := by decide +kernel
theorem d_St_takeEvent_94 : decode m_St_takeEvent.2.1 94 = .ok (.getfield 341, 3) := by decide +kernel
theorem d_St_takeEvent_97 : decode m_St_takeEvent.2.1 97 = .ok (.invokestatic 320, 3) := by decide +kernel
theorem d_St_takeEvent_100 : decode m_St_takeEvent.2.1 100 = .ok (.iastore, 1) := by decide +kernel
theorem d_St_takeEvent_101 : decode m_St_takeEvent.2.1 101 = .ok (.aload_n 0, 1) := by decide +kernel
theorem d_St_takeEvent_102 : decode m_St_takeEvent.2.1 102 = .ok (.getfield 10, 3) := by decide +kernel
theorem d_St_takeEvent_105 : decode m_St_takeEvent.2.1 105 = .ok (.getfield 88, 3) := by decide +kernel
theorem d_St_takeEvent_108 : decode m_St_takeEvent.2.1 108 = .ok (.iconst 2, 1) := by decide +kernel
theorem d_St_takeEvent_109 : decode m_St_takeEvent.2.1 109 = .ok (.if_icmp .ne 25, 3) := by decide +kernel
theorem d_St_takeEvent_112 : decode m_St_takeEvent.2.1 112 = .ok (.aload_n 0, 1) := by decide +kernel
theorem d_St_takeEvent_113 : decode m_St_takeEvent.2.1 113 = .ok (.getfield 26, 3) := by decide +kernel
theorem d_St_takeEvent_116 : decode m_St_takeEvent.2.1 116 = .ok (.getfield 227, 3) := by decide +kernel
theorem d_St_takeEvent_119 : decode m_St_takeEvent.2.1 119 = .ok (.aload_n 2, 1) := by decide +kernel
theorem d_St_takeEvent_120 : decode m_St_takeEvent.2.1 120 = .ok (.aload_n 0, 1) := by decide +kernel
theorem d_St_takeEvent_121 : decode m_St_takeEvent.2.1 121 = .ok (.getfield 10, 3) := by decide +kernel
theorem d_St_takeEvent_124 : decode m_St_takeEvent.2.1 124 = .ok (.aload_n 0, 1) := by decide +kernel
theorem d_St_takeEvent_125 : decode m_St_takeEvent.2.1 125 = .ok (.getfield 43, 3) := by decide +kernel
theorem d_St_takeEvent_128 : decode m_St_takeEvent.2.1 128 = .ok (.invokevirtual 344, 3) := by decide +kernel
theorem d_St_takeEvent_131 : decode m_St_takeEvent.2.1 131 = .ok (.goto 22, 3) := by decide +kernel
theorem d_St_takeEvent_134 : decode m_St_takeEvent.2.1 134 = .ok (.aload_n 0, 1) := by decide +kernel
theorem d_St_takeEvent_135 : decode m_St_takeEvent.2.1 135 = .ok (.getfield 26, 3) := by decide +kernel
theorem d_St_takeEvent_138 : decode m_St_takeEvent.2.1 138 = .ok (.getfield 227, 3) := by decide +kernel
theorem d_St_takeEvent_141 : decode m_St_takeEvent.2.1 141 = .ok (.aload_n 2, 1) := by decide +kernel
theorem d_St_takeEvent_142 : decode m_St_takeEvent.2.1 142 = .ok (.aload_n 0, 1) := by decide +kernel
theorem d_St_takeEvent_143 : decode m_St_takeEvent.2.1 143 = .ok (.getfield 10, 3) := by decide +kernel
theorem d_St_takeEvent_146 : decode m_St_takeEvent.2.1 146 = .ok (.aload_n 0, 1) := by decide +kernel
theorem d_St_takeEvent_147 : decode m_St_takeEvent.2.1 147 = .ok (.getfield 43, 3) := by decide +kernel
theorem d_St_takeEvent_150 : decode m_St_takeEvent.2.1 150 = .ok (.invokevirtual 348, 3) := by decide +kernel
theorem d_St_takeEvent_153 : decode m_St_takeEvent.2.1 153 = .ok (.istore_n 3, 1) := by decide +kernel
theorem d_St_takeEvent_154 : decode m_St_takeEvent.2.1 154 = .ok (.iload_n 3, 1) := by decide +kernel
theorem d_St_takeEvent_155 : decode m_St_takeEvent.2.1 155 = .ok (.ifCond .ne 16, 3) := by decide +kernel
theorem d_St_takeEvent_158 : decode m_St_takeEvent.2.1 158 = .ok (.aload_n 0, 1) := by decide +kernel
theorem d_St_takeEvent_159 : decode m_St_takeEvent.2.1 159 = .ok (.getfield 26, 3) := by decide +kernel
theorem d_St_takeEvent_162 : decode m_St_takeEvent.2.1 162 = .ok (.dup, 1) := by decide +kernel
theorem d_St_takeEvent_163 : decode m_St_takeEvent.2.1 163 = .ok (.getfield 266, 3) := by decide +kernel
theorem d_St_takeEvent_166 : decode m_St_takeEvent.2.1 166 = .ok (.iconst 1, 1) := by decide +kernel
theorem d_St_takeEvent_167 : decode m_St_takeEvent.2.1 167 = .ok (.iadd, 1) := by decide +kernel
theorem d_St_takeEvent_168 : decode m_St_takeEvent.2.1 168 = .ok (.putfield 266, 3) := by decide +kernel
theorem d_St_takeEvent_171 : decode m_St_takeEvent.2.1 171 = .ok (.aload_n 0, 1) := by decide +kernel
theorem d_St_takeEvent_172 : decode m_St_takeEvent.2.1 172 = .ok (.invokevirtual 158, 3) := by decide +kernel
theorem d_St_takeEvent_175 : decode m_St_takeEvent.2.1 175 = .ok (.iload_n 3, 1) := by decide +kernel
theorem d_St_takeEvent_176 : decode m_St_takeEvent.2.1 176 = .ok (.ifCond .ne 7, 3) := by decide +kernel
theorem d_St_takeEvent_179 : decode m_St_takeEvent.2.1 179 = .ok (.iconst 2, 1) := by decide +kernel
theorem d_St_takeEvent_180 : decode m_St_takeEvent.2.1 180 = .ok (.goto 15, 3) := by decide +kernel
theorem d_St_takeEvent_183 : decode m_St_takeEvent.2.1 183 = .ok (.aload_n 2, 1) := by decide +kernel
theorem d_St_takeEvent_184 : decode m_St_takeEvent.2.1 184 = .ok (.invokevirtual 351, 3) := by decide +kernel
theorem d_St_takeEvent_187 : decode m_St_takeEvent.2.1 187 = .ok (.ifCond .eq 7, 3) := by decide +kernel
theorem d_St_takeEvent_190 : decode m_St_takeEvent.2.1 190 = .ok (.iconst 1, 1) := by decide +kernel
theorem d_St_takeEvent_191 : decode m_St_takeEvent.2.1 191 = .ok (.goto 4, 3) := by decide +kernel
theorem d_St_takeEvent_194 : decode m_St_takeEvent.2.1 194 = .ok (.iconst 0, 1) := by decide +kernel
theorem d_St_takeEvent_195 : decode m_St_takeEvent.2.1 195 = .ok (.ireturn, 1) := by decide +kernel
theorem d_St_lookAtWatermark_0 : decode m_St_lookAtWatermark.2.1 0 = .ok (.iconst 0, 1) := by decide +kernel
theorem d_St_lookAtWatermark_1 : decode m_St_lookAtWatermark.2.1 1 = .ok (.istore_n 1, 1) := by decide +kernel
theorem d_St_lookAtWatermark_2 : decode m_St_lookAtWatermark.2.1 2 = .ok (.iconst (-1), 1) := by decide +kernel
theorem d_St_lookAtWatermark_3 : decode m_St_lookAtWatermark.2.1 3 = .ok (.istore_n 2, 1) := by decide +kernel
theorem d_St_lookAtWatermark_4 : decode m_St_lookAtWatermark.2.1 4 = .ok (.iconst 0, 1) := by decide +kernel
theorem d_St_lookAtWatermark_5 : decode m_St_lookAtWatermark.2.1 5 = .ok (.istore_n 3, 1) := by decide +kernel
theorem d_St_lookAtWatermark_6 : decode m_St_lookAtWatermark.2.1 6 = .ok (.iload_n 3, 1) := by decide +kernel
theorem d_St_lookAtWatermark_7 : decode m_St_lookAtWatermark.2.1 7 = .ok (.iconst 3, 1) := by decide +kernel
theorem d_St_lookAtWatermark_8 : decode m_St_lookAtWatermark.2.1 8 = .ok (.if_icmp .ge 46, 3) := by decide +kernel
theorem d_St_lookAtWatermark_11 : decode m_St_lookAtWatermark.2.1 11 = .ok (.aload_n 0, 1) := by decide +kernel
theorem d_St_lookAtWatermark_12 : decode m_St_lookAtWatermark.2.1 12 = .ok (.getfield 19, 3) := by decide +kernel
theorem d_St_lookAtWatermark_15 : decode m_St_lookAtWatermark.2.1 15 = .ok (.iload_n 3, 1) := by decide +kernel
theorem d_St_lookAtWatermark_16 : decode m_St_lookAtWatermark.2.1 16 = .ok (.aaload, 1) := by decide +kernel
theorem d_St_lookAtWatermark_17 : decode m_St_lookAtWatermark.2.1 17 = .ok (.getfield 155, 3) := by decide +kernel
theorem d_St_lookAtWatermark_20 : decode m_St_lookAtWatermark.2.1 20 = .ok (.ifCond .ne 28, 3) := by decide +kernel
theorem d_St_lookAtWatermark_23 : decode m_St_lookAtWatermark.2.1 23 = .ok (.aload_n 0, 1) := by decide +kernel
theorem d_St_lookAtWatermark_24 : decode m_St_lookAtWatermark.2.1 24 = .ok (.iload_n 3, 1) := by decide +kernel
theorem d_St_lookAtWatermark_25 : decode m_St_lookAtWatermark.2.1 25 = .ok (.invokevirtual 219, 3) := by decide +kernel
theorem d_St_lookAtWatermark_28 : decode m_St_lookAtWatermark.2.1 28 = .ok (.istore 4, 2) := by decide +kernel
theorem d_St_lookAtWatermark_30 : decode m_St_lookAtWatermark.2.1 30 = .ok (.iload_n 1, 1) := by decide +kernel
theorem d_St_lookAtWatermark_31 : decode m_St_lookAtWatermark.2.1 31 = .ok (.ifCond .eq 12, 3) := by decide +kernel
theorem d_St_lookAtWatermark_34 : decode m_St_lookAtWatermark.2.1 34 = .ok (.iload_n 2, 1) := by decide +kernel
theorem d_St_lookAtWatermark_35 : decode m_St_lookAtWatermark.2.1 35 = .ok (.iload 4, 2) := by decide +kernel
theorem d_St_lookAtWatermark_37 : decode m_St_lookAtWatermark.2.1 37 = .ok (.invokestatic 354, 3) := by decide +kernel
theorem d_St_lookAtWatermark_40 : decode m_St_lookAtWatermark.2.1 40 = .ok (.goto 5, 3) := by decide +kernel
theorem d_St_lookAtWatermark_43 : decode m_St_lookAtWatermark.2.1 43 = .ok (.iload 4, 2) := by decide +kernel
theorem d_St_lookAtWatermark_45 : decode m_St_lookAtWatermark.2.1 45 = .ok (.istore_n 2, 1) := by decide +kernel
theorem d_St_lookAtWatermark_46 : decode m_St_lookAtWatermark.2.1 46 = .ok (.iconst 1, 1) := by decide +kernel
theorem d_St_lookAtWatermark_47 : decode m_St_lookAtWatermark.2.1 47 = .ok (.istore_n 1, 1) := by decide +kernel
theorem d_St_lookAtWatermark_48 : decode m_St_lookAtWatermark.2.1 48 = .ok (.iinc 3 1, 3) := by decide +kernel
theorem d_St_lookAtWatermark_51 : decode m_St_lookAtWatermark.2.1 51 = .ok (.goto (-45), 3) := by decide +kernel
theorem d_St_lookAtWatermark_54 : decode m_St_lookAtWatermark.2.1 54 = .ok (.iload_n 1, 1) := by decide +kernel
theorem d_St_lookAtWatermark_55 : decode m_St_lookAtWatermark.2.1 55 = .ok (.ifCond .eq 21, 3) := by decide +kernel
theorem d_St_lookAtWatermark_58 : decode m_St_lookAtWatermark.2.1 58 = .ok (.aload_n 0, 1) := by decide +kernel
theorem d_St_lookAtWatermark_59 : decode m_St_lookAtWatermark.2.1 59 = .ok (.getfield 26, 3) := by decide +kernel
theorem d_St_lookAtWatermark_62 : decode m_St_lookAtWatermark.2.1 62 = .ok (.aload_n 0, 1) := by decide +kernel
theorem d_St_lookAtWatermark_63 : decode m_St_lookAtWatermark.2.1 63 = .ok (.getfield 26, 3) := by decide +kernel
theorem d_St_lookAtWatermark_66 : decode m_St_lookAtWatermark.2.1 66 = .ok (.getfield 216, 3) := by decide +kernel
theorem d_St_lookAtWatermark_69 : decode m_St_lookAtWatermark.2.1 69 = .ok (.iload_n 2, 1) := by decide +kernel
theorem d_St_lookAtWatermark_70 : decode m_St_lookAtWatermark.2.1 70 = .ok (.invokestatic 320, 3) := by decide +kernel
theorem d_St_lookAtWatermark_73 : decode m_St_lookAtWatermark.2.1 73 = .ok (.putfield 216, 3) := by decide +kernel
theorem d_St_lookAtWatermark_76 : decode m_St_lookAtWatermark.2.1 76 = .ok (.aload_n 0, 1) := by decide +kernel
theorem d_St_lookAtWatermark_77 : decode m_St_lookAtWatermark.2.1 77 = .ok (.getfield 26, 3) := by decide +kernel
theorem d_St_lookAtWatermark_80 : decode m_St_lookAtWatermark.2.1 80 = .ok (.getfield 227, 3) := by decide +kernel
theorem d_St_lookAtWatermark_83 : decode m_St_lookAtWatermark.2.1 83 = .ok (.aload_n 0, 1) := by decide +kernel
theorem d_St_lookAtWatermark_84 : decode m_St_lookAtWatermark.2.1 84 = .ok (.getfield 26, 3) := by decide +kernel
theorem d_St_lookAtWatermark_87 : decode m_St_lookAtWatermark.2.1 87 = .ok (.getfield 216, 3) := by decide +kernel
theorem d_St_lookAtWatermark_90 : decode m_St_lookAtWatermark.2.1 90 = .ok (.aload_n 0, 1) := by decide +kernel
theorem d_St_lookAtWatermark_91 : decode m_St_lookAtWatermark.2.1 91 = .ok (.getfield 43, 3) := by decide +kernel
theorem d_St_lookAtWatermark_94 : decode m_St_lookAtWatermark.2.1 94 = .ok (.invokevirtual 357, 3) := by decide +kernel
theorem d_St_lookAtWatermark_97 : decode m_St_lookAtWatermark.2.1 97 = .ok (.return_, 1) := by decide +kernel
theorem d_St_takeSnapshot_0 : decode m_St_takeSnapshot.2.1 0 = .ok (.aload_n 0, 1) := by decide +kernel
theorem d_St_takeSnapshot_1 : decode m_St_takeSnapshot.2.1 1 = .ok (.getfield 30, 3) := by decide +kernel
theorem d_St_takeSnapshot_4 : decode m_St_takeSnapshot.2.1 4 = .ok (.aload_n 0, 1) := by decide +kernel
theorem d_St_takeSnapshot_5 : decode m_St_takeSnapshot.2.1 5 = .ok (.getfield 26, 3) := by decide +kernel
theorem d_St_takeSnapshot_8 : decode m_St_takeSnapshot.2.1 8 = .ok (.invokevirtual 361, 3) := by decide +kernel
theorem d_St_takeSnapshot_11 : decode m_St_takeSnapshot.2.1 11 = .ok (.iconst 0, 1) := by decide +kernel
theorem d_St_takeSnapshot_12 : decode m_St_takeSnapshot.2.1 12 = .ok (.istore_n 1, 1) := by decide +kernel
theorem d_St_takeSnapshot_13 : decode m_St_takeSnapshot.2.1 13 = .ok (.iload_n 1, 1) := by decide +kernel
theorem d_St_takeSnapshot_14 : decode m_St_takeSnapshot.2.1 14 = .ok (.iconst 3, 1) := by decide +kernel
theorem d_St_takeSnapshot_15 : decode m_St_takeSnapshot.2.1 15 = .ok (.if_icmp .ge 27, 3) := by decide +kernel
theorem d_St_takeSnapshot_18 : decode m_St_takeSnapshot.2.1 18 = .ok (.aload_n 0, 1) := by decide +kernel
theorem d_St_takeSnapshot_19 : decode m_St_takeSnapshot.2.1 19 = .ok (.getfield 30, 3) := by decide +kernel
theorem d_St_takeSnapshot_22 : decode m_St_takeSnapshot.2.1 22 = .ok (.getfield 143, 3) := by decide +kernel
theorem d_St_takeSnapshot_25 : decode m_St_takeSnapshot.2.1 25 = .ok (.iload_n 1, 1) := by decide +kernel
theorem d_St_takeSnapshot_26 : decode m_St_takeSnapshot.2.1 26 = .ok (.aload_n 0, 1) := by decide +kernel
theorem d_St_takeSnapshot_27 : decode m_St_takeSnapshot.2.1 27 = .ok (.getfield 50, 3) := by decide +kernel
theorem d_St_takeSnapshot_30 : decode m_St_takeSnapshot.2.1 30 = .ok (.getfield 365, 3) := by decide +kernel
theorem d_St_takeSnapshot_33 : decode m_St_takeSnapshot.2.1 33 = .ok (.iload_n 1, 1) := by decide +kernel
theorem d_St_takeSnapshot_34 : decode m_St_takeSnapshot.2.1 34 = .ok (.iaload, 1) := by decide +kernel
theorem d_St_takeSnapshot_35 : decode m_St_takeSnapshot.2.1 35 = .ok (.iastore, 1) := by decide +kernel
theorem d_St_takeSnapshot_36 : decode m_St_takeSnapshot.2.1 36 = .ok (.iinc 1 1, 3) := by decide +kernel
theorem d_St_takeSnapshot_39 : decode m_St_takeSnapshot.2.1 39 = .ok (.goto (-26), 3) := by decide +kernel
theorem d_St_takeSnapshot_42 : decode m_St_takeSnapshot.2.1 42 = .ok (.aload_n 0, 1) := by decide +kernel
theorem d_St_takeSnapshot_43 : decode m_St_takeSnapshot.2.1 43 = .ok (.getfield 43, 3) := by decide +kernel
theorem d_St_takeSnapshot_46 : decode m_St_takeSnapshot.2.1 46 = .ok (.aload_n 0, 1) := by decide +kernel
theorem d_St_takeSnapshot_47 : decode m_St_takeSnapshot.2.1 47 = .ok (.getfield 43, 3) := by decide +kernel
theorem d_St_takeSnapshot_50 : decode m_St_takeSnapshot.2.1 50 = .ok (.getfield 275, 3) := by decide +kernel
theorem d_St_takeSnapshot_53 : decode m_St_takeSnapshot.2.1 53 = .ok (.putfield 368, 3) := by decide +kernel
theorem d_St_takeSnapshot_56 : decode m_St_takeSnapshot.2.1 56 = .ok (.aload_n 0, 1) := by decide +kernel
theorem d_St_takeSnapshot_57 : decode m_St_takeSnapshot.2.1 57 = .ok (.dup, 1) := by decide +kernel
theorem d_St_takeSnapshot_58 : decode m_St_takeSnapshot.2.1 58 = .ok (.getfield 58, 3) := by decide +kernel
theorem d_St_takeSnapshot_61 : decode m_St_takeSnapshot.2.1 61 = .ok (.iconst 1, 1) := by decide +kernel
theorem d_St_takeSnapshot_62 : decode m_St_takeSnapshot.2.1 62 = .ok (.iadd, 1) := by decide +kernel
theorem d_St_takeSnapshot_63 : decode m_St_takeSnapshot.2.1 63 = .ok (.putfield 58, 3) := by decide +kernel
theorem d_St_takeSnapshot_66 : decode m_St_takeSnapshot.2.1 66 = .ok (.aload_n 0, 1) := by decide +kernel
theorem d_St_takeSnapshot_67 : decode m_St_takeSnapshot.2.1 67 = .ok (.iconst 1, 1) := by decide +kernel
theorem d_St_takeSnapshot_68 : decode m_St_takeSnapshot.2.1 68 = .ok (.putfield 62, 3) := by decide +kernel
theorem d_St_takeSnapshot_71 : decode m_St_takeSnapshot.2.1 71 = .ok (.return_, 1) := by decide +kernel
theorem d_St_commitSnapshot_0 : decode m_St_commitSnapshot.2.1 0 = .ok (.aload_n 0, 1) := by decide +kernel
theorem d_St_commitSnapshot_1 : decode m_St_commitSnapshot.2.1 1 = .ok (.getfield 43, 3) := by decide +kernel
theorem d_St_commitSnapshot_4 : decode m_St_commitSnapshot.2.1 4 = .ok (.aload_n 0, 1) := by decide +kernel
theorem d_St_commitSnapshot_5 : decode m_St_commitSnapshot.2.1 5 = .ok (.getfield 43, 3) := by decide +kernel
theorem d_St_commitSnapshot_8 : decode m_St_commitSnapshot.2.1 8 = .ok (.getfield 368, 3) := by decide +kernel
theorem d_St_commitSnapshot_11 : decode m_St_commitSnapshot.2.1 11 = .ok (.putfield 202, 3) := by decide +kernel
theorem d_St_commitSnapshot_14 : decode m_St_commitSnapshot.2.1 14 = .ok (.aload_n 0, 1) := by decide +kernel
theorem d_St_commitSnapshot_15 : decode m_St_commitSnapshot.2.1 15 = .ok (.getfield 36, 3) := by decide +kernel
theorem d_St_commitSnapshot_18 : decode m_St_commitSnapshot.2.1 18 = .ok (.aload_n 0, 1) := by decide +kernel
theorem d_St_commitSnapshot_19 : decode m_St_commitSnapshot.2.1 19 = .ok (.getfield 30, 3) := by decide +kernel
theorem d_St_commitSnapshot_22 : decode m_St_commitSnapshot.2.1 22 = .ok (.getfield 338, 3) := by decide +kernel
theorem d_St_commitSnapshot_25 : decode m_St_commitSnapshot.2.1 25 = .ok (.putfield 371, 3) := by decide +kernel
theorem d_St_commitSnapshot_28 : decode m_St_commitSnapshot.2.1 28 = .ok (.aload_n 0, 1) := by decide +kernel
theorem d_St_commitSnapshot_29 : decode m_St_commitSnapshot.2.1 29 = .ok (.getfield 36, 3) := by decide +kernel
theorem d_St_commitSnapshot_32 : decode m_St_commitSnapshot.2.1 32 = .ok (.aload_n 0, 1) := by decide +kernel
theorem d_St_commitSnapshot_33 : decode m_St_commitSnapshot.2.1 33 = .ok (.getfield 30, 3) := by decide +kernel
theorem d_St_commitSnapshot_36 : decode m_St_commitSnapshot.2.1 36 = .ok (.getfield 216, 3) := by decide +kernel
theorem d_St_commitSnapshot_39 : decode m_St_commitSnapshot.2.1 39 = .ok (.putfield 299, 3) := by decide +kernel
theorem d_St_commitSnapshot_42 : decode m_St_commitSnapshot.2.1 42 = .ok (.aload_n 0, 1) := by decide +kernel
theorem d_St_commitSnapshot_43 : decode m_St_commitSnapshot.2.1 43 = .ok (.iconst 0, 1) := by decide +kernel
theorem d_St_commitSnapshot_44 : decode m_St_commitSnapshot.2.1 44 = .ok (.putfield 62, 3) := by decide +kernel
theorem d_St_commitSnapshot_47 : decode m_St_commitSnapshot.2.1 47 = .ok (.return_, 1) := by decide +kernel
theorem d_St_fallBack_0 : decode m_St_fallBack.2.1 0 = .ok (.aload_n 0, 1) := by decide +kernel
theorem d_St_fallBack_1 : decode m_St_fallBack.2.1 1 = .ok (.invokevirtual 199, 3) := by decide +kernel
theorem d_St_fallBack_4 : decode m_St_fallBack.2.1 4 = .ok (.aload_n 0, 1) := by decide +kernel
theorem d_St_fallBack_5 : decode m_St_fallBack.2.1 5 = .ok (.getfield 43, 3) := by decide +kernel
theorem d_St_fallBack_8 : decode m_St_fallBack.2.1 8 = .ok (.aload_n 0, 1) := by decide +kernel
theorem d_St_fallBack_9 : decode m_St_fallBack.2.1 9 = .ok (.getfield 43, 3) := by decide +kernel
theorem d_St_fallBack_12 : decode m_St_fallBack.2.1 12 = .ok (.getfield 368, 3) := by decide +kernel
theorem d_St_fallBack_15 : decode m_St_fallBack.2.1 15 = .ok (.putfield 275, 3) := by decide +kernel
theorem d_St_fallBack_18 : decode m_St_fallBack.2.1 18 = .ok (.aload_n 0, 1) := by decide +kernel
theorem d_St_fallBack_19 : decode m_St_fallBack.2.1 19 = .ok (.getfield 26, 3) := by decide +kernel
theorem d_St_fallBack_22 : decode m_St_fallBack.2.1 22 = .ok (.aload_n 0, 1) := by decide +kernel
theorem d_St_fallBack_23 : decode m_St_fallBack.2.1 23 = .ok (.getfield 30, 3) := by decide +kernel
theorem d_St_fallBack_26 : decode m_St_fallBack.2.1 26 = .ok (.invokevirtual 361, 3) := by decide +kernel
theorem d_St_fallBack_29 : decode m_St_fallBack.2.1 29 = .ok (.aload_n 0, 1) := by decide +kernel
theorem d_St_fallBack_30 : decode m_St_fallBack.2.1 30 = .ok (.getfield 36, 3) := by decide +kernel
theorem d_St_fallBack_33 : decode m_St_fallBack.2.1 33 = .ok (.aload_n 0, 1) := by decide +kernel
theorem d_St_fallBack_34 : decode m_St_fallBack.2.1 34 = .ok (.getfield 26, 3) := by decide +kernel
theorem d_St_fallBack_37 : decode m_St_fallBack.2.1 37 = .ok (.getfield 338, 3) := by decide +kernel
theorem d_St_fallBack_40 : decode m_St_fallBack.2.1 40 = .ok (.invokevirtual 374, 3) := by decide +kernel
theorem d_St_fallBack_43 : decode m_St_fallBack.2.1 43 = .ok (.aload_n 0, 1) := by decide +kernel
theorem d_St_fallBack_44 : decode m_St_fallBack.2.1 44 = .ok (.getfield 50, 3) := by decide +kernel
theorem d_St_fallBack_47 : decode m_St_fallBack.2.1 47 = .ok (.iconst 0, 1) := by decide +kernel
theorem d_St_fallBack_48 : decode m_St_fallBack.2.1 48 = .ok (.putfield 185, 3) := by decide +kernel
theorem d_St_fallBack_51 : decode m_St_fallBack.2.1 51 = .ok (.aload_n 0, 1) := by decide +kernel
theorem d_St_fallBack_52 : decode m_St_fallBack.2.1 52 = .ok (.invokevirtual 158, 3) := by decide +kernel
theorem d_St_fallBack_55 : decode m_St_fallBack.2.1 55 = .ok (.return_, 1) := by decide +kernel
theorem d_AbC_init_0 : decode m_AbC_init.2.1 0 = .ok (.aload_n 0, 1) := by decide +kernel
theorem d_AbC_init_1 : decode m_AbC_init.2.1 1 = .ok (.invokespecial 1, 3) := by decide +kernel
theorem d_AbC_init_4 : decode m_AbC_init.2.1 4 = .ok (.return_, 1) := by decide +kernel
theorem d_AbL_init_0 : decode m_AbL_init.2.1 0 = .ok (.aload_n 0, 1) := by decide +kernel
theorem d_AbL_init_1 : decode m_AbL_init.2.1 1 = .ok (.invokespecial 1, 3) := by decide +kernel
theorem d_AbL_init_4 : decode m_AbL_init.2.1 4 = .ok (.aload_n 0, 1) := by decide +kernel
theorem d_AbL_init_5 : decode m_AbL_init.2.1 5 = .ok (.iconst 0, 1) := by decide +kernel
theorem d_AbL_init_6 : decode m_AbL_init.2.1 6 = .ok (.putfield 7, 3) := by decide +kernel
theorem d_AbL_init_9 : decode m_AbL_init.2.1 9 = .ok (.return_, 1) := by decide +kernel
theorem d_AL_init_0 : decode m_AL_init.2.1 0 = .ok (.aload_n 0, 1) := by decide +kernel
theorem d_AL_init_1 : decode m_AL_init.2.1 1 = .ok (.invokespecial 1, 3) := by decide +kernel
theorem d_AL_init_4 : decode m_AL_init.2.1 4 = .ok (.aload_n 0, 1) := by decide +kernel
theorem d_AL_init_5 : decode m_AL_init.2.1 5 = .ok (.getstatic 39, 3) := by decide +kernel
theorem d_AL_init_8 : decode m_AL_init.2.1 8 = .ok (.putfield 9, 3) := by decide +kernel
theorem d_AL_init_11 : decode m_AL_init.2.1 11 = .ok (.return_, 1) := by decide +kernel
theorem d_AL_grow1_0 : decode m_AL_grow1.2.1 0 = .ok (.aload_n 0, 1) := by decide +kernel
theorem d_AL_grow1_1 : decode m_AL_grow1.2.1 1 = .ok (.getfield 9, 3) := by decide +kernel
theorem d_AL_grow1_4 : decode m_AL_grow1.2.1 4 = .ok (.arraylength, 1) := by decide +kernel
theorem d_AL_grow1_5 : decode m_AL_grow1.2.1 5 = .ok (.istore_n 2, 1) := by decide +kernel
theorem d_AL_grow1_6 : decode m_AL_grow1.2.1 6 = .ok (.iload_n 2, 1) := by decide +kernel
theorem d_AL_grow1_7 : decode m_AL_grow1.2.1 7 = .ok (.ifCond .gt 13, 3) := by decide +kernel
theorem d_AL_grow1_10 : decode m_AL_grow1.2.1 10 = .ok (.aload_n 0, 1) := by decide +kernel
theorem d_AL_grow1_11 : decode m_AL_grow1.2.1 11 = .ok (.getfield 9, 3) := by decide +kernel
theorem d_AL_grow1_14 : decode m_AL_grow1.2.1 14 = .ok (.getstatic 39, 3) := by decide +kernel
theorem d_AL_grow1_17 : decode m_AL_grow1.2.1 17 = .ok (.if_acmp .eq 28, 3) := by decide +kernel
theorem d_AL_grow1_20 : decode m_AL_grow1.2.1 20 = .ok (.iload_n 2, 1) := by decide +kernel
theorem d_AL_grow1_21 : decode m_AL_grow1.2.1 21 = .ok (.iload_n 1, 1) := by decide +kernel
theorem d_AL_grow1_22 : decode m_AL_grow1.2.1 22 = .ok (.iload_n 2, 1) := by decide +kernel
theorem d_AL_grow1_23 : decode m_AL_grow1.2.1 23 = .ok (.isub, 1) := by decide +kernel
theorem d_AL_grow1_24 : decode m_AL_grow1.2.1 24 = .ok (.iload_n 2, 1) := by decide +kernel
theorem d_AL_grow1_25 : decode m_AL_grow1.2.1 25 = .ok (.iconst 1, 1) := by decide +kernel
theorem d_AL_grow1_26 : decode m_AL_grow1.2.1 26 = .ok (.ishr, 1) := by decide +kernel
theorem d_AL_grow1_27 : decode m_AL_grow1.2.1 27 = .ok (.invokestatic 73, 3) := by decide +kernel
theorem d_AL_grow1_30 : decode m_AL_grow1.2.1 30 = .ok (.istore_n 3, 1) := by decide +kernel
theorem d_AL_grow1_31 : decode m_AL_grow1.2.1 31 = .ok (.aload_n 0, 1) := by decide +kernel
theorem d_AL_grow1_32 : decode m_AL_grow1.2.1 32 = .ok (.aload_n 0, 1) := by decide +kernel
theorem d_AL_grow1_33 : decode m_AL_grow1.2.1 33 = .ok (.getfield 9, 3) := by decide +kernel
theorem d_AL_grow1_36 : decode m_AL_grow1.2.1 36 = .ok (.iload_n 3, 1) := by decide +kernel
theorem d_AL_grow1_37 : decode m_AL_grow1.2.1 37 = .ok (.invokestatic 66, 3) := by decide +kernel
theorem d_AL_grow1_40 : decode m_AL_grow1.2.1 40 = .ok (.dup_x1, 1) := by decide +kernel
theorem d_AL_grow1_41 : decode m_AL_grow1.2.1 41 = .ok (.putfield 9, 3) := by decide +kernel
theorem d_AL_grow1_44 : decode m_AL_grow1.2.1 44 = .ok (.areturn, 1) := by decide +kernel
theorem d_AL_grow1_45 : decode m_AL_grow1.2.1 45 = .ok (.aload_n 0, 1) := by decide +kernel
theorem d_AL_grow1_46 : decode m_AL_grow1.2.1 46 = .ok (.bipush 10, 2) := by decide +kernel
theorem d_AL_grow1_48 : decode m_AL_grow1.2.1 48 = .ok (.iload_n 1, 1) := by decide +kernel
theorem d_AL_grow1_49 : decode m_AL_grow1.2.1 49 = .ok (.invokestatic 79, 3) := by decide +kernel
theorem d_AL_grow1_52 : decode m_AL_grow1.2.1 52 = .ok (.anewarray 7, 3) := by decide +kernel
theorem d_AL_grow1_55 : decode m_AL_grow1.2.1 55 = .ok (.dup_x1, 1) := by decide +kernel
theorem d_AL_grow1_56 : decode m_AL_grow1.2.1 56 = .ok (.putfield 9, 3) := by decide +kernel
theorem d_AL_grow1_59 : decode m_AL_grow1.2.1 59 = .ok (.areturn, 1) := by decide +kernel
theorem d_AL_grow_0 : decode m_AL_grow.2.1 0 = .ok (.aload_n 0, 1) := by decide +kernel
theorem d_AL_grow_1 : decode m_AL_grow.2.1 1 = .ok (.aload_n 0, 1) := by decide +kernel
theorem d_AL_grow_2 : decode m_AL_grow.2.1 2 = .ok (.getfield 48, 3) := by decide +kernel
theorem d_AL_grow_5 : decode m_AL_grow.2.1 5 = .ok (.iconst 1, 1) := by decide +kernel
theorem d_AL_grow_6 : decode m_AL_grow.2.1 6 = .ok (.iadd, 1) := by decide +kernel
theorem d_AL_grow_7 : decode m_AL_grow.2.1 7 = .ok (.invokevirtual 69, 3) := by decide +kernel
theorem d_AL_grow_10 : decode m_AL_grow.2.1 10 = .ok (.areturn, 1) := by decide +kernel
theorem d_AL_size_0 : decode m_AL_size.2.1 0 = .ok (.aload_n 0, 1) := by decide +kernel
theorem d_AL_size_1 : decode m_AL_size.2.1 1 = .ok (.getfield 48, 3) := by decide +kernel
theorem d_AL_size_4 : decode m_AL_size.2.1 4 = .ok (.ireturn, 1) := by decide +kernel
theorem d_AL_elementData_0 : decode m_AL_elementData.2.1 0 = .ok (.aload_n 0, 1) := by decide +kernel
theorem d_AL_elementData_1 : decode m_AL_elementData.2.1 1 = .ok (.getfield 9, 3) := by decide +kernel
theorem d_AL_elementData_4 : decode m_AL_elementData.2.1 4 = .ok (.iload_n 1, 1) := by decide +kernel
theorem d_AL_elementData_5 : decode m_AL_elementData.2.1 5 = .ok (.aaload, 1) := by decide +kernel
theorem d_AL_elementData_6 : decode m_AL_elementData.2.1 6 = .ok (.areturn, 1) := by decide +kernel
theorem d_AL_get_0 : decode m_AL_get.2.1 0 = .ok (.iload_n 1, 1) := by decide +kernel
theorem d_AL_get_1 : decode m_AL_get.2.1 1 = .ok (.aload_n 0, 1) := by decide +kernel
theorem d_AL_get_2 : decode m_AL_get.2.1 2 = .ok (.getfield 48, 3) := by decide +kernel
theorem d_AL_get_5 : decode m_AL_get.2.1 5 = .ok (.invokestatic 118, 3) := by decide +kernel
theorem d_AL_get_8 : decode m_AL_get.2.1 8 = .ok (.pop, 1) := by decide +kernel
theorem d_AL_get_9 : decode m_AL_get.2.1 9 = .ok (.aload_n 0, 1) := by decide +kernel
theorem d_AL_get_10 : decode m_AL_get.2.1 10 = .ok (.iload_n 1, 1) := by decide +kernel
theorem d_AL_get_11 : decode m_AL_get.2.1 11 = .ok (.invokevirtual 123, 3) := by decide +kernel
theorem d_AL_get_14 : decode m_AL_get.2.1 14 = .ok (.areturn, 1) := by decide +kernel
theorem d_AL_add3_0 : decode m_AL_add3.2.1 0 = .ok (.iload_n 3, 1) := by decide +kernel
theorem d_AL_add3_1 : decode m_AL_add3.2.1 1 = .ok (.aload_n 2, 1) := by decide +kernel
theorem d_AL_add3_2 : decode m_AL_add3.2.1 2 = .ok (.arraylength, 1) := by decide +kernel
theorem d_AL_add3_3 : decode m_AL_add3.2.1 3 = .ok (.if_icmp .ne 8, 3) := by decide +kernel
theorem d_AL_add3_6 : decode m_AL_add3.2.1 6 = .ok (.aload_n 0, 1) := by decide +kernel
theorem d_AL_add3_7 : decode m_AL_add3.2.1 7 = .ok (.invokevirtual 129, 3) := by decide +kernel
theorem d_AL_add3_10 : decode m_AL_add3.2.1 10 = .ok (.astore_n 2, 1) := by decide +kernel
theorem d_AL_add3_11 : decode m_AL_add3.2.1 11 = .ok (.aload_n 2, 1) := by decide +kernel
theorem d_AL_add3_12 : decode m_AL_add3.2.1 12 = .ok (.iload_n 3, 1) := by decide +kernel
theorem d_AL_add3_13 : decode m_AL_add3.2.1 13 = .ok (.aload_n 1, 1) := by decide +kernel
theorem d_AL_add3_14 : decode m_AL_add3.2.1 14 = .ok (.aastore, 1) := by decide +kernel
theorem d_AL_add3_15 : decode m_AL_add3.2.1 15 = .ok (.aload_n 0, 1) := by decide +kernel
theorem d_AL_add3_16 : decode m_AL_add3.2.1 16 = .ok (.iload_n 3, 1) := by decide +kernel
theorem d_AL_add3_17 : decode m_AL_add3.2.1 17 = .ok (.iconst 1, 1) := by decide +kernel
theorem d_AL_add3_18 : decode m_AL_add3.2.1 18 = .ok (.iadd, 1) := by decide +kernel
theorem d_AL_add3_19 : decode m_AL_add3.2.1 19 = .ok (.putfield 48, 3) := by decide +kernel
theorem d_AL_add3_22 : decode m_AL_add3.2.1 22 = .ok (.return_, 1) := by decide +kernel
theorem d_AL_add_0 : decode m_AL_add.2.1 0 = .ok (.aload_n 0, 1) := by decide +kernel
theorem d_AL_add_1 : decode m_AL_add.2.1 1 = .ok (.dup, 1) := by decide +kernel
theorem d_AL_add_2 : decode m_AL_add.2.1 2 = .ok (.getfield 63, 3) := by decide +kernel
theorem d_AL_add_5 : decode m_AL_add.2.1 5 = .ok (.iconst 1, 1) := by decide +kernel
theorem d_AL_add_6 : decode m_AL_add.2.1 6 = .ok (.iadd, 1) := by decide +kernel
theorem d_AL_add_7 : decode m_AL_add.2.1 7 = .ok (.putfield 63, 3) := by decide +kernel
theorem d_AL_add_10 : decode m_AL_add.2.1 10 = .ok (.aload_n 0, 1) := by decide +kernel
theorem d_AL_add_11 : decode m_AL_add.2.1 11 = .ok (.aload_n 1, 1) := by decide +kernel
theorem d_AL_add_12 : decode m_AL_add.2.1 12 = .ok (.aload_n 0, 1) := by decide +kernel
theorem d_AL_add_13 : decode m_AL_add.2.1 13 = .ok (.getfield 9, 3) := by decide +kernel
theorem d_AL_add_16 : decode m_AL_add.2.1 16 = .ok (.aload_n 0, 1) := by decide +kernel
theorem d_AL_add_17 : decode m_AL_add.2.1 17 = .ok (.getfield 48, 3) := by decide +kernel
theorem d_AL_add_20 : decode m_AL_add.2.1 20 = .ok (.invokevirtual 131, 3) := by decide +kernel
theorem d_AL_add_23 : decode m_AL_add.2.1 23 = .ok (.iconst 1, 1) := by decide +kernel
theorem d_AL_add_24 : decode m_AL_add.2.1 24 = .ok (.ireturn, 1) := by decide +kernel
theorem d_AL_addAt_0 : decode m_AL_addAt.2.1 0 = .ok (.aload_n 0, 1) := by decide +kernel
theorem d_AL_addAt_1 : decode m_AL_addAt.2.1 1 = .ok (.iload_n 1, 1) := by decide +kernel
theorem d_AL_addAt_2 : decode m_AL_addAt.2.1 2 = .ok (.invokevirtual 135, 3) := by decide +kernel
theorem d_AL_addAt_5 : decode m_AL_addAt.2.1 5 = .ok (.aload_n 0, 1) := by decide +kernel
theorem d_AL_addAt_6 : decode m_AL_addAt.2.1 6 = .ok (.dup, 1) := by decide +kernel
theorem d_AL_addAt_7 : decode m_AL_addAt.2.1 7 = .ok (.getfield 63, 3) := by decide +kernel
theorem d_AL_addAt_10 : decode m_AL_addAt.2.1 10 = .ok (.iconst 1, 1) := by decide +kernel
theorem d_AL_addAt_11 : decode m_AL_addAt.2.1 11 = .ok (.iadd, 1) := by decide +kernel
theorem d_AL_addAt_12 : decode m_AL_addAt.2.1 12 = .ok (.putfield 63, 3) := by decide +kernel
theorem d_AL_addAt_15 : decode m_AL_addAt.2.1 15 = .ok (.aload_n 0, 1) := by decide +kernel
theorem d_AL_addAt_16 : decode m_AL_addAt.2.1 16 = .ok (.getfield 48, 3) := by decide +kernel
theorem d_AL_addAt_19 : decode m_AL_addAt.2.1 19 = .ok (.dup, 1) := by decide +kernel
theorem d_AL_addAt_20 : decode m_AL_addAt.2.1 20 = .ok (.istore_n 3, 1) := by decide +kernel
theorem d_AL_addAt_21 : decode m_AL_addAt.2.1 21 = .ok (.aload_n 0, 1) := by decide +kernel
theorem d_AL_addAt_22 : decode m_AL_addAt.2.1 22 = .ok (.getfield 9, 3) := by decide +kernel
theorem d_AL_addAt_25 : decode m_AL_addAt.2.1 25 = .ok (.dup, 1) := by decide +kernel
theorem d_AL_addAt_26 : decode m_AL_addAt.2.1 26 = .ok (.astore 4, 2) := by decide +kernel
theorem d_AL_addAt_28 : decode m_AL_addAt.2.1 28 = .ok (.arraylength, 1) := by decide +kernel
theorem d_AL_addAt_29 : decode m_AL_addAt.2.1 29 = .ok (.if_icmp .ne 9, 3) := by decide +kernel
theorem d_AL_addAt_32 : decode m_AL_addAt.2.1 32 = .ok (.aload_n 0, 1) := by decide +kernel
theorem d_AL_addAt_33 : decode m_AL_addAt.2.1 33 = .ok (.invokevirtual 129, 3) := by decide +kernel
theorem d_AL_addAt_36 : decode m_AL_addAt.2.1 36 = .ok (.astore 4, 2) := by decide +kernel
theorem d_AL_addAt_38 : decode m_AL_addAt.2.1 38 = .ok (.aload 4, 2) := by decide +kernel
theorem d_AL_addAt_40 : decode m_AL_addAt.2.1 40 = .ok (.iload_n 1, 1) := by decide +kernel
theorem d_AL_addAt_41 : decode m_AL_addAt.2.1 41 = .ok (.aload 4, 2) := by decide +kernel
theorem d_AL_addAt_43 : decode m_AL_addAt.2.1 43 = .ok (.iload_n 1, 1) := by decide +kernel
theorem d_AL_addAt_44 : decode m_AL_addAt.2.1 44 = .ok (.iconst 1, 1) := by decide +kernel
theorem d_AL_addAt_45 : decode m_AL_addAt.2.1 45 = .ok (.iadd, 1) := by decide +kernel
theorem d_AL_addAt_46 : decode m_AL_addAt.2.1 46 = .ok (.iload_n 3, 1) := by decide +kernel
theorem d_AL_addAt_47 : decode m_AL_addAt.2.1 47 = .ok (.iload_n 1, 1) := by decide +kernel
theorem d_AL_addAt_48 : decode m_AL_addAt.2.1 48 = .ok (.isub, 1) := by decide +kernel
theorem d_AL_addAt_49 : decode m_AL_addAt.2.1 49 = .ok (.invokestatic 112, 3) := by decide +kernel
theorem d_AL_addAt_52 : decode m_AL_addAt.2.1 52 = .ok (.aload 4, 2) := by decide +kernel
theorem d_AL_addAt_54 : decode m_AL_addAt.2.1 54 = .ok (.iload_n 1, 1) := by decide +kernel
theorem d_AL_addAt_55 : decode m_AL_addAt.2.1 55 = .ok (.aload_n 2, 1) := by decide +kernel
theorem d_AL_addAt_56 : decode m_AL_addAt.2.1 56 = .ok (.aastore, 1) := by decide +kernel
theorem d_AL_addAt_57 : decode m_AL_addAt.2.1 57 = .ok (.aload_n 0, 1) := by decide +kernel
theorem d_AL_addAt_58 : decode m_AL_addAt.2.1 58 = .ok (.iload_n 3, 1) := by decide +kernel
theorem d_AL_addAt_59 : decode m_AL_addAt.2.1 59 = .ok (.iconst 1, 1) := by decide +kernel
theorem d_AL_addAt_60 : decode m_AL_addAt.2.1 60 = .ok (.iadd, 1) := by decide +kernel
theorem d_AL_addAt_61 : decode m_AL_addAt.2.1 61 = .ok (.putfield 48, 3) := by decide +kernel
theorem d_AL_addAt_64 : decode m_AL_addAt.2.1 64 = .ok (.return_, 1) := by decide +kernel
theorem d_AL_remove_0 : decode m_AL_remove.2.1 0 = .ok (.iload_n 1, 1) := by decide +kernel
theorem d_AL_remove_1 : decode m_AL_remove.2.1 1 = .ok (.aload_n 0, 1) := by decide +kernel
theorem d_AL_remove_2 : decode m_AL_remove.2.1 2 = .ok (.getfield 48, 3) := by decide +kernel
theorem d_AL_remove_5 : decode m_AL_remove.2.1 5 = .ok (.invokestatic 118, 3) := by decide +kernel
theorem d_AL_remove_8 : decode m_AL_remove.2.1 8 = .ok (.pop, 1) := by decide +kernel
theorem d_AL_remove_9 : decode m_AL_remove.2.1 9 = .ok (.aload_n 0, 1) := by decide +kernel
theorem d_AL_remove_10 : decode m_AL_remove.2.1 10 = .ok (.getfield 9, 3) := by decide +kernel
theorem d_AL_remove_13 : decode m_AL_remove.2.1 13 = .ok (.astore_n 2, 1) := by decide +kernel
theorem d_AL_remove_14 : decode m_AL_remove.2.1 14 = .ok (.aload_n 2, 1) := by decide +kernel
theorem d_AL_remove_15 : decode m_AL_remove.2.1 15 = .ok (.iload_n 1, 1) := by decide +kernel
theorem d_AL_remove_16 : decode m_AL_remove.2.1 16 = .ok (.aaload, 1) := by decide +kernel
theorem d_AL_remove_17 : decode m_AL_remove.2.1 17 = .ok (.astore_n 3, 1) := by decide +kernel
theorem d_AL_remove_18 : decode m_AL_remove.2.1 18 = .ok (.aload_n 0, 1) := by decide +kernel
theorem d_AL_remove_19 : decode m_AL_remove.2.1 19 = .ok (.aload_n 2, 1) := by decide +kernel
theorem d_AL_remove_20 : decode m_AL_remove.2.1 20 = .ok (.iload_n 1, 1) := by decide +kernel
theorem d_AL_remove_21 : decode m_AL_remove.2.1 21 = .ok (.invokevirtual 144, 3) := by decide +kernel
theorem d_AL_remove_24 : decode m_AL_remove.2.1 24 = .ok (.aload_n 3, 1) := by decide +kernel
theorem d_AL_remove_25 : decode m_AL_remove.2.1 25 = .ok (.areturn, 1) := by decide +kernel
theorem d_AL_fastRemove_0 : decode m_AL_fastRemove.2.1 0 = .ok (.aload_n 0, 1) := by decide +kernel
theorem d_AL_fastRemove_1 : decode m_AL_fastRemove.2.1 1 = .ok (.dup, 1) := by decide +kernel
theorem d_AL_fastRemove_2 : decode m_AL_fastRemove.2.1 2 = .ok (.getfield 63, 3) := by decide +kernel
theorem d_AL_fastRemove_5 : decode m_AL_fastRemove.2.1 5 = .ok (.iconst 1, 1) := by decide +kernel
theorem d_AL_fastRemove_6 : decode m_AL_fastRemove.2.1 6 = .ok (.iadd, 1) := by decide +kernel
theorem d_AL_fastRemove_7 : decode m_AL_fastRemove.2.1 7 = .ok (.putfield 63, 3) := by decide +kernel
theorem d_AL_fastRemove_10 : decode m_AL_fastRemove.2.1 10 = .ok (.aload_n 0, 1) := by decide +kernel
theorem d_AL_fastRemove_11 : decode m_AL_fastRemove.2.1 11 = .ok (.getfield 48, 3) := by decide +kernel
theorem d_AL_fastRemove_14 : decode m_AL_fastRemove.2.1 14 = .ok (.iconst 1, 1) := by decide +kernel
theorem d_AL_fastRemove_15 : decode m_AL_fastRemove.2.1 15 = .ok (.isub, 1) := by decide +kernel
theorem d_AL_fastRemove_16 : decode m_AL_fastRemove.2.1 16 = .ok (.dup, 1) := by decide +kernel
theorem d_AL_fastRemove_17 : decode m_AL_fastRemove.2.1 17 = .ok (.istore_n 3, 1) := by decide +kernel
theorem d_AL_fastRemove_18 : decode m_AL_fastRemove.2.1 18 = .ok (.iload_n 2, 1) := by decide +kernel
theorem d_AL_fastRemove_19 : decode m_AL_fastRemove.2.1 19 = .ok (.if_icmp .le 15, 3) := by decide +kernel
theorem d_AL_fastRemove_22 : decode m_AL_fastRemove.2.1 22 = .ok (.aload_n 1, 1) := by decide +kernel
theorem d_AL_fastRemove_23 : decode m_AL_fastRemove.2.1 23 = .ok (.iload_n 2, 1) := by decide +kernel
theorem d_AL_fastRemove_24 : decode m_AL_fastRemove.2.1 24 = .ok (.iconst 1, 1) := by decide +kernel
theorem d_AL_fastRemove_25 : decode m_AL_fastRemove.2.1 25 = .ok (.iadd, 1) := by decide +kernel
theorem d_AL_fastRemove_26 : decode m_AL_fastRemove.2.1 26 = .ok (.aload_n 1, 1) := by decide +kernel
theorem d_AL_fastRemove_27 : decode m_AL_fastRemove.2.1 27 = .ok (.iload_n 2, 1) := by decide +kernel
theorem d_AL_fastRemove_28 : decode m_AL_fastRemove.2.1 28 = .ok (.iload_n 3, 1) := by decide +kernel
theorem d_AL_fastRemove_29 : decode m_AL_fastRemove.2.1 29 = .ok (.iload_n 2, 1) := by decide +kernel
theorem d_AL_fastRemove_30 : decode m_AL_fastRemove.2.1 30 = .ok (.isub, 1) := by decide +kernel
theorem d_AL_fastRemove_31 : decode m_AL_fastRemove.2.1 31 = .ok (.invokestatic 112, 3) := by decide +kernel
theorem d_AL_fastRemove_34 : decode m_AL_fastRemove.2.1 34 = .ok (.aload_n 1, 1) := by decide +kernel
theorem d_AL_fastRemove_35 : decode m_AL_fastRemove.2.1 35 = .ok (.aload_n 0, 1) := by decide +kernel
theorem d_AL_fastRemove_36 : decode m_AL_fastRemove.2.1 36 = .ok (.iload_n 3, 1) := by decide +kernel
theorem d_AL_fastRemove_37 : decode m_AL_fastRemove.2.1 37 = .ok (.dup_x1, 1) := by decide +kernel
theorem d_AL_fastRemove_38 : decode m_AL_fastRemove.2.1 38 = .ok (.putfield 48, 3) := by decide +kernel
theorem d_AL_fastRemove_41 : decode m_AL_fastRemove.2.1 41 = .ok (.aconst_null, 1) := by decide +kernel
theorem d_AL_fastRemove_42 : decode m_AL_fastRemove.2.1 42 = .ok (.aastore, 1) := by decide +kernel
theorem d_AL_fastRemove_43 : decode m_AL_fastRemove.2.1 43 = .ok (.return_, 1) := by decide +kernel
theorem d_AL_rangeCheckForAdd_0 : decode m_AL_rangeCheckForAdd.2.1 0 = .ok (.iload_n 1, 1) := by decide +kernel
theorem d_AL_rangeCheckForAdd_1 : decode m_AL_rangeCheckForAdd.2.1 1 = .ok (.aload_n 0, 1) := by decide +kernel
theorem d_AL_rangeCheckForAdd_2 : decode m_AL_rangeCheckForAdd.2.1 2 = .ok (.getfield 48, 3) := by decide +kernel
theorem d_AL_rangeCheckForAdd_5 : decode m_AL_rangeCheckForAdd.2.1 5 = .ok (.if_icmp .gt 7, 3) := by decide +kernel
theorem d_AL_rangeCheckForAdd_8 : decode m_AL_rangeCheckForAdd.2.1 8 = .ok (.iload_n 1, 1) := by decide +kernel
theorem d_AL_rangeCheckForAdd_9 : decode m_AL_rangeCheckForAdd.2.1 9 = .ok (.ifCond .ge 16, 3) := by decide +kernel
theorem d_AL_rangeCheckForAdd_12 : decode m_AL_rangeCheckForAdd.2.1 12 = .ok (.new 187, 3) := by decide +kernel
theorem d_AL_rangeCheckForAdd_15 : decode m_AL_rangeCheckForAdd.2.1 15 = .ok (.dup, 1) := by decide +kernel
theorem d_AL_rangeCheckForAdd_16 : decode m_AL_rangeCheckForAdd.2.1 16 = .ok (.aload_n 0, 1) := by decide +kernel
theorem d_AL_rangeCheckForAdd_17 : decode m_AL_rangeCheckForAdd.2.1 17 = .ok (.iload_n 1, 1) := by decide +kernel
theorem d_AL_rangeCheckForAdd_18 : decode m_AL_rangeCheckForAdd.2.1 18 = .ok (.invokevirtual 198, 3) := by decide +kernel
theorem d_AL_rangeCheckForAdd_21 : decode m_AL_rangeCheckForAdd.2.1 21 = .ok (.invokespecial 193, 3) := by decide +kernel
theorem d_AL_rangeCheckForAdd_24 : decode m_AL_rangeCheckForAdd.2.1 24 = .ok (.athrow, 1) := by decide +kernel
theorem d_AL_rangeCheckForAdd_25 : decode m_AL_rangeCheckForAdd.2.1 25 = .ok (.return_, 1) := by decide +kernel
theorem d_Ar_copyOf_0 : decode m_Ar_copyOf.2.1 0 = .ok (.aload_n 0, 1) := by decide +kernel
theorem d_Ar_copyOf_1 : decode m_Ar_copyOf.2.1 1 = .ok (.iload_n 1, 1) := by decide +kernel
theorem d_Ar_copyOf_2 : decode m_Ar_copyOf.2.1 2 = .ok (.aload_n 0, 1) := by decide +kernel
theorem d_Ar_copyOf_3 : decode m_Ar_copyOf.2.1 3 = .ok (.invokevirtual 86, 3) := by decide +kernel
theorem d_Ar_copyOf_6 : decode m_Ar_copyOf.2.1 6 = .ok (.invokestatic 300, 3) := by decide +kernel
theorem d_Ar_copyOf_9 : decode m_Ar_copyOf.2.1 9 = .ok (.areturn, 1) := by decide +kernel
theorem d_Ar_copyOf3_0 : decode m_Ar_copyOf3.2.1 0 = .ok (.aload_n 2, 1) := by decide +kernel
theorem d_Ar_copyOf3_1 : decode m_Ar_copyOf3.2.1 1 = .ok (.ldc 110, 2) := by decide +kernel
theorem d_Ar_copyOf3_3 : decode m_Ar_copyOf3.2.1 3 = .ok (.if_acmp .ne 10, 3) := by decide +kernel
theorem d_Ar_copyOf3_6 : decode m_Ar_copyOf3.2.1 6 = .ok (.iload_n 1, 1) := by decide +kernel
theorem d_Ar_copyOf3_7 : decode m_Ar_copyOf3.2.1 7 = .ok (.anewarray 2, 3) := by decide +kernel
theorem d_Ar_copyOf3_10 : decode m_Ar_copyOf3.2.1 10 = .ok (.goto 14, 3) := by decide +kernel
theorem d_Ar_copyOf3_13 : decode m_Ar_copyOf3.2.1 13 = .ok (.aload_n 2, 1) := by decide +kernel
theorem d_Ar_copyOf3_14 : decode m_Ar_copyOf3.2.1 14 = .ok (.invokevirtual 90, 3) := by decide +kernel
theorem d_Ar_copyOf3_17 : decode m_Ar_copyOf3.2.1 17 = .ok (.iload_n 1, 1) := by decide +kernel
theorem d_Ar_copyOf3_18 : decode m_Ar_copyOf3.2.1 18 = .ok (.invokestatic 95, 3) := by decide +kernel
theorem d_Ar_copyOf3_21 : decode m_Ar_copyOf3.2.1 21 = .ok (.checkcast 110, 3) := by decide +kernel
theorem d_Ar_copyOf3_24 : decode m_Ar_copyOf3.2.1 24 = .ok (.astore_n 3, 1) := by decide +kernel
theorem d_Ar_copyOf3_25 : decode m_Ar_copyOf3.2.1 25 = .ok (.aload_n 0, 1) := by decide +kernel
theorem d_Ar_copyOf3_26 : decode m_Ar_copyOf3.2.1 26 = .ok (.iconst 0, 1) := by decide +kernel
theorem d_Ar_copyOf3_27 : decode m_Ar_copyOf3.2.1 27 = .ok (.aload_n 3, 1) := by decide +kernel
theorem d_Ar_copyOf3_28 : decode m_Ar_copyOf3.2.1 28 = .ok (.iconst 0, 1) := by decide +kernel
theorem d_Ar_copyOf3_29 : decode m_Ar_copyOf3.2.1 29 = .ok (.aload_n 0, 1) := by decide +kernel
theorem d_Ar_copyOf3_30 : decode m_Ar_copyOf3.2.1 30 = .ok (.arraylength, 1) := by decide +kernel
theorem d_Ar_copyOf3_31 : decode m_Ar_copyOf3.2.1 31 = .ok (.iload_n 1, 1) := by decide +kernel
theorem d_Ar_copyOf3_32 : decode m_Ar_copyOf3.2.1 32 = .ok (.invokestatic 304, 3) := by decide +kernel
theorem d_Ar_copyOf3_35 : decode m_Ar_copyOf3.2.1 35 = .ok (.invokestatic 150, 3) := by decide +kernel
theorem d_Ar_copyOf3_38 : decode m_Ar_copyOf3.2.1 38 = .ok (.aload_n 3, 1) := by decide +kernel
theorem d_Ar_copyOf3_39 : decode m_Ar_copyOf3.2.1 39 = .ok (.areturn, 1) := by decide +kernel
theorem d_Ob_checkIndex_0 : decode m_Ob_checkIndex.2.1 0 = .ok (.iload_n 0, 1) := by decide +kernel
theorem d_Ob_checkIndex_1 : decode m_Ob_checkIndex.2.1 1 = .ok (.iload_n 1, 1) := by decide +kernel
theorem d_Ob_checkIndex_2 : decode m_Ob_checkIndex.2.1 2 = .ok (.aconst_null, 1) := by decide +kernel
theorem d_Ob_checkIndex_3 : decode m_Ob_checkIndex.2.1 3 = .ok (.invokestatic 105, 3) := by decide +kernel
theorem d_Ob_checkIndex_6 : decode m_Ob_checkIndex.2.1 6 = .ok (.ireturn, 1) := by decide +kernel
theorem d_AS_newLength_0 : decode m_AS_newLength.2.1 0 = .ok (.iload_n 0, 1) := by decide +kernel
theorem d_AS_newLength_1 : decode m_AS_newLength.2.1 1 = .ok (.iload_n 1, 1) := by decide +kernel
theorem d_AS_newLength_2 : decode m_AS_newLength.2.1 2 = .ok (.iload_n 2, 1) := by decide +kernel
theorem d_AS_newLength_3 : decode m_AS_newLength.2.1 3 = .ok (.invokestatic 194, 3) := by decide +kernel
theorem d_AS_newLength_6 : decode m_AS_newLength.2.1 6 = .ok (.iadd, 1) := by decide +kernel
theorem d_AS_newLength_7 : decode m_AS_newLength.2.1 7 = .ok (.istore_n 3, 1) := by decide +kernel
theorem d_AS_newLength_8 : decode m_AS_newLength.2.1 8 = .ok (.iconst 0, 1) := by decide +kernel
theorem d_AS_newLength_9 : decode m_AS_newLength.2.1 9 = .ok (.iload_n 3, 1) := by decide +kernel
theorem d_AS_newLength_10 : decode m_AS_newLength.2.1 10 = .ok (.if_icmp .ge 11, 3) := by decide +kernel
theorem d_AS_newLength_13 : decode m_AS_newLength.2.1 13 = .ok (.iload_n 3, 1) := by decide +kernel
theorem d_AS_newLength_14 : decode m_AS_newLength.2.1 14 = .ok (.ldc 200, 2) := by decide +kernel
theorem d_AS_newLength_16 : decode m_AS_newLength.2.1 16 = .ok (.if_icmp .gt 5, 3) := by decide +kernel
theorem d_AS_newLength_19 : decode m_AS_newLength.2.1 19 = .ok (.iload_n 3, 1) := by decide +kernel
theorem d_AS_newLength_20 : decode m_AS_newLength.2.1 20 = .ok (.ireturn, 1) := by decide +kernel
theorem d_AS_newLength_21 : decode m_AS_newLength.2.1 21 = .ok (.iload_n 0, 1) := by decide +kernel
theorem d_AS_newLength_22 : decode m_AS_newLength.2.1 22 = .ok (.iload_n 1, 1) := by decide +kernel
theorem d_AS_newLength_23 : decode m_AS_newLength.2.1 23 = .ok (.invokestatic 201, 3) := by decide +kernel
theorem d_AS_newLength_26 : decode m_AS_newLength.2.1 26 = .ok (.ireturn, 1) := by decide +kernel
theorem d_Pc_checkIndex_0 : decode m_Pc_checkIndex.2.1 0 = .ok (.iload_n 0, 1) := by decide +kernel
theorem d_Pc_checkIndex_1 : decode m_Pc_checkIndex.2.1 1 = .ok (.ifCond .lt 8, 3) := by decide +kernel
theorem d_Pc_checkIndex_4 : decode m_Pc_checkIndex.2.1 4 = .ok (.iload_n 0, 1) := by decide +kernel
theorem d_Pc_checkIndex_5 : decode m_Pc_checkIndex.2.1 5 = .ok (.iload_n 1, 1) := by decide +kernel
theorem d_Pc_checkIndex_6 : decode m_Pc_checkIndex.2.1 6 = .ok (.if_icmp .lt 10, 3) := by decide +kernel
theorem d_Pc_checkIndex_9 : decode m_Pc_checkIndex.2.1 9 = .ok (.aload_n 2, 1) := by decide +kernel
theorem d_Pc_checkIndex_10 : decode m_Pc_checkIndex.2.1 10 = .ok (.iload_n 0, 1) := by decide +kernel
theorem d_Pc_checkIndex_11 : decode m_Pc_checkIndex.2.1 11 = .ok (.iload_n 1, 1) := by decide +kernel
theorem d_Pc_checkIndex_12 : decode m_Pc_checkIndex.2.1 12 = .ok (.invokestatic 95, 3) := by decide +kernel
theorem d_Pc_checkIndex_15 : decode m_Pc_checkIndex.2.1 15 = .ok (.athrow, 1) := by decide +kernel
theorem d_Pc_checkIndex_16 : decode m_Pc_checkIndex.2.1 16 = .ok (.iload_n 0, 1) := by decide +kernel
theorem d_Pc_checkIndex_17 : decode m_Pc_checkIndex.2.1 17 = .ok (.ireturn, 1) := by decide +kernel
theorem d_La_asks_0 : decode m_La_asks.2.1 0 = .ok (.iload_n 1, 1) := by decide +kernel
theorem d_La_asks_1 : decode m_La_asks.2.1 1 = .ok (.ifCond .ne 16, 3) := by decide +kernel
theorem d_La_asks_4 : decode m_La_asks.2.1 4 = .ok (.aload_n 0, 1) := by decide +kernel
theorem d_La_asks_5 : decode m_La_asks.2.1 5 = .ok (.iload_n 2, 1) := by decide +kernel
theorem d_La_asks_6 : decode m_La_asks.2.1 6 = .ok (.iload_n 3, 1) := by decide +kernel
theorem d_La_asks_7 : decode m_La_asks.2.1 7 = .ok (.iload 4, 2) := by decide +kernel
theorem d_La_asks_9 : decode m_La_asks.2.1 9 = .ok (.iload 5, 2) := by decide +kernel
theorem d_La_asks_11 : decode m_La_asks.2.1 11 = .ok (.invokevirtual 7, 3) := by decide +kernel
theorem d_La_asks_14 : decode m_La_asks.2.1 14 = .ok (.goto 71, 3) := by decide +kernel
theorem d_La_asks_17 : decode m_La_asks.2.1 17 = .ok (.iload_n 1, 1) := by decide +kernel
theorem d_La_asks_18 : decode m_La_asks.2.1 18 = .ok (.iconst 1, 1) := by decide +kernel
theorem d_La_asks_19 : decode m_La_asks.2.1 19 = .ok (.if_icmp .ne 11, 3) := by decide +kernel
theorem d_La_asks_22 : decode m_La_asks.2.1 22 = .ok (.aload_n 0, 1) := by decide +kernel
theorem d_La_asks_23 : decode m_La_asks.2.1 23 = .ok (.iload_n 2, 1) := by decide +kernel
theorem d_La_asks_24 : decode m_La_asks.2.1 24 = .ok (.invokevirtual 13, 3) := by decide +kernel
theorem d_La_asks_27 : decode m_La_asks.2.1 27 = .ok (.goto 58, 3) := by decide +kernel
theorem d_La_asks_30 : decode m_La_asks.2.1 30 = .ok (.iload_n 1, 1) := by decide +kernel
theorem d_La_asks_31 : decode m_La_asks.2.1 31 = .ok (.iconst 2, 1) := by decide +kernel
theorem d_La_asks_32 : decode m_La_asks.2.1 32 = .ok (.if_icmp .ne 11, 3) := by decide +kernel
theorem d_La_asks_35 : decode m_La_asks.2.1 35 = .ok (.aload_n 0, 1) := by decide +kernel
theorem d_La_asks_36 : decode m_La_asks.2.1 36 = .ok (.iload_n 2, 1) := by decide +kernel
theorem d_La_asks_37 : decode m_La_asks.2.1 37 = .ok (.invokevirtual 17, 3) := by decide +kernel
theorem d_La_asks_40 : decode m_La_asks.2.1 40 = .ok (.goto 45, 3) := by decide +kernel
theorem d_La_asks_43 : decode m_La_asks.2.1 43 = .ok (.iload_n 1, 1) := by decide +kernel
theorem d_La_asks_44 : decode m_La_asks.2.1 44 = .ok (.iconst 3, 1) := by decide +kernel
theorem d_La_asks_45 : decode m_La_asks.2.1 45 = .ok (.if_icmp .ne 10, 3) := by decide +kernel
theorem d_La_asks_48 : decode m_La_asks.2.1 48 = .ok (.aload_n 0, 1) := by decide +kernel
theorem d_La_asks_49 : decode m_La_asks.2.1 49 = .ok (.invokevirtual 20, 3) := by decide +kernel
theorem d_La_asks_52 : decode m_La_asks.2.1 52 = .ok (.goto 33, 3) := by decide +kernel
theorem d_La_asks_55 : decode m_La_asks.2.1 55 = .ok (.iload_n 1, 1) := by decide +kernel
theorem d_La_asks_56 : decode m_La_asks.2.1 56 = .ok (.iconst 4, 1) := by decide +kernel
theorem d_La_asks_57 : decode m_La_asks.2.1 57 = .ok (.if_icmp .ne 10, 3) := by decide +kernel
theorem d_La_asks_60 : decode m_La_asks.2.1 60 = .ok (.aload_n 0, 1) := by decide +kernel
theorem d_La_asks_61 : decode m_La_asks.2.1 61 = .ok (.invokevirtual 24, 3) := by decide +kernel
theorem d_La_asks_64 : decode m_La_asks.2.1 64 = .ok (.goto 21, 3) := by decide +kernel
theorem d_La_asks_67 : decode m_La_asks.2.1 67 = .ok (.iload_n 1, 1) := by decide +kernel
theorem d_La_asks_68 : decode m_La_asks.2.1 68 = .ok (.iconst 5, 1) := by decide +kernel
theorem d_La_asks_69 : decode m_La_asks.2.1 69 = .ok (.if_icmp .ne 11, 3) := by decide +kernel
theorem d_La_asks_72 : decode m_La_asks.2.1 72 = .ok (.aload_n 0, 1) := by decide +kernel
theorem d_La_asks_73 : decode m_La_asks.2.1 73 = .ok (.iload_n 2, 1) := by decide +kernel
theorem d_La_asks_74 : decode m_La_asks.2.1 74 = .ok (.invokevirtual 27, 3) := by decide +kernel
theorem d_La_asks_77 : decode m_La_asks.2.1 77 = .ok (.goto 8, 3) := by decide +kernel
theorem d_La_asks_80 : decode m_La_asks.2.1 80 = .ok (.aload_n 0, 1) := by decide +kernel
theorem d_La_asks_81 : decode m_La_asks.2.1 81 = .ok (.iload_n 2, 1) := by decide +kernel
theorem d_La_asks_82 : decode m_La_asks.2.1 82 = .ok (.invokevirtual 30, 3) := by decide +kernel
theorem d_La_asks_85 : decode m_La_asks.2.1 85 = .ok (.ireturn, 1) := by decide +kernel
theorem d_La_on_0 : decode m_La_on.2.1 0 = .ok (.aload_n 0, 1) := by decide +kernel
theorem d_La_on_1 : decode m_La_on.2.1 1 = .ok (.iload_n 1, 1) := by decide +kernel
theorem d_La_on_2 : decode m_La_on.2.1 2 = .ok (.iload_n 2, 1) := by decide +kernel
theorem d_La_on_3 : decode m_La_on.2.1 3 = .ok (.iload_n 3, 1) := by decide +kernel
theorem d_La_on_4 : decode m_La_on.2.1 4 = .ok (.iload 4, 2) := by decide +kernel
theorem d_La_on_6 : decode m_La_on.2.1 6 = .ok (.iload 5, 2) := by decide +kernel
theorem d_La_on_8 : decode m_La_on.2.1 8 = .ok (.invokestatic 33, 3) := by decide +kernel
theorem d_La_on_11 : decode m_La_on.2.1 11 = .ok (.ireturn, 1) := by decide +kernel
theorem d_La_on_12 : decode m_La_on.2.1 12 = .ok (.astore 6, 2) := by decide +kernel
theorem d_La_on_14 : decode m_La_on.2.1 14 = .ok (.bipush (-11), 2) := by decide +kernel
theorem d_La_on_16 : decode m_La_on.2.1 16 = .ok (.ireturn, 1) := by decide +kernel
theorem d_La_on_17 : decode m_La_on.2.1 17 = .ok (.astore 6, 2) := by decide +kernel
theorem d_La_on_19 : decode m_La_on.2.1 19 = .ok (.bipush (-12), 2) := by decide +kernel
theorem d_La_on_21 : decode m_La_on.2.1 21 = .ok (.ireturn, 1) := by decide +kernel
theorem d_La_on_22 : decode m_La_on.2.1 22 = .ok (.astore 6, 2) := by decide +kernel
theorem d_La_on_24 : decode m_La_on.2.1 24 = .ok (.bipush (-13), 2) := by decide +kernel
theorem d_La_on_26 : decode m_La_on.2.1 26 = .ok (.ireturn, 1) := by decide +kernel
theorem d_La_isTwice_0 : decode m_La_isTwice.2.1 0 = .ok (.aload_n 0, 1) := by decide +kernel
theorem d_La_isTwice_1 : decode m_La_isTwice.2.1 1 = .ok (.iload_n 1, 1) := by decide +kernel
theorem d_La_isTwice_2 : decode m_La_isTwice.2.1 2 = .ok (.iload_n 2, 1) := by decide +kernel
theorem d_La_isTwice_3 : decode m_La_isTwice.2.1 3 = .ok (.iconst 0, 1) := by decide +kernel
theorem d_La_isTwice_4 : decode m_La_isTwice.2.1 4 = .ok (.invokevirtual 45, 3) := by decide +kernel
theorem d_La_isTwice_7 : decode m_La_isTwice.2.1 7 = .ok (.istore 5, 2) := by decide +kernel
theorem d_La_isTwice_9 : decode m_La_isTwice.2.1 9 = .ok (.aload_n 0, 1) := by decide +kernel
theorem d_La_isTwice_10 : decode m_La_isTwice.2.1 10 = .ok (.iload_n 1, 1) := by decide +kernel
theorem d_La_isTwice_11 : decode m_La_isTwice.2.1 11 = .ok (.iload_n 2, 1) := by decide +kernel
theorem d_La_isTwice_12 : decode m_La_isTwice.2.1 12 = .ok (.iconst 1, 1) := by decide +kernel
theorem d_La_isTwice_13 : decode m_La_isTwice.2.1 13 = .ok (.invokevirtual 45, 3) := by decide +kernel
theorem d_La_isTwice_16 : decode m_La_isTwice.2.1 16 = .ok (.istore 6, 2) := by decide +kernel
theorem d_La_isTwice_18 : decode m_La_isTwice.2.1 18 = .ok (.aload_n 0, 1) := by decide +kernel
theorem d_La_isTwice_19 : decode m_La_isTwice.2.1 19 = .ok (.iload_n 1, 1) := by decide +kernel
theorem d_La_isTwice_20 : decode m_La_isTwice.2.1 20 = .ok (.iload_n 2, 1) := by decide +kernel
theorem d_La_isTwice_21 : decode m_La_isTwice.2.1 21 = .ok (.iconst 2, 1) := by decide +kernel
theorem d_La_isTwice_22 : decode m_La_isTwice.2.1 22 = .ok (.invokevirtual 45, 3) := by decide +kernel
theorem d_La_isTwice_25 : decode m_La_isTwice.2.1 25 = .ok (.istore 7, 2) := by decide +kernel
theorem d_La_isTwice_27 : decode m_La_isTwice.2.1 27 = .ok (.aload_n 0, 1) := by decide +kernel
theorem d_La_isTwice_28 : decode m_La_isTwice.2.1 28 = .ok (.iload_n 1, 1) := by decide +kernel
theorem d_La_isTwice_29 : decode m_La_isTwice.2.1 29 = .ok (.iload_n 2, 1) := by decide +kernel
theorem d_La_isTwice_30 : decode m_La_isTwice.2.1 30 = .ok (.iconst 0, 1) := by decide +kernel
theorem d_La_isTwice_31 : decode m_La_isTwice.2.1 31 = .ok (.invokevirtual 49, 3) := by decide +kernel
theorem d_La_isTwice_34 : decode m_La_isTwice.2.1 34 = .ok (.iload 5, 2) := by decide +kernel
theorem d_La_isTwice_36 : decode m_La_isTwice.2.1 36 = .ok (.if_icmp .ne 42, 3) := by decide +kernel
theorem d_La_isTwice_39 : decode m_La_isTwice.2.1 39 = .ok (.aload_n 0, 1) := by decide +kernel
theorem d_La_isTwice_40 : decode m_La_isTwice.2.1 40 = .ok (.iload_n 1, 1) := by decide +kernel
theorem d_La_isTwice_41 : decode m_La_isTwice.2.1 41 = .ok (.iload_n 2, 1) := by decide +kernel
theorem d_La_isTwice_42 : decode m_La_isTwice.2.1 42 = .ok (.iconst 1, 1) := by decide +kernel
theorem d_La_isTwice_43 : decode m_La_isTwice.2.1 43 = .ok (.invokevirtual 49, 3) := by decide +kernel
theorem d_La_isTwice_46 : decode m_La_isTwice.2.1 46 = .ok (.iload 6, 2) := by decide +kernel
theorem d_La_isTwice_48 : decode m_La_isTwice.2.1 48 = .ok (.if_icmp .ne 30, 3) := by decide +kernel
theorem d_La_isTwice_51 : decode m_La_isTwice.2.1 51 = .ok (.aload_n 0, 1) := by decide +kernel
theorem d_La_isTwice_52 : decode m_La_isTwice.2.1 52 = .ok (.iload_n 1, 1) := by decide +kernel
theorem d_La_isTwice_53 : decode m_La_isTwice.2.1 53 = .ok (.iload_n 2, 1) := by decide +kernel
theorem d_La_isTwice_54 : decode m_La_isTwice.2.1 54 = .ok (.iconst 2, 1) := by decide +kernel
theorem d_La_isTwice_55 : decode m_La_isTwice.2.1 55 = .ok (.invokevirtual 49, 3) := by decide +kernel
theorem d_La_isTwice_58 : decode m_La_isTwice.2.1 58 = .ok (.iload 7, 2) := by decide +kernel
theorem d_La_isTwice_60 : decode m_La_isTwice.2.1 60 = .ok (.if_icmp .ne 18, 3) := by decide +kernel
theorem d_La_isTwice_63 : decode m_La_isTwice.2.1 63 = .ok (.aload_n 0, 1) := by decide +kernel
theorem d_La_isTwice_64 : decode m_La_isTwice.2.1 64 = .ok (.invokevirtual 52, 3) := by decide +kernel
theorem d_La_isTwice_67 : decode m_La_isTwice.2.1 67 = .ok (.aload_n 0, 1) := by decide +kernel
theorem d_La_isTwice_68 : decode m_La_isTwice.2.1 68 = .ok (.invokevirtual 55, 3) := by decide +kernel
theorem d_La_isTwice_71 : decode m_La_isTwice.2.1 71 = .ok (.if_icmp .ne 7, 3) := by decide +kernel
theorem d_La_isTwice_74 : decode m_La_isTwice.2.1 74 = .ok (.iconst 1, 1) := by decide +kernel
theorem d_La_isTwice_75 : decode m_La_isTwice.2.1 75 = .ok (.goto 4, 3) := by decide +kernel
theorem d_La_isTwice_78 : decode m_La_isTwice.2.1 78 = .ok (.iconst 0, 1) := by decide +kernel
theorem d_La_isTwice_79 : decode m_La_isTwice.2.1 79 = .ok (.istore 8, 2) := by decide +kernel
theorem d_La_isTwice_81 : decode m_La_isTwice.2.1 81 = .ok (.iload 8, 2) := by decide +kernel
theorem d_La_isTwice_83 : decode m_La_isTwice.2.1 83 = .ok (.ifCond .eq 58, 3) := by decide +kernel
theorem d_La_isTwice_86 : decode m_La_isTwice.2.1 86 = .ok (.iload 5, 2) := by decide +kernel
theorem d_La_isTwice_88 : decode m_La_isTwice.2.1 88 = .ok (.ldc 58, 2) := by decide +kernel
theorem d_La_isTwice_90 : decode m_La_isTwice.2.1 90 = .ok (.if_icmp .ne 20, 3) := by decide +kernel
theorem d_La_isTwice_93 : decode m_La_isTwice.2.1 93 = .ok (.iload 6, 2) := by decide +kernel
theorem d_La_isTwice_95 : decode m_La_isTwice.2.1 95 = .ok (.iload 5, 2) := by decide +kernel
theorem d_La_isTwice_97 : decode m_La_isTwice.2.1 97 = .ok (.if_icmp .ne 44, 3) := by decide +kernel
theorem d_La_isTwice_100 : decode m_La_isTwice.2.1 100 = .ok (.iload 7, 2) := by decide +kernel
theorem d_La_isTwice_102 : decode m_La_isTwice.2.1 102 = .ok (.iload 5, 2) := by decide +kernel
theorem d_La_isTwice_104 : decode m_La_isTwice.2.1 104 = .ok (.if_icmp .ne 37, 3) := by decide +kernel
theorem d_La_isTwice_107 : decode m_La_isTwice.2.1 107 = .ok (.goto 30, 3) := by decide +kernel
theorem d_La_isTwice_110 : decode m_La_isTwice.2.1 110 = .ok (.iload 5, 2) := by decide +kernel
theorem d_La_isTwice_112 : decode m_La_isTwice.2.1 112 = .ok (.ifCond .le 29, 3) := by decide +kernel
theorem d_La_isTwice_115 : decode m_La_isTwice.2.1 115 = .ok (.iload 6, 2) := by decide +kernel
theorem d_La_isTwice_117 : decode m_La_isTwice.2.1 117 = .ok (.sipush 1000, 3) := by decide +kernel
theorem d_La_isTwice_120 : decode m_La_isTwice.2.1 120 = .ok (.iload 5, 2) := by decide +kernel
theorem d_La_isTwice_122 : decode m_La_isTwice.2.1 122 = .ok (.imul, 1) := by decide +kernel
theorem d_La_isTwice_123 : decode m_La_isTwice.2.1 123 = .ok (.if_icmp .gt 18, 3) := by decide +kernel
theorem d_La_isTwice_126 : decode m_La_isTwice.2.1 126 = .ok (.iload 6, 2) := by decide +kernel
theorem d_La_isTwice_128 : decode m_La_isTwice.2.1 128 = .ok (.sipush (-1000), 3) := by decide +kernel
theorem d_La_isTwice_131 : decode m_La_isTwice.2.1 131 = .ok (.iload 5, 2) := by decide +kernel
theorem d_La_isTwice_133 : decode m_La_isTwice.2.1 133 = .ok (.imul, 1) := by decide +kernel
theorem d_La_isTwice_134 : decode m_La_isTwice.2.1 134 = .ok (.if_icmp .lt 7, 3) := by decide +kernel
theorem d_La_isTwice_137 : decode m_La_isTwice.2.1 137 = .ok (.iconst 1, 1) := by decide +kernel
theorem d_La_isTwice_138 : decode m_La_isTwice.2.1 138 = .ok (.goto 4, 3) := by decide +kernel
theorem d_La_isTwice_141 : decode m_La_isTwice.2.1 141 = .ok (.iconst 0, 1) := by decide +kernel
theorem d_La_isTwice_142 : decode m_La_isTwice.2.1 142 = .ok (.istore 8, 2) := by decide +kernel
theorem d_La_isTwice_144 : decode m_La_isTwice.2.1 144 = .ok (.iload 8, 2) := by decide +kernel
theorem d_La_isTwice_146 : decode m_La_isTwice.2.1 146 = .ok (.ifCond .eq 50, 3) := by decide +kernel
theorem d_La_isTwice_149 : decode m_La_isTwice.2.1 149 = .ok (.iload 5, 2) := by decide +kernel
theorem d_La_isTwice_151 : decode m_La_isTwice.2.1 151 = .ok (.ldc 58, 2) := by decide +kernel
theorem d_La_isTwice_153 : decode m_La_isTwice.2.1 153 = .ok (.if_icmp .eq 39, 3) := by decide +kernel
theorem d_La_isTwice_156 : decode m_La_isTwice.2.1 156 = .ok (.iload 4, 2) := by decide +kernel
theorem d_La_isTwice_158 : decode m_La_isTwice.2.1 158 = .ok (.iconst 2, 1) := by decide +kernel
theorem d_La_isTwice_159 : decode m_La_isTwice.2.1 159 = .ok (.if_icmp .ge 14, 3) := by decide +kernel
theorem d_La_isTwice_162 : decode m_La_isTwice.2.1 162 = .ok (.iload 7, 2) := by decide +kernel
theorem d_La_isTwice_164 : decode m_La_isTwice.2.1 164 = .ok (.iload_n 2, 1) := by decide +kernel
theorem d_La_isTwice_165 : decode m_La_isTwice.2.1 165 = .ok (.iload_n 3, 1) := by decide +kernel
theorem d_La_isTwice_166 : decode m_La_isTwice.2.1 166 = .ok (.iadd, 1) := by decide +kernel
theorem d_La_isTwice_167 : decode m_La_isTwice.2.1 167 = .ok (.if_icmp .ne 29, 3) := by decide +kernel
theorem d_La_isTwice_170 : decode m_La_isTwice.2.1 170 = .ok (.goto 22, 3) := by decide +kernel
theorem d_La_isTwice_173 : decode m_La_isTwice.2.1 173 = .ok (.iload 7, 2) := by decide +kernel
theorem d_La_isTwice_175 : decode m_La_isTwice.2.1 175 = .ok (.iload_n 2, 1) := by decide +kernel
theorem d_La_isTwice_176 : decode m_La_isTwice.2.1 176 = .ok (.iload_n 3, 1) := by decide +kernel
theorem d_La_isTwice_177 : decode m_La_isTwice.2.1 177 = .ok (.iadd, 1) := by decide +kernel
theorem d_La_isTwice_178 : decode m_La_isTwice.2.1 178 = .ok (.if_icmp .lt 18, 3) := by decide +kernel
theorem d_La_isTwice_181 : decode m_La_isTwice.2.1 181 = .ok (.iload 7, 2) := by decide +kernel
theorem d_La_isTwice_183 : decode m_La_isTwice.2.1 183 = .ok (.iload_n 2, 1) := by decide +kernel
theorem d_La_isTwice_184 : decode m_La_isTwice.2.1 184 = .ok (.iload_n 3, 1) := by decide +kernel
theorem d_La_isTwice_185 : decode m_La_isTwice.2.1 185 = .ok (.iload 5, 2) := by decide +kernel
theorem d_La_isTwice_187 : decode m_La_isTwice.2.1 187 = .ok (.imul, 1) := by decide +kernel
theorem d_La_isTwice_188 : decode m_La_isTwice.2.1 188 = .ok (.iadd, 1) := by decide +kernel
theorem d_La_isTwice_189 : decode m_La_isTwice.2.1 189 = .ok (.if_icmp .gt 7, 3) := by decide +kernel
theorem d_La_isTwice_192 : decode m_La_isTwice.2.1 192 = .ok (.iconst 1, 1) := by decide +kernel
theorem d_La_isTwice_193 : decode m_La_isTwice.2.1 193 = .ok (.goto 4, 3) := by decide +kernel
theorem d_La_isTwice_196 : decode m_La_isTwice.2.1 196 = .ok (.iconst 0, 1) := by decide +kernel
theorem d_La_isTwice_197 : decode m_La_isTwice.2.1 197 = .ok (.ireturn, 1) := by decide +kernel
theorem d_La_areSources_0 : decode m_La_areSources.2.1 0 = .ok (.sipush 2000, 3) := by decide +kernel
theorem d_La_areSources_3 : decode m_La_areSources.2.1 3 = .ok (.istore 4, 2) := by decide +kernel
theorem d_La_areSources_5 : decode m_La_areSources.2.1 5 = .ok (.iconst 1, 1) := by decide +kernel
theorem d_La_areSources_6 : decode m_La_areSources.2.1 6 = .ok (.istore 5, 2) := by decide +kernel
theorem d_La_areSources_8 : decode m_La_areSources.2.1 8 = .ok (.iconst 0, 1) := by decide +kernel
theorem d_La_areSources_9 : decode m_La_areSources.2.1 9 = .ok (.istore 6, 2) := by decide +kernel
theorem d_La_areSources_11 : decode m_La_areSources.2.1 11 = .ok (.iload 6, 2) := by decide +kernel
theorem d_La_areSources_13 : decode m_La_areSources.2.1 13 = .ok (.iconst 3, 1) := by decide +kernel
theorem d_La_areSources_14 : decode m_La_areSources.2.1 14 = .ok (.if_icmp .ge 113, 3) := by decide +kernel
theorem d_La_areSources_17 : decode m_La_areSources.2.1 17 = .ok (.iload 5, 2) := by decide +kernel
theorem d_La_areSources_19 : decode m_La_areSources.2.1 19 = .ok (.ifCond .eq 108, 3) := by decide +kernel
theorem d_La_areSources_22 : decode m_La_areSources.2.1 22 = .ok (.aload_n 0, 1) := by decide +kernel
theorem d_La_areSources_23 : decode m_La_areSources.2.1 23 = .ok (.iload 6, 2) := by decide +kernel
theorem d_La_areSources_25 : decode m_La_areSources.2.1 25 = .ok (.invokevirtual 59, 3) := by decide +kernel
theorem d_La_areSources_28 : decode m_La_areSources.2.1 28 = .ok (.istore 7, 2) := by decide +kernel
theorem d_La_areSources_30 : decode m_La_areSources.2.1 30 = .ok (.aload_n 0, 1) := by decide +kernel
theorem d_La_areSources_31 : decode m_La_areSources.2.1 31 = .ok (.iload 6, 2) := by decide +kernel
theorem d_La_areSources_33 : decode m_La_areSources.2.1 33 = .ok (.invokevirtual 62, 3) := by decide +kernel
theorem d_La_areSources_36 : decode m_La_areSources.2.1 36 = .ok (.ifCond .lt 59, 3) := by decide +kernel
theorem d_La_areSources_39 : decode m_La_areSources.2.1 39 = .ok (.aload_n 0, 1) := by decide +kernel
theorem d_La_areSources_40 : decode m_La_areSources.2.1 40 = .ok (.iload 6, 2) := by decide +kernel
theorem d_La_areSources_42 : decode m_La_areSources.2.1 42 = .ok (.invokevirtual 62, 3) := by decide +kernel
theorem d_La_areSources_45 : decode m_La_areSources.2.1 45 = .ok (.iconst 4, 1) := by decide +kernel
theorem d_La_areSources_46 : decode m_La_areSources.2.1 46 = .ok (.if_icmp .gt 49, 3) := by decide +kernel
theorem d_La_areSources_49 : decode m_La_areSources.2.1 49 = .ok (.aload_n 0, 1) := by decide +kernel
theorem d_La_areSources_50 : decode m_La_areSources.2.1 50 = .ok (.iload 6, 2) := by decide +kernel
theorem d_La_areSources_52 : decode m_La_areSources.2.1 52 = .ok (.invokevirtual 62, 3) := by decide +kernel
theorem d_La_areSources_55 : decode m_La_areSources.2.1 55 = .ok (.aload_n 0, 1) := by decide +kernel
theorem d_La_areSources_56 : decode m_La_areSources.2.1 56 = .ok (.iload 6, 2) := by decide +kernel
theorem d_La_areSources_58 : decode m_La_areSources.2.1 58 = .ok (.invokevirtual 65, 3) := by decide +kernel
theorem d_La_areSources_61 : decode m_La_areSources.2.1 61 = .ok (.if_icmp .gt 34, 3) := by decide +kernel
theorem d_La_areSources_64 : decode m_La_areSources.2.1 64 = .ok (.aload_n 0, 1) := by decide +kernel
theorem d_La_areSources_65 : decode m_La_areSources.2.1 65 = .ok (.iload 6, 2) := by decide +kernel
theorem d_La_areSources_67 : decode m_La_areSources.2.1 67 = .ok (.invokevirtual 65, 3) := by decide +kernel
theorem d_La_areSources_70 : decode m_La_areSources.2.1 70 = .ok (.aload_n 1, 1) := by decide +kernel
theorem d_La_areSources_71 : decode m_La_areSources.2.1 71 = .ok (.iload 6, 2) := by decide +kernel
theorem d_La_areSources_73 : decode m_La_areSources.2.1 73 = .ok (.iaload, 1) := by decide +kernel
theorem d_La_areSources_74 : decode m_La_areSources.2.1 74 = .ok (.if_icmp .gt 21, 3) := by decide +kernel
theorem d_La_areSources_77 : decode m_La_areSources.2.1 77 = .ok (.iload 7, 2) := by decide +kernel
theorem d_La_areSources_79 : decode m_La_areSources.2.1 79 = .ok (.iconst (-1), 1) := by decide +kernel
theorem d_La_areSources_80 : decode m_La_areSources.2.1 80 = .ok (.if_icmp .lt 15, 3) := by decide +kernel
theorem d_La_areSources_83 : decode m_La_areSources.2.1 83 = .ok (.iload 7, 2) := by decide +kernel
theorem d_La_areSources_85 : decode m_La_areSources.2.1 85 = .ok (.sipush 1000, 3) := by decide +kernel
theorem d_La_areSources_88 : decode m_La_areSources.2.1 88 = .ok (.if_icmp .ge 7, 3) := by decide +kernel
theorem d_La_areSources_91 : decode m_La_areSources.2.1 91 = .ok (.iconst 1, 1) := by decide +kernel
theorem d_La_areSources_92 : decode m_La_areSources.2.1 92 = .ok (.goto 4, 3) := by decide +kernel
theorem d_La_areSources_95 : decode m_La_areSources.2.1 95 = .ok (.iconst 0, 1) := by decide +kernel
theorem d_La_areSources_96 : decode m_La_areSources.2.1 96 = .ok (.istore 5, 2) := by decide +kernel
theorem d_La_areSources_98 : decode m_La_areSources.2.1 98 = .ok (.aload_n 2, 1) := by decide +kernel
theorem d_La_areSources_99 : decode m_La_areSources.2.1 99 = .ok (.iload 6, 2) := by decide +kernel
theorem d_La_areSources_101 : decode m_La_areSources.2.1 101 = .ok (.iaload, 1) := by decide +kernel
theorem d_La_areSources_102 : decode m_La_areSources.2.1 102 = .ok (.ifCond .ne 15, 3) := by decide +kernel
theorem d_La_areSources_105 : decode m_La_areSources.2.1 105 = .ok (.iload 7, 2) := by decide +kernel
theorem d_La_areSources_107 : decode m_La_areSources.2.1 107 = .ok (.iload 4, 2) := by decide +kernel
theorem d_La_areSources_109 : decode m_La_areSources.2.1 109 = .ok (.if_icmp .ge 8, 3) := by decide +kernel
theorem d_La_areSources_112 : decode m_La_areSources.2.1 112 = .ok (.iload 7, 2) := by decide +kernel
theorem d_La_areSources_114 : decode m_La_areSources.2.1 114 = .ok (.goto 5, 3) := by decide +kernel
theorem d_La_areSources_117 : decode m_La_areSources.2.1 117 = .ok (.iload 4, 2) := by decide +kernel
theorem d_La_areSources_119 : decode m_La_areSources.2.1 119 = .ok (.istore 4, 2) := by decide +kernel
theorem d_La_areSources_121 : decode m_La_areSources.2.1 121 = .ok (.iinc 6 1, 3) := by decide +kernel
theorem d_La_areSources_124 : decode m_La_areSources.2.1 124 = .ok (.goto (-113), 3) := by decide +kernel
theorem d_La_areSources_127 : decode m_La_areSources.2.1 127 = .ok (.aload_n 0, 1) := by decide +kernel
theorem d_La_areSources_128 : decode m_La_areSources.2.1 128 = .ok (.invokevirtual 68, 3) := by decide +kernel
theorem d_La_areSources_131 : decode m_La_areSources.2.1 131 = .ok (.istore 6, 2) := by decide +kernel
theorem d_La_areSources_133 : decode m_La_areSources.2.1 133 = .ok (.iload 5, 2) := by decide +kernel
theorem d_La_areSources_135 : decode m_La_areSources.2.1 135 = .ok (.ifCond .eq 41, 3) := by decide +kernel
theorem d_La_areSources_138 : decode m_La_areSources.2.1 138 = .ok (.iload 6, 2) := by decide +kernel
theorem d_La_areSources_140 : decode m_La_areSources.2.1 140 = .ok (.iload_n 3, 1) := by decide +kernel
theorem d_La_areSources_141 : decode m_La_areSources.2.1 141 = .ok (.if_icmp .lt 35, 3) := by decide +kernel
theorem d_La_areSources_144 : decode m_La_areSources.2.1 144 = .ok (.iload 4, 2) := by decide +kernel
theorem d_La_areSources_146 : decode m_La_areSources.2.1 146 = .ok (.sipush 2000, 3) := by decide +kernel
theorem d_La_areSources_149 : decode m_La_areSources.2.1 149 = .ok (.if_icmp .eq 10, 3) := by decide +kernel
theorem d_La_areSources_152 : decode m_La_areSources.2.1 152 = .ok (.iload 6, 2) := by decide +kernel
theorem d_La_areSources_154 : decode m_La_areSources.2.1 154 = .ok (.iload 4, 2) := by decide +kernel
theorem d_La_areSources_156 : decode m_La_areSources.2.1 156 = .ok (.if_icmp .lt 20, 3) := by decide +kernel
theorem d_La_areSources_159 : decode m_La_areSources.2.1 159 = .ok (.iload 6, 2) := by decide +kernel
theorem d_La_areSources_161 : decode m_La_areSources.2.1 161 = .ok (.iload_n 3, 1) := by decide +kernel
theorem d_La_areSources_162 : decode m_La_areSources.2.1 162 = .ok (.if_icmp .eq 10, 3) := by decide +kernel
theorem d_La_areSources_165 : decode m_La_areSources.2.1 165 = .ok (.iload 6, 2) := by decide +kernel
theorem d_La_areSources_167 : decode m_La_areSources.2.1 167 = .ok (.iload 4, 2) := by decide +kernel
theorem d_La_areSources_169 : decode m_La_areSources.2.1 169 = .ok (.if_icmp .ne 7, 3) := by decide +kernel
theorem d_La_areSources_172 : decode m_La_areSources.2.1 172 = .ok (.iconst 1, 1) := by decide +kernel
theorem d_La_areSources_173 : decode m_La_areSources.2.1 173 = .ok (.goto 4, 3) := by decide +kernel
theorem d_La_areSources_176 : decode m_La_areSources.2.1 176 = .ok (.iconst 0, 1) := by decide +kernel
theorem d_La_areSources_177 : decode m_La_areSources.2.1 177 = .ok (.ireturn, 1) := by decide +kernel
theorem d_La_law_0 : decode m_La_law.2.1 0 = .ok (.new 8, 3) := by decide +kernel
theorem d_La_law_3 : decode m_La_law.2.1 3 = .ok (.dup, 1) := by decide +kernel
theorem d_La_law_4 : decode m_La_law.2.1 4 = .ok (.invokespecial 71, 3) := by decide +kernel
theorem d_La_law_7 : decode m_La_law.2.1 7 = .ok (.astore_n 1, 1) := by decide +kernel
theorem d_La_law_8 : decode m_La_law.2.1 8 = .ok (.iconst 3, 1) := by decide +kernel
theorem d_La_law_9 : decode m_La_law.2.1 9 = .ok (.newarray .int, 2) := by decide +kernel
theorem d_La_law_11 : decode m_La_law.2.1 11 = .ok (.astore_n 2, 1) := by decide +kernel
theorem d_La_law_12 : decode m_La_law.2.1 12 = .ok (.iconst 3, 1) := by decide +kernel
theorem d_La_law_13 : decode m_La_law.2.1 13 = .ok (.newarray .int, 2) := by decide +kernel
theorem d_La_law_15 : decode m_La_law.2.1 15 = .ok (.astore_n 3, 1) := by decide +kernel
theorem d_La_law_16 : decode m_La_law.2.1 16 = .ok (.aload_n 0, 1) := by decide +kernel
theorem d_La_law_17 : decode m_La_law.2.1 17 = .ok (.arraylength, 1) := by decide +kernel
theorem d_La_law_18 : decode m_La_law.2.1 18 = .ok (.ifCond .le 12, 3) := by decide +kernel
theorem d_La_law_21 : decode m_La_law.2.1 21 = .ok (.aload_n 0, 1) := by decide +kernel
theorem d_La_law_22 : decode m_La_law.2.1 22 = .ok (.iconst 0, 1) := by decide +kernel
theorem d_La_law_23 : decode m_La_law.2.1 23 = .ok (.iaload, 1) := by decide +kernel
theorem d_La_law_24 : decode m_La_law.2.1 24 = .ok (.ldc 72, 2) := by decide +kernel
theorem d_La_law_26 : decode m_La_law.2.1 26 = .ok (.iand, 1) := by decide +kernel
theorem d_La_law_27 : decode m_La_law.2.1 27 = .ok (.goto 5, 3) := by decide +kernel
theorem d_La_law_30 : decode m_La_law.2.1 30 = .ok (.bipush 77, 2) := by decide +kernel
theorem d_La_law_32 : decode m_La_law.2.1 32 = .ok (.istore 4, 2) := by decide +kernel
theorem d_La_law_34 : decode m_La_law.2.1 34 = .ok (.iload 4, 2) := by decide +kernel
theorem d_La_law_36 : decode m_La_law.2.1 36 = .ok (.iconst 3, 1) := by decide +kernel
theorem d_La_law_37 : decode m_La_law.2.1 37 = .ok (.irem, 1) := by decide +kernel
theorem d_La_law_38 : decode m_La_law.2.1 38 = .ok (.istore 5, 2) := by decide +kernel
theorem d_La_law_40 : decode m_La_law.2.1 40 = .ok (.iconst 1, 1) := by decide +kernel
theorem d_La_law_41 : decode m_La_law.2.1 41 = .ok (.iload 4, 2) := by decide +kernel
theorem d_La_law_43 : decode m_La_law.2.1 43 = .ok (.iconst 2, 1) := by decide +kernel
theorem d_La_law_44 : decode m_La_law.2.1 44 = .ok (.ishr, 1) := by decide +kernel
theorem d_La_law_45 : decode m_La_law.2.1 45 = .ok (.bipush 50, 2) := by decide +kernel
theorem d_La_law_47 : decode m_La_law.2.1 47 = .ok (.irem, 1) := by decide +kernel
theorem d_La_law_48 : decode m_La_law.2.1 48 = .ok (.iadd, 1) := by decide +kernel
theorem d_La_law_49 : decode m_La_law.2.1 49 = .ok (.istore 6, 2) := by decide +kernel
theorem d_La_law_51 : decode m_La_law.2.1 51 = .ok (.iload 6, 2) := by decide +kernel
theorem d_La_law_53 : decode m_La_law.2.1 53 = .ok (.iload 4, 2) := by decide +kernel
theorem d_La_law_55 : decode m_La_law.2.1 55 = .ok (.bipush 8, 2) := by decide +kernel
theorem d_La_law_57 : decode m_La_law.2.1 57 = .ok (.ishr, 1) := by decide +kernel
theorem d_La_law_58 : decode m_La_law.2.1 58 = .ok (.iload 6, 2) := by decide +kernel
theorem d_La_law_60 : decode m_La_law.2.1 60 = .ok (.irem, 1) := by decide +kernel
theorem d_La_law_61 : decode m_La_law.2.1 61 = .ok (.isub, 1) := by decide +kernel
theorem d_La_law_62 : decode m_La_law.2.1 62 = .ok (.istore 7, 2) := by decide +kernel
theorem d_La_law_64 : decode m_La_law.2.1 64 = .ok (.iload 6, 2) := by decide +kernel
theorem d_La_law_66 : decode m_La_law.2.1 66 = .ok (.iload 7, 2) := by decide +kernel
theorem d_La_law_68 : decode m_La_law.2.1 68 = .ok (.iadd, 1) := by decide +kernel
theorem d_La_law_69 : decode m_La_law.2.1 69 = .ok (.iconst 1, 1) := by decide +kernel
theorem d_La_law_70 : decode m_La_law.2.1 70 = .ok (.isub, 1) := by decide +kernel
theorem d_La_law_71 : decode m_La_law.2.1 71 = .ok (.iload 7, 2) := by decide +kernel
theorem d_La_law_73 : decode m_La_law.2.1 73 = .ok (.idiv, 1) := by decide +kernel
theorem d_La_law_74 : decode m_La_law.2.1 74 = .ok (.bipush 8, 2) := by decide +kernel
theorem d_La_law_76 : decode m_La_law.2.1 76 = .ok (.if_icmp .le 8, 3) := by decide +kernel
theorem d_La_law_79 : decode m_La_law.2.1 79 = .ok (.iload 6, 2) := by decide +kernel
theorem d_La_law_81 : decode m_La_law.2.1 81 = .ok (.goto 5, 3) := by decide +kernel
theorem d_La_law_84 : decode m_La_law.2.1 84 = .ok (.iload 7, 2) := by decide +kernel
theorem d_La_law_86 : decode m_La_law.2.1 86 = .ok (.istore 7, 2) := by decide +kernel
theorem d_La_law_88 : decode m_La_law.2.1 88 = .ok (.iload 4, 2) := by decide +kernel
theorem d_La_law_90 : decode m_La_law.2.1 90 = .ok (.bipush 14, 2) := by decide +kernel
theorem d_La_law_92 : decode m_La_law.2.1 92 = .ok (.ishr, 1) := by decide +kernel
theorem d_La_law_93 : decode m_La_law.2.1 93 = .ok (.iconst 1, 1) := by decide +kernel
theorem d_La_law_94 : decode m_La_law.2.1 94 = .ok (.iand, 1) := by decide +kernel
theorem d_La_law_95 : decode m_La_law.2.1 95 = .ok (.ifCond .ne 7, 3) := by decide +kernel
theorem d_La_law_98 : decode m_La_law.2.1 98 = .ok (.iconst 1, 1) := by decide +kernel
theorem d_La_law_99 : decode m_La_law.2.1 99 = .ok (.goto 4, 3) := by decide +kernel
theorem d_La_law_102 : decode m_La_law.2.1 102 = .ok (.iconst 0, 1) := by decide +kernel
theorem d_La_law_103 : decode m_La_law.2.1 103 = .ok (.istore 8, 2) := by decide +kernel
theorem d_La_law_105 : decode m_La_law.2.1 105 = .ok (.aload_n 1, 1) := by decide +kernel
theorem d_La_law_106 : decode m_La_law.2.1 106 = .ok (.iload 5, 2) := by decide +kernel
theorem d_La_law_108 : decode m_La_law.2.1 108 = .ok (.iload 6, 2) := by decide +kernel
theorem d_La_law_110 : decode m_La_law.2.1 110 = .ok (.iload 7, 2) := by decide +kernel
theorem d_La_law_112 : decode m_La_law.2.1 112 = .ok (.iload 4, 2) := by decide +kernel
theorem d_La_law_114 : decode m_La_law.2.1 114 = .ok (.bipush 15, 2) := by decide +kernel
theorem d_La_law_116 : decode m_La_law.2.1 116 = .ok (.ishr, 1) := by decide +kernel
theorem d_La_law_117 : decode m_La_law.2.1 117 = .ok (.bipush 30, 2) := by decide +kernel
theorem d_La_law_119 : decode m_La_law.2.1 119 = .ok (.irem, 1) := by decide +kernel
theorem d_La_law_120 : decode m_La_law.2.1 120 = .ok (.iload 4, 2) := by decide +kernel
theorem d_La_law_122 : decode m_La_law.2.1 122 = .ok (.bipush 20, 2) := by decide +kernel
theorem d_La_law_124 : decode m_La_law.2.1 124 = .ok (.ishr, 1) := by decide +kernel
theorem d_La_law_125 : decode m_La_law.2.1 125 = .ok (.bipush 20, 2) := by decide +kernel
theorem d_La_law_127 : decode m_La_law.2.1 127 = .ok (.irem, 1) := by decide +kernel
theorem d_La_law_128 : decode m_La_law.2.1 128 = .ok (.iload 8, 2) := by decide +kernel
theorem d_La_law_130 : decode m_La_law.2.1 130 = .ok (.invokevirtual 73, 3) := by decide +kernel
theorem d_La_law_133 : decode m_La_law.2.1 133 = .ok (.aload_n 1, 1) := by decide +kernel
theorem d_La_law_134 : decode m_La_law.2.1 134 = .ok (.invokevirtual 68, 3) := by decide +kernel
theorem d_La_law_137 : decode m_La_law.2.1 137 = .ok (.iconst (-1), 1) := by decide +kernel
theorem d_La_law_138 : decode m_La_law.2.1 138 = .ok (.if_icmp .ne 14, 3) := by decide +kernel
theorem d_La_law_141 : decode m_La_law.2.1 141 = .ok (.aload_n 1, 1) := by decide +kernel
theorem d_La_law_142 : decode m_La_law.2.1 142 = .ok (.invokevirtual 77, 3) := by decide +kernel
theorem d_La_law_145 : decode m_La_law.2.1 145 = .ok (.ifCond .ne 7, 3) := by decide +kernel
theorem d_La_law_148 : decode m_La_law.2.1 148 = .ok (.iconst 1, 1) := by decide +kernel
theorem d_La_law_149 : decode m_La_law.2.1 149 = .ok (.goto 4, 3) := by decide +kernel
theorem d_La_law_152 : decode m_La_law.2.1 152 = .ok (.iconst 0, 1) := by decide +kernel
theorem d_La_law_153 : decode m_La_law.2.1 153 = .ok (.istore 9, 2) := by decide +kernel
theorem d_La_law_155 : decode m_La_law.2.1 155 = .ok (.iconst 0, 1) := by decide +kernel
theorem d_La_law_156 : decode m_La_law.2.1 156 = .ok (.istore 10, 2) := by decide +kernel
theorem d_La_law_158 : decode m_La_law.2.1 158 = .ok (.iconst 0, 1) := by decide +kernel
theorem d_La_law_159 : decode m_La_law.2.1 159 = .ok (.istore 11, 2) := by decide +kernel
theorem d_La_law_161 : decode m_La_law.2.1 161 = .ok (.iconst 1, 1) := by decide +kernel
theorem d_La_law_162 : decode m_La_law.2.1 162 = .ok (.istore 12, 2) := by decide +kernel
theorem d_La_law_164 : decode m_La_law.2.1 164 = .ok (.aload_n 0, 1) := by decide +kernel
theorem d_La_law_165 : decode m_La_law.2.1 165 = .ok (.arraylength, 1) := by decide +kernel
theorem d_La_law_166 : decode m_La_law.2.1 166 = .ok (.bipush 40, 2) := by decide +kernel
theorem d_La_law_168 : decode m_La_law.2.1 168 = .ok (.if_icmp .ge 8, 3) := by decide +kernel
theorem d_La_law_171 : decode m_La_law.2.1 171 = .ok (.bipush 120, 2) := by decide +kernel
theorem d_La_law_173 : decode m_La_law.2.1 173 = .ok (.goto 20, 3) := by decide +kernel
theorem d_La_law_176 : decode m_La_law.2.1 176 = .ok (.aload_n 0, 1) := by decide +kernel
theorem d_La_law_177 : decode m_La_law.2.1 177 = .ok (.arraylength, 1) := by decide +kernel
theorem d_La_law_178 : decode m_La_law.2.1 178 = .ok (.bipush 80, 2) := by decide +kernel
theorem d_La_law_180 : decode m_La_law.2.1 180 = .ok (.if_icmp .ge 10, 3) := by decide +kernel
theorem d_La_law_183 : decode m_La_law.2.1 183 = .ok (.iconst 2, 1) := by decide +kernel
theorem d_La_law_184 : decode m_La_law.2.1 184 = .ok (.aload_n 0, 1) := by decide +kernel
theorem d_La_law_185 : decode m_La_law.2.1 185 = .ok (.arraylength, 1) := by decide +kernel
theorem d_La_law_186 : decode m_La_law.2.1 186 = .ok (.imul, 1) := by decide +kernel
theorem d_La_law_187 : decode m_La_law.2.1 187 = .ok (.goto 6, 3) := by decide +kernel
theorem d_La_law_190 : decode m_La_law.2.1 190 = .ok (.sipush 200, 3) := by decide +kernel
theorem d_La_law_193 : decode m_La_law.2.1 193 = .ok (.istore 13, 2) := by decide +kernel
theorem d_La_law_195 : decode m_La_law.2.1 195 = .ok (.iconst 0, 1) := by decide +kernel
theorem d_La_law_196 : decode m_La_law.2.1 196 = .ok (.istore 14, 2) := by decide +kernel
theorem d_La_law_198 : decode m_La_law.2.1 198 = .ok (.iload 14, 2) := by decide +kernel
theorem d_La_law_200 : decode m_La_law.2.1 200 = .ok (.iload 13, 2) := by decide +kernel
theorem d_La_law_202 : decode m_La_law.2.1 202 = .ok (.if_icmp .ge 1120, 3) := by decide +kernel
theorem d_La_law_205 : decode m_La_law.2.1 205 = .ok (.iload 9, 2) := by decide +kernel
theorem d_La_law_207 : decode m_La_law.2.1 207 = .ok (.ifCond .eq 1115, 3) := by decide +kernel
theorem d_La_law_210 : decode m_La_law.2.1 210 = .ok (.iload 14, 2) := by decide +kernel
theorem d_La_law_212 : decode m_La_law.2.1 212 = .ok (.iconst 1, 1) := by decide +kernel
theorem d_La_law_213 : decode m_La_law.2.1 213 = .ok (.iadd, 1) := by decide +kernel
theorem d_La_law_214 : decode m_La_law.2.1 214 = .ok (.aload_n 0, 1) := by decide +kernel
theorem d_La_law_215 : decode m_La_law.2.1 215 = .ok (.arraylength, 1) := by decide +kernel
theorem d_La_law_216 : decode m_La_law.2.1 216 = .ok (.if_icmp .ge 12, 3) := by decide +kernel
theorem d_La_law_219 : decode m_La_law.2.1 219 = .ok (.aload_n 0, 1) := by decide +kernel
theorem d_La_law_220 : decode m_La_law.2.1 220 = .ok (.iload 14, 2) := by decide +kernel
theorem d_La_law_222 : decode m_La_law.2.1 222 = .ok (.iconst 1, 1) := by decide +kernel
theorem d_La_law_223 : decode m_La_law.2.1 223 = .ok (.iadd, 1) := by decide +kernel
theorem d_La_law_224 : decode m_La_law.2.1 224 = .ok (.iaload, 1) := by decide +kernel
theorem d_La_law_225 : decode m_La_law.2.1 225 = .ok (.goto 21, 3) := by decide +kernel
theorem d_La_law_228 : decode m_La_law.2.1 228 = .ok (.ldc 80, 2) := by decide +kernel
theorem d_La_law_230 : decode m_La_law.2.1 230 = .ok (.iload 14, 2) := by decide +kernel
theorem d_La_law_232 : decode m_La_law.2.1 232 = .ok (.imul, 1) := by decide +kernel
theorem d_La_law_233 : decode m_La_law.2.1 233 = .ok (.iload 14, 2) := by decide +kernel
theorem d_La_law_235 : decode m_La_law.2.1 235 = .ok (.imul, 1) := by decide +kernel
theorem d_La_law_236 : decode m_La_law.2.1 236 = .ok (.ldc 81, 2) := by decide +kernel
theorem d_La_law_238 : decode m_La_law.2.1 238 = .ok (.iload 14, 2) := by decide +kernel
theorem d_La_law_240 : decode m_La_law.2.1 240 = .ok (.imul, 1) := by decide +kernel
theorem d_La_law_241 : decode m_La_law.2.1 241 = .ok (.iadd, 1) := by decide +kernel
theorem d_La_law_242 : decode m_La_law.2.1 242 = .ok (.sipush 239, 3) := by decide +kernel
theorem d_La_law_245 : decode m_La_law.2.1 245 = .ok (.iadd, 1) := by decide +kernel
theorem d_La_law_246 : decode m_La_law.2.1 246 = .ok (.istore 15, 2) := by decide +kernel
theorem d_La_law_248 : decode m_La_law.2.1 248 = .ok (.iload 15, 2) := by decide +kernel
theorem d_La_law_250 : decode m_La_law.2.1 250 = .ok (.iconst 4, 1) := by decide +kernel
theorem d_La_law_251 : decode m_La_law.2.1 251 = .ok (.ishr, 1) := by decide +kernel
theorem d_La_law_252 : decode m_La_law.2.1 252 = .ok (.ldc 82, 2) := by decide +kernel
theorem d_La_law_254 : decode m_La_law.2.1 254 = .ok (.iand, 1) := by decide +kernel
theorem d_La_law_255 : decode m_La_law.2.1 255 = .ok (.istore 16, 2) := by decide +kernel
theorem d_La_law_257 : decode m_La_law.2.1 257 = .ok (.iload 14, 2) := by decide +kernel
theorem d_La_law_259 : decode m_La_law.2.1 259 = .ok (.iconst 3, 1) := by decide +kernel
theorem d_La_law_260 : decode m_La_law.2.1 260 = .ok (.if_icmp .ge 7, 3) := by decide +kernel
theorem d_La_law_263 : decode m_La_law.2.1 263 = .ok (.iconst 0, 1) := by decide +kernel
theorem d_La_law_264 : decode m_La_law.2.1 264 = .ok (.goto 8, 3) := by decide +kernel
theorem d_La_law_267 : decode m_La_law.2.1 267 = .ok (.iload 15, 2) := by decide +kernel
theorem d_La_law_269 : decode m_La_law.2.1 269 = .ok (.bipush 15, 2) := by decide +kernel
theorem d_La_law_271 : decode m_La_law.2.1 271 = .ok (.iand, 1) := by decide +kernel
theorem d_La_law_272 : decode m_La_law.2.1 272 = .ok (.istore 17, 2) := by decide +kernel
theorem d_La_law_274 : decode m_La_law.2.1 274 = .ok (.iload 16, 2) := by decide +kernel
theorem d_La_law_276 : decode m_La_law.2.1 276 = .ok (.iconst 3, 1) := by decide +kernel
theorem d_La_law_277 : decode m_La_law.2.1 277 = .ok (.irem, 1) := by decide +kernel
theorem d_La_law_278 : decode m_La_law.2.1 278 = .ok (.istore 18, 2) := by decide +kernel
theorem d_La_law_280 : decode m_La_law.2.1 280 = .ok (.aload_n 1, 1) := by decide +kernel
theorem d_La_law_281 : decode m_La_law.2.1 281 = .ok (.invokevirtual 68, 3) := by decide +kernel
theorem d_La_law_284 : decode m_La_law.2.1 284 = .ok (.istore 19, 2) := by decide +kernel
theorem d_La_law_286 : decode m_La_law.2.1 286 = .ok (.aload_n 1, 1) := by decide +kernel
theorem d_La_law_287 : decode m_La_law.2.1 287 = .ok (.invokevirtual 77, 3) := by decide +kernel
theorem d_La_law_290 : decode m_La_law.2.1 290 = .ok (.istore 20, 2) := by decide +kernel
theorem d_La_law_292 : decode m_La_law.2.1 292 = .ok (.iload 17, 2) := by decide +kernel
theorem d_La_law_294 : decode m_La_law.2.1 294 = .ok (.iconst 3, 1) := by decide +kernel
theorem d_La_law_295 : decode m_La_law.2.1 295 = .ok (.if_icmp .ge 124, 3) := by decide +kernel
theorem d_La_law_298 : decode m_La_law.2.1 298 = .ok (.iload 16, 2) := by decide +kernel
theorem d_La_law_300 : decode m_La_law.2.1 300 = .ok (.iconst 2, 1) := by decide +kernel
theorem d_La_law_301 : decode m_La_law.2.1 301 = .ok (.ishr, 1) := by decide +kernel
theorem d_La_law_302 : decode m_La_law.2.1 302 = .ok (.bipush 7, 2) := by decide +kernel
theorem d_La_law_304 : decode m_La_law.2.1 304 = .ok (.iand, 1) := by decide +kernel
theorem d_La_law_305 : decode m_La_law.2.1 305 = .ok (.ifCond .ne 14, 3) := by decide +kernel
theorem d_La_law_308 : decode m_La_law.2.1 308 = .ok (.iload 16, 2) := by decide +kernel
theorem d_La_law_310 : decode m_La_law.2.1 310 = .ok (.iconst 5, 1) := by decide +kernel
theorem d_La_law_311 : decode m_La_law.2.1 311 = .ok (.ishr, 1) := by decide +kernel
theorem d_La_law_312 : decode m_La_law.2.1 312 = .ok (.sipush 1000, 3) := by decide +kernel
theorem d_La_law_315 : decode m_La_law.2.1 315 = .ok (.irem, 1) := by decide +kernel
theorem d_La_law_316 : decode m_La_law.2.1 316 = .ok (.goto 19, 3) := by decide +kernel
theorem d_La_law_319 : decode m_La_law.2.1 319 = .ok (.iconst 5, 1) := by decide +kernel
theorem d_La_law_320 : decode m_La_law.2.1 320 = .ok (.iload 14, 2) := by decide +kernel
theorem d_La_law_322 : decode m_La_law.2.1 322 = .ok (.imul, 1) := by decide +kernel
theorem d_La_law_323 : decode m_La_law.2.1 323 = .ok (.iload 16, 2) := by decide +kernel
theorem d_La_law_325 : decode m_La_law.2.1 325 = .ok (.iconst 5, 1) := by decide +kernel
theorem d_La_law_326 : decode m_La_law.2.1 326 = .ok (.ishr, 1) := by decide +kernel
theorem d_La_law_327 : decode m_La_law.2.1 327 = .ok (.bipush 50, 2) := by decide +kernel
theorem d_La_law_329 : decode m_La_law.2.1 329 = .ok (.irem, 1) := by decide +kernel
theorem d_La_law_330 : decode m_La_law.2.1 330 = .ok (.iadd, 1) := by decide +kernel
theorem d_La_law_331 : decode m_La_law.2.1 331 = .ok (.sipush 1000, 3) := by decide +kernel
theorem d_La_law_334 : decode m_La_law.2.1 334 = .ok (.irem, 1) := by decide +kernel
theorem d_La_law_335 : decode m_La_law.2.1 335 = .ok (.istore 22, 2) := by decide +kernel
theorem d_La_law_337 : decode m_La_law.2.1 337 = .ok (.aload_n 1, 1) := by decide +kernel
theorem d_La_law_338 : decode m_La_law.2.1 338 = .ok (.iconst 0, 1) := by decide +kernel
theorem d_La_law_339 : decode m_La_law.2.1 339 = .ok (.iload 18, 2) := by decide +kernel
theorem d_La_law_341 : decode m_La_law.2.1 341 = .ok (.iload 22, 2) := by decide +kernel
theorem d_La_law_343 : decode m_La_law.2.1 343 = .ok (.iload 16, 2) := by decide +kernel
theorem d_La_law_345 : decode m_La_law.2.1 345 = .ok (.bipush 12, 2) := by decide +kernel
theorem d_La_law_347 : decode m_La_law.2.1 347 = .ok (.ishr, 1) := by decide +kernel
theorem d_La_law_348 : decode m_La_law.2.1 348 = .ok (.bipush 6, 2) := by decide +kernel
theorem d_La_law_350 : decode m_La_law.2.1 350 = .ok (.irem, 1) := by decide +kernel
theorem d_La_law_351 : decode m_La_law.2.1 351 = .ok (.iload 16, 2) := by decide +kernel
theorem d_La_law_353 : decode m_La_law.2.1 353 = .ok (.bipush 15, 2) := by decide +kernel
theorem d_La_law_355 : decode m_La_law.2.1 355 = .ok (.ishr, 1) := by decide +kernel
theorem d_La_law_356 : decode m_La_law.2.1 356 = .ok (.sipush 2001, 3) := by decide +kernel
theorem d_La_law_359 : decode m_La_law.2.1 359 = .ok (.irem, 1) := by decide +kernel
theorem d_La_law_360 : decode m_La_law.2.1 360 = .ok (.sipush 1000, 3) := by decide +kernel
theorem d_La_law_363 : decode m_La_law.2.1 363 = .ok (.isub, 1) := by decide +kernel
theorem d_La_law_364 : decode m_La_law.2.1 364 = .ok (.invokestatic 83, 3) := by decide +kernel
theorem d_La_law_367 : decode m_La_law.2.1 367 = .ok (.istore 21, 2) := by decide +kernel
theorem d_La_law_369 : decode m_La_law.2.1 369 = .ok (.iload 21, 2) := by decide +kernel
theorem d_La_law_371 : decode m_La_law.2.1 371 = .ok (.aload_n 2, 1) := by decide +kernel
theorem d_La_law_372 : decode m_La_law.2.1 372 = .ok (.iload 18, 2) := by decide +kernel
theorem d_La_law_374 : decode m_La_law.2.1 374 = .ok (.iaload, 1) := by decide +kernel
theorem d_La_law_375 : decode m_La_law.2.1 375 = .ok (.bipush 40, 2) := by decide +kernel
theorem d_La_law_377 : decode m_La_law.2.1 377 = .ok (.if_icmp .ge 10, 3) := by decide +kernel
theorem d_La_law_380 : decode m_La_law.2.1 380 = .ok (.aload_n 2, 1) := by decide +kernel
theorem d_La_law_381 : decode m_La_law.2.1 381 = .ok (.iload 18, 2) := by decide +kernel
theorem d_La_law_383 : decode m_La_law.2.1 383 = .ok (.iaload, 1) := by decide +kernel
theorem d_La_law_384 : decode m_La_law.2.1 384 = .ok (.goto 5, 3) := by decide +kernel
theorem d_La_law_387 : decode m_La_law.2.1 387 = .ok (.bipush (-13), 2) := by decide +kernel
theorem d_La_law_389 : decode m_La_law.2.1 389 = .ok (.if_icmp .ne 7, 3) := by decide +kernel
theorem d_La_law_392 : decode m_La_law.2.1 392 = .ok (.iconst 1, 1) := by decide +kernel
theorem d_La_law_393 : decode m_La_law.2.1 393 = .ok (.goto 4, 3) := by decide +kernel
theorem d_La_law_396 : decode m_La_law.2.1 396 = .ok (.iconst 0, 1) := by decide +kernel
theorem d_La_law_397 : decode m_La_law.2.1 397 = .ok (.istore 9, 2) := by decide +kernel
theorem d_La_law_399 : decode m_La_law.2.1 399 = .ok (.aload_n 2, 1) := by decide +kernel
theorem d_La_law_400 : decode m_La_law.2.1 400 = .ok (.iload 18, 2) := by decide +kernel
theorem d_La_law_402 : decode m_La_law.2.1 402 = .ok (.dup2, 1) := by decide +kernel
theorem d_La_law_403 : decode m_La_law.2.1 403 = .ok (.iaload, 1) := by decide +kernel
theorem d_La_law_404 : decode m_La_law.2.1 404 = .ok (.iload 21, 2) := by decide +kernel
theorem d_La_law_406 : decode m_La_law.2.1 406 = .ok (.ifCond .lt 7, 3) := by decide +kernel
theorem d_La_law_409 : decode m_La_law.2.1 409 = .ok (.iconst 1, 1) := by decide +kernel
theorem d_La_law_410 : decode m_La_law.2.1 410 = .ok (.goto 4, 3) := by decide +kernel
theorem d_La_law_413 : decode m_La_law.2.1 413 = .ok (.iconst 0, 1) := by decide +kernel
theorem d_La_law_414 : decode m_La_law.2.1 414 = .ok (.iadd, 1) := by decide +kernel
theorem d_La_law_415 : decode m_La_law.2.1 415 = .ok (.iastore, 1) := by decide +kernel
theorem d_La_law_416 : decode m_La_law.2.1 416 = .ok (.goto 793, 3) := by decide +kernel
theorem d_La_law_419 : decode m_La_law.2.1 419 = .ok (.iload 17, 2) := by decide +kernel
theorem d_La_law_421 : decode m_La_law.2.1 421 = .ok (.bipush 7, 2) := by decide +kernel
theorem d_La_law_423 : decode m_La_law.2.1 423 = .ok (.if_icmp .ge 92, 3) := by decide +kernel
theorem d_La_law_426 : decode m_La_law.2.1 426 = .ok (.aload_n 1, 1) := by decide +kernel
theorem d_La_law_427 : decode m_La_law.2.1 427 = .ok (.iload 18, 2) := by decide +kernel
theorem d_La_law_429 : decode m_La_law.2.1 429 = .ok (.invokevirtual 65, 3) := by decide +kernel
theorem d_La_law_432 : decode m_La_law.2.1 432 = .ok (.istore 22, 2) := by decide +kernel
theorem d_La_law_434 : decode m_La_law.2.1 434 = .ok (.aload_n 1, 1) := by decide +kernel
theorem d_La_law_435 : decode m_La_law.2.1 435 = .ok (.iload 18, 2) := by decide +kernel
theorem d_La_law_437 : decode m_La_law.2.1 437 = .ok (.invokevirtual 62, 3) := by decide +kernel
theorem d_La_law_440 : decode m_La_law.2.1 440 = .ok (.istore 23, 2) := by decide +kernel
theorem d_La_law_442 : decode m_La_law.2.1 442 = .ok (.aload_n 1, 1) := by decide +kernel
theorem d_La_law_443 : decode m_La_law.2.1 443 = .ok (.iconst 1, 1) := by decide +kernel
theorem d_La_law_444 : decode m_La_law.2.1 444 = .ok (.iload 18, 2) := by decide +kernel
theorem d_La_law_446 : decode m_La_law.2.1 446 = .ok (.iconst 0, 1) := by decide +kernel
theorem d_La_law_447 : decode m_La_law.2.1 447 = .ok (.iconst 0, 1) := by decide +kernel
theorem d_La_law_448 : decode m_La_law.2.1 448 = .ok (.iconst 0, 1) := by decide +kernel
theorem d_La_law_449 : decode m_La_law.2.1 449 = .ok (.invokestatic 83, 3) := by decide +kernel
theorem d_La_law_452 : decode m_La_law.2.1 452 = .ok (.istore 21, 2) := by decide +kernel
theorem d_La_law_454 : decode m_La_law.2.1 454 = .ok (.iload 21, 2) := by decide +kernel
theorem d_La_law_456 : decode m_La_law.2.1 456 = .ok (.iload 22, 2) := by decide +kernel
theorem d_La_law_458 : decode m_La_law.2.1 458 = .ok (.aload_n 2, 1) := by decide +kernel
theorem d_La_law_459 : decode m_La_law.2.1 459 = .ok (.iload 18, 2) := by decide +kernel
theorem d_La_law_461 : decode m_La_law.2.1 461 = .ok (.iaload, 1) := by decide +kernel
theorem d_La_law_462 : decode m_La_law.2.1 462 = .ok (.if_icmp .ge 16, 3) := by decide +kernel
theorem d_La_law_465 : decode m_La_law.2.1 465 = .ok (.iload 23, 2) := by decide +kernel
theorem d_La_law_467 : decode m_La_law.2.1 467 = .ok (.iconst 4, 1) := by decide +kernel
theorem d_La_law_468 : decode m_La_law.2.1 468 = .ok (.if_icmp .ge 10, 3) := by decide +kernel
theorem d_La_law_471 : decode m_La_law.2.1 471 = .ok (.iload 23, 2) := by decide +kernel
theorem d_La_law_473 : decode m_La_law.2.1 473 = .ok (.iconst 1, 1) := by decide +kernel
theorem d_La_law_474 : decode m_La_law.2.1 474 = .ok (.iadd, 1) := by decide +kernel
theorem d_La_law_475 : decode m_La_law.2.1 475 = .ok (.goto 5, 3) := by decide +kernel
theorem d_La_law_478 : decode m_La_law.2.1 478 = .ok (.bipush (-13), 2) := by decide +kernel
theorem d_La_law_480 : decode m_La_law.2.1 480 = .ok (.if_icmp .ne 29, 3) := by decide +kernel
theorem d_La_law_483 : decode m_La_law.2.1 483 = .ok (.aload_n 1, 1) := by decide +kernel
theorem d_La_law_484 : decode m_La_law.2.1 484 = .ok (.iload 18, 2) := by decide +kernel
theorem d_La_law_486 : decode m_La_law.2.1 486 = .ok (.invokevirtual 65, 3) := by decide +kernel
theorem d_La_law_489 : decode m_La_law.2.1 489 = .ok (.iload 22, 2) := by decide +kernel
theorem d_La_law_491 : decode m_La_law.2.1 491 = .ok (.iload 21, 2) := by decide +kernel
theorem d_La_law_493 : decode m_La_law.2.1 493 = .ok (.ifCond .le 7, 3) := by decide +kernel
theorem d_La_law_496 : decode m_La_law.2.1 496 = .ok (.iconst 1, 1) := by decide +kernel
theorem d_La_law_497 : decode m_La_law.2.1 497 = .ok (.goto 4, 3) := by decide +kernel
theorem d_La_law_500 : decode m_La_law.2.1 500 = .ok (.iconst 0, 1) := by decide +kernel
theorem d_La_law_501 : decode m_La_law.2.1 501 = .ok (.iadd, 1) := by decide +kernel
theorem d_La_law_502 : decode m_La_law.2.1 502 = .ok (.if_icmp .ne 7, 3) := by decide +kernel
theorem d_La_law_505 : decode m_La_law.2.1 505 = .ok (.iconst 1, 1) := by decide +kernel
theorem d_La_law_506 : decode m_La_law.2.1 506 = .ok (.goto 4, 3) := by decide +kernel
theorem d_La_law_509 : decode m_La_law.2.1 509 = .ok (.iconst 0, 1) := by decide +kernel
theorem d_La_law_510 : decode m_La_law.2.1 510 = .ok (.istore 9, 2) := by decide +kernel
theorem d_La_law_512 : decode m_La_law.2.1 512 = .ok (.goto 697, 3) := by decide +kernel
theorem d_La_law_515 : decode m_La_law.2.1 515 = .ok (.iload 17, 2) := by decide +kernel
theorem d_La_law_517 : decode m_La_law.2.1 517 = .ok (.bipush 12, 2) := by decide +kernel
theorem d_La_law_519 : decode m_La_law.2.1 519 = .ok (.if_icmp .ge 183, 3) := by decide +kernel
theorem d_La_law_522 : decode m_La_law.2.1 522 = .ok (.aload_n 1, 1) := by decide +kernel
theorem d_La_law_523 : decode m_La_law.2.1 523 = .ok (.iload 18, 2) := by decide +kernel
theorem d_La_law_525 : decode m_La_law.2.1 525 = .ok (.invokevirtual 62, 3) := by decide +kernel
theorem d_La_law_528 : decode m_La_law.2.1 528 = .ok (.istore 22, 2) := by decide +kernel
theorem d_La_law_530 : decode m_La_law.2.1 530 = .ok (.aload_n 1, 1) := by decide +kernel
theorem d_La_law_531 : decode m_La_law.2.1 531 = .ok (.invokevirtual 86, 3) := by decide +kernel
theorem d_La_law_534 : decode m_La_law.2.1 534 = .ok (.istore 23, 2) := by decide +kernel
theorem d_La_law_536 : decode m_La_law.2.1 536 = .ok (.aload_n 1, 1) := by decide +kernel
theorem d_La_law_537 : decode m_La_law.2.1 537 = .ok (.invokevirtual 52, 3) := by decide +kernel
theorem d_La_law_540 : decode m_La_law.2.1 540 = .ok (.istore 24, 2) := by decide +kernel
theorem d_La_law_542 : decode m_La_law.2.1 542 = .ok (.aload_n 1, 1) := by decide +kernel
theorem d_La_law_543 : decode m_La_law.2.1 543 = .ok (.iconst 2, 1) := by decide +kernel
theorem d_La_law_544 : decode m_La_law.2.1 544 = .ok (.iload 18, 2) := by decide +kernel
theorem d_La_law_546 : decode m_La_law.2.1 546 = .ok (.iconst 0, 1) := by decide +kernel
theorem d_La_law_547 : decode m_La_law.2.1 547 = .ok (.iconst 0, 1) := by decide +kernel
theorem d_La_law_548 : decode m_La_law.2.1 548 = .ok (.iconst 0, 1) := by decide +kernel
theorem d_La_law_549 : decode m_La_law.2.1 549 = .ok (.invokestatic 83, 3) := by decide +kernel
theorem d_La_law_552 : decode m_La_law.2.1 552 = .ok (.istore 21, 2) := by decide +kernel
theorem d_La_law_554 : decode m_La_law.2.1 554 = .ok (.iload 21, 2) := by decide +kernel
theorem d_La_law_556 : decode m_La_law.2.1 556 = .ok (.ifCond .lt 13, 3) := by decide +kernel
theorem d_La_law_559 : decode m_La_law.2.1 559 = .ok (.iload 21, 2) := by decide +kernel
theorem d_La_law_561 : decode m_La_law.2.1 561 = .ok (.iconst 3, 1) := by decide +kernel
theorem d_La_law_562 : decode m_La_law.2.1 562 = .ok (.if_icmp .ge 7, 3) := by decide +kernel
theorem d_La_law_565 : decode m_La_law.2.1 565 = .ok (.iconst 1, 1) := by decide +kernel
theorem d_La_law_566 : decode m_La_law.2.1 566 = .ok (.goto 4, 3) := by decide +kernel
theorem d_La_law_569 : decode m_La_law.2.1 569 = .ok (.iconst 0, 1) := by decide +kernel
theorem d_La_law_570 : decode m_La_law.2.1 570 = .ok (.istore 25, 2) := by decide +kernel
theorem d_La_law_572 : decode m_La_law.2.1 572 = .ok (.iload 21, 2) := by decide +kernel
theorem d_La_law_574 : decode m_La_law.2.1 574 = .ok (.bipush (-13), 2) := by decide +kernel
theorem d_La_law_576 : decode m_La_law.2.1 576 = .ok (.if_icmp .eq 14, 3) := by decide +kernel
theorem d_La_law_579 : decode m_La_law.2.1 579 = .ok (.iload 21, 2) := by decide +kernel
theorem d_La_law_581 : decode m_La_law.2.1 581 = .ok (.ifCond .lt 99, 3) := by decide +kernel
theorem d_La_law_584 : decode m_La_law.2.1 584 = .ok (.iload 21, 2) := by decide +kernel
theorem d_La_law_586 : decode m_La_law.2.1 586 = .ok (.iconst 5, 1) := by decide +kernel
theorem d_La_law_587 : decode m_La_law.2.1 587 = .ok (.if_icmp .ge 93, 3) := by decide +kernel
theorem d_La_law_590 : decode m_La_law.2.1 590 = .ok (.aload_n 1, 1) := by decide +kernel
theorem d_La_law_591 : decode m_La_law.2.1 591 = .ok (.iload 18, 2) := by decide +kernel
theorem d_La_law_593 : decode m_La_law.2.1 593 = .ok (.invokevirtual 62, 3) := by decide +kernel
theorem d_La_law_596 : decode m_La_law.2.1 596 = .ok (.iload 22, 2) := by decide +kernel
theorem d_La_law_598 : decode m_La_law.2.1 598 = .ok (.iload 25, 2) := by decide +kernel
theorem d_La_law_600 : decode m_La_law.2.1 600 = .ok (.ifCond .eq 7, 3) := by decide +kernel
theorem d_La_law_603 : decode m_La_law.2.1 603 = .ok (.iconst 1, 1) := by decide +kernel
theorem d_La_law_604 : decode m_La_law.2.1 604 = .ok (.goto 4, 3) := by decide +kernel
theorem d_La_law_607 : decode m_La_law.2.1 607 = .ok (.iconst 0, 1) := by decide +kernel
theorem d_La_law_608 : decode m_La_law.2.1 608 = .ok (.isub, 1) := by decide +kernel
theorem d_La_law_609 : decode m_La_law.2.1 609 = .ok (.if_icmp .ne 71, 3) := by decide +kernel
theorem d_La_law_612 : decode m_La_law.2.1 612 = .ok (.aload_n 1, 1) := by decide +kernel
theorem d_La_law_613 : decode m_La_law.2.1 613 = .ok (.invokevirtual 86, 3) := by decide +kernel
theorem d_La_law_616 : decode m_La_law.2.1 616 = .ok (.iload 23, 2) := by decide +kernel
theorem d_La_law_618 : decode m_La_law.2.1 618 = .ok (.iload 21, 2) := by decide +kernel
theorem d_La_law_620 : decode m_La_law.2.1 620 = .ok (.iconst 2, 1) := by decide +kernel
theorem d_La_law_621 : decode m_La_law.2.1 621 = .ok (.if_icmp .ne 7, 3) := by decide +kernel
theorem d_La_law_624 : decode m_La_law.2.1 624 = .ok (.iconst 1, 1) := by decide +kernel
theorem d_La_law_625 : decode m_La_law.2.1 625 = .ok (.goto 4, 3) := by decide +kernel
theorem d_La_law_628 : decode m_La_law.2.1 628 = .ok (.iconst 0, 1) := by decide +kernel
theorem d_La_law_629 : decode m_La_law.2.1 629 = .ok (.iadd, 1) := by decide +kernel
theorem d_La_law_630 : decode m_La_law.2.1 630 = .ok (.if_icmp .ne 50, 3) := by decide +kernel
theorem d_La_law_633 : decode m_La_law.2.1 633 = .ok (.aload_n 1, 1) := by decide +kernel
theorem d_La_law_634 : decode m_La_law.2.1 634 = .ok (.invokevirtual 77, 3) := by decide +kernel
theorem d_La_law_637 : decode m_La_law.2.1 637 = .ok (.iload 20, 2) := by decide +kernel
theorem d_La_law_639 : decode m_La_law.2.1 639 = .ok (.if_icmp .lt 41, 3) := by decide +kernel
theorem d_La_law_642 : decode m_La_law.2.1 642 = .ok (.iload 21, 2) := by decide +kernel
theorem d_La_law_644 : decode m_La_law.2.1 644 = .ok (.ifCond .eq 12, 3) := by decide +kernel
theorem d_La_law_647 : decode m_La_law.2.1 647 = .ok (.aload_n 1, 1) := by decide +kernel
theorem d_La_law_648 : decode m_La_law.2.1 648 = .ok (.invokevirtual 52, 3) := by decide +kernel
theorem d_La_law_651 : decode m_La_law.2.1 651 = .ok (.iload 24, 2) := by decide +kernel
theorem d_La_law_653 : decode m_La_law.2.1 653 = .ok (.if_icmp .ne 27, 3) := by decide +kernel
theorem d_La_law_656 : decode m_La_law.2.1 656 = .ok (.iload 21, 2) := by decide +kernel
theorem d_La_law_658 : decode m_La_law.2.1 658 = .ok (.iconst 3, 1) := by decide +kernel
theorem d_La_law_659 : decode m_La_law.2.1 659 = .ok (.if_icmp .lt 17, 3) := by decide +kernel
theorem d_La_law_662 : decode m_La_law.2.1 662 = .ok (.iload 8, 2) := by decide +kernel
theorem d_La_law_664 : decode m_La_law.2.1 664 = .ok (.ifCond .eq 16, 3) := by decide +kernel
theorem d_La_law_667 : decode m_La_law.2.1 667 = .ok (.aload_n 1, 1) := by decide +kernel
theorem d_La_law_668 : decode m_La_law.2.1 668 = .ok (.invokevirtual 68, 3) := by decide +kernel
theorem d_La_law_671 : decode m_La_law.2.1 671 = .ok (.iload 19, 2) := by decide +kernel
theorem d_La_law_673 : decode m_La_law.2.1 673 = .ok (.if_icmp .ne 7, 3) := by decide +kernel
theorem d_La_law_676 : decode m_La_law.2.1 676 = .ok (.iconst 1, 1) := by decide +kernel
theorem d_La_law_677 : decode m_La_law.2.1 677 = .ok (.goto 4, 3) := by decide +kernel
theorem d_La_law_680 : decode m_La_law.2.1 680 = .ok (.iconst 0, 1) := by decide +kernel
theorem d_La_law_681 : decode m_La_law.2.1 681 = .ok (.istore 9, 2) := by decide +kernel
theorem d_La_law_683 : decode m_La_law.2.1 683 = .ok (.iload 11, 2) := by decide +kernel
theorem d_La_law_685 : decode m_La_law.2.1 685 = .ok (.iload 21, 2) := by decide +kernel
theorem d_La_law_687 : decode m_La_law.2.1 687 = .ok (.iconst 4, 1) := by decide +kernel
theorem d_La_law_688 : decode m_La_law.2.1 688 = .ok (.if_icmp .ne 7, 3) := by decide +kernel
theorem d_La_law_691 : decode m_La_law.2.1 691 = .ok (.iconst 1, 1) := by decide +kernel
theorem d_La_law_692 : decode m_La_law.2.1 692 = .ok (.goto 4, 3) := by decide +kernel
theorem d_La_law_695 : decode m_La_law.2.1 695 = .ok (.iconst 0, 1) := by decide +kernel
theorem d_La_law_696 : decode m_La_law.2.1 696 = .ok (.iadd, 1) := by decide +kernel
theorem d_La_law_697 : decode m_La_law.2.1 697 = .ok (.istore 11, 2) := by decide +kernel
theorem d_La_law_699 : decode m_La_law.2.1 699 = .ok (.goto 510, 3) := by decide +kernel
theorem d_La_law_702 : decode m_La_law.2.1 702 = .ok (.iload 17, 2) := by decide +kernel
theorem d_La_law_704 : decode m_La_law.2.1 704 = .ok (.bipush 12, 2) := by decide +kernel
theorem d_La_law_706 : decode m_La_law.2.1 706 = .ok (.if_icmp .ne 81, 3) := by decide +kernel
theorem d_La_law_709 : decode m_La_law.2.1 709 = .ok (.aload_n 1, 1) := by decide +kernel
theorem d_La_law_710 : decode m_La_law.2.1 710 = .ok (.iconst 3, 1) := by decide +kernel
theorem d_La_law_711 : decode m_La_law.2.1 711 = .ok (.iconst 0, 1) := by decide +kernel
theorem d_La_law_712 : decode m_La_law.2.1 712 = .ok (.iconst 0, 1) := by decide +kernel
theorem d_La_law_713 : decode m_La_law.2.1 713 = .ok (.iconst 0, 1) := by decide +kernel
theorem d_La_law_714 : decode m_La_law.2.1 714 = .ok (.iconst 0, 1) := by decide +kernel
theorem d_La_law_715 : decode m_La_law.2.1 715 = .ok (.invokestatic 83, 3) := by decide +kernel
theorem d_La_law_718 : decode m_La_law.2.1 718 = .ok (.istore 21, 2) := by decide +kernel
theorem d_La_law_720 : decode m_La_law.2.1 720 = .ok (.iload 11, 2) := by decide +kernel
theorem d_La_law_722 : decode m_La_law.2.1 722 = .ok (.iload 8, 2) := by decide +kernel
theorem d_La_law_724 : decode m_La_law.2.1 724 = .ok (.ifCond .ne 12, 3) := by decide +kernel
theorem d_La_law_727 : decode m_La_law.2.1 727 = .ok (.iload 21, 2) := by decide +kernel
theorem d_La_law_729 : decode m_La_law.2.1 729 = .ok (.ifCond .lt 7, 3) := by decide +kernel
theorem d_La_law_732 : decode m_La_law.2.1 732 = .ok (.iconst 1, 1) := by decide +kernel
theorem d_La_law_733 : decode m_La_law.2.1 733 = .ok (.goto 4, 3) := by decide +kernel
theorem d_La_law_736 : decode m_La_law.2.1 736 = .ok (.iconst 0, 1) := by decide +kernel
theorem d_La_law_737 : decode m_La_law.2.1 737 = .ok (.iadd, 1) := by decide +kernel
theorem d_La_law_738 : decode m_La_law.2.1 738 = .ok (.istore 11, 2) := by decide +kernel
theorem d_La_law_740 : decode m_La_law.2.1 740 = .ok (.iload 21, 2) := by decide +kernel
theorem d_La_law_742 : decode m_La_law.2.1 742 = .ok (.bipush (-13), 2) := by decide +kernel
theorem d_La_law_744 : decode m_La_law.2.1 744 = .ok (.if_icmp .ne 8, 3) := by decide +kernel
theorem d_La_law_747 : decode m_La_law.2.1 747 = .ok (.iload 8, 2) := by decide +kernel
theorem d_La_law_749 : decode m_La_law.2.1 749 = .ok (.goto 33, 3) := by decide +kernel
theorem d_La_law_752 : decode m_La_law.2.1 752 = .ok (.iload 21, 2) := by decide +kernel
theorem d_La_law_754 : decode m_La_law.2.1 754 = .ok (.iload 11, 2) := by decide +kernel
theorem d_La_law_756 : decode m_La_law.2.1 756 = .ok (.if_icmp .ne 25, 3) := by decide +kernel
theorem d_La_law_759 : decode m_La_law.2.1 759 = .ok (.aload_n 1, 1) := by decide +kernel
theorem d_La_law_760 : decode m_La_law.2.1 760 = .ok (.invokevirtual 68, 3) := by decide +kernel
theorem d_La_law_763 : decode m_La_law.2.1 763 = .ok (.iload 19, 2) := by decide +kernel
theorem d_La_law_765 : decode m_La_law.2.1 765 = .ok (.if_icmp .ne 16, 3) := by decide +kernel
theorem d_La_law_768 : decode m_La_law.2.1 768 = .ok (.aload_n 1, 1) := by decide +kernel
theorem d_La_law_769 : decode m_La_law.2.1 769 = .ok (.invokevirtual 77, 3) := by decide +kernel
theorem d_La_law_772 : decode m_La_law.2.1 772 = .ok (.iload 20, 2) := by decide +kernel
theorem d_La_law_774 : decode m_La_law.2.1 774 = .ok (.if_icmp .ne 7, 3) := by decide +kernel
theorem d_La_law_777 : decode m_La_law.2.1 777 = .ok (.iconst 1, 1) := by decide +kernel
theorem d_La_law_778 : decode m_La_law.2.1 778 = .ok (.goto 4, 3) := by decide +kernel
theorem d_La_law_781 : decode m_La_law.2.1 781 = .ok (.iconst 0, 1) := by decide +kernel
theorem d_La_law_782 : decode m_La_law.2.1 782 = .ok (.istore 9, 2) := by decide +kernel
theorem d_La_law_784 : decode m_La_law.2.1 784 = .ok (.goto 425, 3) := by decide +kernel
theorem d_La_law_787 : decode m_La_law.2.1 787 = .ok (.iload 17, 2) := by decide +kernel
theorem d_La_law_789 : decode m_La_law.2.1 789 = .ok (.bipush 13, 2) := by decide +kernel
theorem d_La_law_791 : decode m_La_law.2.1 791 = .ok (.if_icmp .ne 98, 3) := by decide +kernel
