/-! decode rows, printed by wip/gen/evid.py -/
theorem d_St_take_53 : decode m_St_take.2.1 53 = .ok (.invokevirtual 175, 3) := by decide +kernel
theorem d_St_take_56 : decode m_St_take.2.1 56 = .ok (.astore_n 2, 1) := by decide +kernel
theorem d_St_take_57 : decode m_St_take.2.1 57 = .ok (.aload_n 2, 1) := by decide +kernel
theorem d_St_take_58 : decode m_St_take.2.1 58 = .ok (.ifnonnull 13, 3) := by decide +kernel
theorem d_St_take_61 : decode m_St_take.2.1 61 = .ok (.new 129, 3) := by decide +kernel
theorem d_St_take_64 : decode m_St_take.2.1 64 = .ok (.dup, 1) := by decide +kernel
theorem d_St_take_65 : decode m_St_take.2.1 65 = .ok (.ldc 179, 2) := by decide +kernel
theorem d_St_take_67 : decode m_St_take.2.1 67 = .ok (.invokespecial 133, 3) := by decide +kernel
theorem d_St_take_70 : decode m_St_take.2.1 70 = .ok (.athrow, 1) := by decide +kernel
theorem d_St_take_71 : decode m_St_take.2.1 71 = .ok (.aload_n 0, 1) := by decide +kernel
theorem d_St_take_72 : decode m_St_take.2.1 72 = .ok (.iload_n 1, 1) := by decide +kernel
theorem d_St_take_73 : decode m_St_take.2.1 73 = .ok (.aload_n 2, 1) := by decide +kernel
theorem d_St_take_74 : decode m_St_take.2.1 74 = .ok (.invokevirtual 181, 3) := by decide +kernel
theorem d_St_take_77 : decode m_St_take.2.1 77 = .ok (.ireturn, 1) := by decide +kernel
theorem d_St_barrier_0 : decode m_St_barrier.2.1 0 = .ok (.aload_n 0, 1) := by decide +kernel
theorem d_St_barrier_1 : decode m_St_barrier.2.1 1 = .ok (.getfield 50, 3) := by decide +kernel
theorem d_St_barrier_4 : decode m_St_barrier.2.1 4 = .ok (.getfield 185, 3) := by decide +kernel
theorem d_St_barrier_7 : decode m_St_barrier.2.1 7 = .ok (.ifCond .eq 13, 3) := by decide +kernel
theorem d_St_barrier_10 : decode m_St_barrier.2.1 10 = .ok (.new 129, 3) := by decide +kernel
theorem d_St_barrier_13 : decode m_St_barrier.2.1 13 = .ok (.dup, 1) := by decide +kernel
theorem d_St_barrier_14 : decode m_St_barrier.2.1 14 = .ok (.ldc 188, 2) := by decide +kernel
theorem d_St_barrier_16 : decode m_St_barrier.2.1 16 = .ok (.invokespecial 133, 3) := by decide +kernel
theorem d_St_barrier_19 : decode m_St_barrier.2.1 19 = .ok (.athrow, 1) := by decide +kernel
theorem d_St_barrier_20 : decode m_St_barrier.2.1 20 = .ok (.aload_n 0, 1) := by decide +kernel
theorem d_St_barrier_21 : decode m_St_barrier.2.1 21 = .ok (.iconst 1, 1) := by decide +kernel
theorem d_St_barrier_22 : decode m_St_barrier.2.1 22 = .ok (.putfield 54, 3) := by decide +kernel
theorem d_St_barrier_25 : decode m_St_barrier.2.1 25 = .ok (.aload_n 0, 1) := by decide +kernel
theorem d_St_barrier_26 : decode m_St_barrier.2.1 26 = .ok (.getfield 50, 3) := by decide +kernel
theorem d_St_barrier_29 : decode m_St_barrier.2.1 29 = .ok (.aload_n 0, 1) := by decide +kernel
theorem d_St_barrier_30 : decode m_St_barrier.2.1 30 = .ok (.getfield 26, 3) := by decide +kernel
theorem d_St_barrier_33 : decode m_St_barrier.2.1 33 = .ok (.getfield 143, 3) := by decide +kernel
theorem d_St_barrier_36 : decode m_St_barrier.2.1 36 = .ok (.aload_n 0, 1) := by decide +kernel
theorem d_St_barrier_37 : decode m_St_barrier.2.1 37 = .ok (.getfield 10, 3) := by decide +kernel
theorem d_St_barrier_40 : decode m_St_barrier.2.1 40 = .ok (.getfield 103, 3) := by decide +kernel
theorem d_St_barrier_43 : decode m_St_barrier.2.1 43 = .ok (.invokevirtual 190, 3) := by decide +kernel
theorem d_St_barrier_46 : decode m_St_barrier.2.1 46 = .ok (.aload_n 0, 1) := by decide +kernel
theorem d_St_barrier_47 : decode m_St_barrier.2.1 47 = .ok (.getfield 10, 3) := by decide +kernel
theorem d_St_barrier_50 : decode m_St_barrier.2.1 50 = .ok (.getfield 103, 3) := by decide +kernel
theorem d_St_barrier_53 : decode m_St_barrier.2.1 53 = .ok (.ifCond .ne 7, 3) := by decide +kernel
theorem d_St_barrier_56 : decode m_St_barrier.2.1 56 = .ok (.aload_n 0, 1) := by decide +kernel
theorem d_St_barrier_57 : decode m_St_barrier.2.1 57 = .ok (.invokevirtual 194, 3) := by decide +kernel
theorem d_St_barrier_60 : decode m_St_barrier.2.1 60 = .ok (.aload_n 0, 1) := by decide +kernel
theorem d_St_barrier_61 : decode m_St_barrier.2.1 61 = .ok (.getfield 58, 3) := by decide +kernel
theorem d_St_barrier_64 : decode m_St_barrier.2.1 64 = .ok (.ireturn, 1) := by decide +kernel
theorem d_St_confirm_0 : decode m_St_confirm.2.1 0 = .ok (.aload_n 0, 1) := by decide +kernel
theorem d_St_confirm_1 : decode m_St_confirm.2.1 1 = .ok (.getfield 62, 3) := by decide +kernel
theorem d_St_confirm_4 : decode m_St_confirm.2.1 4 = .ok (.ifCond .ne 13, 3) := by decide +kernel
theorem d_St_confirm_7 : decode m_St_confirm.2.1 7 = .ok (.new 129, 3) := by decide +kernel
theorem d_St_confirm_10 : decode m_St_confirm.2.1 10 = .ok (.dup, 1) := by decide +kernel
theorem d_St_confirm_11 : decode m_St_confirm.2.1 11 = .ok (.ldc 197, 2) := by decide +kernel
theorem d_St_confirm_13 : decode m_St_confirm.2.1 13 = .ok (.invokespecial 133, 3) := by decide +kernel
theorem d_St_confirm_16 : decode m_St_confirm.2.1 16 = .ok (.athrow, 1) := by decide +kernel
theorem d_St_confirm_17 : decode m_St_confirm.2.1 17 = .ok (.aload_n 0, 1) := by decide +kernel
theorem d_St_confirm_18 : decode m_St_confirm.2.1 18 = .ok (.invokevirtual 199, 3) := by decide +kernel
theorem d_St_confirm_21 : decode m_St_confirm.2.1 21 = .ok (.aload_n 0, 1) := by decide +kernel
theorem d_St_confirm_22 : decode m_St_confirm.2.1 22 = .ok (.getfield 43, 3) := by decide +kernel
theorem d_St_confirm_25 : decode m_St_confirm.2.1 25 = .ok (.getfield 202, 3) := by decide +kernel
theorem d_St_confirm_28 : decode m_St_confirm.2.1 28 = .ok (.ireturn, 1) := by decide +kernel
theorem d_St_fail_0 : decode m_St_fail.2.1 0 = .ok (.aload_n 0, 1) := by decide +kernel
theorem d_St_fail_1 : decode m_St_fail.2.1 1 = .ok (.invokevirtual 205, 3) := by decide +kernel
theorem d_St_fail_4 : decode m_St_fail.2.1 4 = .ok (.aload_n 0, 1) := by decide +kernel
theorem d_St_fail_5 : decode m_St_fail.2.1 5 = .ok (.getfield 43, 3) := by decide +kernel
theorem d_St_fail_8 : decode m_St_fail.2.1 8 = .ok (.getfield 202, 3) := by decide +kernel
theorem d_St_fail_11 : decode m_St_fail.2.1 11 = .ok (.ireturn, 1) := by decide +kernel
theorem d_St_workers_0 : decode m_St_workers.2.1 0 = .ok (.iload_n 1, 1) := by decide +kernel
theorem d_St_workers_1 : decode m_St_workers.2.1 1 = .ok (.iconst 1, 1) := by decide +kernel
theorem d_St_workers_2 : decode m_St_workers.2.1 2 = .ok (.if_icmp .lt 8, 3) := by decide +kernel
theorem d_St_workers_5 : decode m_St_workers.2.1 5 = .ok (.iload_n 1, 1) := by decide +kernel
theorem d_St_workers_6 : decode m_St_workers.2.1 6 = .ok (.iconst 3, 1) := by decide +kernel
theorem d_St_workers_7 : decode m_St_workers.2.1 7 = .ok (.if_icmp .le 13, 3) := by decide +kernel
theorem d_St_workers_10 : decode m_St_workers.2.1 10 = .ok (.new 72, 3) := by decide +kernel
theorem d_St_workers_13 : decode m_St_workers.2.1 13 = .ok (.dup, 1) := by decide +kernel
theorem d_St_workers_14 : decode m_St_workers.2.1 14 = .ok (.ldc 208, 2) := by decide +kernel
theorem d_St_workers_16 : decode m_St_workers.2.1 16 = .ok (.invokespecial 76, 3) := by decide +kernel
theorem d_St_workers_19 : decode m_St_workers.2.1 19 = .ok (.athrow, 1) := by decide +kernel
theorem d_St_workers_20 : decode m_St_workers.2.1 20 = .ok (.aload_n 0, 1) := by decide +kernel
theorem d_St_workers_21 : decode m_St_workers.2.1 21 = .ok (.getfield 58, 3) := by decide +kernel
theorem d_St_workers_24 : decode m_St_workers.2.1 24 = .ok (.ifCond .ne 13, 3) := by decide +kernel
theorem d_St_workers_27 : decode m_St_workers.2.1 27 = .ok (.new 129, 3) := by decide +kernel
theorem d_St_workers_30 : decode m_St_workers.2.1 30 = .ok (.dup, 1) := by decide +kernel
theorem d_St_workers_31 : decode m_St_workers.2.1 31 = .ok (.ldc 210, 2) := by decide +kernel
theorem d_St_workers_33 : decode m_St_workers.2.1 33 = .ok (.invokespecial 133, 3) := by decide +kernel
theorem d_St_workers_36 : decode m_St_workers.2.1 36 = .ok (.athrow, 1) := by decide +kernel
theorem d_St_workers_37 : decode m_St_workers.2.1 37 = .ok (.iconst 0, 1) := by decide +kernel
theorem d_St_workers_38 : decode m_St_workers.2.1 38 = .ok (.istore_n 2, 1) := by decide +kernel
theorem d_St_workers_39 : decode m_St_workers.2.1 39 = .ok (.iconst 0, 1) := by decide +kernel
theorem d_St_workers_40 : decode m_St_workers.2.1 40 = .ok (.istore_n 3, 1) := by decide +kernel
theorem d_St_workers_41 : decode m_St_workers.2.1 41 = .ok (.iload_n 3, 1) := by decide +kernel
theorem d_St_workers_42 : decode m_St_workers.2.1 42 = .ok (.bipush 6, 2) := by decide +kernel
theorem d_St_workers_44 : decode m_St_workers.2.1 44 = .ok (.if_icmp .ge 28, 3) := by decide +kernel
theorem d_St_workers_47 : decode m_St_workers.2.1 47 = .ok (.iload_n 3, 1) := by decide +kernel
theorem d_St_workers_48 : decode m_St_workers.2.1 48 = .ok (.aload_n 0, 1) := by decide +kernel
theorem d_St_workers_49 : decode m_St_workers.2.1 49 = .ok (.getfield 65, 3) := by decide +kernel
theorem d_St_workers_52 : decode m_St_workers.2.1 52 = .ok (.invokestatic 212, 3) := by decide +kernel
theorem d_St_workers_55 : decode m_St_workers.2.1 55 = .ok (.iload_n 3, 1) := by decide +kernel
theorem d_St_workers_56 : decode m_St_workers.2.1 56 = .ok (.iload_n 1, 1) := by decide +kernel
theorem d_St_workers_57 : decode m_St_workers.2.1 57 = .ok (.invokestatic 212, 3) := by decide +kernel
theorem d_St_workers_60 : decode m_St_workers.2.1 60 = .ok (.if_icmp .eq 6, 3) := by decide +kernel
theorem d_St_workers_63 : decode m_St_workers.2.1 63 = .ok (.iinc 2 1, 3) := by decide +kernel
theorem d_St_workers_66 : decode m_St_workers.2.1 66 = .ok (.iinc 3 1, 3) := by decide +kernel
theorem d_St_workers_69 : decode m_St_workers.2.1 69 = .ok (.goto (-28), 3) := by decide +kernel
theorem d_St_workers_72 : decode m_St_workers.2.1 72 = .ok (.aload_n 0, 1) := by decide +kernel
theorem d_St_workers_73 : decode m_St_workers.2.1 73 = .ok (.iload_n 1, 1) := by decide +kernel
theorem d_St_workers_74 : decode m_St_workers.2.1 74 = .ok (.putfield 65, 3) := by decide +kernel
theorem d_St_workers_77 : decode m_St_workers.2.1 77 = .ok (.aload_n 0, 1) := by decide +kernel
theorem d_St_workers_78 : decode m_St_workers.2.1 78 = .ok (.invokevirtual 205, 3) := by decide +kernel
theorem d_St_workers_81 : decode m_St_workers.2.1 81 = .ok (.iload_n 2, 1) := by decide +kernel
theorem d_St_workers_82 : decode m_St_workers.2.1 82 = .ok (.ireturn, 1) := by decide +kernel
theorem d_St_watermark_0 : decode m_St_watermark.2.1 0 = .ok (.aload_n 0, 1) := by decide +kernel
theorem d_St_watermark_1 : decode m_St_watermark.2.1 1 = .ok (.getfield 26, 3) := by decide +kernel
theorem d_St_watermark_4 : decode m_St_watermark.2.1 4 = .ok (.getfield 216, 3) := by decide +kernel
theorem d_St_watermark_7 : decode m_St_watermark.2.1 7 = .ok (.ireturn, 1) := by decide +kernel
theorem d_St_sourceWatermark_0 : decode m_St_sourceWatermark.2.1 0 = .ok (.iload_n 1, 1) := by decide +kernel
theorem d_St_sourceWatermark_1 : decode m_St_sourceWatermark.2.1 1 = .ok (.invokestatic 106, 3) := by decide +kernel
theorem d_St_sourceWatermark_4 : decode m_St_sourceWatermark.2.1 4 = .ok (.aload_n 0, 1) := by decide +kernel
theorem d_St_sourceWatermark_5 : decode m_St_sourceWatermark.2.1 5 = .ok (.iload_n 1, 1) := by decide +kernel
theorem d_St_sourceWatermark_6 : decode m_St_sourceWatermark.2.1 6 = .ok (.invokevirtual 219, 3) := by decide +kernel
theorem d_St_sourceWatermark_9 : decode m_St_sourceWatermark.2.1 9 = .ok (.ireturn, 1) := by decide +kernel
theorem d_St_offset_0 : decode m_St_offset.2.1 0 = .ok (.iload_n 1, 1) := by decide +kernel
theorem d_St_offset_1 : decode m_St_offset.2.1 1 = .ok (.invokestatic 106, 3) := by decide +kernel
theorem d_St_offset_4 : decode m_St_offset.2.1 4 = .ok (.aload_n 0, 1) := by decide +kernel
theorem d_St_offset_5 : decode m_St_offset.2.1 5 = .ok (.getfield 26, 3) := by decide +kernel
theorem d_St_offset_8 : decode m_St_offset.2.1 8 = .ok (.getfield 143, 3) := by decide +kernel
theorem d_St_offset_11 : decode m_St_offset.2.1 11 = .ok (.iload_n 1, 1) := by decide +kernel
theorem d_St_offset_12 : decode m_St_offset.2.1 12 = .ok (.iaload, 1) := by decide +kernel
theorem d_St_offset_13 : decode m_St_offset.2.1 13 = .ok (.ireturn, 1) := by decide +kernel
theorem d_St_inChannel_0 : decode m_St_inChannel.2.1 0 = .ok (.iload_n 1, 1) := by decide +kernel
theorem d_St_inChannel_1 : decode m_St_inChannel.2.1 1 = .ok (.invokestatic 106, 3) := by decide +kernel
theorem d_St_inChannel_4 : decode m_St_inChannel.2.1 4 = .ok (.aload_n 0, 1) := by decide +kernel
theorem d_St_inChannel_5 : decode m_St_inChannel.2.1 5 = .ok (.getfield 26, 3) := by decide +kernel
theorem d_St_inChannel_8 : decode m_St_inChannel.2.1 8 = .ok (.iload_n 1, 1) := by decide +kernel
theorem d_St_inChannel_9 : decode m_St_inChannel.2.1 9 = .ok (.invokevirtual 149, 3) := by decide +kernel
theorem d_St_inChannel_12 : decode m_St_inChannel.2.1 12 = .ok (.ireturn, 1) := by decide +kernel
theorem d_St_open_0 : decode m_St_open.2.1 0 = .ok (.iload_n 1, 1) := by decide +kernel
theorem d_St_open_1 : decode m_St_open.2.1 1 = .ok (.ifCond .lt 11, 3) := by decide +kernel
theorem d_St_open_4 : decode m_St_open.2.1 4 = .ok (.iload_n 1, 1) := by decide +kernel
theorem d_St_open_5 : decode m_St_open.2.1 5 = .ok (.aload_n 0, 1) := by decide +kernel
theorem d_St_open_6 : decode m_St_open.2.1 6 = .ok (.getfield 65, 3) := by decide +kernel
theorem d_St_open_9 : decode m_St_open.2.1 9 = .ok (.if_icmp .lt 13, 3) := by decide +kernel
theorem d_St_open_12 : decode m_St_open.2.1 12 = .ok (.new 222, 3) := by decide +kernel
theorem d_St_open_15 : decode m_St_open.2.1 15 = .ok (.dup, 1) := by decide +kernel
theorem d_St_open_16 : decode m_St_open.2.1 16 = .ok (.ldc 224, 2) := by decide +kernel
theorem d_St_open_18 : decode m_St_open.2.1 18 = .ok (.invokespecial 226, 3) := by decide +kernel
theorem d_St_open_21 : decode m_St_open.2.1 21 = .ok (.athrow, 1) := by decide +kernel
theorem d_St_open_22 : decode m_St_open.2.1 22 = .ok (.iconst 0, 1) := by decide +kernel
theorem d_St_open_23 : decode m_St_open.2.1 23 = .ok (.istore_n 2, 1) := by decide +kernel
theorem d_St_open_24 : decode m_St_open.2.1 24 = .ok (.iconst 0, 1) := by decide +kernel
theorem d_St_open_25 : decode m_St_open.2.1 25 = .ok (.istore_n 3, 1) := by decide +kernel
theorem d_St_open_26 : decode m_St_open.2.1 26 = .ok (.iload_n 3, 1) := by decide +kernel
theorem d_St_open_27 : decode m_St_open.2.1 27 = .ok (.aload_n 0, 1) := by decide +kernel
theorem d_St_open_28 : decode m_St_open.2.1 28 = .ok (.getfield 26, 3) := by decide +kernel
theorem d_St_open_31 : decode m_St_open.2.1 31 = .ok (.getfield 227, 3) := by decide +kernel
theorem d_St_open_34 : decode m_St_open.2.1 34 = .ok (.getfield 231, 3) := by decide +kernel
theorem d_St_open_37 : decode m_St_open.2.1 37 = .ok (.invokevirtual 124, 3) := by decide +kernel
theorem d_St_open_40 : decode m_St_open.2.1 40 = .ok (.if_icmp .ge 69, 3) := by decide +kernel
theorem d_St_open_43 : decode m_St_open.2.1 43 = .ok (.aload_n 0, 1) := by decide +kernel
theorem d_St_open_44 : decode m_St_open.2.1 44 = .ok (.getfield 26, 3) := by decide +kernel
theorem d_St_open_47 : decode m_St_open.2.1 47 = .ok (.getfield 227, 3) := by decide +kernel
theorem d_St_open_50 : decode m_St_open.2.1 50 = .ok (.getfield 231, 3) := by decide +kernel
theorem d_St_open_53 : decode m_St_open.2.1 53 = .ok (.iload_n 3, 1) := by decide +kernel
theorem d_St_open_54 : decode m_St_open.2.1 54 = .ok (.invokevirtual 236, 3) := by decide +kernel
theorem d_St_open_57 : decode m_St_open.2.1 57 = .ok (.checkcast 240, 3) := by decide +kernel
theorem d_St_open_60 : decode m_St_open.2.1 60 = .ok (.astore 4, 2) := by decide +kernel
theorem d_St_open_62 : decode m_St_open.2.1 62 = .ok (.aload 4, 2) := by decide +kernel
theorem d_St_open_64 : decode m_St_open.2.1 64 = .ok (.getfield 242, 3) := by decide +kernel
theorem d_St_open_67 : decode m_St_open.2.1 67 = .ok (.aload_n 0, 1) := by decide +kernel
theorem d_St_open_68 : decode m_St_open.2.1 68 = .ok (.getfield 65, 3) := by decide +kernel
theorem d_St_open_71 : decode m_St_open.2.1 71 = .ok (.invokestatic 212, 3) := by decide +kernel
theorem d_St_open_74 : decode m_St_open.2.1 74 = .ok (.iload_n 1, 1) := by decide +kernel
theorem d_St_open_75 : decode m_St_open.2.1 75 = .ok (.if_icmp .ne 28, 3) := by decide +kernel
theorem d_St_open_78 : decode m_St_open.2.1 78 = .ok (.aload_n 0, 1) := by decide +kernel
theorem d_St_open_79 : decode m_St_open.2.1 79 = .ok (.getfield 10, 3) := by decide +kernel
theorem d_St_open_82 : decode m_St_open.2.1 82 = .ok (.aload 4, 2) := by decide +kernel
theorem d_St_open_84 : decode m_St_open.2.1 84 = .ok (.getfield 245, 3) := by decide +kernel
theorem d_St_open_87 : decode m_St_open.2.1 87 = .ok (.aload_n 0, 1) := by decide +kernel
theorem d_St_open_88 : decode m_St_open.2.1 88 = .ok (.getfield 26, 3) := by decide +kernel
theorem d_St_open_91 : decode m_St_open.2.1 91 = .ok (.getfield 216, 3) := by decide +kernel
theorem d_St_open_94 : decode m_St_open.2.1 94 = .ok (.invokevirtual 248, 3) := by decide +kernel
theorem d_St_open_97 : decode m_St_open.2.1 97 = .ok (.ifCond .eq 6, 3) := by decide +kernel
theorem d_St_open_100 : decode m_St_open.2.1 100 = .ok (.iinc 2 1, 3) := by decide +kernel
theorem d_St_open_103 : decode m_St_open.2.1 103 = .ok (.iinc 3 1, 3) := by decide +kernel
theorem d_St_open_106 : decode m_St_open.2.1 106 = .ok (.goto (-80), 3) := by decide +kernel
theorem d_St_open_109 : decode m_St_open.2.1 109 = .ok (.iload_n 2, 1) := by decide +kernel
theorem d_St_open_110 : decode m_St_open.2.1 110 = .ok (.ireturn, 1) := by decide +kernel
theorem d_St_sumAt_0 : decode m_St_sumAt.2.1 0 = .ok (.iload_n 1, 1) := by decide +kernel
theorem d_St_sumAt_1 : decode m_St_sumAt.2.1 1 = .ok (.invokestatic 251, 3) := by decide +kernel
theorem d_St_sumAt_4 : decode m_St_sumAt.2.1 4 = .ok (.iload_n 2, 1) := by decide +kernel
theorem d_St_sumAt_5 : decode m_St_sumAt.2.1 5 = .ok (.ifCond .lt 10, 3) := by decide +kernel
theorem d_St_sumAt_8 : decode m_St_sumAt.2.1 8 = .ok (.iload_n 2, 1) := by decide +kernel
theorem d_St_sumAt_9 : decode m_St_sumAt.2.1 9 = .ok (.sipush 1200, 3) := by decide +kernel
theorem d_St_sumAt_12 : decode m_St_sumAt.2.1 12 = .ok (.if_icmp .le 13, 3) := by decide +kernel
theorem d_St_sumAt_15 : decode m_St_sumAt.2.1 15 = .ok (.new 72, 3) := by decide +kernel
theorem d_St_sumAt_18 : decode m_St_sumAt.2.1 18 = .ok (.dup, 1) := by decide +kernel
theorem d_St_sumAt_19 : decode m_St_sumAt.2.1 19 = .ok (.ldc 254, 2) := by decide +kernel
theorem d_St_sumAt_21 : decode m_St_sumAt.2.1 21 = .ok (.invokespecial 76, 3) := by decide +kernel
theorem d_St_sumAt_24 : decode m_St_sumAt.2.1 24 = .ok (.athrow, 1) := by decide +kernel
theorem d_St_sumAt_25 : decode m_St_sumAt.2.1 25 = .ok (.aconst_null, 1) := by decide +kernel
theorem d_St_sumAt_26 : decode m_St_sumAt.2.1 26 = .ok (.astore_n 3, 1) := by decide +kernel
theorem d_St_sumAt_27 : decode m_St_sumAt.2.1 27 = .ok (.iconst 0, 1) := by decide +kernel
theorem d_St_sumAt_28 : decode m_St_sumAt.2.1 28 = .ok (.istore 4, 2) := by decide +kernel
theorem d_St_sumAt_30 : decode m_St_sumAt.2.1 30 = .ok (.iload 4, 2) := by decide +kernel
theorem d_St_sumAt_32 : decode m_St_sumAt.2.1 32 = .ok (.aload_n 0, 1) := by decide +kernel
theorem d_St_sumAt_33 : decode m_St_sumAt.2.1 33 = .ok (.getfield 26, 3) := by decide +kernel
theorem d_St_sumAt_36 : decode m_St_sumAt.2.1 36 = .ok (.getfield 227, 3) := by decide +kernel
theorem d_St_sumAt_39 : decode m_St_sumAt.2.1 39 = .ok (.getfield 231, 3) := by decide +kernel
theorem d_St_sumAt_42 : decode m_St_sumAt.2.1 42 = .ok (.invokevirtual 124, 3) := by decide +kernel
theorem d_St_sumAt_45 : decode m_St_sumAt.2.1 45 = .ok (.if_icmp .ge 88, 3) := by decide +kernel
theorem d_St_sumAt_48 : decode m_St_sumAt.2.1 48 = .ok (.aload_n 0, 1) := by decide +kernel
theorem d_St_sumAt_49 : decode m_St_sumAt.2.1 49 = .ok (.getfield 26, 3) := by decide +kernel
theorem d_St_sumAt_52 : decode m_St_sumAt.2.1 52 = .ok (.getfield 227, 3) := by decide +kernel
theorem d_St_sumAt_55 : decode m_St_sumAt.2.1 55 = .ok (.getfield 231, 3) := by decide +kernel
theorem d_St_sumAt_58 : decode m_St_sumAt.2.1 58 = .ok (.iload 4, 2) := by decide +kernel
theorem d_St_sumAt_60 : decode m_St_sumAt.2.1 60 = .ok (.invokevirtual 236, 3) := by decide +kernel
theorem d_St_sumAt_63 : decode m_St_sumAt.2.1 63 = .ok (.checkcast 240, 3) := by decide +kernel
theorem d_St_sumAt_66 : decode m_St_sumAt.2.1 66 = .ok (.astore 5, 2) := by decide +kernel
theorem d_St_sumAt_68 : decode m_St_sumAt.2.1 68 = .ok (.aload 5, 2) := by decide +kernel
theorem d_St_sumAt_70 : decode m_St_sumAt.2.1 70 = .ok (.getfield 242, 3) := by decide +kernel
theorem d_St_sumAt_73 : decode m_St_sumAt.2.1 73 = .ok (.iload_n 1, 1) := by decide +kernel
theorem d_St_sumAt_74 : decode m_St_sumAt.2.1 74 = .ok (.if_icmp .ne 53, 3) := by decide +kernel
theorem d_St_sumAt_77 : decode m_St_sumAt.2.1 77 = .ok (.aload 5, 2) := by decide +kernel
theorem d_St_sumAt_79 : decode m_St_sumAt.2.1 79 = .ok (.iload_n 2, 1) := by decide +kernel
theorem d_St_sumAt_80 : decode m_St_sumAt.2.1 80 = .ok (.invokevirtual 256, 3) := by decide +kernel
theorem d_St_sumAt_83 : decode m_St_sumAt.2.1 83 = .ok (.ifCond .eq 44, 3) := by decide +kernel
theorem d_St_sumAt_86 : decode m_St_sumAt.2.1 86 = .ok (.aload_n 0, 1) := by decide +kernel
theorem d_St_sumAt_87 : decode m_St_sumAt.2.1 87 = .ok (.getfield 10, 3) := by decide +kernel
theorem d_St_sumAt_90 : decode m_St_sumAt.2.1 90 = .ok (.aload 5, 2) := by decide +kernel
theorem d_St_sumAt_92 : decode m_St_sumAt.2.1 92 = .ok (.getfield 245, 3) := by decide +kernel
theorem d_St_sumAt_95 : decode m_St_sumAt.2.1 95 = .ok (.aload_n 0, 1) := by decide +kernel
theorem d_St_sumAt_96 : decode m_St_sumAt.2.1 96 = .ok (.getfield 26, 3) := by decide +kernel
theorem d_St_sumAt_99 : decode m_St_sumAt.2.1 99 = .ok (.getfield 216, 3) := by decide +kernel
theorem d_St_sumAt_102 : decode m_St_sumAt.2.1 102 = .ok (.invokevirtual 248, 3) := by decide +kernel
theorem d_St_sumAt_105 : decode m_St_sumAt.2.1 105 = .ok (.ifCond .eq 22, 3) := by decide +kernel
theorem d_St_sumAt_108 : decode m_St_sumAt.2.1 108 = .ok (.aload_n 3, 1) := by decide +kernel
theorem d_St_sumAt_109 : decode m_St_sumAt.2.1 109 = .ok (.ifnull 15, 3) := by decide +kernel
theorem d_St_sumAt_112 : decode m_St_sumAt.2.1 112 = .ok (.aload 5, 2) := by decide +kernel
theorem d_St_sumAt_114 : decode m_St_sumAt.2.1 114 = .ok (.getfield 259, 3) := by decide +kernel
theorem d_St_sumAt_117 : decode m_St_sumAt.2.1 117 = .ok (.aload_n 3, 1) := by decide +kernel
theorem d_St_sumAt_118 : decode m_St_sumAt.2.1 118 = .ok (.getfield 259, 3) := by decide +kernel
theorem d_St_sumAt_121 : decode m_St_sumAt.2.1 121 = .ok (.if_icmp .ge 6, 3) := by decide +kernel
theorem d_St_sumAt_124 : decode m_St_sumAt.2.1 124 = .ok (.aload 5, 2) := by decide +kernel
theorem d_St_sumAt_126 : decode m_St_sumAt.2.1 126 = .ok (.astore_n 3, 1) := by decide +kernel
theorem d_St_sumAt_127 : decode m_St_sumAt.2.1 127 = .ok (.iinc 4 1, 3) := by decide +kernel
theorem d_St_sumAt_130 : decode m_St_sumAt.2.1 130 = .ok (.goto (-100), 3) := by decide +kernel
theorem d_St_sumAt_133 : decode m_St_sumAt.2.1 133 = .ok (.aload_n 3, 1) := by decide +kernel
theorem d_St_sumAt_134 : decode m_St_sumAt.2.1 134 = .ok (.ifnonnull 9, 3) := by decide +kernel
theorem d_St_sumAt_137 : decode m_St_sumAt.2.1 137 = .ok (.ldc_w 262, 3) := by decide +kernel
theorem d_St_sumAt_140 : decode m_St_sumAt.2.1 140 = .ok (.goto 7, 3) := by decide +kernel
theorem d_St_sumAt_143 : decode m_St_sumAt.2.1 143 = .ok (.aload_n 3, 1) := by decide +kernel
theorem d_St_sumAt_144 : decode m_St_sumAt.2.1 144 = .ok (.getfield 263, 3) := by decide +kernel
theorem d_St_sumAt_147 : decode m_St_sumAt.2.1 147 = .ok (.ireturn, 1) := by decide +kernel
theorem d_St_dropped_0 : decode m_St_dropped.2.1 0 = .ok (.aload_n 0, 1) := by decide +kernel
theorem d_St_dropped_1 : decode m_St_dropped.2.1 1 = .ok (.getfield 26, 3) := by decide +kernel
theorem d_St_dropped_4 : decode m_St_dropped.2.1 4 = .ok (.getfield 266, 3) := by decide +kernel
theorem d_St_dropped_7 : decode m_St_dropped.2.1 7 = .ok (.ireturn, 1) := by decide +kernel
theorem d_St_pairs_0 : decode m_St_pairs.2.1 0 = .ok (.aload_n 0, 1) := by decide +kernel
theorem d_St_pairs_1 : decode m_St_pairs.2.1 1 = .ok (.getfield 26, 3) := by decide +kernel
theorem d_St_pairs_4 : decode m_St_pairs.2.1 4 = .ok (.getfield 269, 3) := by decide +kernel
theorem d_St_pairs_7 : decode m_St_pairs.2.1 7 = .ok (.ireturn, 1) := by decide +kernel
theorem d_St_pairsAnew_0 : decode m_St_pairsAnew.2.1 0 = .ok (.aload_n 0, 1) := by decide +kernel
theorem d_St_pairsAnew_1 : decode m_St_pairsAnew.2.1 1 = .ok (.getfield 36, 3) := by decide +kernel
theorem d_St_pairsAnew_4 : decode m_St_pairsAnew.2.1 4 = .ok (.aload_n 0, 1) := by decide +kernel
theorem d_St_pairsAnew_5 : decode m_St_pairsAnew.2.1 5 = .ok (.getfield 10, 3) := by decide +kernel
theorem d_St_pairsAnew_8 : decode m_St_pairsAnew.2.1 8 = .ok (.getfield 100, 3) := by decide +kernel
theorem d_St_pairsAnew_11 : decode m_St_pairsAnew.2.1 11 = .ok (.invokevirtual 272, 3) := by decide +kernel
theorem d_St_pairsAnew_14 : decode m_St_pairsAnew.2.1 14 = .ok (.ireturn, 1) := by decide +kernel
theorem d_St_uncommitted_0 : decode m_St_uncommitted.2.1 0 = .ok (.aload_n 0, 1) := by decide +kernel
theorem d_St_uncommitted_1 : decode m_St_uncommitted.2.1 1 = .ok (.getfield 43, 3) := by decide +kernel
theorem d_St_uncommitted_4 : decode m_St_uncommitted.2.1 4 = .ok (.getfield 275, 3) := by decide +kernel
theorem d_St_uncommitted_7 : decode m_St_uncommitted.2.1 7 = .ok (.aload_n 0, 1) := by decide +kernel
theorem d_St_uncommitted_8 : decode m_St_uncommitted.2.1 8 = .ok (.getfield 43, 3) := by decide +kernel
theorem d_St_uncommitted_11 : decode m_St_uncommitted.2.1 11 = .ok (.getfield 202, 3) := by decide +kernel
theorem d_St_uncommitted_14 : decode m_St_uncommitted.2.1 14 = .ok (.isub, 1) := by decide +kernel
theorem d_St_uncommitted_15 : decode m_St_uncommitted.2.1 15 = .ok (.ireturn, 1) := by decide +kernel
theorem d_St_result_0 : decode m_St_result.2.1 0 = .ok (.iload_n 1, 1) := by decide +kernel
theorem d_St_result_1 : decode m_St_result.2.1 1 = .ok (.iload_n 2, 1) := by decide +kernel
theorem d_St_result_2 : decode m_St_result.2.1 2 = .ok (.iload_n 3, 1) := by decide +kernel
theorem d_St_result_3 : decode m_St_result.2.1 3 = .ok (.invokestatic 278, 3) := by decide +kernel
theorem d_St_result_6 : decode m_St_result.2.1 6 = .ok (.aload_n 0, 1) := by decide +kernel
theorem d_St_result_7 : decode m_St_result.2.1 7 = .ok (.getfield 43, 3) := by decide +kernel
theorem d_St_result_10 : decode m_St_result.2.1 10 = .ok (.iload_n 1, 1) := by decide +kernel
theorem d_St_result_11 : decode m_St_result.2.1 11 = .ok (.iload_n 2, 1) := by decide +kernel
theorem d_St_result_12 : decode m_St_result.2.1 12 = .ok (.invokevirtual 282, 3) := by decide +kernel
theorem d_St_result_15 : decode m_St_result.2.1 15 = .ok (.astore 4, 2) := by decide +kernel
theorem d_St_result_17 : decode m_St_result.2.1 17 = .ok (.aload 4, 2) := by decide +kernel
theorem d_St_result_19 : decode m_St_result.2.1 19 = .ok (.ifnull 11, 3) := by decide +kernel
theorem d_St_result_22 : decode m_St_result.2.1 22 = .ok (.aload 4, 2) := by decide +kernel
theorem d_St_result_24 : decode m_St_result.2.1 24 = .ok (.getfield 286, 3) := by decide +kernel
theorem d_St_result_27 : decode m_St_result.2.1 27 = .ok (.ifCond .ne 9, 3) := by decide +kernel
theorem d_St_result_30 : decode m_St_result.2.1 30 = .ok (.ldc_w 262, 3) := by decide +kernel
theorem d_St_result_33 : decode m_St_result.2.1 33 = .ok (.goto 9, 3) := by decide +kernel
theorem d_St_result_36 : decode m_St_result.2.1 36 = .ok (.aload 4, 2) := by decide +kernel
theorem d_St_result_38 : decode m_St_result.2.1 38 = .ok (.iload_n 3, 1) := by decide +kernel
theorem d_St_result_39 : decode m_St_result.2.1 39 = .ok (.invokevirtual 289, 3) := by decide +kernel
theorem d_St_result_42 : decode m_St_result.2.1 42 = .ok (.ireturn, 1) := by decide +kernel
theorem d_St_resultAnew_0 : decode m_St_resultAnew.2.1 0 = .ok (.iload_n 1, 1) := by decide +kernel
theorem d_St_resultAnew_1 : decode m_St_resultAnew.2.1 1 = .ok (.iload_n 2, 1) := by decide +kernel
theorem d_St_resultAnew_2 : decode m_St_resultAnew.2.1 2 = .ok (.iload_n 3, 1) := by decide +kernel
theorem d_St_resultAnew_3 : decode m_St_resultAnew.2.1 3 = .ok (.invokestatic 278, 3) := by decide +kernel
theorem d_St_resultAnew_6 : decode m_St_resultAnew.2.1 6 = .ok (.aload_n 0, 1) := by decide +kernel
theorem d_St_resultAnew_7 : decode m_St_resultAnew.2.1 7 = .ok (.getfield 10, 3) := by decide +kernel
theorem d_St_resultAnew_10 : decode m_St_resultAnew.2.1 10 = .ok (.getfield 88, 3) := by decide +kernel
theorem d_St_resultAnew_13 : decode m_St_resultAnew.2.1 13 = .ok (.iconst 2, 1) := by decide +kernel
theorem d_St_resultAnew_14 : decode m_St_resultAnew.2.1 14 = .ok (.if_icmp .ne 19, 3) := by decide +kernel
theorem d_St_resultAnew_17 : decode m_St_resultAnew.2.1 17 = .ok (.aload_n 0, 1) := by decide +kernel
theorem d_St_resultAnew_18 : decode m_St_resultAnew.2.1 18 = .ok (.getfield 36, 3) := by decide +kernel
theorem d_St_resultAnew_21 : decode m_St_resultAnew.2.1 21 = .ok (.aload_n 0, 1) := by decide +kernel
theorem d_St_resultAnew_22 : decode m_St_resultAnew.2.1 22 = .ok (.getfield 10, 3) := by decide +kernel
theorem d_St_resultAnew_25 : decode m_St_resultAnew.2.1 25 = .ok (.iload_n 1, 1) := by decide +kernel
theorem d_St_resultAnew_26 : decode m_St_resultAnew.2.1 26 = .ok (.iload_n 2, 1) := by decide +kernel
theorem d_St_resultAnew_27 : decode m_St_resultAnew.2.1 27 = .ok (.invokevirtual 292, 3) := by decide +kernel
theorem d_St_resultAnew_30 : decode m_St_resultAnew.2.1 30 = .ok (.goto 11, 3) := by decide +kernel
theorem d_St_resultAnew_33 : decode m_St_resultAnew.2.1 33 = .ok (.aload_n 0, 1) := by decide +kernel
theorem d_St_resultAnew_34 : decode m_St_resultAnew.2.1 34 = .ok (.getfield 10, 3) := by decide +kernel
theorem d_St_resultAnew_37 : decode m_St_resultAnew.2.1 37 = .ok (.iload_n 2, 1) := by decide +kernel
theorem d_St_resultAnew_38 : decode m_St_resultAnew.2.1 38 = .ok (.invokevirtual 296, 3) := by decide +kernel
theorem d_St_resultAnew_41 : decode m_St_resultAnew.2.1 41 = .ok (.istore 4, 2) := by decide +kernel
theorem d_St_resultAnew_43 : decode m_St_resultAnew.2.1 43 = .ok (.iload 4, 2) := by decide +kernel
theorem d_St_resultAnew_45 : decode m_St_resultAnew.2.1 45 = .ok (.iconst (-1), 1) := by decide +kernel
theorem d_St_resultAnew_46 : decode m_St_resultAnew.2.1 46 = .ok (.if_icmp .eq 15, 3) := by decide +kernel
theorem d_St_resultAnew_49 : decode m_St_resultAnew.2.1 49 = .ok (.iload 4, 2) := by decide +kernel
theorem d_St_resultAnew_51 : decode m_St_resultAnew.2.1 51 = .ok (.aload_n 0, 1) := by decide +kernel
theorem d_St_resultAnew_52 : decode m_St_resultAnew.2.1 52 = .ok (.getfield 36, 3) := by decide +kernel
theorem d_St_resultAnew_55 : decode m_St_resultAnew.2.1 55 = .ok (.getfield 299, 3) := by decide +kernel
theorem d_St_resultAnew_58 : decode m_St_resultAnew.2.1 58 = .ok (.if_icmp .le 7, 3) := by decide +kernel
theorem d_St_resultAnew_61 : decode m_St_resultAnew.2.1 61 = .ok (.ldc_w 262, 3) := by decide +kernel
theorem d_St_resultAnew_64 : decode m_St_resultAnew.2.1 64 = .ok (.ireturn, 1) := by decide +kernel
theorem d_St_resultAnew_65 : decode m_St_resultAnew.2.1 65 = .ok (.aload_n 0, 1) := by decide +kernel
theorem d_St_resultAnew_66 : decode m_St_resultAnew.2.1 66 = .ok (.getfield 36, 3) := by decide +kernel
theorem d_St_resultAnew_69 : decode m_St_resultAnew.2.1 69 = .ok (.aload_n 0, 1) := by decide +kernel
theorem d_St_resultAnew_70 : decode m_St_resultAnew.2.1 70 = .ok (.getfield 10, 3) := by decide +kernel
theorem d_St_resultAnew_73 : decode m_St_resultAnew.2.1 73 = .ok (.iload_n 1, 1) := by decide +kernel
theorem d_St_resultAnew_74 : decode m_St_resultAnew.2.1 74 = .ok (.iload_n 2, 1) := by decide +kernel
theorem d_St_resultAnew_75 : decode m_St_resultAnew.2.1 75 = .ok (.iload 4, 2) := by decide +kernel
theorem d_St_resultAnew_77 : decode m_St_resultAnew.2.1 77 = .ok (.invokevirtual 302, 3) := by decide +kernel
theorem d_St_resultAnew_80 : decode m_St_resultAnew.2.1 80 = .ok (.astore 5, 2) := by decide +kernel
theorem d_St_resultAnew_82 : decode m_St_resultAnew.2.1 82 = .ok (.aload 5, 2) := by decide +kernel
theorem d_St_resultAnew_84 : decode m_St_resultAnew.2.1 84 = .ok (.getfield 306, 3) := by decide +kernel
theorem d_St_resultAnew_87 : decode m_St_resultAnew.2.1 87 = .ok (.ifCond .ne 9, 3) := by decide +kernel
theorem d_St_resultAnew_90 : decode m_St_resultAnew.2.1 90 = .ok (.ldc_w 262, 3) := by decide +kernel
theorem d_St_resultAnew_93 : decode m_St_resultAnew.2.1 93 = .ok (.goto 9, 3) := by decide +kernel
theorem d_St_resultAnew_96 : decode m_St_resultAnew.2.1 96 = .ok (.aload 5, 2) := by decide +kernel
theorem d_St_resultAnew_98 : decode m_St_resultAnew.2.1 98 = .ok (.iload_n 3, 1) := by decide +kernel
theorem d_St_resultAnew_99 : decode m_St_resultAnew.2.1 99 = .ok (.invokevirtual 289, 3) := by decide +kernel
theorem d_St_resultAnew_102 : decode m_St_resultAnew.2.1 102 = .ok (.ireturn, 1) := by decide +kernel
theorem d_St_needSource_0 : decode m_St_needSource.2.1 0 = .ok (.iload_n 0, 1) := by decide +kernel
theorem d_St_needSource_1 : decode m_St_needSource.2.1 1 = .ok (.ifCond .lt 8, 3) := by decide +kernel
theorem d_St_needSource_4 : decode m_St_needSource.2.1 4 = .ok (.iload_n 0, 1) := by decide +kernel
theorem d_St_needSource_5 : decode m_St_needSource.2.1 5 = .ok (.iconst 3, 1) := by decide +kernel
theorem d_St_needSource_6 : decode m_St_needSource.2.1 6 = .ok (.if_icmp .lt 14, 3) := by decide +kernel
theorem d_St_needSource_9 : decode m_St_needSource.2.1 9 = .ok (.new 222, 3) := by decide +kernel
theorem d_St_needSource_12 : decode m_St_needSource.2.1 12 = .ok (.dup, 1) := by decide +kernel
theorem d_St_needSource_13 : decode m_St_needSource.2.1 13 = .ok (.ldc_w 309, 3) := by decide +kernel
theorem d_St_needSource_16 : decode m_St_needSource.2.1 16 = .ok (.invokespecial 226, 3) := by decide +kernel
theorem d_St_needSource_19 : decode m_St_needSource.2.1 19 = .ok (.athrow, 1) := by decide +kernel
theorem d_St_needSource_20 : decode m_St_needSource.2.1 20 = .ok (.return_, 1) := by decide +kernel
theorem d_St_needKey_0 : decode m_St_needKey.2.1 0 = .ok (.iload_n 0, 1) := by decide +kernel
theorem d_St_needKey_1 : decode m_St_needKey.2.1 1 = .ok (.invokestatic 115, 3) := by decide +kernel
theorem d_St_needKey_4 : decode m_St_needKey.2.1 4 = .ok (.ifCond .ne 14, 3) := by decide +kernel
theorem d_St_needKey_7 : decode m_St_needKey.2.1 7 = .ok (.new 222, 3) := by decide +kernel
theorem d_St_needKey_10 : decode m_St_needKey.2.1 10 = .ok (.dup, 1) := by decide +kernel
theorem d_St_needKey_11 : decode m_St_needKey.2.1 11 = .ok (.ldc_w 311, 3) := by decide +kernel
theorem d_St_needKey_14 : decode m_St_needKey.2.1 14 = .ok (.invokespecial 226, 3) := by decide +kernel
theorem d_St_needKey_17 : decode m_St_needKey.2.1 17 = .ok (.athrow, 1) := by decide +kernel
theorem d_St_needKey_18 : decode m_St_needKey.2.1 18 = .ok (.return_, 1) := by decide +kernel
theorem d_St_needResultOf_0 : decode m_St_needResultOf.2.1 0 = .ok (.iload_n 0, 1) := by decide +kernel
theorem d_St_needResultOf_1 : decode m_St_needResultOf.2.1 1 = .ok (.invokestatic 251, 3) := by decide +kernel
theorem d_St_needResultOf_4 : decode m_St_needResultOf.2.1 4 = .ok (.iload_n 1, 1) := by decide +kernel
theorem d_St_needResultOf_5 : decode m_St_needResultOf.2.1 5 = .ok (.ifCond .lt 19, 3) := by decide +kernel
theorem d_St_needResultOf_8 : decode m_St_needResultOf.2.1 8 = .ok (.iload_n 1, 1) := by decide +kernel
theorem d_St_needResultOf_9 : decode m_St_needResultOf.2.1 9 = .ok (.sipush 999, 3) := by decide +kernel
theorem d_St_needResultOf_12 : decode m_St_needResultOf.2.1 12 = .ok (.if_icmp .gt 12, 3) := by decide +kernel
theorem d_St_needResultOf_15 : decode m_St_needResultOf.2.1 15 = .ok (.iload_n 2, 1) := by decide +kernel
theorem d_St_needResultOf_16 : decode m_St_needResultOf.2.1 16 = .ok (.ifCond .lt 8, 3) := by decide +kernel
theorem d_St_needResultOf_19 : decode m_St_needResultOf.2.1 19 = .ok (.iload_n 2, 1) := by decide +kernel
theorem d_St_needResultOf_20 : decode m_St_needResultOf.2.1 20 = .ok (.iconst 2, 1) := by decide +kernel
theorem d_St_needResultOf_21 : decode m_St_needResultOf.2.1 21 = .ok (.if_icmp .le 14, 3) := by decide +kernel
theorem d_St_needResultOf_24 : decode m_St_needResultOf.2.1 24 = .ok (.new 72, 3) := by decide +kernel
theorem d_St_needResultOf_27 : decode m_St_needResultOf.2.1 27 = .ok (.dup, 1) := by decide +kernel
theorem d_St_needResultOf_28 : decode m_St_needResultOf.2.1 28 = .ok (.ldc_w 313, 3) := by decide +kernel
theorem d_St_needResultOf_31 : decode m_St_needResultOf.2.1 31 = .ok (.invokespecial 76, 3) := by decide +kernel
theorem d_St_needResultOf_34 : decode m_St_needResultOf.2.1 34 = .ok (.athrow, 1) := by decide +kernel
theorem d_St_needResultOf_35 : decode m_St_needResultOf.2.1 35 = .ok (.return_, 1) := by decide +kernel
theorem d_St_needNotBegun_0 : decode m_St_needNotBegun.2.1 0 = .ok (.aload_n 0, 1) := by decide +kernel
theorem d_St_needNotBegun_1 : decode m_St_needNotBegun.2.1 1 = .ok (.getfield 54, 3) := by decide +kernel
theorem d_St_needNotBegun_4 : decode m_St_needNotBegun.2.1 4 = .ok (.ifCond .eq 14, 3) := by decide +kernel
theorem d_St_needNotBegun_7 : decode m_St_needNotBegun.2.1 7 = .ok (.new 129, 3) := by decide +kernel
theorem d_St_needNotBegun_10 : decode m_St_needNotBegun.2.1 10 = .ok (.dup, 1) := by decide +kernel
theorem d_St_needNotBegun_11 : decode m_St_needNotBegun.2.1 11 = .ok (.ldc_w 315, 3) := by decide +kernel
theorem d_St_needNotBegun_14 : decode m_St_needNotBegun.2.1 14 = .ok (.invokespecial 133, 3) := by decide +kernel
theorem d_St_needNotBegun_17 : decode m_St_needNotBegun.2.1 17 = .ok (.athrow, 1) := by decide +kernel
theorem d_St_needNotBegun_18 : decode m_St_needNotBegun.2.1 18 = .ok (.return_, 1) := by decide +kernel
theorem d_St_isKey_0 : decode m_St_isKey.2.1 0 = .ok (.iload_n 0, 1) := by decide +kernel
theorem d_St_isKey_1 : decode m_St_isKey.2.1 1 = .ok (.ifCond .lt 13, 3) := by decide +kernel
theorem d_St_isKey_4 : decode m_St_isKey.2.1 4 = .ok (.iload_n 0, 1) := by decide +kernel
theorem d_St_isKey_5 : decode m_St_isKey.2.1 5 = .ok (.bipush 6, 2) := by decide +kernel
theorem d_St_isKey_7 : decode m_St_isKey.2.1 7 = .ok (.if_icmp .ge 7, 3) := by decide +kernel
theorem d_St_isKey_10 : decode m_St_isKey.2.1 10 = .ok (.iconst 1, 1) := by decide +kernel
theorem d_St_isKey_11 : decode m_St_isKey.2.1 11 = .ok (.goto 4, 3) := by decide +kernel
theorem d_St_isKey_14 : decode m_St_isKey.2.1 14 = .ok (.iconst 0, 1) := by decide +kernel
theorem d_St_isKey_15 : decode m_St_isKey.2.1 15 = .ok (.ireturn, 1) := by decide +kernel
theorem d_St_isSpan_0 : decode m_St_isSpan.2.1 0 = .ok (.iload_n 0, 1) := by decide +kernel
theorem d_St_isSpan_1 : decode m_St_isSpan.2.1 1 = .ok (.ifCond .lt 14, 3) := by decide +kernel
theorem d_St_isSpan_4 : decode m_St_isSpan.2.1 4 = .ok (.iload_n 0, 1) := by decide +kernel
theorem d_St_isSpan_5 : decode m_St_isSpan.2.1 5 = .ok (.sipush 200, 3) := by decide +kernel
theorem d_St_isSpan_8 : decode m_St_isSpan.2.1 8 = .ok (.if_icmp .gt 7, 3) := by decide +kernel
theorem d_St_isSpan_11 : decode m_St_isSpan.2.1 11 = .ok (.iconst 1, 1) := by decide +kernel
theorem d_St_isSpan_12 : decode m_St_isSpan.2.1 12 = .ok (.goto 4, 3) := by decide +kernel
theorem d_St_isSpan_15 : decode m_St_isSpan.2.1 15 = .ok (.iconst 0, 1) := by decide +kernel
theorem d_St_isSpan_16 : decode m_St_isSpan.2.1 16 = .ok (.ireturn, 1) := by decide +kernel
theorem d_St_isSlide_0 : decode m_St_isSlide.2.1 0 = .ok (.iload_n 0, 1) := by decide +kernel
theorem d_St_isSlide_1 : decode m_St_isSlide.2.1 1 = .ok (.iconst 1, 1) := by decide +kernel
theorem d_St_isSlide_2 : decode m_St_isSlide.2.1 2 = .ok (.if_icmp .lt 20, 3) := by decide +kernel
theorem d_St_isSlide_5 : decode m_St_isSlide.2.1 5 = .ok (.iload_n 0, 1) := by decide +kernel
theorem d_St_isSlide_6 : decode m_St_isSlide.2.1 6 = .ok (.iload_n 1, 1) := by decide +kernel
theorem d_St_isSlide_7 : decode m_St_isSlide.2.1 7 = .ok (.if_icmp .gt 15, 3) := by decide +kernel
theorem d_St_isSlide_10 : decode m_St_isSlide.2.1 10 = .ok (.iload_n 1, 1) := by decide +kernel
theorem d_St_isSlide_11 : decode m_St_isSlide.2.1 11 = .ok (.bipush 8, 2) := by decide +kernel
theorem d_St_isSlide_13 : decode m_St_isSlide.2.1 13 = .ok (.iload_n 0, 1) := by decide +kernel
theorem d_St_isSlide_14 : decode m_St_isSlide.2.1 14 = .ok (.imul, 1) := by decide +kernel
theorem d_St_isSlide_15 : decode m_St_isSlide.2.1 15 = .ok (.if_icmp .gt 7, 3) := by decide +kernel
theorem d_St_isSlide_18 : decode m_St_isSlide.2.1 18 = .ok (.iconst 1, 1) := by decide +kernel
theorem d_St_isSlide_19 : decode m_St_isSlide.2.1 19 = .ok (.goto 4, 3) := by decide +kernel
theorem d_St_isSlide_22 : decode m_St_isSlide.2.1 22 = .ok (.iconst 0, 1) := by decide +kernel
theorem d_St_isSlide_23 : decode m_St_isSlide.2.1 23 = .ok (.ireturn, 1) := by decide +kernel
theorem d_St_workerOf_0 : decode m_St_workerOf.2.1 0 = .ok (.iload_n 0, 1) := by decide +kernel
theorem d_St_workerOf_1 : decode m_St_workerOf.2.1 1 = .ok (.iload_n 1, 1) := by decide +kernel
theorem d_St_workerOf_2 : decode m_St_workerOf.2.1 2 = .ok (.imul, 1) := by decide +kernel
theorem d_St_workerOf_3 : decode m_St_workerOf.2.1 3 = .ok (.bipush 6, 2) := by decide +kernel
theorem d_St_workerOf_5 : decode m_St_workerOf.2.1 5 = .ok (.idiv, 1) := by decide +kernel
theorem d_St_workerOf_6 : decode m_St_workerOf.2.1 6 = .ok (.ireturn, 1) := by decide +kernel
theorem d_St_markOf_0 : decode m_St_markOf.2.1 0 = .ok (.iconst (-1), 1) := by decide +kernel
theorem d_St_markOf_1 : decode m_St_markOf.2.1 1 = .ok (.aload_n 0, 1) := by decide +kernel
theorem d_St_markOf_2 : decode m_St_markOf.2.1 2 = .ok (.getfield 26, 3) := by decide +kernel
theorem d_St_markOf_5 : decode m_St_markOf.2.1 5 = .ok (.getfield 317, 3) := by decide +kernel
theorem d_St_markOf_8 : decode m_St_markOf.2.1 8 = .ok (.iload_n 1, 1) := by decide +kernel
theorem d_St_markOf_9 : decode m_St_markOf.2.1 9 = .ok (.iaload, 1) := by decide +kernel
theorem d_St_markOf_10 : decode m_St_markOf.2.1 10 = .ok (.aload_n 0, 1) := by decide +kernel
theorem d_St_markOf_11 : decode m_St_markOf.2.1 11 = .ok (.getfield 19, 3) := by decide +kernel
theorem d_St_markOf_14 : decode m_St_markOf.2.1 14 = .ok (.iload_n 1, 1) := by decide +kernel
theorem d_St_markOf_15 : decode m_St_markOf.2.1 15 = .ok (.aaload, 1) := by decide +kernel
theorem d_St_markOf_16 : decode m_St_markOf.2.1 16 = .ok (.getfield 112, 3) := by decide +kernel
theorem d_St_markOf_19 : decode m_St_markOf.2.1 19 = .ok (.isub, 1) := by decide +kernel
theorem d_St_markOf_20 : decode m_St_markOf.2.1 20 = .ok (.invokestatic 320, 3) := by decide +kernel
theorem d_St_markOf_23 : decode m_St_markOf.2.1 23 = .ok (.ireturn, 1) := by decide +kernel
theorem d_St_frontOf_0 : decode m_St_frontOf.2.1 0 = .ok (.aload_n 0, 1) := by decide +kernel
theorem d_St_frontOf_1 : decode m_St_frontOf.2.1 1 = .ok (.getfield 26, 3) := by decide +kernel
theorem d_St_frontOf_4 : decode m_St_frontOf.2.1 4 = .ok (.getfield 166, 3) := by decide +kernel
theorem d_St_frontOf_7 : decode m_St_frontOf.2.1 7 = .ok (.iload_n 1, 1) := by decide +kernel
theorem d_St_frontOf_8 : decode m_St_frontOf.2.1 8 = .ok (.iaload, 1) := by decide +kernel
theorem d_St_frontOf_9 : decode m_St_frontOf.2.1 9 = .ok (.istore_n 2, 1) := by decide +kernel
theorem d_St_frontOf_10 : decode m_St_frontOf.2.1 10 = .ok (.aload_n 0, 1) := by decide +kernel
theorem d_St_frontOf_11 : decode m_St_frontOf.2.1 11 = .ok (.getfield 19, 3) := by decide +kernel
theorem d_St_frontOf_14 : decode m_St_frontOf.2.1 14 = .ok (.iload_n 1, 1) := by decide +kernel
theorem d_St_frontOf_15 : decode m_St_frontOf.2.1 15 = .ok (.aaload, 1) := by decide +kernel
theorem d_St_frontOf_16 : decode m_St_frontOf.2.1 16 = .ok (.getfield 120, 3) := by decide +kernel
theorem d_St_frontOf_19 : decode m_St_frontOf.2.1 19 = .ok (.astore_n 3, 1) := by decide +kernel
theorem d_St_frontOf_20 : decode m_St_frontOf.2.1 20 = .ok (.iload_n 2, 1) := by decide +kernel
theorem d_St_frontOf_21 : decode m_St_frontOf.2.1 21 = .ok (.ifCond .lt 35, 3) := by decide +kernel
theorem d_St_frontOf_24 : decode m_St_frontOf.2.1 24 = .ok (.iload_n 2, 1) := by decide +kernel
theorem d_St_frontOf_25 : decode m_St_frontOf.2.1 25 = .ok (.aload_n 0, 1) := by decide +kernel
theorem d_St_frontOf_26 : decode m_St_frontOf.2.1 26 = .ok (.getfield 26, 3) := by decide +kernel
theorem d_St_frontOf_29 : decode m_St_frontOf.2.1 29 = .ok (.getfield 143, 3) := by decide +kernel
theorem d_St_frontOf_32 : decode m_St_frontOf.2.1 32 = .ok (.iload_n 1, 1) := by decide +kernel
theorem d_St_frontOf_33 : decode m_St_frontOf.2.1 33 = .ok (.iaload, 1) := by decide +kernel
theorem d_St_frontOf_34 : decode m_St_frontOf.2.1 34 = .ok (.if_icmp .ge 22, 3) := by decide +kernel
theorem d_St_frontOf_37 : decode m_St_frontOf.2.1 37 = .ok (.iload_n 2, 1) := by decide +kernel
theorem d_St_frontOf_38 : decode m_St_frontOf.2.1 38 = .ok (.aload_n 3, 1) := by decide +kernel
theorem d_St_frontOf_39 : decode m_St_frontOf.2.1 39 = .ok (.invokevirtual 124, 3) := by decide +kernel
theorem d_St_frontOf_42 : decode m_St_frontOf.2.1 42 = .ok (.if_icmp .ge 14, 3) := by decide +kernel
theorem d_St_frontOf_45 : decode m_St_frontOf.2.1 45 = .ok (.aload_n 3, 1) := by decide +kernel
theorem d_St_frontOf_46 : decode m_St_frontOf.2.1 46 = .ok (.iload_n 2, 1) := by decide +kernel
theorem d_St_frontOf_47 : decode m_St_frontOf.2.1 47 = .ok (.invokevirtual 236, 3) := by decide +kernel
theorem d_St_frontOf_50 : decode m_St_frontOf.2.1 50 = .ok (.checkcast 134, 3) := by decide +kernel
theorem d_St_frontOf_53 : decode m_St_frontOf.2.1 53 = .ok (.goto 4, 3) := by decide +kernel
theorem d_St_frontOf_56 : decode m_St_frontOf.2.1 56 = .ok (.aconst_null, 1) := by decide +kernel
theorem d_St_frontOf_57 : decode m_St_frontOf.2.1 57 = .ok (.areturn, 1) := by decide +kernel
theorem d_St_takeBarrier_0 : decode m_St_takeBarrier.2.1 0 = .ok (.aload_n 0, 1) := by decide +kernel
theorem d_St_takeBarrier_1 : decode m_St_takeBarrier.2.1 1 = .ok (.getfield 50, 3) := by decide +kernel
theorem d_St_takeBarrier_4 : decode m_St_takeBarrier.2.1 4 = .ok (.iload_n 1, 1) := by decide +kernel
theorem d_St_takeBarrier_5 : decode m_St_takeBarrier.2.1 5 = .ok (.invokevirtual 325, 3) := by decide +kernel
theorem d_St_takeBarrier_8 : decode m_St_takeBarrier.2.1 8 = .ok (.aload_n 0, 1) := by decide +kernel
theorem d_St_takeBarrier_9 : decode m_St_takeBarrier.2.1 9 = .ok (.getfield 50, 3) := by decide +kernel
theorem d_St_takeBarrier_12 : decode m_St_takeBarrier.2.1 12 = .ok (.invokevirtual 328, 3) := by decide +kernel
theorem d_St_takeBarrier_15 : decode m_St_takeBarrier.2.1 15 = .ok (.ifCond .ne 5, 3) := by decide +kernel
theorem d_St_takeBarrier_18 : decode m_St_takeBarrier.2.1 18 = .ok (.iconst 3, 1) := by decide +kernel
theorem d_St_takeBarrier_19 : decode m_St_takeBarrier.2.1 19 = .ok (.ireturn, 1) := by decide +kernel
theorem d_St_takeBarrier_20 : decode m_St_takeBarrier.2.1 20 = .ok (.aload_n 0, 1) := by decide +kernel
theorem d_St_takeBarrier_21 : decode m_St_takeBarrier.2.1 21 = .ok (.getfield 50, 3) := by decide +kernel
theorem d_St_takeBarrier_24 : decode m_St_takeBarrier.2.1 24 = .ok (.iconst 0, 1) := by decide +kernel
theorem d_St_takeBarrier_25 : decode m_St_takeBarrier.2.1 25 = .ok (.putfield 185, 3) := by decide +kernel
theorem d_St_takeBarrier_28 : decode m_St_takeBarrier.2.1 28 = .ok (.aload_n 0, 1) := by decide +kernel
theorem d_St_takeBarrier_29 : decode m_St_takeBarrier.2.1 29 = .ok (.invokevirtual 194, 3) := by decide +kernel
theorem d_St_takeBarrier_32 : decode m_St_takeBarrier.2.1 32 = .ok (.iconst 4, 1) := by decide +kernel
theorem d_St_takeBarrier_33 : decode m_St_takeBarrier.2.1 33 = .ok (.ireturn, 1) := by decide +kernel
theorem d_St_takeEvent_0 : decode m_St_takeEvent.2.1 0 = .ok (.aload_n 2, 1) := by decide +kernel
theorem d_St_takeEvent_1 : decode m_St_takeEvent.2.1 1 = .ok (.aload_n 0, 1) := by decide +kernel
theorem d_St_takeEvent_2 : decode m_St_takeEvent.2.1 2 = .ok (.getfield 26, 3) := by decide +kernel
theorem d_St_takeEvent_5 : decode m_St_takeEvent.2.1 5 = .ok (.getfield 216, 3) := by decide +kernel
theorem d_St_takeEvent_8 : decode m_St_takeEvent.2.1 8 = .ok (.putfield 332, 3) := by decide +kernel
theorem d_St_takeEvent_11 : decode m_St_takeEvent.2.1 11 = .ok (.aload_n 0, 1) := by decide +kernel
theorem d_St_takeEvent_12 : decode m_St_takeEvent.2.1 12 = .ok (.getfield 26, 3) := by decide +kernel
theorem d_St_takeEvent_15 : decode m_St_takeEvent.2.1 15 = .ok (.dup, 1) := by decide +kernel
theorem d_St_takeEvent_16 : decode m_St_takeEvent.2.1 16 = .ok (.getfield 269, 3) := by decide +kernel
theorem d_St_takeEvent_19 : decode m_St_takeEvent.2.1 19 = .ok (.aload_n 0, 1) := by decide +kernel
theorem d_St_takeEvent_20 : decode m_St_takeEvent.2.1 20 = .ok (.getfield 36, 3) := by decide +kernel
theorem d_St_takeEvent_23 : decode m_St_takeEvent.2.1 23 = .ok (.aload_n 2, 1) := by decide +kernel
theorem d_St_takeEvent_24 : decode m_St_takeEvent.2.1 24 = .ok (.aload_n 0, 1) := by decide +kernel
theorem d_St_takeEvent_25 : decode m_St_takeEvent.2.1 25 = .ok (.getfield 10, 3) := by decide +kernel
theorem d_St_takeEvent_28 : decode m_St_takeEvent.2.1 28 = .ok (.getfield 100, 3) := by decide +kernel
theorem d_St_takeEvent_31 : decode m_St_takeEvent.2.1 31 = .ok (.invokevirtual 333, 3) := by decide +kernel
theorem d_St_takeEvent_34 : decode m_St_takeEvent.2.1 34 = .ok (.iadd, 1) := by decide +kernel
theorem d_St_takeEvent_35 : decode m_St_takeEvent.2.1 35 = .ok (.putfield 269, 3) := by decide +kernel
theorem d_St_takeEvent_38 : decode m_St_takeEvent.2.1 38 = .ok (.aload_n 0, 1) := by decide +kernel
theorem d_St_takeEvent_39 : decode m_St_takeEvent.2.1 39 = .ok (.getfield 36, 3) := by decide +kernel
theorem d_St_takeEvent_42 : decode m_St_takeEvent.2.1 42 = .ok (.getfield 337, 3) := by decide +kernel
theorem d_St_takeEvent_45 : decode m_St_takeEvent.2.1 45 = .ok (.aload_n 2, 1) := by decide +kernel
theorem d_St_takeEvent_46 : decode m_St_takeEvent.2.1 46 = .ok (.invokevirtual 139, 3) := by decide +kernel
theorem d_St_takeEvent_49 : decode m_St_takeEvent.2.1 49 = .ok (.pop, 1) := by decide +kernel
theorem d_St_takeEvent_50 : decode m_St_takeEvent.2.1 50 = .ok (.aload_n 0, 1) := by decide +kernel
theorem d_St_takeEvent_51 : decode m_St_takeEvent.2.1 51 = .ok (.getfield 26, 3) := by decide +kernel
theorem d_St_takeEvent_54 : decode m_St_takeEvent.2.1 54 = .ok (.dup, 1) := by decide +kernel
theorem d_St_takeEvent_55 : decode m_St_takeEvent.2.1 55 = .ok (.getfield 338, 3) := by decide +kernel
theorem d_St_takeEvent_58 : decode m_St_takeEvent.2.1 58 = .ok (.iconst 1, 1) := by decide +kernel
theorem d_St_takeEvent_59 : decode m_St_takeEvent.2.1 59 = .ok (.iadd, 1) := by decide +kernel
theorem d_St_takeEvent_60 : decode m_St_takeEvent.2.1 60 = .ok (.putfield 338, 3) := by decide +kernel
theorem d_St_takeEvent_63 : decode m_St_takeEvent.2.1 63 = .ok (.aload_n 0, 1) := by decide +kernel
theorem d_St_takeEvent_64 : decode m_St_takeEvent.2.1 64 = .ok (.getfield 26, 3) := by decide +kernel
theorem d_St_takeEvent_67 : decode m_St_takeEvent.2.1 67 = .ok (.getfield 166, 3) := by decide +kernel
theorem d_St_takeEvent_70 : decode m_St_takeEvent.2.1 70 = .ok (.iload_n 1, 1) := by decide +kernel
theorem d_St_takeEvent_71 : decode m_St_takeEvent.2.1 71 = .ok (.dup2, 1) := by decide +kernel
theorem d_St_takeEvent_72 : decode m_St_takeEvent.2.1 72 = .ok (.iaload, 1) := by decide +kernel
theorem d_St_takeEvent_73 : decode m_St_takeEvent.2.1 73 = .ok (.iconst 1, 1) := by decide +kernel
theorem d_St_takeEvent_74 : decode m_St_takeEvent.2.1 74 = .ok (.iadd, 1) := by decide +kernel
theorem d_St_takeEvent_75 : decode m_St_takeEvent.2.1 75 = .ok (.iastore, 1) := by decide +kernel
theorem d_St_takeEvent_76 : decode m_St_takeEvent.2.1 76 = .ok (.aload_n 0, 1) := by decide +kernel
theorem d_St_takeEvent_77 : decode m_St_takeEvent.2.1 77 = .ok (.getfield 26, 3) := by decide +kernel
theorem d_St_takeEvent_80 : decode m_St_takeEvent.2.1 80 = .ok (.getfield 317, 3) := by decide +kernel
theorem d_St_takeEvent_83 : decode m_St_takeEvent.2.1 83 = .ok (.iload_n 1, 1) := by decide +kernel
theorem d_St_takeEvent_84 : decode m_St_takeEvent.2.1 84 = .ok (.aload_n 0, 1) := by decide +kernel
theorem d_St_takeEvent_85 : decode m_St_takeEvent.2.1 85 = .ok (.getfield 26, 3) := by decide +kernel
theorem d_St_takeEvent_88 : decode m_St_takeEvent.2.1 88 = .ok (.getfield 317, 3) := by decide +kernel
theorem d_St_takeEvent_91 : decode m_St_takeEvent.2.1 91 = .ok (.iload_n 1, 1) := by decide +kernel
theorem d_St_takeEvent_92 : decode m_St_takeEvent.2.1 92 = .ok (.iaload, 1) := by decide +kernel
theorem d_St_takeEvent_93 : decode m_St_takeEvent.2.1 93 = .ok (.aload_n 2, 1) := by decide +kernel
theorem d_St_takeEvent_94 : decode m_St_takeEvent.2.1 94 = .ok (.getfield 341, 3) := by decide +kernel
theorem d_St_takeEvent_97 : decode m_St_takeEvent.2.1 97 = .ok (.invokestatic 320, 3) := by decide +kernel
theorem d_St_takeEvent_100 : decode m_St_takeEvent.2.1 100 = .ok (.iastore, 1) := by decide +kernel
theorem d_St_takeEvent_101 : decode m_St_takeEvent.2.1 101 = .ok (.aload_n 0, 1) := by decide +kernel
theorem d_St_takeEvent_102 : decode m_St_takeEvent.2.1 102 = .ok (.getfield 10, 3) := by decide +kernel
theorem d_St_takeEvent_105 : decode m_St_takeEvent.2.1 105 = .ok (.getfield 88, 3) := by decide +kernel
theorem d_St_takeEvent_108 : decode m_St_takeEvent.2.1 108 = .ok (.iconst 2, 1) := by decide +kernel
theorem d_St_takeEvent_109 : decode m_St_takeEvent.2.1 109 = .ok (.if_icmp .ne 25, 3) := by decide +kernel
theorem d_St_takeEvent_112 : decode m_St_takeEvent.2.1 112 = .ok (.aload_n 0, 1) := by decide +kernel
theorem d_St_takeEvent_113 : decode m_St_takeEvent.2.1 113 = .ok (.getfield 26, 3) := by decide +kernel
theorem d_St_takeEvent_116 : decode m_St_takeEvent.2.1 116 = .ok (.getfield 227, 3) := by decide +kernel
theorem d_St_takeEvent_119 : decode m_St_takeEvent.2.1 119 = .ok (.aload_n 2, 1) := by decide +kernel
theorem d_St_takeEvent_120 : decode m_St_takeEvent.2.1 120 = .ok (.aload_n 0, 1) := by decide +kernel
theorem d_St_takeEvent_121 : decode m_St_takeEvent.2.1 121 = .ok (.getfield 10, 3) := by decide +kernel
theorem d_St_takeEvent_124 : decode m_St_takeEvent.2.1 124 = .ok (.aload_n 0, 1) := by decide +kernel
theorem d_St_takeEvent_125 : decode m_St_takeEvent.2.1 125 = .ok (.getfield 43, 3) := by decide +kernel
theorem d_St_takeEvent_128 : decode m_St_takeEvent.2.1 128 = .ok (.invokevirtual 344, 3) := by decide +kernel
theorem d_St_takeEvent_131 : decode m_St_takeEvent.2.1 131 = .ok (.goto 22, 3) := by decide +kernel
theorem d_St_takeEvent_134 : decode m_St_takeEvent.2.1 134 = .ok (.aload_n 0, 1) := by decide +kernel
theorem d_St_takeEvent_135 : decode m_St_takeEvent.2.1 135 = .ok (.getfield 26, 3) := by decide +kernel
theorem d_St_takeEvent_138 : decode m_St_takeEvent.2.1 138 = .ok (.getfield 227, 3) := by decide +kernel
theorem d_St_takeEvent_141 : decode m_St_takeEvent.2.1 141 = .ok (.aload_n 2, 1) := by decide +kernel
theorem d_St_takeEvent_142 : decode m_St_takeEvent.2.1 142 = .ok (.aload_n 0, 1) := by decide +kernel
theorem d_St_takeEvent_143 : decode m_St_takeEvent.2.1 143 = .ok (.getfield 10, 3) := by decide +kernel
theorem d_St_takeEvent_146 : decode m_St_takeEvent.2.1 146 = .ok (.aload_n 0, 1) := by decide +kernel
theorem d_St_takeEvent_147 : decode m_St_takeEvent.2.1 147 = .ok (.getfield 43, 3) := by decide +kernel
theorem d_St_takeEvent_150 : decode m_St_takeEvent.2.1 150 = .ok (.invokevirtual 348, 3) := by decide +kernel
theorem d_St_takeEvent_153 : decode m_St_takeEvent.2.1 153 = .ok (.istore_n 3, 1) := by decide +kernel
theorem d_St_takeEvent_154 : decode m_St_takeEvent.2.1 154 = .ok (.iload_n 3, 1) := by decide +kernel
theorem d_St_takeEvent_155 : decode m_St_takeEvent.2.1 155 = .ok (.ifCond .ne 16, 3) := by decide +kernel
theorem d_St_takeEvent_158 : decode m_St_takeEvent.2.1 158 = .ok (.aload_n 0, 1) := by decide +kernel
theorem d_St_takeEvent_159 : decode m_St_takeEvent.2.1 159 = .ok (.getfield 26, 3) := by decide +kernel
theorem d_St_takeEvent_162 : decode m_St_takeEvent.2.1 162 = .ok (.dup, 1) := by decide +kernel
theorem d_St_takeEvent_163 : decode m_St_takeEvent.2.1 163 = .ok (.getfield 266, 3) := by decide +kernel
theorem d_St_takeEvent_166 : decode m_St_takeEvent.2.1 166 = .ok (.iconst 1, 1) := by decide +kernel
theorem d_St_takeEvent_167 : decode m_St_takeEvent.2.1 167 = .ok (.iadd, 1) := by decide +kernel
theorem d_St_takeEvent_168 : decode m_St_takeEvent.2.1 168 = .ok (.putfield 266, 3) := by decide +kernel
theorem d_St_takeEvent_171 : decode m_St_takeEvent.2.1 171 = .ok (.aload_n 0, 1) := by decide +kernel
theorem d_St_takeEvent_172 : decode m_St_takeEvent.2.1 172 = .ok (.invokevirtual 158, 3) := by decide +kernel
theorem d_St_takeEvent_175 : decode m_St_takeEvent.2.1 175 = .ok (.iload_n 3, 1) := by decide +kernel
theorem d_St_takeEvent_176 : decode m_St_takeEvent.2.1 176 = .ok (.ifCond .ne 7, 3) := by decide +kernel
theorem d_St_takeEvent_179 : decode m_St_takeEvent.2.1 179 = .ok (.iconst 2, 1) := by decide +kernel
theorem d_St_takeEvent_180 : decode m_St_takeEvent.2.1 180 = .ok (.goto 15, 3) := by decide +kernel
theorem d_St_takeEvent_183 : decode m_St_takeEvent.2.1 183 = .ok (.aload_n 2, 1) := by decide +kernel
theorem d_St_takeEvent_184 : decode m_St_takeEvent.2.1 184 = .ok (.invokevirtual 351, 3) := by decide +kernel
theorem d_St_takeEvent_187 : decode m_St_takeEvent.2.1 187 = .ok (.ifCond .eq 7, 3) := by decide +kernel
theorem d_St_takeEvent_190 : decode m_St_takeEvent.2.1 190 = .ok (.iconst 1, 1) := by decide +kernel
theorem d_St_takeEvent_191 : decode m_St_takeEvent.2.1 191 = .ok (.goto 4, 3) := by decide +kernel
theorem d_St_takeEvent_194 : decode m_St_takeEvent.2.1 194 = .ok (.iconst 0, 1) := by decide +kernel
theorem d_St_takeEvent_195 : decode m_St_takeEvent.2.1 195 = .ok (.ireturn, 1) := by decide +kernel
theorem d_St_lookAtWatermark_0 : decode m_St_lookAtWatermark.2.1 0 = .ok (.iconst 0, 1) := by decide +kernel
theorem d_St_lookAtWatermark_1 : decode m_St_lookAtWatermark.2.1 1 = .ok (.istore_n 1, 1) := by decide +kernel
theorem d_St_lookAtWatermark_2 : decode m_St_lookAtWatermark.2.1 2 = .ok (.iconst (-1), 1) := by decide +kernel
theorem d_St_lookAtWatermark_3 : decode m_St_lookAtWatermark.2.1 3 = .ok (.istore_n 2, 1) := by decide +kernel
theorem d_St_lookAtWatermark_4 : decode m_St_lookAtWatermark.2.1 4 = .ok (.iconst 0, 1) := by decide +kernel
theorem d_St_lookAtWatermark_5 : decode m_St_lookAtWatermark.2.1 5 = .ok (.istore_n 3, 1) := by decide +kernel
theorem d_St_lookAtWatermark_6 : decode m_St_lookAtWatermark.2.1 6 = .ok (.iload_n 3, 1) := by decide +kernel
theorem d_St_lookAtWatermark_7 : decode m_St_lookAtWatermark.2.1 7 = .ok (.iconst 3, 1) := by decide +kernel
theorem d_St_lookAtWatermark_8 : decode m_St_lookAtWatermark.2.1 8 = .ok (.if_icmp .ge 46, 3) := by decide +kernel
theorem d_St_lookAtWatermark_11 : decode m_St_lookAtWatermark.2.1 11 = .ok (.aload_n 0, 1) := by decide +kernel
theorem d_St_lookAtWatermark_12 : decode m_St_lookAtWatermark.2.1 12 = .ok (.getfield 19, 3) := by decide +kernel
theorem d_St_lookAtWatermark_15 : decode m_St_lookAtWatermark.2.1 15 = .ok (.iload_n 3, 1) := by decide +kernel
theorem d_St_lookAtWatermark_16 : decode m_St_lookAtWatermark.2.1 16 = .ok (.aaload, 1) := by decide +kernel
theorem d_St_lookAtWatermark_17 : decode m_St_lookAtWatermark.2.1 17 = .ok (.getfield 155, 3) := by decide +kernel
theorem d_St_lookAtWatermark_20 : decode m_St_lookAtWatermark.2.1 20 = .ok (.ifCond .ne 28, 3) := by decide +kernel
theorem d_St_lookAtWatermark_23 : decode m_St_lookAtWatermark.2.1 23 = .ok (.aload_n 0, 1) := by decide +kernel
theorem d_St_lookAtWatermark_24 : decode m_St_lookAtWatermark.2.1 24 = .ok (.iload_n 3, 1) := by decide +kernel
theorem d_St_lookAtWatermark_25 : decode m_St_lookAtWatermark.2.1 25 = .ok (.invokevirtual 219, 3) := by decide +kernel
theorem d_St_lookAtWatermark_28 : decode m_St_lookAtWatermark.2.1 28 = .ok (.istore 4, 2) := by decide +kernel
theorem d_St_lookAtWatermark_30 : decode m_St_lookAtWatermark.2.1 30 = .ok (.iload_n 1, 1) := by decide +kernel
theorem d_St_lookAtWatermark_31 : decode m_St_lookAtWatermark.2.1 31 = .ok (.ifCond .eq 12, 3) := by decide +kernel
theorem d_St_lookAtWatermark_34 : decode m_St_lookAtWatermark.2.1 34 = .ok (.iload_n 2, 1) := by decide +kernel
theorem d_St_lookAtWatermark_35 : decode m_St_lookAtWatermark.2.1 35 = .ok (.iload 4, 2) := by decide +kernel
theorem d_St_lookAtWatermark_37 : decode m_St_lookAtWatermark.2.1 37 = .ok (.invokestatic 354, 3) := by decide +kernel
theorem d_St_lookAtWatermark_40 : decode m_St_lookAtWatermark.2.1 40 = .ok (.goto 5, 3) := by decide +kernel
theorem d_St_lookAtWatermark_43 : decode m_St_lookAtWatermark.2.1 43 = .ok (.iload 4, 2) := by decide +kernel
theorem d_St_lookAtWatermark_45 : decode m_St_lookAtWatermark.2.1 45 = .ok (.istore_n 2, 1) := by decide +kernel
theorem d_St_lookAtWatermark_46 : decode m_St_lookAtWatermark.2.1 46 = .ok (.iconst 1, 1) := by decide +kernel
theorem d_St_lookAtWatermark_47 : decode m_St_lookAtWatermark.2.1 47 = .ok (.istore_n 1, 1) := by decide +kernel
theorem d_St_lookAtWatermark_48 : decode m_St_lookAtWatermark.2.1 48 = .ok (.iinc 3 1, 3) := by decide +kernel
theorem d_St_lookAtWatermark_51 : decode m_St_lookAtWatermark.2.1 51 = .ok (.goto (-45), 3) := by decide +kernel
theorem d_St_lookAtWatermark_54 : decode m_St_lookAtWatermark.2.1 54 = .ok (.iload_n 1, 1) := by decide +kernel
theorem d_St_lookAtWatermark_55 : decode m_St_lookAtWatermark.2.1 55 = .ok (.ifCond .eq 21, 3) := by decide +kernel
theorem d_St_lookAtWatermark_58 : decode m_St_lookAtWatermark.2.1 58 = .ok (.aload_n 0, 1) := by decide +kernel
theorem d_St_lookAtWatermark_59 : decode m_St_lookAtWatermark.2.1 59 = .ok (.getfield 26, 3) := by decide +kernel
theorem d_St_lookAtWatermark_62 : decode m_St_lookAtWatermark.2.1 62 = .ok (.aload_n 0, 1) := by decide +kernel
theorem d_St_lookAtWatermark_63 : decode m_St_lookAtWatermark.2.1 63 = .ok (.getfield 26, 3) := by decide +kernel
theorem d_St_lookAtWatermark_66 : decode m_St_lookAtWatermark.2.1 66 = .ok (.getfield 216, 3) := by decide +kernel
theorem d_St_lookAtWatermark_69 : decode m_St_lookAtWatermark.2.1 69 = .ok (.iload_n 2, 1) := by decide +kernel
theorem d_St_lookAtWatermark_70 : decode m_St_lookAtWatermark.2.1 70 = .ok (.invokestatic 320, 3) := by decide +kernel
theorem d_St_lookAtWatermark_73 : decode m_St_lookAtWatermark.2.1 73 = .ok (.putfield 216, 3) := by decide +kernel
theorem d_St_lookAtWatermark_76 : decode m_St_lookAtWatermark.2.1 76 = .ok (.aload_n 0, 1) := by decide +kernel
theorem d_St_lookAtWatermark_77 : decode m_St_lookAtWatermark.2.1 77 = .ok (.getfield 26, 3) := by decide +kernel
theorem d_St_lookAtWatermark_80 : decode m_St_lookAtWatermark.2.1 80 = .ok (.getfield 227, 3) := by decide +kernel
theorem d_St_lookAtWatermark_83 : decode m_St_lookAtWatermark.2.1 83 = .ok (.aload_n 0, 1) := by decide +kernel
theorem d_St_lookAtWatermark_84 : decode m_St_lookAtWatermark.2.1 84 = .ok (.getfield 26, 3) := by decide +kernel
theorem d_St_lookAtWatermark_87 : decode m_St_lookAtWatermark.2.1 87 = .ok (.getfield 216, 3) := by decide +kernel
theorem d_St_lookAtWatermark_90 : decode m_St_lookAtWatermark.2.1 90 = .ok (.aload_n 0, 1) := by decide +kernel
theorem d_St_lookAtWatermark_91 : decode m_St_lookAtWatermark.2.1 91 = .ok (.getfield 43, 3) := by decide +kernel
theorem d_St_lookAtWatermark_94 : decode m_St_lookAtWatermark.2.1 94 = .ok (.invokevirtual 357, 3) := by decide +kernel
theorem d_St_lookAtWatermark_97 : decode m_St_lookAtWatermark.2.1 97 = .ok (.return_, 1) := by decide +kernel
theorem d_St_takeSnapshot_0 : decode m_St_takeSnapshot.2.1 0 = .ok (.aload_n 0, 1) := by decide +kernel
theorem d_St_takeSnapshot_1 : decode m_St_takeSnapshot.2.1 1 = .ok (.getfield 30, 3) := by decide +kernel
theorem d_St_takeSnapshot_4 : decode m_St_takeSnapshot.2.1 4 = .ok (.aload_n 0, 1) := by decide +kernel
theorem d_St_takeSnapshot_5 : decode m_St_takeSnapshot.2.1 5 = .ok (.getfield 26, 3) := by decide +kernel
theorem d_St_takeSnapshot_8 : decode m_St_takeSnapshot.2.1 8 = .ok (.invokevirtual 361, 3) := by decide +kernel
theorem d_St_takeSnapshot_11 : decode m_St_takeSnapshot.2.1 11 = .ok (.iconst 0, 1) := by decide +kernel
theorem d_St_takeSnapshot_12 : decode m_St_takeSnapshot.2.1 12 = .ok (.istore_n 1, 1) := by decide +kernel
theorem d_St_takeSnapshot_13 : decode m_St_takeSnapshot.2.1 13 = .ok (.iload_n 1, 1) := by decide +kernel
theorem d_St_takeSnapshot_14 : decode m_St_takeSnapshot.2.1 14 = .ok (.iconst 3, 1) := by decide +kernel
theorem d_St_takeSnapshot_15 : decode m_St_takeSnapshot.2.1 15 = .ok (.if_icmp .ge 27, 3) := by decide +kernel
theorem d_St_takeSnapshot_18 : decode m_St_takeSnapshot.2.1 18 = .ok (.aload_n 0, 1) := by decide +kernel
theorem d_St_takeSnapshot_19 : decode m_St_takeSnapshot.2.1 19 = .ok (.getfield 30, 3) := by decide +kernel
theorem d_St_takeSnapshot_22 : decode m_St_takeSnapshot.2.1 22 = .ok (.getfield 143, 3) := by decide +kernel
theorem d_St_takeSnapshot_25 : decode m_St_takeSnapshot.2.1 25 = .ok (.iload_n 1, 1) := by decide +kernel
theorem d_St_takeSnapshot_26 : decode m_St_takeSnapshot.2.1 26 = .ok (.aload_n 0, 1) := by decide +kernel
theorem d_St_takeSnapshot_27 : decode m_St_takeSnapshot.2.1 27 = .ok (.getfield 50, 3) := by decide +kernel
theorem d_St_takeSnapshot_30 : decode m_St_takeSnapshot.2.1 30 = .ok (.getfield 365, 3) := by decide +kernel
theorem d_St_takeSnapshot_33 : decode m_St_takeSnapshot.2.1 33 = .ok (.iload_n 1, 1) := by decide +kernel
theorem d_St_takeSnapshot_34 : decode m_St_takeSnapshot.2.1 34 = .ok (.iaload, 1) := by decide +kernel
theorem d_St_takeSnapshot_35 : decode m_St_takeSnapshot.2.1 35 = .ok (.iastore, 1) := by decide +kernel
theorem d_St_takeSnapshot_36 : decode m_St_takeSnapshot.2.1 36 = .ok (.iinc 1 1, 3) := by decide +kernel
theorem d_St_takeSnapshot_39 : decode m_St_takeSnapshot.2.1 39 = .ok (.goto (-26), 3) := by decide +kernel
theorem d_St_takeSnapshot_42 : decode m_St_takeSnapshot.2.1 42 = .ok (.aload_n 0, 1) := by decide +kernel
theorem d_St_takeSnapshot_43 : decode m_St_takeSnapshot.2.1 43 = .ok (.getfield 43, 3) := by decide +kernel
theorem d_St_takeSnapshot_46 : decode m_St_takeSnapshot.2.1 46 = .ok (.aload_n 0, 1) := by decide +kernel
theorem d_St_takeSnapshot_47 : decode m_St_takeSnapshot.2.1 47 = .ok (.getfield 43, 3) := by decide +kernel
theorem d_St_takeSnapshot_50 : decode m_St_takeSnapshot.2.1 50 = .ok (.getfield 275, 3) := by decide +kernel
theorem d_St_takeSnapshot_53 : decode m_St_takeSnapshot.2.1 53 = .ok (.putfield 368, 3) := by decide +kernel
theorem d_St_takeSnapshot_56 : decode m_St_takeSnapshot.2.1 56 = .ok (.aload_n 0, 1) := by decide +kernel
theorem d_St_takeSnapshot_57 : decode m_St_takeSnapshot.2.1 57 = .ok (.dup, 1) := by decide +kernel
theorem d_St_takeSnapshot_58 : decode m_St_takeSnapshot.2.1 58 = .ok (.getfield 58, 3) := by decide +kernel
theorem d_St_takeSnapshot_61 : decode m_St_takeSnapshot.2.1 61 = .ok (.iconst 1, 1) := by decide +kernel
theorem d_St_takeSnapshot_62 : decode m_St_takeSnapshot.2.1 62 = .ok (.iadd, 1) := by decide +kernel
theorem d_St_takeSnapshot_63 : decode m_St_takeSnapshot.2.1 63 = .ok (.putfield 58, 3) := by decide +kernel
theorem d_St_takeSnapshot_66 : decode m_St_takeSnapshot.2.1 66 = .ok (.aload_n 0, 1) := by decide +kernel
theorem d_St_takeSnapshot_67 : decode m_St_takeSnapshot.2.1 67 = .ok (.iconst 1, 1) := by decide +kernel
theorem d_St_takeSnapshot_68 : decode m_St_takeSnapshot.2.1 68 = .ok (.putfield 62, 3) := by decide +kernel
theorem d_St_takeSnapshot_71 : decode m_St_takeSnapshot.2.1 71 = .ok (.return_, 1) := by decide +kernel
theorem d_St_commitSnapshot_0 : decode m_St_commitSnapshot.2.1 0 = .ok (.aload_n 0, 1) := by decide +kernel
theorem d_St_commitSnapshot_1 : decode m_St_commitSnapshot.2.1 1 = .ok (.getfield 43, 3) := by decide +kernel
theorem d_St_commitSnapshot_4 : decode m_St_commitSnapshot.2.1 4 = .ok (.aload_n 0, 1) := by decide +kernel
theorem d_St_commitSnapshot_5 : decode m_St_commitSnapshot.2.1 5 = .ok (.getfield 43, 3) := by decide +kernel
theorem d_St_commitSnapshot_8 : decode m_St_commitSnapshot.2.1 8 = .ok (.getfield 368, 3) := by decide +kernel
theorem d_St_commitSnapshot_11 : decode m_St_commitSnapshot.2.1 11 = .ok (.putfield 202, 3) := by decide +kernel
theorem d_St_commitSnapshot_14 : decode m_St_commitSnapshot.2.1 14 = .ok (.aload_n 0, 1) := by decide +kernel
theorem d_St_commitSnapshot_15 : decode m_St_commitSnapshot.2.1 15 = .ok (.getfield 36, 3) := by decide +kernel
theorem d_St_commitSnapshot_18 : decode m_St_commitSnapshot.2.1 18 = .ok (.aload_n 0, 1) := by decide +kernel
theorem d_St_commitSnapshot_19 : decode m_St_commitSnapshot.2.1 19 = .ok (.getfield 30, 3) := by decide +kernel
theorem d_St_commitSnapshot_22 : decode m_St_commitSnapshot.2.1 22 = .ok (.getfield 338, 3) := by decide +kernel
theorem d_St_commitSnapshot_25 : decode m_St_commitSnapshot.2.1 25 = .ok (.putfield 371, 3) := by decide +kernel
theorem d_St_commitSnapshot_28 : decode m_St_commitSnapshot.2.1 28 = .ok (.aload_n 0, 1) := by decide +kernel
theorem d_St_commitSnapshot_29 : decode m_St_commitSnapshot.2.1 29 = .ok (.getfield 36, 3) := by decide +kernel
theorem d_St_commitSnapshot_32 : decode m_St_commitSnapshot.2.1 32 = .ok (.aload_n 0, 1) := by decide +kernel
theorem d_St_commitSnapshot_33 : decode m_St_commitSnapshot.2.1 33 = .ok (.getfield 30, 3) := by decide +kernel
theorem d_St_commitSnapshot_36 : decode m_St_commitSnapshot.2.1 36 = .ok (.getfield 216, 3) := by decide +kernel
theorem d_St_commitSnapshot_39 : decode m_St_commitSnapshot.2.1 39 = .ok (.putfield 299, 3) := by decide +kernel
theorem d_St_commitSnapshot_42 : decode m_St_commitSnapshot.2.1 42 = .ok (.aload_n 0, 1) := by decide +kernel
theorem d_St_commitSnapshot_43 : decode m_St_commitSnapshot.2.1 43 = .ok (.iconst 0, 1) := by decide +kernel
theorem d_St_commitSnapshot_44 : decode m_St_commitSnapshot.2.1 44 = .ok (.putfield 62, 3) := by decide +kernel
theorem d_St_commitSnapshot_47 : decode m_St_commitSnapshot.2.1 47 = .ok (.return_, 1) := by decide +kernel
theorem d_St_fallBack_0 : decode m_St_fallBack.2.1 0 = .ok (.aload_n 0, 1) := by decide +kernel
theorem d_St_fallBack_1 : decode m_St_fallBack.2.1 1 = .ok (.invokevirtual 199, 3) := by decide +kernel
theorem d_St_fallBack_4 : decode m_St_fallBack.2.1 4 = .ok (.aload_n 0, 1) := by decide +kernel
theorem d_St_fallBack_5 : decode m_St_fallBack.2.1 5 = .ok (.getfield 43, 3) := by decide +kernel
theorem d_St_fallBack_8 : decode m_St_fallBack.2.1 8 = .ok (.aload_n 0, 1) := by decide +kernel
theorem d_St_fallBack_9 : decode m_St_fallBack.2.1 9 = .ok (.getfield 43, 3) := by decide +kernel
theorem d_St_fallBack_12 : decode m_St_fallBack.2.1 12 = .ok (.getfield 368, 3) := by decide +kernel
theorem d_St_fallBack_15 : decode m_St_fallBack.2.1 15 = .ok (.putfield 275, 3) := by decide +kernel
theorem d_St_fallBack_18 : decode m_St_fallBack.2.1 18 = .ok (.aload_n 0, 1) := by decide +kernel
theorem d_St_fallBack_19 : decode m_St_fallBack.2.1 19 = .ok (.getfield 26, 3) := by decide +kernel
theorem d_St_fallBack_22 : decode m_St_fallBack.2.1 22 = .ok (.aload_n 0, 1) := by decide +kernel
theorem d_St_fallBack_23 : decode m_St_fallBack.2.1 23 = .ok (.getfield 30, 3) := by decide +kernel
theorem d_St_fallBack_26 : decode m_St_fallBack.2.1 26 = .ok (.invokevirtual 361, 3) := by decide +kernel
theorem d_St_fallBack_29 : decode m_St_fallBack.2.1 29 = .ok (.aload_n 0, 1) := by decide +kernel
theorem d_St_fallBack_30 : decode m_St_fallBack.2.1 30 = .ok (.getfield 36, 3) := by decide +kernel
theorem d_St_fallBack_33 : decode m_St_fallBack.2.1 33 = .ok (.aload_n 0, 1) := by decide +kernel
theorem d_St_fallBack_34 : decode m_St_fallBack.2.1 34 = .ok (.getfield 26, 3) := by decide +kernel
theorem d_St_fallBack_37 : decode m_St_fallBack.2.1 37 = .ok (.getfield 338, 3) := by decide +kernel
theorem d_St_fallBack_40 : decode m_St_fallBack.2.1 40 = .ok (.invokevirtual 374, 3) := by decide +kernel
theorem d_St_fallBack_43 : decode m_St_fallBack.2.1 43 = .ok (.aload_n 0, 1) := by decide +kernel
theorem d_St_fallBack_44 : decode m_St_fallBack.2.1 44 = .ok (.getfield 50, 3) := by decide +kernel
theorem d_St_fallBack_47 : decode m_St_fallBack.2.1 47 = .ok (.iconst 0, 1) := by decide +kernel
theorem d_St_fallBack_48 : decode m_St_fallBack.2.1 48 = .ok (.putfield 185, 3) := by decide +kernel
theorem d_St_fallBack_51 : decode m_St_fallBack.2.1 51 = .ok (.aload_n 0, 1) := by decide +kernel
theorem d_St_fallBack_52 : decode m_St_fallBack.2.1 52 = .ok (.invokevirtual 158, 3) := by decide +kernel
theorem d_St_fallBack_55 : decode m_St_fallBack.2.1 55 = .ok (.return_, 1) := by decide +kernel
theorem d_Mo_init_0 : decode m_Mo_init.2.1 0 = .ok (.aload_n 0, 1) := by decide +kernel
theorem d_Mo_init_1 : decode m_Mo_init.2.1 1 = .ok (.invokespecial 1, 3) := by decide +kernel
theorem d_Mo_init_4 : decode m_Mo_init.2.1 4 = .ok (.aload_n 0, 1) := by decide +kernel
theorem d_Mo_init_5 : decode m_Mo_init.2.1 5 = .ok (.iconst 0, 1) := by decide +kernel
theorem d_Mo_init_6 : decode m_Mo_init.2.1 6 = .ok (.putfield 9, 3) := by decide +kernel
theorem d_Mo_init_9 : decode m_Mo_init.2.1 9 = .ok (.aload_n 0, 1) := by decide +kernel
theorem d_Mo_init_10 : decode m_Mo_init.2.1 10 = .ok (.bipush 10, 2) := by decide +kernel
theorem d_Mo_init_12 : decode m_Mo_init.2.1 12 = .ok (.putfield 13, 3) := by decide +kernel
theorem d_Mo_init_15 : decode m_Mo_init.2.1 15 = .ok (.aload_n 0, 1) := by decide +kernel
theorem d_Mo_init_16 : decode m_Mo_init.2.1 16 = .ok (.bipush 10, 2) := by decide +kernel
theorem d_Mo_init_18 : decode m_Mo_init.2.1 18 = .ok (.putfield 16, 3) := by decide +kernel
theorem d_Mo_init_21 : decode m_Mo_init.2.1 21 = .ok (.aload_n 0, 1) := by decide +kernel
theorem d_Mo_init_22 : decode m_Mo_init.2.1 22 = .ok (.iconst 5, 1) := by decide +kernel
theorem d_Mo_init_23 : decode m_Mo_init.2.1 23 = .ok (.putfield 19, 3) := by decide +kernel
theorem d_Mo_init_26 : decode m_Mo_init.2.1 26 = .ok (.aload_n 0, 1) := by decide +kernel
theorem d_Mo_init_27 : decode m_Mo_init.2.1 27 = .ok (.iconst 1, 1) := by decide +kernel
theorem d_Mo_init_28 : decode m_Mo_init.2.1 28 = .ok (.putfield 22, 3) := by decide +kernel
theorem d_Mo_init_31 : decode m_Mo_init.2.1 31 = .ok (.aload_n 0, 1) := by decide +kernel
theorem d_Mo_init_32 : decode m_Mo_init.2.1 32 = .ok (.iconst 1, 1) := by decide +kernel
theorem d_Mo_init_33 : decode m_Mo_init.2.1 33 = .ok (.putfield 26, 3) := by decide +kernel
theorem d_Mo_init_36 : decode m_Mo_init.2.1 36 = .ok (.aload_n 0, 1) := by decide +kernel
theorem d_Mo_init_37 : decode m_Mo_init.2.1 37 = .ok (.bipush 120, 2) := by decide +kernel
theorem d_Mo_init_39 : decode m_Mo_init.2.1 39 = .ok (.newarray .int, 2) := by decide +kernel
theorem d_Mo_init_41 : decode m_Mo_init.2.1 41 = .ok (.putfield 29, 3) := by decide +kernel
theorem d_Mo_init_44 : decode m_Mo_init.2.1 44 = .ok (.aload_n 0, 1) := by decide +kernel
theorem d_Mo_init_45 : decode m_Mo_init.2.1 45 = .ok (.bipush 120, 2) := by decide +kernel
theorem d_Mo_init_47 : decode m_Mo_init.2.1 47 = .ok (.newarray .int, 2) := by decide +kernel
theorem d_Mo_init_49 : decode m_Mo_init.2.1 49 = .ok (.putfield 33, 3) := by decide +kernel
theorem d_Mo_init_52 : decode m_Mo_init.2.1 52 = .ok (.aload_n 0, 1) := by decide +kernel
theorem d_Mo_init_53 : decode m_Mo_init.2.1 53 = .ok (.bipush 120, 2) := by decide +kernel
theorem d_Mo_init_55 : decode m_Mo_init.2.1 55 = .ok (.newarray .int, 2) := by decide +kernel
theorem d_Mo_init_57 : decode m_Mo_init.2.1 57 = .ok (.putfield 36, 3) := by decide +kernel
theorem d_Mo_init_60 : decode m_Mo_init.2.1 60 = .ok (.aload_n 0, 1) := by decide +kernel
theorem d_Mo_init_61 : decode m_Mo_init.2.1 61 = .ok (.iconst 3, 1) := by decide +kernel
theorem d_Mo_init_62 : decode m_Mo_init.2.1 62 = .ok (.newarray .int, 2) := by decide +kernel
theorem d_Mo_init_64 : decode m_Mo_init.2.1 64 = .ok (.putfield 39, 3) := by decide +kernel
theorem d_Mo_init_67 : decode m_Mo_init.2.1 67 = .ok (.aload_n 0, 1) := by decide +kernel
theorem d_Mo_init_68 : decode m_Mo_init.2.1 68 = .ok (.iconst 3, 1) := by decide +kernel
theorem d_Mo_init_69 : decode m_Mo_init.2.1 69 = .ok (.newarray .int, 2) := by decide +kernel
theorem d_Mo_init_71 : decode m_Mo_init.2.1 71 = .ok (.putfield 42, 3) := by decide +kernel
theorem d_Mo_init_74 : decode m_Mo_init.2.1 74 = .ok (.aload_n 0, 1) := by decide +kernel
theorem d_Mo_init_75 : decode m_Mo_init.2.1 75 = .ok (.iconst 3, 1) := by decide +kernel
theorem d_Mo_init_76 : decode m_Mo_init.2.1 76 = .ok (.newarray .int, 2) := by decide +kernel
theorem d_Mo_init_78 : decode m_Mo_init.2.1 78 = .ok (.putfield 45, 3) := by decide +kernel
theorem d_Mo_init_81 : decode m_Mo_init.2.1 81 = .ok (.aload_n 0, 1) := by decide +kernel
theorem d_Mo_init_82 : decode m_Mo_init.2.1 82 = .ok (.iconst 3, 1) := by decide +kernel
theorem d_Mo_init_83 : decode m_Mo_init.2.1 83 = .ok (.newarray .int, 2) := by decide +kernel
theorem d_Mo_init_85 : decode m_Mo_init.2.1 85 = .ok (.putfield 48, 3) := by decide +kernel
theorem d_Mo_init_88 : decode m_Mo_init.2.1 88 = .ok (.aload_n 0, 1) := by decide +kernel
theorem d_Mo_init_89 : decode m_Mo_init.2.1 89 = .ok (.iconst 3, 1) := by decide +kernel
theorem d_Mo_init_90 : decode m_Mo_init.2.1 90 = .ok (.newarray .boolean, 2) := by decide +kernel
theorem d_Mo_init_92 : decode m_Mo_init.2.1 92 = .ok (.putfield 51, 3) := by decide +kernel
theorem d_Mo_init_95 : decode m_Mo_init.2.1 95 = .ok (.aload_n 0, 1) := by decide +kernel
theorem d_Mo_init_96 : decode m_Mo_init.2.1 96 = .ok (.iconst 3, 1) := by decide +kernel
theorem d_Mo_init_97 : decode m_Mo_init.2.1 97 = .ok (.newarray .int, 2) := by decide +kernel
theorem d_Mo_init_99 : decode m_Mo_init.2.1 99 = .ok (.putfield 55, 3) := by decide +kernel
theorem d_Mo_init_102 : decode m_Mo_init.2.1 102 = .ok (.aload_n 0, 1) := by decide +kernel
theorem d_Mo_init_103 : decode m_Mo_init.2.1 103 = .ok (.iconst (-1), 1) := by decide +kernel
theorem d_Mo_init_104 : decode m_Mo_init.2.1 104 = .ok (.putfield 58, 3) := by decide +kernel
theorem d_Mo_init_107 : decode m_Mo_init.2.1 107 = .ok (.aload_n 0, 1) := by decide +kernel
theorem d_Mo_init_108 : decode m_Mo_init.2.1 108 = .ok (.iconst 3, 1) := by decide +kernel
theorem d_Mo_init_109 : decode m_Mo_init.2.1 109 = .ok (.newarray .int, 2) := by decide +kernel
theorem d_Mo_init_111 : decode m_Mo_init.2.1 111 = .ok (.putfield 61, 3) := by decide +kernel
theorem d_Mo_init_114 : decode m_Mo_init.2.1 114 = .ok (.aload_n 0, 1) := by decide +kernel
theorem d_Mo_init_115 : decode m_Mo_init.2.1 115 = .ok (.iconst 3, 1) := by decide +kernel
theorem d_Mo_init_116 : decode m_Mo_init.2.1 116 = .ok (.newarray .boolean, 2) := by decide +kernel
theorem d_Mo_init_118 : decode m_Mo_init.2.1 118 = .ok (.putfield 64, 3) := by decide +kernel
theorem d_Mo_init_121 : decode m_Mo_init.2.1 121 = .ok (.aload_n 0, 1) := by decide +kernel
theorem d_Mo_init_122 : decode m_Mo_init.2.1 122 = .ok (.sipush 1000, 3) := by decide +kernel
theorem d_Mo_init_125 : decode m_Mo_init.2.1 125 = .ok (.newarray .int, 2) := by decide +kernel
theorem d_Mo_init_127 : decode m_Mo_init.2.1 127 = .ok (.putfield 67, 3) := by decide +kernel
theorem d_Mo_init_130 : decode m_Mo_init.2.1 130 = .ok (.aload_n 0, 1) := by decide +kernel
theorem d_Mo_init_131 : decode m_Mo_init.2.1 131 = .ok (.sipush 1000, 3) := by decide +kernel
theorem d_Mo_init_134 : decode m_Mo_init.2.1 134 = .ok (.newarray .int, 2) := by decide +kernel
theorem d_Mo_init_136 : decode m_Mo_init.2.1 136 = .ok (.putfield 70, 3) := by decide +kernel
theorem d_Mo_init_139 : decode m_Mo_init.2.1 139 = .ok (.aload_n 0, 1) := by decide +kernel
theorem d_Mo_init_140 : decode m_Mo_init.2.1 140 = .ok (.sipush 1000, 3) := by decide +kernel
theorem d_Mo_init_143 : decode m_Mo_init.2.1 143 = .ok (.newarray .int, 2) := by decide +kernel
theorem d_Mo_init_145 : decode m_Mo_init.2.1 145 = .ok (.putfield 73, 3) := by decide +kernel
theorem d_Mo_init_148 : decode m_Mo_init.2.1 148 = .ok (.aload_n 0, 1) := by decide +kernel
theorem d_Mo_init_149 : decode m_Mo_init.2.1 149 = .ok (.sipush 1000, 3) := by decide +kernel
theorem d_Mo_init_152 : decode m_Mo_init.2.1 152 = .ok (.newarray .int, 2) := by decide +kernel
theorem d_Mo_init_154 : decode m_Mo_init.2.1 154 = .ok (.putfield 76, 3) := by decide +kernel
theorem d_Mo_init_157 : decode m_Mo_init.2.1 157 = .ok (.aload_n 0, 1) := by decide +kernel
theorem d_Mo_init_158 : decode m_Mo_init.2.1 158 = .ok (.sipush 1000, 3) := by decide +kernel
theorem d_Mo_init_161 : decode m_Mo_init.2.1 161 = .ok (.newarray .int, 2) := by decide +kernel
theorem d_Mo_init_163 : decode m_Mo_init.2.1 163 = .ok (.putfield 79, 3) := by decide +kernel
theorem d_Mo_init_166 : decode m_Mo_init.2.1 166 = .ok (.aload_n 0, 1) := by decide +kernel
theorem d_Mo_init_167 : decode m_Mo_init.2.1 167 = .ok (.sipush 1000, 3) := by decide +kernel
theorem d_Mo_init_170 : decode m_Mo_init.2.1 170 = .ok (.newarray .boolean, 2) := by decide +kernel
theorem d_Mo_init_172 : decode m_Mo_init.2.1 172 = .ok (.putfield 82, 3) := by decide +kernel
theorem d_Mo_init_175 : decode m_Mo_init.2.1 175 = .ok (.aload_n 0, 1) := by decide +kernel
theorem d_Mo_init_176 : decode m_Mo_init.2.1 176 = .ok (.sipush 200, 3) := by decide +kernel
theorem d_Mo_init_179 : decode m_Mo_init.2.1 179 = .ok (.newarray .int, 2) := by decide +kernel
theorem d_Mo_init_181 : decode m_Mo_init.2.1 181 = .ok (.putfield 85, 3) := by decide +kernel
theorem d_Mo_init_184 : decode m_Mo_init.2.1 184 = .ok (.aload_n 0, 1) := by decide +kernel
theorem d_Mo_init_185 : decode m_Mo_init.2.1 185 = .ok (.bipush 80, 2) := by decide +kernel
theorem d_Mo_init_187 : decode m_Mo_init.2.1 187 = .ok (.newarray .int, 2) := by decide +kernel
theorem d_Mo_init_189 : decode m_Mo_init.2.1 189 = .ok (.putfield 88, 3) := by decide +kernel
theorem d_Mo_init_192 : decode m_Mo_init.2.1 192 = .ok (.aload_n 0, 1) := by decide +kernel
theorem d_Mo_init_193 : decode m_Mo_init.2.1 193 = .ok (.sipush 4000, 3) := by decide +kernel
theorem d_Mo_init_196 : decode m_Mo_init.2.1 196 = .ok (.newarray .int, 2) := by decide +kernel
theorem d_Mo_init_198 : decode m_Mo_init.2.1 198 = .ok (.putfield 91, 3) := by decide +kernel
theorem d_Mo_init_201 : decode m_Mo_init.2.1 201 = .ok (.aload_n 0, 1) := by decide +kernel
theorem d_Mo_init_202 : decode m_Mo_init.2.1 202 = .ok (.sipush 4000, 3) := by decide +kernel
theorem d_Mo_init_205 : decode m_Mo_init.2.1 205 = .ok (.newarray .int, 2) := by decide +kernel
theorem d_Mo_init_207 : decode m_Mo_init.2.1 207 = .ok (.putfield 94, 3) := by decide +kernel
theorem d_Mo_init_210 : decode m_Mo_init.2.1 210 = .ok (.aload_n 0, 1) := by decide +kernel
theorem d_Mo_init_211 : decode m_Mo_init.2.1 211 = .ok (.sipush 4000, 3) := by decide +kernel
theorem d_Mo_init_214 : decode m_Mo_init.2.1 214 = .ok (.newarray .int, 2) := by decide +kernel
theorem d_Mo_init_216 : decode m_Mo_init.2.1 216 = .ok (.putfield 97, 3) := by decide +kernel
theorem d_Mo_init_219 : decode m_Mo_init.2.1 219 = .ok (.aload_n 0, 1) := by decide +kernel
theorem d_Mo_init_220 : decode m_Mo_init.2.1 220 = .ok (.sipush 4000, 3) := by decide +kernel
theorem d_Mo_init_223 : decode m_Mo_init.2.1 223 = .ok (.newarray .int, 2) := by decide +kernel
theorem d_Mo_init_225 : decode m_Mo_init.2.1 225 = .ok (.putfield 100, 3) := by decide +kernel
theorem d_Mo_init_228 : decode m_Mo_init.2.1 228 = .ok (.aload_n 0, 1) := by decide +kernel
theorem d_Mo_init_229 : decode m_Mo_init.2.1 229 = .ok (.sipush 4000, 3) := by decide +kernel
theorem d_Mo_init_232 : decode m_Mo_init.2.1 232 = .ok (.newarray .int, 2) := by decide +kernel
theorem d_Mo_init_234 : decode m_Mo_init.2.1 234 = .ok (.putfield 103, 3) := by decide +kernel
theorem d_Mo_init_237 : decode m_Mo_init.2.1 237 = .ok (.aload_n 0, 1) := by decide +kernel
theorem d_Mo_init_238 : decode m_Mo_init.2.1 238 = .ok (.sipush 4000, 3) := by decide +kernel
theorem d_Mo_init_241 : decode m_Mo_init.2.1 241 = .ok (.newarray .boolean, 2) := by decide +kernel
theorem d_Mo_init_243 : decode m_Mo_init.2.1 243 = .ok (.putfield 106, 3) := by decide +kernel
theorem d_Mo_init_246 : decode m_Mo_init.2.1 246 = .ok (.aload_n 0, 1) := by decide +kernel
theorem d_Mo_init_247 : decode m_Mo_init.2.1 247 = .ok (.sipush 1000, 3) := by decide +kernel
theorem d_Mo_init_250 : decode m_Mo_init.2.1 250 = .ok (.newarray .int, 2) := by decide +kernel
theorem d_Mo_init_252 : decode m_Mo_init.2.1 252 = .ok (.putfield 109, 3) := by decide +kernel
theorem d_Mo_init_255 : decode m_Mo_init.2.1 255 = .ok (.aload_n 0, 1) := by decide +kernel
theorem d_Mo_init_256 : decode m_Mo_init.2.1 256 = .ok (.sipush 1000, 3) := by decide +kernel
theorem d_Mo_init_259 : decode m_Mo_init.2.1 259 = .ok (.newarray .int, 2) := by decide +kernel
theorem d_Mo_init_261 : decode m_Mo_init.2.1 261 = .ok (.putfield 112, 3) := by decide +kernel
theorem d_Mo_init_264 : decode m_Mo_init.2.1 264 = .ok (.aload_n 0, 1) := by decide +kernel
theorem d_Mo_init_265 : decode m_Mo_init.2.1 265 = .ok (.sipush 1000, 3) := by decide +kernel
theorem d_Mo_init_268 : decode m_Mo_init.2.1 268 = .ok (.newarray .int, 2) := by decide +kernel
theorem d_Mo_init_270 : decode m_Mo_init.2.1 270 = .ok (.putfield 115, 3) := by decide +kernel
theorem d_Mo_init_273 : decode m_Mo_init.2.1 273 = .ok (.aload_n 0, 1) := by decide +kernel
theorem d_Mo_init_274 : decode m_Mo_init.2.1 274 = .ok (.sipush 1000, 3) := by decide +kernel
theorem d_Mo_init_277 : decode m_Mo_init.2.1 277 = .ok (.newarray .int, 2) := by decide +kernel
theorem d_Mo_init_279 : decode m_Mo_init.2.1 279 = .ok (.putfield 118, 3) := by decide +kernel
theorem d_Mo_init_282 : decode m_Mo_init.2.1 282 = .ok (.aload_n 0, 1) := by decide +kernel
theorem d_Mo_init_283 : decode m_Mo_init.2.1 283 = .ok (.sipush 1000, 3) := by decide +kernel
theorem d_Mo_init_286 : decode m_Mo_init.2.1 286 = .ok (.newarray .int, 2) := by decide +kernel
theorem d_Mo_init_288 : decode m_Mo_init.2.1 288 = .ok (.putfield 121, 3) := by decide +kernel
theorem d_Mo_init_291 : decode m_Mo_init.2.1 291 = .ok (.aload_n 0, 1) := by decide +kernel
theorem d_Mo_init_292 : decode m_Mo_init.2.1 292 = .ok (.sipush 1000, 3) := by decide +kernel
theorem d_Mo_init_295 : decode m_Mo_init.2.1 295 = .ok (.newarray .boolean, 2) := by decide +kernel
theorem d_Mo_init_297 : decode m_Mo_init.2.1 297 = .ok (.putfield 124, 3) := by decide +kernel
theorem d_Mo_init_300 : decode m_Mo_init.2.1 300 = .ok (.aload_n 0, 1) := by decide +kernel
theorem d_Mo_init_301 : decode m_Mo_init.2.1 301 = .ok (.iconst 3, 1) := by decide +kernel
theorem d_Mo_init_302 : decode m_Mo_init.2.1 302 = .ok (.newarray .int, 2) := by decide +kernel
theorem d_Mo_init_304 : decode m_Mo_init.2.1 304 = .ok (.putfield 127, 3) := by decide +kernel
theorem d_Mo_init_307 : decode m_Mo_init.2.1 307 = .ok (.aload_n 0, 1) := by decide +kernel
theorem d_Mo_init_308 : decode m_Mo_init.2.1 308 = .ok (.iconst 3, 1) := by decide +kernel
theorem d_Mo_init_309 : decode m_Mo_init.2.1 309 = .ok (.newarray .int, 2) := by decide +kernel
theorem d_Mo_init_311 : decode m_Mo_init.2.1 311 = .ok (.putfield 130, 3) := by decide +kernel
theorem d_Mo_init_314 : decode m_Mo_init.2.1 314 = .ok (.aload_n 0, 1) := by decide +kernel
theorem d_Mo_init_315 : decode m_Mo_init.2.1 315 = .ok (.iconst 3, 1) := by decide +kernel
theorem d_Mo_init_316 : decode m_Mo_init.2.1 316 = .ok (.newarray .int, 2) := by decide +kernel
theorem d_Mo_init_318 : decode m_Mo_init.2.1 318 = .ok (.putfield 133, 3) := by decide +kernel
theorem d_Mo_init_321 : decode m_Mo_init.2.1 321 = .ok (.aload_n 0, 1) := by decide +kernel
theorem d_Mo_init_322 : decode m_Mo_init.2.1 322 = .ok (.iconst (-1), 1) := by decide +kernel
theorem d_Mo_init_323 : decode m_Mo_init.2.1 323 = .ok (.putfield 136, 3) := by decide +kernel
theorem d_Mo_init_326 : decode m_Mo_init.2.1 326 = .ok (.iconst 0, 1) := by decide +kernel
theorem d_Mo_init_327 : decode m_Mo_init.2.1 327 = .ok (.istore_n 1, 1) := by decide +kernel
theorem d_Mo_init_328 : decode m_Mo_init.2.1 328 = .ok (.iload_n 1, 1) := by decide +kernel
theorem d_Mo_init_329 : decode m_Mo_init.2.1 329 = .ok (.iconst 3, 1) := by decide +kernel
theorem d_Mo_init_330 : decode m_Mo_init.2.1 330 = .ok (.if_icmp .ge 23, 3) := by decide +kernel
theorem d_Mo_init_333 : decode m_Mo_init.2.1 333 = .ok (.aload_n 0, 1) := by decide +kernel
theorem d_Mo_init_334 : decode m_Mo_init.2.1 334 = .ok (.getfield 55, 3) := by decide +kernel
theorem d_Mo_init_337 : decode m_Mo_init.2.1 337 = .ok (.iload_n 1, 1) := by decide +kernel
theorem d_Mo_init_338 : decode m_Mo_init.2.1 338 = .ok (.iconst (-1), 1) := by decide +kernel
theorem d_Mo_init_339 : decode m_Mo_init.2.1 339 = .ok (.iastore, 1) := by decide +kernel
theorem d_Mo_init_340 : decode m_Mo_init.2.1 340 = .ok (.aload_n 0, 1) := by decide +kernel
theorem d_Mo_init_341 : decode m_Mo_init.2.1 341 = .ok (.getfield 133, 3) := by decide +kernel
theorem d_Mo_init_344 : decode m_Mo_init.2.1 344 = .ok (.iload_n 1, 1) := by decide +kernel
theorem d_Mo_init_345 : decode m_Mo_init.2.1 345 = .ok (.iconst (-1), 1) := by decide +kernel
theorem d_Mo_init_346 : decode m_Mo_init.2.1 346 = .ok (.iastore, 1) := by decide +kernel
theorem d_Mo_init_347 : decode m_Mo_init.2.1 347 = .ok (.iinc 1 1, 3) := by decide +kernel
theorem d_Mo_init_350 : decode m_Mo_init.2.1 350 = .ok (.goto (-22), 3) := by decide +kernel
theorem d_Mo_init_353 : decode m_Mo_init.2.1 353 = .ok (.return_, 1) := by decide +kernel
theorem d_Mo_thrown_0 : decode m_Mo_thrown.2.1 0 = .ok (.aload_n 0, 1) := by decide +kernel
theorem d_Mo_thrown_1 : decode m_Mo_thrown.2.1 1 = .ok (.getfield 139, 3) := by decide +kernel
theorem d_Mo_thrown_4 : decode m_Mo_thrown.2.1 4 = .ok (.ireturn, 1) := by decide +kernel
theorem d_Mo_isFine_0 : decode m_Mo_isFine.2.1 0 = .ok (.aload_n 0, 1) := by decide +kernel
theorem d_Mo_isFine_1 : decode m_Mo_isFine.2.1 1 = .ok (.iload_n 1, 1) := by decide +kernel
theorem d_Mo_isFine_2 : decode m_Mo_isFine.2.1 2 = .ok (.putfield 139, 3) := by decide +kernel
theorem d_Mo_isFine_5 : decode m_Mo_isFine.2.1 5 = .ok (.iload_n 1, 1) := by decide +kernel
theorem d_Mo_isFine_6 : decode m_Mo_isFine.2.1 6 = .ok (.ifCond .ne 7, 3) := by decide +kernel
theorem d_Mo_isFine_9 : decode m_Mo_isFine.2.1 9 = .ok (.iconst 1, 1) := by decide +kernel
theorem d_Mo_isFine_10 : decode m_Mo_isFine.2.1 10 = .ok (.goto 4, 3) := by decide +kernel
theorem d_Mo_isFine_13 : decode m_Mo_isFine.2.1 13 = .ok (.iconst 0, 1) := by decide +kernel
theorem d_Mo_isFine_14 : decode m_Mo_isFine.2.1 14 = .ok (.ireturn, 1) := by decide +kernel
theorem d_Mo_isIn_0 : decode m_Mo_isIn.2.1 0 = .ok (.iload_n 0, 1) := by decide +kernel
theorem d_Mo_isIn_1 : decode m_Mo_isIn.2.1 1 = .ok (.iload_n 1, 1) := by decide +kernel
theorem d_Mo_isIn_2 : decode m_Mo_isIn.2.1 2 = .ok (.if_icmp .lt 12, 3) := by decide +kernel
theorem d_Mo_isIn_5 : decode m_Mo_isIn.2.1 5 = .ok (.iload_n 0, 1) := by decide +kernel
theorem d_Mo_isIn_6 : decode m_Mo_isIn.2.1 6 = .ok (.iload_n 2, 1) := by decide +kernel
theorem d_Mo_isIn_7 : decode m_Mo_isIn.2.1 7 = .ok (.if_icmp .gt 7, 3) := by decide +kernel
theorem d_Mo_isIn_10 : decode m_Mo_isIn.2.1 10 = .ok (.iconst 1, 1) := by decide +kernel
theorem d_Mo_isIn_11 : decode m_Mo_isIn.2.1 11 = .ok (.goto 4, 3) := by decide +kernel
theorem d_Mo_isIn_14 : decode m_Mo_isIn.2.1 14 = .ok (.iconst 0, 1) := by decide +kernel
theorem d_Mo_isIn_15 : decode m_Mo_isIn.2.1 15 = .ok (.ireturn, 1) := by decide +kernel
theorem d_Mo_isSource_0 : decode m_Mo_isSource.2.1 0 = .ok (.iload_n 0, 1) := by decide +kernel
theorem d_Mo_isSource_1 : decode m_Mo_isSource.2.1 1 = .ok (.iconst 0, 1) := by decide +kernel
theorem d_Mo_isSource_2 : decode m_Mo_isSource.2.1 2 = .ok (.iconst 2, 1) := by decide +kernel
theorem d_Mo_isSource_3 : decode m_Mo_isSource.2.1 3 = .ok (.invokestatic 142, 3) := by decide +kernel
theorem d_Mo_isSource_6 : decode m_Mo_isSource.2.1 6 = .ok (.ireturn, 1) := by decide +kernel
theorem d_Mo_isKey_0 : decode m_Mo_isKey.2.1 0 = .ok (.iload_n 0, 1) := by decide +kernel
theorem d_Mo_isKey_1 : decode m_Mo_isKey.2.1 1 = .ok (.iconst 0, 1) := by decide +kernel
theorem d_Mo_isKey_2 : decode m_Mo_isKey.2.1 2 = .ok (.iconst 5, 1) := by decide +kernel
theorem d_Mo_isKey_3 : decode m_Mo_isKey.2.1 3 = .ok (.invokestatic 142, 3) := by decide +kernel
theorem d_Mo_isKey_6 : decode m_Mo_isKey.2.1 6 = .ok (.ireturn, 1) := by decide +kernel
theorem d_Mo_greater_0 : decode m_Mo_greater.2.1 0 = .ok (.iload_n 0, 1) := by decide +kernel
theorem d_Mo_greater_1 : decode m_Mo_greater.2.1 1 = .ok (.iload_n 1, 1) := by decide +kernel
theorem d_Mo_greater_2 : decode m_Mo_greater.2.1 2 = .ok (.if_icmp .le 7, 3) := by decide +kernel
theorem d_Mo_greater_5 : decode m_Mo_greater.2.1 5 = .ok (.iload_n 0, 1) := by decide +kernel
theorem d_Mo_greater_6 : decode m_Mo_greater.2.1 6 = .ok (.goto 4, 3) := by decide +kernel
theorem d_Mo_greater_9 : decode m_Mo_greater.2.1 9 = .ok (.iload_n 1, 1) := by decide +kernel
theorem d_Mo_greater_10 : decode m_Mo_greater.2.1 10 = .ok (.ireturn, 1) := by decide +kernel
theorem d_Mo_lesser_0 : decode m_Mo_lesser.2.1 0 = .ok (.iload_n 0, 1) := by decide +kernel
theorem d_Mo_lesser_1 : decode m_Mo_lesser.2.1 1 = .ok (.iload_n 1, 1) := by decide +kernel
theorem d_Mo_lesser_2 : decode m_Mo_lesser.2.1 2 = .ok (.if_icmp .ge 7, 3) := by decide +kernel
theorem d_Mo_lesser_5 : decode m_Mo_lesser.2.1 5 = .ok (.iload_n 0, 1) := by decide +kernel
theorem d_Mo_lesser_6 : decode m_Mo_lesser.2.1 6 = .ok (.goto 4, 3) := by decide +kernel
theorem d_Mo_lesser_9 : decode m_Mo_lesser.2.1 9 = .ok (.iload_n 1, 1) := by decide +kernel
theorem d_Mo_lesser_10 : decode m_Mo_lesser.2.1 10 = .ok (.ireturn, 1) := by decide +kernel
theorem d_Mo_job_0 : decode m_Mo_job.2.1 0 = .ok (.iload_n 1, 1) := by decide +kernel
theorem d_Mo_job_1 : decode m_Mo_job.2.1 1 = .ok (.iconst 0, 1) := by decide +kernel
theorem d_Mo_job_2 : decode m_Mo_job.2.1 2 = .ok (.iconst 2, 1) := by decide +kernel
theorem d_Mo_job_3 : decode m_Mo_job.2.1 3 = .ok (.invokestatic 142, 3) := by decide +kernel
theorem d_Mo_job_6 : decode m_Mo_job.2.1 6 = .ok (.ifCond .eq 42, 3) := by decide +kernel
theorem d_Mo_job_9 : decode m_Mo_job.2.1 9 = .ok (.iload_n 2, 1) := by decide +kernel
theorem d_Mo_job_10 : decode m_Mo_job.2.1 10 = .ok (.iconst 1, 1) := by decide +kernel
theorem d_Mo_job_11 : decode m_Mo_job.2.1 11 = .ok (.sipush 200, 3) := by decide +kernel
theorem d_Mo_job_14 : decode m_Mo_job.2.1 14 = .ok (.invokestatic 142, 3) := by decide +kernel
theorem d_Mo_job_17 : decode m_Mo_job.2.1 17 = .ok (.ifCond .eq 31, 3) := by decide +kernel
theorem d_Mo_job_20 : decode m_Mo_job.2.1 20 = .ok (.iload 4, 2) := by decide +kernel
theorem d_Mo_job_22 : decode m_Mo_job.2.1 22 = .ok (.iconst 0, 1) := by decide +kernel
theorem d_Mo_job_23 : decode m_Mo_job.2.1 23 = .ok (.sipush 200, 3) := by decide +kernel
theorem d_Mo_job_26 : decode m_Mo_job.2.1 26 = .ok (.invokestatic 142, 3) := by decide +kernel
theorem d_Mo_job_29 : decode m_Mo_job.2.1 29 = .ok (.ifCond .eq 19, 3) := by decide +kernel
theorem d_Mo_job_32 : decode m_Mo_job.2.1 32 = .ok (.iload 5, 2) := by decide +kernel
theorem d_Mo_job_34 : decode m_Mo_job.2.1 34 = .ok (.iconst 0, 1) := by decide +kernel
theorem d_Mo_job_35 : decode m_Mo_job.2.1 35 = .ok (.sipush 200, 3) := by decide +kernel
theorem d_Mo_job_38 : decode m_Mo_job.2.1 38 = .ok (.invokestatic 142, 3) := by decide +kernel
theorem d_Mo_job_41 : decode m_Mo_job.2.1 41 = .ok (.ifCond .eq 7, 3) := by decide +kernel
theorem d_Mo_job_44 : decode m_Mo_job.2.1 44 = .ok (.iconst 1, 1) := by decide +kernel
theorem d_Mo_job_45 : decode m_Mo_job.2.1 45 = .ok (.goto 4, 3) := by decide +kernel
theorem d_Mo_job_48 : decode m_Mo_job.2.1 48 = .ok (.iconst 0, 1) := by decide +kernel
theorem d_Mo_job_49 : decode m_Mo_job.2.1 49 = .ok (.istore 7, 2) := by decide +kernel
theorem d_Mo_job_51 : decode m_Mo_job.2.1 51 = .ok (.iload 7, 2) := by decide +kernel
theorem d_Mo_job_53 : decode m_Mo_job.2.1 53 = .ok (.ifCond .eq 33, 3) := by decide +kernel
theorem d_Mo_job_56 : decode m_Mo_job.2.1 56 = .ok (.iload_n 1, 1) := by decide +kernel
theorem d_Mo_job_57 : decode m_Mo_job.2.1 57 = .ok (.iconst 1, 1) := by decide +kernel
theorem d_Mo_job_58 : decode m_Mo_job.2.1 58 = .ok (.if_icmp .ne 24, 3) := by decide +kernel
theorem d_Mo_job_61 : decode m_Mo_job.2.1 61 = .ok (.iload_n 3, 1) := by decide +kernel
theorem d_Mo_job_62 : decode m_Mo_job.2.1 62 = .ok (.iconst 1, 1) := by decide +kernel
theorem d_Mo_job_63 : decode m_Mo_job.2.1 63 = .ok (.iload_n 2, 1) := by decide +kernel
theorem d_Mo_job_64 : decode m_Mo_job.2.1 64 = .ok (.invokestatic 142, 3) := by decide +kernel
theorem d_Mo_job_67 : decode m_Mo_job.2.1 67 = .ok (.ifCond .eq 19, 3) := by decide +kernel
theorem d_Mo_job_70 : decode m_Mo_job.2.1 70 = .ok (.iload_n 2, 1) := by decide +kernel
theorem d_Mo_job_71 : decode m_Mo_job.2.1 71 = .ok (.iload_n 3, 1) := by decide +kernel
theorem d_Mo_job_72 : decode m_Mo_job.2.1 72 = .ok (.iadd, 1) := by decide +kernel
theorem d_Mo_job_73 : decode m_Mo_job.2.1 73 = .ok (.iconst 1, 1) := by decide +kernel
theorem d_Mo_job_74 : decode m_Mo_job.2.1 74 = .ok (.isub, 1) := by decide +kernel
theorem d_Mo_job_75 : decode m_Mo_job.2.1 75 = .ok (.iload_n 3, 1) := by decide +kernel
theorem d_Mo_job_76 : decode m_Mo_job.2.1 76 = .ok (.idiv, 1) := by decide +kernel
theorem d_Mo_job_77 : decode m_Mo_job.2.1 77 = .ok (.bipush 8, 2) := by decide +kernel
theorem d_Mo_job_79 : decode m_Mo_job.2.1 79 = .ok (.if_icmp .gt 7, 3) := by decide +kernel
theorem d_Mo_job_82 : decode m_Mo_job.2.1 82 = .ok (.iconst 1, 1) := by decide +kernel
theorem d_Mo_job_83 : decode m_Mo_job.2.1 83 = .ok (.goto 4, 3) := by decide +kernel
theorem d_Mo_job_86 : decode m_Mo_job.2.1 86 = .ok (.iconst 0, 1) := by decide +kernel
theorem d_Mo_job_87 : decode m_Mo_job.2.1 87 = .ok (.istore 8, 2) := by decide +kernel
theorem d_Mo_job_89 : decode m_Mo_job.2.1 89 = .ok (.aload_n 0, 1) := by decide +kernel
theorem d_Mo_job_90 : decode m_Mo_job.2.1 90 = .ok (.iload 8, 2) := by decide +kernel
theorem d_Mo_job_92 : decode m_Mo_job.2.1 92 = .ok (.ifCond .ne 7, 3) := by decide +kernel
theorem d_Mo_job_95 : decode m_Mo_job.2.1 95 = .ok (.iconst 1, 1) := by decide +kernel
theorem d_Mo_job_96 : decode m_Mo_job.2.1 96 = .ok (.goto 15, 3) := by decide +kernel
theorem d_Mo_job_99 : decode m_Mo_job.2.1 99 = .ok (.aload_n 0, 1) := by decide +kernel
theorem d_Mo_job_100 : decode m_Mo_job.2.1 100 = .ok (.getfield 146, 3) := by decide +kernel
theorem d_Mo_job_103 : decode m_Mo_job.2.1 103 = .ok (.ifCond .eq 7, 3) := by decide +kernel
theorem d_Mo_job_106 : decode m_Mo_job.2.1 106 = .ok (.iconst 2, 1) := by decide +kernel
theorem d_Mo_job_107 : decode m_Mo_job.2.1 107 = .ok (.goto 4, 3) := by decide +kernel
theorem d_Mo_job_110 : decode m_Mo_job.2.1 110 = .ok (.iconst 0, 1) := by decide +kernel
theorem d_Mo_job_111 : decode m_Mo_job.2.1 111 = .ok (.invokevirtual 149, 3) := by decide +kernel
theorem d_Mo_job_114 : decode m_Mo_job.2.1 114 = .ok (.ifCond .eq 45, 3) := by decide +kernel
theorem d_Mo_job_117 : decode m_Mo_job.2.1 117 = .ok (.aload_n 0, 1) := by decide +kernel
theorem d_Mo_job_118 : decode m_Mo_job.2.1 118 = .ok (.iload_n 1, 1) := by decide +kernel
theorem d_Mo_job_119 : decode m_Mo_job.2.1 119 = .ok (.putfield 9, 3) := by decide +kernel
theorem d_Mo_job_122 : decode m_Mo_job.2.1 122 = .ok (.aload_n 0, 1) := by decide +kernel
theorem d_Mo_job_123 : decode m_Mo_job.2.1 123 = .ok (.iload_n 2, 1) := by decide +kernel
theorem d_Mo_job_124 : decode m_Mo_job.2.1 124 = .ok (.putfield 13, 3) := by decide +kernel
theorem d_Mo_job_127 : decode m_Mo_job.2.1 127 = .ok (.aload_n 0, 1) := by decide +kernel
theorem d_Mo_job_128 : decode m_Mo_job.2.1 128 = .ok (.iload_n 1, 1) := by decide +kernel
theorem d_Mo_job_129 : decode m_Mo_job.2.1 129 = .ok (.iconst 1, 1) := by decide +kernel
theorem d_Mo_job_130 : decode m_Mo_job.2.1 130 = .ok (.if_icmp .ne 7, 3) := by decide +kernel
theorem d_Mo_job_133 : decode m_Mo_job.2.1 133 = .ok (.iload_n 3, 1) := by decide +kernel
theorem d_Mo_job_134 : decode m_Mo_job.2.1 134 = .ok (.goto 4, 3) := by decide +kernel
theorem d_Mo_job_137 : decode m_Mo_job.2.1 137 = .ok (.iload_n 2, 1) := by decide +kernel
theorem d_Mo_job_138 : decode m_Mo_job.2.1 138 = .ok (.putfield 16, 3) := by decide +kernel
theorem d_Mo_job_141 : decode m_Mo_job.2.1 141 = .ok (.aload_n 0, 1) := by decide +kernel
theorem d_Mo_job_142 : decode m_Mo_job.2.1 142 = .ok (.iload 4, 2) := by decide +kernel
theorem d_Mo_job_144 : decode m_Mo_job.2.1 144 = .ok (.putfield 153, 3) := by decide +kernel
theorem d_Mo_job_147 : decode m_Mo_job.2.1 147 = .ok (.aload_n 0, 1) := by decide +kernel
theorem d_Mo_job_148 : decode m_Mo_job.2.1 148 = .ok (.iload 5, 2) := by decide +kernel
theorem d_Mo_job_150 : decode m_Mo_job.2.1 150 = .ok (.putfield 19, 3) := by decide +kernel
theorem d_Mo_job_153 : decode m_Mo_job.2.1 153 = .ok (.aload_n 0, 1) := by decide +kernel
theorem d_Mo_job_154 : decode m_Mo_job.2.1 154 = .ok (.iload 6, 2) := by decide +kernel
theorem d_Mo_job_156 : decode m_Mo_job.2.1 156 = .ok (.putfield 22, 3) := by decide +kernel
theorem d_Mo_job_159 : decode m_Mo_job.2.1 159 = .ok (.return_, 1) := by decide +kernel
theorem d_Mo_slack_0 : decode m_Mo_slack.2.1 0 = .ok (.aload_n 0, 1) := by decide +kernel
theorem d_Mo_slack_1 : decode m_Mo_slack.2.1 1 = .ok (.iload_n 1, 1) := by decide +kernel
theorem d_Mo_slack_2 : decode m_Mo_slack.2.1 2 = .ok (.invokestatic 156, 3) := by decide +kernel
theorem d_Mo_slack_5 : decode m_Mo_slack.2.1 5 = .ok (.ifCond .ne 7, 3) := by decide +kernel
theorem d_Mo_slack_8 : decode m_Mo_slack.2.1 8 = .ok (.iconst 1, 1) := by decide +kernel
theorem d_Mo_slack_9 : decode m_Mo_slack.2.1 9 = .ok (.goto 30, 3) := by decide +kernel
theorem d_Mo_slack_12 : decode m_Mo_slack.2.1 12 = .ok (.iload_n 2, 1) := by decide +kernel
theorem d_Mo_slack_13 : decode m_Mo_slack.2.1 13 = .ok (.iconst 0, 1) := by decide +kernel
theorem d_Mo_slack_14 : decode m_Mo_slack.2.1 14 = .ok (.sipush 200, 3) := by decide +kernel
theorem d_Mo_slack_17 : decode m_Mo_slack.2.1 17 = .ok (.invokestatic 142, 3) := by decide +kernel
theorem d_Mo_slack_20 : decode m_Mo_slack.2.1 20 = .ok (.ifCond .ne 7, 3) := by decide +kernel
theorem d_Mo_slack_23 : decode m_Mo_slack.2.1 23 = .ok (.iconst 2, 1) := by decide +kernel
theorem d_Mo_slack_24 : decode m_Mo_slack.2.1 24 = .ok (.goto 15, 3) := by decide +kernel
theorem d_Mo_slack_27 : decode m_Mo_slack.2.1 27 = .ok (.aload_n 0, 1) := by decide +kernel
theorem d_Mo_slack_28 : decode m_Mo_slack.2.1 28 = .ok (.getfield 146, 3) := by decide +kernel
theorem d_Mo_slack_31 : decode m_Mo_slack.2.1 31 = .ok (.ifCond .eq 7, 3) := by decide +kernel
theorem d_Mo_slack_34 : decode m_Mo_slack.2.1 34 = .ok (.iconst 3, 1) := by decide +kernel
theorem d_Mo_slack_35 : decode m_Mo_slack.2.1 35 = .ok (.goto 4, 3) := by decide +kernel
theorem d_Mo_slack_38 : decode m_Mo_slack.2.1 38 = .ok (.iconst 0, 1) := by decide +kernel
theorem d_Mo_slack_39 : decode m_Mo_slack.2.1 39 = .ok (.invokevirtual 149, 3) := by decide +kernel
theorem d_Mo_slack_42 : decode m_Mo_slack.2.1 42 = .ok (.ifCond .ne 5, 3) := by decide +kernel
theorem d_Mo_slack_45 : decode m_Mo_slack.2.1 45 = .ok (.iconst 0, 1) := by decide +kernel
theorem d_Mo_slack_46 : decode m_Mo_slack.2.1 46 = .ok (.ireturn, 1) := by decide +kernel
theorem d_Mo_slack_47 : decode m_Mo_slack.2.1 47 = .ok (.aload_n 0, 1) := by decide +kernel
theorem d_Mo_slack_48 : decode m_Mo_slack.2.1 48 = .ok (.getfield 48, 3) := by decide +kernel
theorem d_Mo_slack_51 : decode m_Mo_slack.2.1 51 = .ok (.iload_n 1, 1) := by decide +kernel
theorem d_Mo_slack_52 : decode m_Mo_slack.2.1 52 = .ok (.iaload, 1) := by decide +kernel
theorem d_Mo_slack_53 : decode m_Mo_slack.2.1 53 = .ok (.istore_n 3, 1) := by decide +kernel
theorem d_Mo_slack_54 : decode m_Mo_slack.2.1 54 = .ok (.aload_n 0, 1) := by decide +kernel
theorem d_Mo_slack_55 : decode m_Mo_slack.2.1 55 = .ok (.getfield 48, 3) := by decide +kernel
theorem d_Mo_slack_58 : decode m_Mo_slack.2.1 58 = .ok (.iload_n 1, 1) := by decide +kernel
theorem d_Mo_slack_59 : decode m_Mo_slack.2.1 59 = .ok (.iload_n 2, 1) := by decide +kernel
theorem d_Mo_slack_60 : decode m_Mo_slack.2.1 60 = .ok (.iastore, 1) := by decide +kernel
theorem d_Mo_slack_61 : decode m_Mo_slack.2.1 61 = .ok (.iload_n 3, 1) := by decide +kernel
theorem d_Mo_slack_62 : decode m_Mo_slack.2.1 62 = .ok (.ireturn, 1) := by decide +kernel
theorem d_Mo_append_0 : decode m_Mo_append.2.1 0 = .ok (.iload_n 1, 1) := by decide +kernel
theorem d_Mo_append_1 : decode m_Mo_append.2.1 1 = .ok (.invokestatic 156, 3) := by decide +kernel
theorem d_Mo_append_4 : decode m_Mo_append.2.1 4 = .ok (.istore 5, 2) := by decide +kernel
theorem d_Mo_append_6 : decode m_Mo_append.2.1 6 = .ok (.iload_n 2, 1) := by decide +kernel
theorem d_Mo_append_7 : decode m_Mo_append.2.1 7 = .ok (.iconst 0, 1) := by decide +kernel
theorem d_Mo_append_8 : decode m_Mo_append.2.1 8 = .ok (.sipush 999, 3) := by decide +kernel
theorem d_Mo_append_11 : decode m_Mo_append.2.1 11 = .ok (.invokestatic 142, 3) := by decide +kernel
theorem d_Mo_append_14 : decode m_Mo_append.2.1 14 = .ok (.ifCond .eq 28, 3) := by decide +kernel
theorem d_Mo_append_17 : decode m_Mo_append.2.1 17 = .ok (.iload_n 3, 1) := by decide +kernel
theorem d_Mo_append_18 : decode m_Mo_append.2.1 18 = .ok (.invokestatic 159, 3) := by decide +kernel
theorem d_Mo_append_21 : decode m_Mo_append.2.1 21 = .ok (.ifCond .eq 21, 3) := by decide +kernel
theorem d_Mo_append_24 : decode m_Mo_append.2.1 24 = .ok (.iload 4, 2) := by decide +kernel
theorem d_Mo_append_26 : decode m_Mo_append.2.1 26 = .ok (.sipush (-1000), 3) := by decide +kernel
theorem d_Mo_append_29 : decode m_Mo_append.2.1 29 = .ok (.sipush 1000, 3) := by decide +kernel
theorem d_Mo_append_32 : decode m_Mo_append.2.1 32 = .ok (.invokestatic 142, 3) := by decide +kernel
theorem d_Mo_append_35 : decode m_Mo_append.2.1 35 = .ok (.ifCond .eq 7, 3) := by decide +kernel
theorem d_Mo_append_38 : decode m_Mo_append.2.1 38 = .ok (.iconst 1, 1) := by decide +kernel
theorem d_Mo_append_39 : decode m_Mo_append.2.1 39 = .ok (.goto 4, 3) := by decide +kernel
theorem d_Mo_append_42 : decode m_Mo_append.2.1 42 = .ok (.iconst 0, 1) := by decide +kernel
theorem d_Mo_append_43 : decode m_Mo_append.2.1 43 = .ok (.istore 6, 2) := by decide +kernel
theorem d_Mo_append_45 : decode m_Mo_append.2.1 45 = .ok (.aload_n 0, 1) := by decide +kernel
theorem d_Mo_append_46 : decode m_Mo_append.2.1 46 = .ok (.iload 5, 2) := by decide +kernel
theorem d_Mo_append_48 : decode m_Mo_append.2.1 48 = .ok (.ifCond .ne 7, 3) := by decide +kernel
theorem d_Mo_append_51 : decode m_Mo_append.2.1 51 = .ok (.iconst 1, 1) := by decide +kernel
theorem d_Mo_append_52 : decode m_Mo_append.2.1 52 = .ok (.goto 28, 3) := by decide +kernel
theorem d_Mo_append_55 : decode m_Mo_append.2.1 55 = .ok (.iload 6, 2) := by decide +kernel
theorem d_Mo_append_57 : decode m_Mo_append.2.1 57 = .ok (.ifCond .ne 7, 3) := by decide +kernel
theorem d_Mo_append_60 : decode m_Mo_append.2.1 60 = .ok (.iconst 2, 1) := by decide +kernel
theorem d_Mo_append_61 : decode m_Mo_append.2.1 61 = .ok (.goto 19, 3) := by decide +kernel
theorem d_Mo_append_64 : decode m_Mo_append.2.1 64 = .ok (.aload_n 0, 1) := by decide +kernel
theorem d_Mo_append_65 : decode m_Mo_append.2.1 65 = .ok (.getfield 39, 3) := by decide +kernel
theorem d_Mo_append_68 : decode m_Mo_append.2.1 68 = .ok (.iload_n 1, 1) := by decide +kernel
theorem d_Mo_append_69 : decode m_Mo_append.2.1 69 = .ok (.iaload, 1) := by decide +kernel
theorem d_Mo_append_70 : decode m_Mo_append.2.1 70 = .ok (.bipush 40, 2) := by decide +kernel
theorem d_Mo_append_72 : decode m_Mo_append.2.1 72 = .ok (.if_icmp .ne 7, 3) := by decide +kernel
theorem d_Mo_append_75 : decode m_Mo_append.2.1 75 = .ok (.iconst 3, 1) := by decide +kernel
theorem d_Mo_append_76 : decode m_Mo_append.2.1 76 = .ok (.goto 4, 3) := by decide +kernel
theorem d_Mo_append_79 : decode m_Mo_append.2.1 79 = .ok (.iconst 0, 1) := by decide +kernel
theorem d_Mo_append_80 : decode m_Mo_append.2.1 80 = .ok (.invokevirtual 149, 3) := by decide +kernel
theorem d_Mo_append_83 : decode m_Mo_append.2.1 83 = .ok (.ifCond .ne 5, 3) := by decide +kernel
theorem d_Mo_append_86 : decode m_Mo_append.2.1 86 = .ok (.iconst 0, 1) := by decide +kernel
theorem d_Mo_append_87 : decode m_Mo_append.2.1 87 = .ok (.ireturn, 1) := by decide +kernel
theorem d_Mo_append_88 : decode m_Mo_append.2.1 88 = .ok (.bipush 40, 2) := by decide +kernel
theorem d_Mo_append_90 : decode m_Mo_append.2.1 90 = .ok (.iload_n 1, 1) := by decide +kernel
theorem d_Mo_append_91 : decode m_Mo_append.2.1 91 = .ok (.imul, 1) := by decide +kernel
theorem d_Mo_append_92 : decode m_Mo_append.2.1 92 = .ok (.aload_n 0, 1) := by decide +kernel
theorem d_Mo_append_93 : decode m_Mo_append.2.1 93 = .ok (.getfield 39, 3) := by decide +kernel
theorem d_Mo_append_96 : decode m_Mo_append.2.1 96 = .ok (.iload_n 1, 1) := by decide +kernel
theorem d_Mo_append_97 : decode m_Mo_append.2.1 97 = .ok (.iaload, 1) := by decide +kernel
theorem d_Mo_append_98 : decode m_Mo_append.2.1 98 = .ok (.iadd, 1) := by decide +kernel
theorem d_Mo_append_99 : decode m_Mo_append.2.1 99 = .ok (.istore 7, 2) := by decide +kernel
theorem d_Mo_append_101 : decode m_Mo_append.2.1 101 = .ok (.aload_n 0, 1) := by decide +kernel
theorem d_Mo_append_102 : decode m_Mo_append.2.1 102 = .ok (.getfield 29, 3) := by decide +kernel
theorem d_Mo_append_105 : decode m_Mo_append.2.1 105 = .ok (.iload 7, 2) := by decide +kernel
theorem d_Mo_append_107 : decode m_Mo_append.2.1 107 = .ok (.iload_n 2, 1) := by decide +kernel
theorem d_Mo_append_108 : decode m_Mo_append.2.1 108 = .ok (.iastore, 1) := by decide +kernel
theorem d_Mo_append_109 : decode m_Mo_append.2.1 109 = .ok (.aload_n 0, 1) := by decide +kernel
theorem d_Mo_append_110 : decode m_Mo_append.2.1 110 = .ok (.getfield 33, 3) := by decide +kernel
theorem d_Mo_append_113 : decode m_Mo_append.2.1 113 = .ok (.iload 7, 2) := by decide +kernel
theorem d_Mo_append_115 : decode m_Mo_append.2.1 115 = .ok (.iload_n 3, 1) := by decide +kernel
theorem d_Mo_append_116 : decode m_Mo_append.2.1 116 = .ok (.iastore, 1) := by decide +kernel
theorem d_Mo_append_117 : decode m_Mo_append.2.1 117 = .ok (.aload_n 0, 1) := by decide +kernel
theorem d_Mo_append_118 : decode m_Mo_append.2.1 118 = .ok (.getfield 36, 3) := by decide +kernel
theorem d_Mo_append_121 : decode m_Mo_append.2.1 121 = .ok (.iload 7, 2) := by decide +kernel
theorem d_Mo_append_123 : decode m_Mo_append.2.1 123 = .ok (.iload 4, 2) := by decide +kernel
theorem d_Mo_append_125 : decode m_Mo_append.2.1 125 = .ok (.iastore, 1) := by decide +kernel
theorem d_Mo_append_126 : decode m_Mo_append.2.1 126 = .ok (.aload_n 0, 1) := by decide +kernel
theorem d_Mo_append_127 : decode m_Mo_append.2.1 127 = .ok (.getfield 39, 3) := by decide +kernel
theorem d_Mo_append_130 : decode m_Mo_append.2.1 130 = .ok (.iload_n 1, 1) := by decide +kernel
theorem d_Mo_append_131 : decode m_Mo_append.2.1 131 = .ok (.dup2, 1) := by decide +kernel
theorem d_Mo_append_132 : decode m_Mo_append.2.1 132 = .ok (.iaload, 1) := by decide +kernel
theorem d_Mo_append_133 : decode m_Mo_append.2.1 133 = .ok (.iconst 1, 1) := by decide +kernel
theorem d_Mo_append_134 : decode m_Mo_append.2.1 134 = .ok (.iadd, 1) := by decide +kernel
theorem d_Mo_append_135 : decode m_Mo_append.2.1 135 = .ok (.iastore, 1) := by decide +kernel
theorem d_Mo_append_136 : decode m_Mo_append.2.1 136 = .ok (.aload_n 0, 1) := by decide +kernel
theorem d_Mo_append_137 : decode m_Mo_append.2.1 137 = .ok (.getfield 39, 3) := by decide +kernel
theorem d_Mo_append_140 : decode m_Mo_append.2.1 140 = .ok (.iload_n 1, 1) := by decide +kernel
theorem d_Mo_append_141 : decode m_Mo_append.2.1 141 = .ok (.iaload, 1) := by decide +kernel
theorem d_Mo_append_142 : decode m_Mo_append.2.1 142 = .ok (.iconst 1, 1) := by decide +kernel
theorem d_Mo_append_143 : decode m_Mo_append.2.1 143 = .ok (.isub, 1) := by decide +kernel
theorem d_Mo_append_144 : decode m_Mo_append.2.1 144 = .ok (.ireturn, 1) := by decide +kernel
theorem d_Mo_read_0 : decode m_Mo_read.2.1 0 = .ok (.iload_n 1, 1) := by decide +kernel
theorem d_Mo_read_1 : decode m_Mo_read.2.1 1 = .ok (.invokestatic 156, 3) := by decide +kernel
theorem d_Mo_read_4 : decode m_Mo_read.2.1 4 = .ok (.istore_n 2, 1) := by decide +kernel
theorem d_Mo_read_5 : decode m_Mo_read.2.1 5 = .ok (.aload_n 0, 1) := by decide +kernel
theorem d_Mo_read_6 : decode m_Mo_read.2.1 6 = .ok (.iload_n 2, 1) := by decide +kernel
theorem d_Mo_read_7 : decode m_Mo_read.2.1 7 = .ok (.ifCond .ne 7, 3) := by decide +kernel
theorem d_Mo_read_10 : decode m_Mo_read.2.1 10 = .ok (.iconst 1, 1) := by decide +kernel
theorem d_Mo_read_11 : decode m_Mo_read.2.1 11 = .ok (.goto 40, 3) := by decide +kernel
theorem d_Mo_read_14 : decode m_Mo_read.2.1 14 = .ok (.aload_n 0, 1) := by decide +kernel
theorem d_Mo_read_15 : decode m_Mo_read.2.1 15 = .ok (.getfield 42, 3) := by decide +kernel
theorem d_Mo_read_18 : decode m_Mo_read.2.1 18 = .ok (.iload_n 1, 1) := by decide +kernel
theorem d_Mo_read_19 : decode m_Mo_read.2.1 19 = .ok (.iaload, 1) := by decide +kernel
theorem d_Mo_read_20 : decode m_Mo_read.2.1 20 = .ok (.aload_n 0, 1) := by decide +kernel
theorem d_Mo_read_21 : decode m_Mo_read.2.1 21 = .ok (.getfield 39, 3) := by decide +kernel
theorem d_Mo_read_24 : decode m_Mo_read.2.1 24 = .ok (.iload_n 1, 1) := by decide +kernel
theorem d_Mo_read_25 : decode m_Mo_read.2.1 25 = .ok (.iaload, 1) := by decide +kernel
theorem d_Mo_read_26 : decode m_Mo_read.2.1 26 = .ok (.if_icmp .eq 20, 3) := by decide +kernel
theorem d_Mo_read_29 : decode m_Mo_read.2.1 29 = .ok (.aload_n 0, 1) := by decide +kernel
theorem d_Mo_read_30 : decode m_Mo_read.2.1 30 = .ok (.getfield 42, 3) := by decide +kernel
theorem d_Mo_read_33 : decode m_Mo_read.2.1 33 = .ok (.iload_n 1, 1) := by decide +kernel
theorem d_Mo_read_34 : decode m_Mo_read.2.1 34 = .ok (.iaload, 1) := by decide +kernel
theorem d_Mo_read_35 : decode m_Mo_read.2.1 35 = .ok (.aload_n 0, 1) := by decide +kernel
theorem d_Mo_read_36 : decode m_Mo_read.2.1 36 = .ok (.getfield 45, 3) := by decide +kernel
theorem d_Mo_read_39 : decode m_Mo_read.2.1 39 = .ok (.iload_n 1, 1) := by decide +kernel
theorem d_Mo_read_40 : decode m_Mo_read.2.1 40 = .ok (.iaload, 1) := by decide +kernel
theorem d_Mo_read_41 : decode m_Mo_read.2.1 41 = .ok (.isub, 1) := by decide +kernel
theorem d_Mo_read_42 : decode m_Mo_read.2.1 42 = .ok (.iconst 4, 1) := by decide +kernel
theorem d_Mo_read_43 : decode m_Mo_read.2.1 43 = .ok (.if_icmp .ne 7, 3) := by decide +kernel
theorem d_Mo_read_46 : decode m_Mo_read.2.1 46 = .ok (.iconst 2, 1) := by decide +kernel
theorem d_Mo_read_47 : decode m_Mo_read.2.1 47 = .ok (.goto 4, 3) := by decide +kernel
theorem d_Mo_read_50 : decode m_Mo_read.2.1 50 = .ok (.iconst 0, 1) := by decide +kernel
theorem d_Mo_read_51 : decode m_Mo_read.2.1 51 = .ok (.invokevirtual 149, 3) := by decide +kernel
theorem d_Mo_read_54 : decode m_Mo_read.2.1 54 = .ok (.ifCond .ne 5, 3) := by decide +kernel
theorem d_Mo_read_57 : decode m_Mo_read.2.1 57 = .ok (.iconst 0, 1) := by decide +kernel
theorem d_Mo_read_58 : decode m_Mo_read.2.1 58 = .ok (.ireturn, 1) := by decide +kernel
theorem d_Mo_read_59 : decode m_Mo_read.2.1 59 = .ok (.aload_n 0, 1) := by decide +kernel
theorem d_Mo_read_60 : decode m_Mo_read.2.1 60 = .ok (.iconst 1, 1) := by decide +kernel
theorem d_Mo_read_61 : decode m_Mo_read.2.1 61 = .ok (.putfield 146, 3) := by decide +kernel
theorem d_Mo_read_64 : decode m_Mo_read.2.1 64 = .ok (.aload_n 0, 1) := by decide +kernel
theorem d_Mo_read_65 : decode m_Mo_read.2.1 65 = .ok (.getfield 42, 3) := by decide +kernel
theorem d_Mo_read_68 : decode m_Mo_read.2.1 68 = .ok (.iload_n 1, 1) := by decide +kernel
theorem d_Mo_read_69 : decode m_Mo_read.2.1 69 = .ok (.dup2, 1) := by decide +kernel
theorem d_Mo_read_70 : decode m_Mo_read.2.1 70 = .ok (.iaload, 1) := by decide +kernel
theorem d_Mo_read_71 : decode m_Mo_read.2.1 71 = .ok (.iconst 1, 1) := by decide +kernel
theorem d_Mo_read_72 : decode m_Mo_read.2.1 72 = .ok (.iadd, 1) := by decide +kernel
theorem d_Mo_read_73 : decode m_Mo_read.2.1 73 = .ok (.iastore, 1) := by decide +kernel
theorem d_Mo_read_74 : decode m_Mo_read.2.1 74 = .ok (.aload_n 0, 1) := by decide +kernel
theorem d_Mo_read_75 : decode m_Mo_read.2.1 75 = .ok (.getfield 42, 3) := by decide +kernel
theorem d_Mo_read_78 : decode m_Mo_read.2.1 78 = .ok (.iload_n 1, 1) := by decide +kernel
theorem d_Mo_read_79 : decode m_Mo_read.2.1 79 = .ok (.iaload, 1) := by decide +kernel
theorem d_Mo_read_80 : decode m_Mo_read.2.1 80 = .ok (.aload_n 0, 1) := by decide +kernel
theorem d_Mo_read_81 : decode m_Mo_read.2.1 81 = .ok (.getfield 45, 3) := by decide +kernel
theorem d_Mo_read_84 : decode m_Mo_read.2.1 84 = .ok (.iload_n 1, 1) := by decide +kernel
theorem d_Mo_read_85 : decode m_Mo_read.2.1 85 = .ok (.iaload, 1) := by decide +kernel
theorem d_Mo_read_86 : decode m_Mo_read.2.1 86 = .ok (.isub, 1) := by decide +kernel
theorem d_Mo_read_87 : decode m_Mo_read.2.1 87 = .ok (.ireturn, 1) := by decide +kernel
theorem d_Mo_idle_0 : decode m_Mo_idle.2.1 0 = .ok (.aload_n 0, 1) := by decide +kernel
theorem d_Mo_idle_1 : decode m_Mo_idle.2.1 1 = .ok (.iload_n 1, 1) := by decide +kernel
theorem d_Mo_idle_2 : decode m_Mo_idle.2.1 2 = .ok (.invokestatic 156, 3) := by decide +kernel
theorem d_Mo_idle_5 : decode m_Mo_idle.2.1 5 = .ok (.ifCond .eq 7, 3) := by decide +kernel
theorem d_Mo_idle_8 : decode m_Mo_idle.2.1 8 = .ok (.iconst 0, 1) := by decide +kernel
theorem d_Mo_idle_9 : decode m_Mo_idle.2.1 9 = .ok (.goto 4, 3) := by decide +kernel
theorem d_Mo_idle_12 : decode m_Mo_idle.2.1 12 = .ok (.iconst 1, 1) := by decide +kernel
theorem d_Mo_idle_13 : decode m_Mo_idle.2.1 13 = .ok (.invokevirtual 149, 3) := by decide +kernel
theorem d_Mo_idle_16 : decode m_Mo_idle.2.1 16 = .ok (.ifCond .ne 5, 3) := by decide +kernel
theorem d_Mo_idle_19 : decode m_Mo_idle.2.1 19 = .ok (.iconst 0, 1) := by decide +kernel
theorem d_Mo_idle_20 : decode m_Mo_idle.2.1 20 = .ok (.ireturn, 1) := by decide +kernel
theorem d_Mo_idle_21 : decode m_Mo_idle.2.1 21 = .ok (.aload_n 0, 1) := by decide +kernel
theorem d_Mo_idle_22 : decode m_Mo_idle.2.1 22 = .ok (.getfield 51, 3) := by decide +kernel
theorem d_Mo_idle_25 : decode m_Mo_idle.2.1 25 = .ok (.iload_n 1, 1) := by decide +kernel
theorem d_Mo_idle_26 : decode m_Mo_idle.2.1 26 = .ok (.baload, 1) := by decide +kernel
theorem d_Mo_idle_27 : decode m_Mo_idle.2.1 27 = .ok (.istore_n 3, 1) := by decide +kernel
theorem d_Mo_idle_28 : decode m_Mo_idle.2.1 28 = .ok (.aload_n 0, 1) := by decide +kernel
theorem d_Mo_idle_29 : decode m_Mo_idle.2.1 29 = .ok (.getfield 51, 3) := by decide +kernel
theorem d_Mo_idle_32 : decode m_Mo_idle.2.1 32 = .ok (.iload_n 1, 1) := by decide +kernel
theorem d_Mo_idle_33 : decode m_Mo_idle.2.1 33 = .ok (.iload_n 2, 1) := by decide +kernel
theorem d_Mo_idle_34 : decode m_Mo_idle.2.1 34 = .ok (.bastore, 1) := by decide +kernel
theorem d_Mo_idle_35 : decode m_Mo_idle.2.1 35 = .ok (.aload_n 0, 1) := by decide +kernel
theorem d_Mo_idle_36 : decode m_Mo_idle.2.1 36 = .ok (.invokevirtual 162, 3) := by decide +kernel
theorem d_Mo_idle_39 : decode m_Mo_idle.2.1 39 = .ok (.iload_n 3, 1) := by decide +kernel
theorem d_Mo_idle_40 : decode m_Mo_idle.2.1 40 = .ok (.ireturn, 1) := by decide +kernel
theorem d_Mo_markOf_0 : decode m_Mo_markOf.2.1 0 = .ok (.aload_n 0, 1) := by decide +kernel
theorem d_Mo_markOf_1 : decode m_Mo_markOf.2.1 1 = .ok (.getfield 55, 3) := by decide +kernel
theorem d_Mo_markOf_4 : decode m_Mo_markOf.2.1 4 = .ok (.iload_n 1, 1) := by decide +kernel
theorem d_Mo_markOf_5 : decode m_Mo_markOf.2.1 5 = .ok (.iaload, 1) := by decide +kernel
theorem d_Mo_markOf_6 : decode m_Mo_markOf.2.1 6 = .ok (.iconst (-1), 1) := by decide +kernel
theorem d_Mo_markOf_7 : decode m_Mo_markOf.2.1 7 = .ok (.if_icmp .ne 7, 3) := by decide +kernel
theorem d_Mo_markOf_10 : decode m_Mo_markOf.2.1 10 = .ok (.iconst (-1), 1) := by decide +kernel
theorem d_Mo_markOf_11 : decode m_Mo_markOf.2.1 11 = .ok (.goto 20, 3) := by decide +kernel
theorem d_Mo_markOf_14 : decode m_Mo_markOf.2.1 14 = .ok (.iconst (-1), 1) := by decide +kernel
theorem d_Mo_markOf_15 : decode m_Mo_markOf.2.1 15 = .ok (.aload_n 0, 1) := by decide +kernel
theorem d_Mo_markOf_16 : decode m_Mo_markOf.2.1 16 = .ok (.getfield 55, 3) := by decide +kernel
theorem d_Mo_markOf_19 : decode m_Mo_markOf.2.1 19 = .ok (.iload_n 1, 1) := by decide +kernel
theorem d_Mo_markOf_20 : decode m_Mo_markOf.2.1 20 = .ok (.iaload, 1) := by decide +kernel
theorem d_Mo_markOf_21 : decode m_Mo_markOf.2.1 21 = .ok (.aload_n 0, 1) := by decide +kernel
theorem d_Mo_markOf_22 : decode m_Mo_markOf.2.1 22 = .ok (.getfield 48, 3) := by decide +kernel
theorem d_Mo_markOf_25 : decode m_Mo_markOf.2.1 25 = .ok (.iload_n 1, 1) := by decide +kernel
theorem d_Mo_markOf_26 : decode m_Mo_markOf.2.1 26 = .ok (.iaload, 1) := by decide +kernel
theorem d_Mo_markOf_27 : decode m_Mo_markOf.2.1 27 = .ok (.isub, 1) := by decide +kernel
theorem d_Mo_markOf_28 : decode m_Mo_markOf.2.1 28 = .ok (.invokestatic 165, 3) := by decide +kernel
theorem d_Mo_markOf_31 : decode m_Mo_markOf.2.1 31 = .ok (.ireturn, 1) := by decide +kernel
theorem d_Mo_sends_0 : decode m_Mo_sends.2.1 0 = .ok (.aload_n 0, 1) := by decide +kernel
theorem d_Mo_sends_1 : decode m_Mo_sends.2.1 1 = .ok (.getfield 91, 3) := by decide +kernel
theorem d_Mo_sends_4 : decode m_Mo_sends.2.1 4 = .ok (.aload_n 0, 1) := by decide +kernel
theorem d_Mo_sends_5 : decode m_Mo_sends.2.1 5 = .ok (.getfield 169, 3) := by decide +kernel
theorem d_Mo_sends_8 : decode m_Mo_sends.2.1 8 = .ok (.aload_n 0, 1) := by decide +kernel
theorem d_Mo_sends_9 : decode m_Mo_sends.2.1 9 = .ok (.getfield 67, 3) := by decide +kernel
theorem d_Mo_sends_12 : decode m_Mo_sends.2.1 12 = .ok (.iload_n 1, 1) := by decide +kernel
theorem d_Mo_sends_13 : decode m_Mo_sends.2.1 13 = .ok (.iaload, 1) := by decide +kernel
theorem d_Mo_sends_14 : decode m_Mo_sends.2.1 14 = .ok (.iastore, 1) := by decide +kernel
theorem d_Mo_sends_15 : decode m_Mo_sends.2.1 15 = .ok (.aload_n 0, 1) := by decide +kernel
theorem d_Mo_sends_16 : decode m_Mo_sends.2.1 16 = .ok (.getfield 94, 3) := by decide +kernel
theorem d_Mo_sends_19 : decode m_Mo_sends.2.1 19 = .ok (.aload_n 0, 1) := by decide +kernel
theorem d_Mo_sends_20 : decode m_Mo_sends.2.1 20 = .ok (.getfield 169, 3) := by decide +kernel
theorem d_Mo_sends_23 : decode m_Mo_sends.2.1 23 = .ok (.aload_n 0, 1) := by decide +kernel
theorem d_Mo_sends_24 : decode m_Mo_sends.2.1 24 = .ok (.getfield 70, 3) := by decide +kernel
theorem d_Mo_sends_27 : decode m_Mo_sends.2.1 27 = .ok (.iload_n 1, 1) := by decide +kernel
theorem d_Mo_sends_28 : decode m_Mo_sends.2.1 28 = .ok (.iaload, 1) := by decide +kernel
theorem d_Mo_sends_29 : decode m_Mo_sends.2.1 29 = .ok (.iastore, 1) := by decide +kernel
theorem d_Mo_sends_30 : decode m_Mo_sends.2.1 30 = .ok (.aload_n 0, 1) := by decide +kernel
theorem d_Mo_sends_31 : decode m_Mo_sends.2.1 31 = .ok (.getfield 97, 3) := by decide +kernel
theorem d_Mo_sends_34 : decode m_Mo_sends.2.1 34 = .ok (.aload_n 0, 1) := by decide +kernel
theorem d_Mo_sends_35 : decode m_Mo_sends.2.1 35 = .ok (.getfield 169, 3) := by decide +kernel
theorem d_Mo_sends_38 : decode m_Mo_sends.2.1 38 = .ok (.aload_n 0, 1) := by decide +kernel
theorem d_Mo_sends_39 : decode m_Mo_sends.2.1 39 = .ok (.getfield 73, 3) := by decide +kernel
theorem d_Mo_sends_42 : decode m_Mo_sends.2.1 42 = .ok (.iload_n 1, 1) := by decide +kernel
theorem d_Mo_sends_43 : decode m_Mo_sends.2.1 43 = .ok (.iaload, 1) := by decide +kernel
theorem d_Mo_sends_44 : decode m_Mo_sends.2.1 44 = .ok (.iastore, 1) := by decide +kernel
theorem d_Mo_sends_45 : decode m_Mo_sends.2.1 45 = .ok (.aload_n 0, 1) := by decide +kernel
theorem d_Mo_sends_46 : decode m_Mo_sends.2.1 46 = .ok (.getfield 100, 3) := by decide +kernel
theorem d_Mo_sends_49 : decode m_Mo_sends.2.1 49 = .ok (.aload_n 0, 1) := by decide +kernel
theorem d_Mo_sends_50 : decode m_Mo_sends.2.1 50 = .ok (.getfield 169, 3) := by decide +kernel
theorem d_Mo_sends_53 : decode m_Mo_sends.2.1 53 = .ok (.aload_n 0, 1) := by decide +kernel
theorem d_Mo_sends_54 : decode m_Mo_sends.2.1 54 = .ok (.getfield 76, 3) := by decide +kernel
theorem d_Mo_sends_57 : decode m_Mo_sends.2.1 57 = .ok (.iload_n 1, 1) := by decide +kernel
theorem d_Mo_sends_58 : decode m_Mo_sends.2.1 58 = .ok (.iaload, 1) := by decide +kernel
theorem d_Mo_sends_59 : decode m_Mo_sends.2.1 59 = .ok (.iastore, 1) := by decide +kernel
theorem d_Mo_sends_60 : decode m_Mo_sends.2.1 60 = .ok (.aload_n 0, 1) := by decide +kernel
theorem d_Mo_sends_61 : decode m_Mo_sends.2.1 61 = .ok (.getfield 103, 3) := by decide +kernel
theorem d_Mo_sends_64 : decode m_Mo_sends.2.1 64 = .ok (.aload_n 0, 1) := by decide +kernel
theorem d_Mo_sends_65 : decode m_Mo_sends.2.1 65 = .ok (.getfield 169, 3) := by decide +kernel
theorem d_Mo_sends_68 : decode m_Mo_sends.2.1 68 = .ok (.aload_n 0, 1) := by decide +kernel
theorem d_Mo_sends_69 : decode m_Mo_sends.2.1 69 = .ok (.getfield 79, 3) := by decide +kernel
theorem d_Mo_sends_72 : decode m_Mo_sends.2.1 72 = .ok (.iload_n 1, 1) := by decide +kernel
theorem d_Mo_sends_73 : decode m_Mo_sends.2.1 73 = .ok (.iaload, 1) := by decide +kernel
theorem d_Mo_sends_74 : decode m_Mo_sends.2.1 74 = .ok (.iastore, 1) := by decide +kernel
theorem d_Mo_sends_75 : decode m_Mo_sends.2.1 75 = .ok (.aload_n 0, 1) := by decide +kernel
theorem d_Mo_sends_76 : decode m_Mo_sends.2.1 76 = .ok (.getfield 106, 3) := by decide +kernel
theorem d_Mo_sends_79 : decode m_Mo_sends.2.1 79 = .ok (.aload_n 0, 1) := by decide +kernel
theorem d_Mo_sends_80 : decode m_Mo_sends.2.1 80 = .ok (.getfield 169, 3) := by decide +kernel
theorem d_Mo_sends_83 : decode m_Mo_sends.2.1 83 = .ok (.iload_n 2, 1) := by decide +kernel
theorem d_Mo_sends_84 : decode m_Mo_sends.2.1 84 = .ok (.bastore, 1) := by decide +kernel
theorem d_Mo_sends_85 : decode m_Mo_sends.2.1 85 = .ok (.aload_n 0, 1) := by decide +kernel
theorem d_Mo_sends_86 : decode m_Mo_sends.2.1 86 = .ok (.dup, 1) := by decide +kernel
theorem d_Mo_sends_87 : decode m_Mo_sends.2.1 87 = .ok (.getfield 169, 3) := by decide +kernel
theorem d_Mo_sends_90 : decode m_Mo_sends.2.1 90 = .ok (.iconst 1, 1) := by decide +kernel
theorem d_Mo_sends_91 : decode m_Mo_sends.2.1 91 = .ok (.iadd, 1) := by decide +kernel
theorem d_Mo_sends_92 : decode m_Mo_sends.2.1 92 = .ok (.putfield 169, 3) := by decide +kernel
theorem d_Mo_sends_95 : decode m_Mo_sends.2.1 95 = .ok (.return_, 1) := by decide +kernel
theorem d_Mo_grows_0 : decode m_Mo_grows.2.1 0 = .ok (.iconst (-1), 1) := by decide +kernel
theorem d_Mo_grows_1 : decode m_Mo_grows.2.1 1 = .ok (.istore_n 1, 1) := by decide +kernel
theorem d_Mo_grows_2 : decode m_Mo_grows.2.1 2 = .ok (.iconst 0, 1) := by decide +kernel
theorem d_Mo_grows_3 : decode m_Mo_grows.2.1 3 = .ok (.istore_n 2, 1) := by decide +kernel
theorem d_Mo_grows_4 : decode m_Mo_grows.2.1 4 = .ok (.iload_n 2, 1) := by decide +kernel
theorem d_Mo_grows_5 : decode m_Mo_grows.2.1 5 = .ok (.iconst 3, 1) := by decide +kernel
theorem d_Mo_grows_6 : decode m_Mo_grows.2.1 6 = .ok (.if_icmp .ge 50, 3) := by decide +kernel
theorem d_Mo_grows_9 : decode m_Mo_grows.2.1 9 = .ok (.aload_n 0, 1) := by decide +kernel
theorem d_Mo_grows_10 : decode m_Mo_grows.2.1 10 = .ok (.getfield 51, 3) := by decide +kernel
theorem d_Mo_grows_13 : decode m_Mo_grows.2.1 13 = .ok (.iload_n 2, 1) := by decide +kernel
theorem d_Mo_grows_14 : decode m_Mo_grows.2.1 14 = .ok (.baload, 1) := by decide +kernel
theorem d_Mo_grows_15 : decode m_Mo_grows.2.1 15 = .ok (.ifCond .eq 7, 3) := by decide +kernel
theorem d_Mo_grows_18 : decode m_Mo_grows.2.1 18 = .ok (.iload_n 1, 1) := by decide +kernel
theorem d_Mo_grows_19 : decode m_Mo_grows.2.1 19 = .ok (.goto 30, 3) := by decide +kernel
theorem d_Mo_grows_22 : decode m_Mo_grows.2.1 22 = .ok (.iload_n 1, 1) := by decide +kernel
theorem d_Mo_grows_23 : decode m_Mo_grows.2.1 23 = .ok (.iconst (-1), 1) := by decide +kernel
theorem d_Mo_grows_24 : decode m_Mo_grows.2.1 24 = .ok (.if_icmp .ne 7, 3) := by decide +kernel
theorem d_Mo_grows_27 : decode m_Mo_grows.2.1 27 = .ok (.iload_n 2, 1) := by decide +kernel
theorem d_Mo_grows_28 : decode m_Mo_grows.2.1 28 = .ok (.goto 21, 3) := by decide +kernel
theorem d_Mo_grows_31 : decode m_Mo_grows.2.1 31 = .ok (.aload_n 0, 1) := by decide +kernel
theorem d_Mo_grows_32 : decode m_Mo_grows.2.1 32 = .ok (.iload_n 2, 1) := by decide +kernel
theorem d_Mo_grows_33 : decode m_Mo_grows.2.1 33 = .ok (.invokevirtual 172, 3) := by decide +kernel
theorem d_Mo_grows_36 : decode m_Mo_grows.2.1 36 = .ok (.aload_n 0, 1) := by decide +kernel
theorem d_Mo_grows_37 : decode m_Mo_grows.2.1 37 = .ok (.iload_n 1, 1) := by decide +kernel
theorem d_Mo_grows_38 : decode m_Mo_grows.2.1 38 = .ok (.invokevirtual 172, 3) := by decide +kernel
theorem d_Mo_grows_41 : decode m_Mo_grows.2.1 41 = .ok (.if_icmp .ge 7, 3) := by decide +kernel
theorem d_Mo_grows_44 : decode m_Mo_grows.2.1 44 = .ok (.iload_n 2, 1) := by decide +kernel
theorem d_Mo_grows_45 : decode m_Mo_grows.2.1 45 = .ok (.goto 4, 3) := by decide +kernel
theorem d_Mo_grows_48 : decode m_Mo_grows.2.1 48 = .ok (.iload_n 1, 1) := by decide +kernel
theorem d_Mo_grows_49 : decode m_Mo_grows.2.1 49 = .ok (.istore_n 1, 1) := by decide +kernel
theorem d_Mo_grows_50 : decode m_Mo_grows.2.1 50 = .ok (.iinc 2 1, 3) := by decide +kernel
theorem d_Mo_grows_53 : decode m_Mo_grows.2.1 53 = .ok (.goto (-49), 3) := by decide +kernel
theorem d_Mo_grows_56 : decode m_Mo_grows.2.1 56 = .ok (.aload_n 0, 1) := by decide +kernel
theorem d_Mo_grows_57 : decode m_Mo_grows.2.1 57 = .ok (.iload_n 1, 1) := by decide +kernel
theorem d_Mo_grows_58 : decode m_Mo_grows.2.1 58 = .ok (.iconst (-1), 1) := by decide +kernel
theorem d_Mo_grows_59 : decode m_Mo_grows.2.1 59 = .ok (.if_icmp .ne 10, 3) := by decide +kernel
theorem d_Mo_grows_62 : decode m_Mo_grows.2.1 62 = .ok (.aload_n 0, 1) := by decide +kernel
theorem d_Mo_grows_63 : decode m_Mo_grows.2.1 63 = .ok (.getfield 58, 3) := by decide +kernel
theorem d_Mo_grows_66 : decode m_Mo_grows.2.1 66 = .ok (.goto 15, 3) := by decide +kernel
theorem d_Mo_grows_69 : decode m_Mo_grows.2.1 69 = .ok (.aload_n 0, 1) := by decide +kernel
theorem d_Mo_grows_70 : decode m_Mo_grows.2.1 70 = .ok (.getfield 58, 3) := by decide +kernel
theorem d_Mo_grows_73 : decode m_Mo_grows.2.1 73 = .ok (.aload_n 0, 1) := by decide +kernel
theorem d_Mo_grows_74 : decode m_Mo_grows.2.1 74 = .ok (.iload_n 1, 1) := by decide +kernel
theorem d_Mo_grows_75 : decode m_Mo_grows.2.1 75 = .ok (.invokevirtual 172, 3) := by decide +kernel
theorem d_Mo_grows_78 : decode m_Mo_grows.2.1 78 = .ok (.invokestatic 165, 3) := by decide +kernel
theorem d_Mo_grows_81 : decode m_Mo_grows.2.1 81 = .ok (.putfield 58, 3) := by decide +kernel
theorem d_Mo_grows_84 : decode m_Mo_grows.2.1 84 = .ok (.aload_n 0, 1) := by decide +kernel
theorem d_Mo_grows_85 : decode m_Mo_grows.2.1 85 = .ok (.invokevirtual 176, 3) := by decide +kernel
theorem d_Mo_grows_88 : decode m_Mo_grows.2.1 88 = .ok (.istore_n 2, 1) := by decide +kernel
theorem d_Mo_grows_89 : decode m_Mo_grows.2.1 89 = .ok (.iload_n 2, 1) := by decide +kernel
theorem d_Mo_grows_90 : decode m_Mo_grows.2.1 90 = .ok (.iconst (-1), 1) := by decide +kernel
theorem d_Mo_grows_91 : decode m_Mo_grows.2.1 91 = .ok (.if_icmp .eq 24, 3) := by decide +kernel
theorem d_Mo_grows_94 : decode m_Mo_grows.2.1 94 = .ok (.aload_n 0, 1) := by decide +kernel
theorem d_Mo_grows_95 : decode m_Mo_grows.2.1 95 = .ok (.iload_n 2, 1) := by decide +kernel
theorem d_Mo_grows_96 : decode m_Mo_grows.2.1 96 = .ok (.iconst 0, 1) := by decide +kernel
theorem d_Mo_grows_97 : decode m_Mo_grows.2.1 97 = .ok (.invokevirtual 180, 3) := by decide +kernel
theorem d_Mo_grows_100 : decode m_Mo_grows.2.1 100 = .ok (.aload_n 0, 1) := by decide +kernel
theorem d_Mo_grows_101 : decode m_Mo_grows.2.1 101 = .ok (.getfield 82, 3) := by decide +kernel
theorem d_Mo_grows_104 : decode m_Mo_grows.2.1 104 = .ok (.iload_n 2, 1) := by decide +kernel
theorem d_Mo_grows_105 : decode m_Mo_grows.2.1 105 = .ok (.iconst 1, 1) := by decide +kernel
theorem d_Mo_grows_106 : decode m_Mo_grows.2.1 106 = .ok (.bastore, 1) := by decide +kernel
theorem d_Mo_grows_107 : decode m_Mo_grows.2.1 107 = .ok (.aload_n 0, 1) := by decide +kernel
theorem d_Mo_grows_108 : decode m_Mo_grows.2.1 108 = .ok (.invokevirtual 176, 3) := by decide +kernel
theorem d_Mo_grows_111 : decode m_Mo_grows.2.1 111 = .ok (.istore_n 2, 1) := by decide +kernel
theorem d_Mo_grows_112 : decode m_Mo_grows.2.1 112 = .ok (.goto (-23), 3) := by decide +kernel
theorem d_Mo_grows_115 : decode m_Mo_grows.2.1 115 = .ok (.return_, 1) := by decide +kernel
theorem d_Mo_isAhead_0 : decode m_Mo_isAhead.2.1 0 = .ok (.aload_n 0, 1) := by decide +kernel
theorem d_Mo_isAhead_1 : decode m_Mo_isAhead.2.1 1 = .ok (.getfield 73, 3) := by decide +kernel
theorem d_Mo_isAhead_4 : decode m_Mo_isAhead.2.1 4 = .ok (.iload_n 1, 1) := by decide +kernel
theorem d_Mo_isAhead_5 : decode m_Mo_isAhead.2.1 5 = .ok (.iaload, 1) := by decide +kernel
theorem d_Mo_isAhead_6 : decode m_Mo_isAhead.2.1 6 = .ok (.aload_n 0, 1) := by decide +kernel
theorem d_Mo_isAhead_7 : decode m_Mo_isAhead.2.1 7 = .ok (.getfield 73, 3) := by decide +kernel
theorem d_Mo_isAhead_10 : decode m_Mo_isAhead.2.1 10 = .ok (.iload_n 2, 1) := by decide +kernel
theorem d_Mo_isAhead_11 : decode m_Mo_isAhead.2.1 11 = .ok (.iaload, 1) := by decide +kernel
theorem d_Mo_isAhead_12 : decode m_Mo_isAhead.2.1 12 = .ok (.if_icmp .eq 26, 3) := by decide +kernel
theorem d_Mo_isAhead_15 : decode m_Mo_isAhead.2.1 15 = .ok (.aload_n 0, 1) := by decide +kernel
theorem d_Mo_isAhead_16 : decode m_Mo_isAhead.2.1 16 = .ok (.getfield 73, 3) := by decide +kernel
theorem d_Mo_isAhead_19 : decode m_Mo_isAhead.2.1 19 = .ok (.iload_n 1, 1) := by decide +kernel
theorem d_Mo_isAhead_20 : decode m_Mo_isAhead.2.1 20 = .ok (.iaload, 1) := by decide +kernel
theorem d_Mo_isAhead_21 : decode m_Mo_isAhead.2.1 21 = .ok (.aload_n 0, 1) := by decide +kernel
theorem d_Mo_isAhead_22 : decode m_Mo_isAhead.2.1 22 = .ok (.getfield 73, 3) := by decide +kernel
theorem d_Mo_isAhead_25 : decode m_Mo_isAhead.2.1 25 = .ok (.iload_n 2, 1) := by decide +kernel
theorem d_Mo_isAhead_26 : decode m_Mo_isAhead.2.1 26 = .ok (.iaload, 1) := by decide +kernel
theorem d_Mo_isAhead_27 : decode m_Mo_isAhead.2.1 27 = .ok (.if_icmp .ge 7, 3) := by decide +kernel
theorem d_Mo_isAhead_30 : decode m_Mo_isAhead.2.1 30 = .ok (.iconst 1, 1) := by decide +kernel
theorem d_Mo_isAhead_31 : decode m_Mo_isAhead.2.1 31 = .ok (.goto 65, 3) := by decide +kernel
theorem d_Mo_isAhead_34 : decode m_Mo_isAhead.2.1 34 = .ok (.iconst 0, 1) := by decide +kernel
theorem d_Mo_isAhead_35 : decode m_Mo_isAhead.2.1 35 = .ok (.goto 61, 3) := by decide +kernel
theorem d_Mo_isAhead_38 : decode m_Mo_isAhead.2.1 38 = .ok (.aload_n 0, 1) := by decide +kernel
theorem d_Mo_isAhead_39 : decode m_Mo_isAhead.2.1 39 = .ok (.getfield 67, 3) := by decide +kernel
theorem d_Mo_isAhead_42 : decode m_Mo_isAhead.2.1 42 = .ok (.iload_n 1, 1) := by decide +kernel
theorem d_Mo_isAhead_43 : decode m_Mo_isAhead.2.1 43 = .ok (.iaload, 1) := by decide +kernel
theorem d_Mo_isAhead_44 : decode m_Mo_isAhead.2.1 44 = .ok (.aload_n 0, 1) := by decide +kernel
theorem d_Mo_isAhead_45 : decode m_Mo_isAhead.2.1 45 = .ok (.getfield 67, 3) := by decide +kernel
theorem d_Mo_isAhead_48 : decode m_Mo_isAhead.2.1 48 = .ok (.iload_n 2, 1) := by decide +kernel
theorem d_Mo_isAhead_49 : decode m_Mo_isAhead.2.1 49 = .ok (.iaload, 1) := by decide +kernel
theorem d_Mo_isAhead_50 : decode m_Mo_isAhead.2.1 50 = .ok (.if_icmp .eq 26, 3) := by decide +kernel
theorem d_Mo_isAhead_53 : decode m_Mo_isAhead.2.1 53 = .ok (.aload_n 0, 1) := by decide +kernel
theorem d_Mo_isAhead_54 : decode m_Mo_isAhead.2.1 54 = .ok (.getfield 67, 3) := by decide +kernel
theorem d_Mo_isAhead_57 : decode m_Mo_isAhead.2.1 57 = .ok (.iload_n 1, 1) := by decide +kernel
theorem d_Mo_isAhead_58 : decode m_Mo_isAhead.2.1 58 = .ok (.iaload, 1) := by decide +kernel
theorem d_Mo_isAhead_59 : decode m_Mo_isAhead.2.1 59 = .ok (.aload_n 0, 1) := by decide +kernel
theorem d_Mo_isAhead_60 : decode m_Mo_isAhead.2.1 60 = .ok (.getfield 67, 3) := by decide +kernel
theorem d_Mo_isAhead_63 : decode m_Mo_isAhead.2.1 63 = .ok (.iload_n 2, 1) := by decide +kernel
theorem d_Mo_isAhead_64 : decode m_Mo_isAhead.2.1 64 = .ok (.iaload, 1) := by decide +kernel
theorem d_Mo_isAhead_65 : decode m_Mo_isAhead.2.1 65 = .ok (.if_icmp .ge 7, 3) := by decide +kernel
theorem d_Mo_isAhead_68 : decode m_Mo_isAhead.2.1 68 = .ok (.iconst 1, 1) := by decide +kernel
theorem d_Mo_isAhead_69 : decode m_Mo_isAhead.2.1 69 = .ok (.goto 27, 3) := by decide +kernel
theorem d_Mo_isAhead_72 : decode m_Mo_isAhead.2.1 72 = .ok (.iconst 0, 1) := by decide +kernel
theorem d_Mo_isAhead_73 : decode m_Mo_isAhead.2.1 73 = .ok (.goto 23, 3) := by decide +kernel
theorem d_Mo_isAhead_76 : decode m_Mo_isAhead.2.1 76 = .ok (.aload_n 0, 1) := by decide +kernel
theorem d_Mo_isAhead_77 : decode m_Mo_isAhead.2.1 77 = .ok (.getfield 70, 3) := by decide +kernel
theorem d_Mo_isAhead_80 : decode m_Mo_isAhead.2.1 80 = .ok (.iload_n 1, 1) := by decide +kernel
theorem d_Mo_isAhead_81 : decode m_Mo_isAhead.2.1 81 = .ok (.iaload, 1) := by decide +kernel
theorem d_Mo_isAhead_82 : decode m_Mo_isAhead.2.1 82 = .ok (.aload_n 0, 1) := by decide +kernel
theorem d_Mo_isAhead_83 : decode m_Mo_isAhead.2.1 83 = .ok (.getfield 70, 3) := by decide +kernel
theorem d_Mo_isAhead_86 : decode m_Mo_isAhead.2.1 86 = .ok (.iload_n 2, 1) := by decide +kernel
theorem d_Mo_isAhead_87 : decode m_Mo_isAhead.2.1 87 = .ok (.iaload, 1) := by decide +kernel
theorem d_Mo_isAhead_88 : decode m_Mo_isAhead.2.1 88 = .ok (.if_icmp .ge 7, 3) := by decide +kernel
theorem d_Mo_isAhead_91 : decode m_Mo_isAhead.2.1 91 = .ok (.iconst 1, 1) := by decide +kernel
theorem d_Mo_isAhead_92 : decode m_Mo_isAhead.2.1 92 = .ok (.goto 4, 3) := by decide +kernel
theorem d_Mo_isAhead_95 : decode m_Mo_isAhead.2.1 95 = .ok (.iconst 0, 1) := by decide +kernel
theorem d_Mo_isAhead_96 : decode m_Mo_isAhead.2.1 96 = .ok (.ireturn, 1) := by decide +kernel
theorem d_Mo_first_0 : decode m_Mo_first.2.1 0 = .ok (.iconst (-1), 1) := by decide +kernel
theorem d_Mo_first_1 : decode m_Mo_first.2.1 1 = .ok (.istore_n 1, 1) := by decide +kernel
theorem d_Mo_first_2 : decode m_Mo_first.2.1 2 = .ok (.iconst 0, 1) := by decide +kernel
theorem d_Mo_first_3 : decode m_Mo_first.2.1 3 = .ok (.istore_n 2, 1) := by decide +kernel
theorem d_Mo_first_4 : decode m_Mo_first.2.1 4 = .ok (.iload_n 2, 1) := by decide +kernel
theorem d_Mo_first_5 : decode m_Mo_first.2.1 5 = .ok (.aload_n 0, 1) := by decide +kernel
theorem d_Mo_first_6 : decode m_Mo_first.2.1 6 = .ok (.getfield 184, 3) := by decide +kernel
theorem d_Mo_first_9 : decode m_Mo_first.2.1 9 = .ok (.if_icmp .ge 61, 3) := by decide +kernel
theorem d_Mo_first_12 : decode m_Mo_first.2.1 12 = .ok (.aload_n 0, 1) := by decide +kernel
theorem d_Mo_first_13 : decode m_Mo_first.2.1 13 = .ok (.getfield 82, 3) := by decide +kernel
theorem d_Mo_first_16 : decode m_Mo_first.2.1 16 = .ok (.iload_n 2, 1) := by decide +kernel
theorem d_Mo_first_17 : decode m_Mo_first.2.1 17 = .ok (.baload, 1) := by decide +kernel
theorem d_Mo_first_18 : decode m_Mo_first.2.1 18 = .ok (.ifCond .ne 20, 3) := by decide +kernel
theorem d_Mo_first_21 : decode m_Mo_first.2.1 21 = .ok (.aload_n 0, 1) := by decide +kernel
theorem d_Mo_first_22 : decode m_Mo_first.2.1 22 = .ok (.getfield 73, 3) := by decide +kernel
theorem d_Mo_first_25 : decode m_Mo_first.2.1 25 = .ok (.iload_n 2, 1) := by decide +kernel
theorem d_Mo_first_26 : decode m_Mo_first.2.1 26 = .ok (.iaload, 1) := by decide +kernel
theorem d_Mo_first_27 : decode m_Mo_first.2.1 27 = .ok (.aload_n 0, 1) := by decide +kernel
theorem d_Mo_first_28 : decode m_Mo_first.2.1 28 = .ok (.getfield 58, 3) := by decide +kernel
theorem d_Mo_first_31 : decode m_Mo_first.2.1 31 = .ok (.if_icmp .gt 7, 3) := by decide +kernel
theorem d_Mo_first_34 : decode m_Mo_first.2.1 34 = .ok (.iconst 1, 1) := by decide +kernel
theorem d_Mo_first_35 : decode m_Mo_first.2.1 35 = .ok (.goto 4, 3) := by decide +kernel
theorem d_Mo_first_38 : decode m_Mo_first.2.1 38 = .ok (.iconst 0, 1) := by decide +kernel
theorem d_Mo_first_39 : decode m_Mo_first.2.1 39 = .ok (.istore_n 3, 1) := by decide +kernel
theorem d_Mo_first_40 : decode m_Mo_first.2.1 40 = .ok (.iload_n 3, 1) := by decide +kernel
theorem d_Mo_first_41 : decode m_Mo_first.2.1 41 = .ok (.ifCond .eq 21, 3) := by decide +kernel
theorem d_Mo_first_44 : decode m_Mo_first.2.1 44 = .ok (.iload_n 1, 1) := by decide +kernel
theorem d_Mo_first_45 : decode m_Mo_first.2.1 45 = .ok (.iconst (-1), 1) := by decide +kernel
theorem d_Mo_first_46 : decode m_Mo_first.2.1 46 = .ok (.if_icmp .eq 12, 3) := by decide +kernel
theorem d_Mo_first_49 : decode m_Mo_first.2.1 49 = .ok (.aload_n 0, 1) := by decide +kernel
theorem d_Mo_first_50 : decode m_Mo_first.2.1 50 = .ok (.iload_n 2, 1) := by decide +kernel
theorem d_Mo_first_51 : decode m_Mo_first.2.1 51 = .ok (.iload_n 1, 1) := by decide +kernel
theorem d_Mo_first_52 : decode m_Mo_first.2.1 52 = .ok (.invokevirtual 187, 3) := by decide +kernel
theorem d_Mo_first_55 : decode m_Mo_first.2.1 55 = .ok (.ifCond .eq 7, 3) := by decide +kernel
theorem d_Mo_first_58 : decode m_Mo_first.2.1 58 = .ok (.iload_n 2, 1) := by decide +kernel
theorem d_Mo_first_59 : decode m_Mo_first.2.1 59 = .ok (.goto 4, 3) := by decide +kernel
theorem d_Mo_first_62 : decode m_Mo_first.2.1 62 = .ok (.iload_n 1, 1) := by decide +kernel
theorem d_Mo_first_63 : decode m_Mo_first.2.1 63 = .ok (.istore_n 1, 1) := by decide +kernel
theorem d_Mo_first_64 : decode m_Mo_first.2.1 64 = .ok (.iinc 2 1, 3) := by decide +kernel
theorem d_Mo_first_67 : decode m_Mo_first.2.1 67 = .ok (.goto (-63), 3) := by decide +kernel
theorem d_Mo_first_70 : decode m_Mo_first.2.1 70 = .ok (.iload_n 1, 1) := by decide +kernel
theorem d_Mo_first_71 : decode m_Mo_first.2.1 71 = .ok (.ireturn, 1) := by decide +kernel
theorem d_Mo_window_0 : decode m_Mo_window.2.1 0 = .ok (.iconst 0, 1) := by decide +kernel
theorem d_Mo_window_1 : decode m_Mo_window.2.1 1 = .ok (.istore_n 3, 1) := by decide +kernel
theorem d_Mo_window_2 : decode m_Mo_window.2.1 2 = .ok (.iload_n 3, 1) := by decide +kernel
theorem d_Mo_window_3 : decode m_Mo_window.2.1 3 = .ok (.aload_n 0, 1) := by decide +kernel
theorem d_Mo_window_4 : decode m_Mo_window.2.1 4 = .ok (.getfield 184, 3) := by decide +kernel
theorem d_Mo_window_7 : decode m_Mo_window.2.1 7 = .ok (.if_icmp .ge 31, 3) := by decide +kernel
theorem d_Mo_window_10 : decode m_Mo_window.2.1 10 = .ok (.aload_n 0, 1) := by decide +kernel
theorem d_Mo_window_11 : decode m_Mo_window.2.1 11 = .ok (.getfield 67, 3) := by decide +kernel
theorem d_Mo_window_14 : decode m_Mo_window.2.1 14 = .ok (.iload_n 3, 1) := by decide +kernel
theorem d_Mo_window_15 : decode m_Mo_window.2.1 15 = .ok (.iaload, 1) := by decide +kernel
theorem d_Mo_window_16 : decode m_Mo_window.2.1 16 = .ok (.iload_n 1, 1) := by decide +kernel
theorem d_Mo_window_17 : decode m_Mo_window.2.1 17 = .ok (.if_icmp .ne 15, 3) := by decide +kernel
theorem d_Mo_window_20 : decode m_Mo_window.2.1 20 = .ok (.aload_n 0, 1) := by decide +kernel
theorem d_Mo_window_21 : decode m_Mo_window.2.1 21 = .ok (.getfield 70, 3) := by decide +kernel
theorem d_Mo_window_24 : decode m_Mo_window.2.1 24 = .ok (.iload_n 3, 1) := by decide +kernel
theorem d_Mo_window_25 : decode m_Mo_window.2.1 25 = .ok (.iaload, 1) := by decide +kernel
theorem d_Mo_window_26 : decode m_Mo_window.2.1 26 = .ok (.iload_n 2, 1) := by decide +kernel
theorem d_Mo_window_27 : decode m_Mo_window.2.1 27 = .ok (.if_icmp .ne 5, 3) := by decide +kernel
theorem d_Mo_window_30 : decode m_Mo_window.2.1 30 = .ok (.iload_n 3, 1) := by decide +kernel
theorem d_Mo_window_31 : decode m_Mo_window.2.1 31 = .ok (.ireturn, 1) := by decide +kernel
theorem d_Mo_window_32 : decode m_Mo_window.2.1 32 = .ok (.iinc 3 1, 3) := by decide +kernel
theorem d_Mo_window_35 : decode m_Mo_window.2.1 35 = .ok (.goto (-33), 3) := by decide +kernel
theorem d_Mo_window_38 : decode m_Mo_window.2.1 38 = .ok (.aload_n 0, 1) := by decide +kernel
theorem d_Mo_window_39 : decode m_Mo_window.2.1 39 = .ok (.getfield 67, 3) := by decide +kernel
theorem d_Mo_window_42 : decode m_Mo_window.2.1 42 = .ok (.aload_n 0, 1) := by decide +kernel
theorem d_Mo_window_43 : decode m_Mo_window.2.1 43 = .ok (.getfield 184, 3) := by decide +kernel
theorem d_Mo_window_46 : decode m_Mo_window.2.1 46 = .ok (.iload_n 1, 1) := by decide +kernel
theorem d_Mo_window_47 : decode m_Mo_window.2.1 47 = .ok (.iastore, 1) := by decide +kernel
theorem d_Mo_window_48 : decode m_Mo_window.2.1 48 = .ok (.aload_n 0, 1) := by decide +kernel
theorem d_Mo_window_49 : decode m_Mo_window.2.1 49 = .ok (.getfield 70, 3) := by decide +kernel
theorem d_Mo_window_52 : decode m_Mo_window.2.1 52 = .ok (.aload_n 0, 1) := by decide +kernel
theorem d_Mo_window_53 : decode m_Mo_window.2.1 53 = .ok (.getfield 184, 3) := by decide +kernel
theorem d_Mo_window_56 : decode m_Mo_window.2.1 56 = .ok (.iload_n 2, 1) := by decide +kernel
theorem d_Mo_window_57 : decode m_Mo_window.2.1 57 = .ok (.iastore, 1) := by decide +kernel
theorem d_Mo_window_58 : decode m_Mo_window.2.1 58 = .ok (.aload_n 0, 1) := by decide +kernel
theorem d_Mo_window_59 : decode m_Mo_window.2.1 59 = .ok (.getfield 73, 3) := by decide +kernel
theorem d_Mo_window_62 : decode m_Mo_window.2.1 62 = .ok (.aload_n 0, 1) := by decide +kernel
theorem d_Mo_window_63 : decode m_Mo_window.2.1 63 = .ok (.getfield 184, 3) := by decide +kernel
theorem d_Mo_window_66 : decode m_Mo_window.2.1 66 = .ok (.iload_n 2, 1) := by decide +kernel
theorem d_Mo_window_67 : decode m_Mo_window.2.1 67 = .ok (.aload_n 0, 1) := by decide +kernel
theorem d_Mo_window_68 : decode m_Mo_window.2.1 68 = .ok (.getfield 13, 3) := by decide +kernel
theorem d_Mo_window_71 : decode m_Mo_window.2.1 71 = .ok (.iadd, 1) := by decide +kernel
theorem d_Mo_window_72 : decode m_Mo_window.2.1 72 = .ok (.iastore, 1) := by decide +kernel
theorem d_Mo_window_73 : decode m_Mo_window.2.1 73 = .ok (.aload_n 0, 1) := by decide +kernel
theorem d_Mo_window_74 : decode m_Mo_window.2.1 74 = .ok (.getfield 76, 3) := by decide +kernel
theorem d_Mo_window_77 : decode m_Mo_window.2.1 77 = .ok (.aload_n 0, 1) := by decide +kernel
theorem d_Mo_window_78 : decode m_Mo_window.2.1 78 = .ok (.getfield 184, 3) := by decide +kernel
theorem d_Mo_window_81 : decode m_Mo_window.2.1 81 = .ok (.iconst 0, 1) := by decide +kernel
theorem d_Mo_window_82 : decode m_Mo_window.2.1 82 = .ok (.iastore, 1) := by decide +kernel
theorem d_Mo_window_83 : decode m_Mo_window.2.1 83 = .ok (.aload_n 0, 1) := by decide +kernel
theorem d_Mo_window_84 : decode m_Mo_window.2.1 84 = .ok (.getfield 79, 3) := by decide +kernel
theorem d_Mo_window_87 : decode m_Mo_window.2.1 87 = .ok (.aload_n 0, 1) := by decide +kernel
theorem d_Mo_window_88 : decode m_Mo_window.2.1 88 = .ok (.getfield 184, 3) := by decide +kernel
theorem d_Mo_window_91 : decode m_Mo_window.2.1 91 = .ok (.iconst 0, 1) := by decide +kernel
theorem d_Mo_window_92 : decode m_Mo_window.2.1 92 = .ok (.iastore, 1) := by decide +kernel
theorem d_Mo_window_93 : decode m_Mo_window.2.1 93 = .ok (.aload_n 0, 1) := by decide +kernel
theorem d_Mo_window_94 : decode m_Mo_window.2.1 94 = .ok (.getfield 82, 3) := by decide +kernel
theorem d_Mo_window_97 : decode m_Mo_window.2.1 97 = .ok (.aload_n 0, 1) := by decide +kernel
theorem d_Mo_window_98 : decode m_Mo_window.2.1 98 = .ok (.getfield 184, 3) := by decide +kernel
theorem d_Mo_window_101 : decode m_Mo_window.2.1 101 = .ok (.iconst 0, 1) := by decide +kernel
theorem d_Mo_window_102 : decode m_Mo_window.2.1 102 = .ok (.bastore, 1) := by decide +kernel
theorem d_Mo_window_103 : decode m_Mo_window.2.1 103 = .ok (.aload_n 0, 1) := by decide +kernel
theorem d_Mo_window_104 : decode m_Mo_window.2.1 104 = .ok (.dup, 1) := by decide +kernel
theorem d_Mo_window_105 : decode m_Mo_window.2.1 105 = .ok (.getfield 184, 3) := by decide +kernel
theorem d_Mo_window_108 : decode m_Mo_window.2.1 108 = .ok (.iconst 1, 1) := by decide +kernel
theorem d_Mo_window_109 : decode m_Mo_window.2.1 109 = .ok (.iadd, 1) := by decide +kernel
theorem d_Mo_window_110 : decode m_Mo_window.2.1 110 = .ok (.putfield 184, 3) := by decide +kernel
theorem d_Mo_window_113 : decode m_Mo_window.2.1 113 = .ok (.aload_n 0, 1) := by decide +kernel
theorem d_Mo_window_114 : decode m_Mo_window.2.1 114 = .ok (.getfield 184, 3) := by decide +kernel
theorem d_Mo_window_117 : decode m_Mo_window.2.1 117 = .ok (.iconst 1, 1) := by decide +kernel
theorem d_Mo_window_118 : decode m_Mo_window.2.1 118 = .ok (.isub, 1) := by decide +kernel
theorem d_Mo_window_119 : decode m_Mo_window.2.1 119 = .ok (.ireturn, 1) := by decide +kernel
theorem d_Mo_comes_0 : decode m_Mo_comes.2.1 0 = .ok (.aload_n 0, 1) := by decide +kernel
theorem d_Mo_comes_1 : decode m_Mo_comes.2.1 1 = .ok (.iconst 0, 1) := by decide +kernel
theorem d_Mo_comes_2 : decode m_Mo_comes.2.1 2 = .ok (.putfield 191, 3) := by decide +kernel
theorem d_Mo_comes_5 : decode m_Mo_comes.2.1 5 = .ok (.aload_n 0, 1) := by decide +kernel
theorem d_Mo_comes_6 : decode m_Mo_comes.2.1 6 = .ok (.getfield 29, 3) := by decide +kernel
theorem d_Mo_comes_9 : decode m_Mo_comes.2.1 9 = .ok (.iload_n 1, 1) := by decide +kernel
theorem d_Mo_comes_10 : decode m_Mo_comes.2.1 10 = .ok (.iaload, 1) := by decide +kernel
theorem d_Mo_comes_11 : decode m_Mo_comes.2.1 11 = .ok (.aload_n 0, 1) := by decide +kernel
theorem d_Mo_comes_12 : decode m_Mo_comes.2.1 12 = .ok (.getfield 16, 3) := by decide +kernel
theorem d_Mo_comes_15 : decode m_Mo_comes.2.1 15 = .ok (.idiv, 1) := by decide +kernel
theorem d_Mo_comes_16 : decode m_Mo_comes.2.1 16 = .ok (.aload_n 0, 1) := by decide +kernel
theorem d_Mo_comes_17 : decode m_Mo_comes.2.1 17 = .ok (.getfield 16, 3) := by decide +kernel
theorem d_Mo_comes_20 : decode m_Mo_comes.2.1 20 = .ok (.imul, 1) := by decide +kernel
theorem d_Mo_comes_21 : decode m_Mo_comes.2.1 21 = .ok (.istore_n 2, 1) := by decide +kernel
theorem d_Mo_comes_22 : decode m_Mo_comes.2.1 22 = .ok (.iload_n 2, 1) := by decide +kernel
theorem d_Mo_comes_23 : decode m_Mo_comes.2.1 23 = .ok (.istore_n 3, 1) := by decide +kernel
theorem d_Mo_comes_24 : decode m_Mo_comes.2.1 24 = .ok (.iload_n 3, 1) := by decide +kernel
theorem d_Mo_comes_25 : decode m_Mo_comes.2.1 25 = .ok (.aload_n 0, 1) := by decide +kernel
theorem d_Mo_comes_26 : decode m_Mo_comes.2.1 26 = .ok (.getfield 16, 3) := by decide +kernel
theorem d_Mo_comes_29 : decode m_Mo_comes.2.1 29 = .ok (.isub, 1) := by decide +kernel
theorem d_Mo_comes_30 : decode m_Mo_comes.2.1 30 = .ok (.ifCond .lt 33, 3) := by decide +kernel
theorem d_Mo_comes_33 : decode m_Mo_comes.2.1 33 = .ok (.iload_n 3, 1) := by decide +kernel
theorem d_Mo_comes_34 : decode m_Mo_comes.2.1 34 = .ok (.aload_n 0, 1) := by decide +kernel
theorem d_Mo_comes_35 : decode m_Mo_comes.2.1 35 = .ok (.getfield 16, 3) := by decide +kernel
theorem d_Mo_comes_38 : decode m_Mo_comes.2.1 38 = .ok (.isub, 1) := by decide +kernel
theorem d_Mo_comes_39 : decode m_Mo_comes.2.1 39 = .ok (.aload_n 0, 1) := by decide +kernel
theorem d_Mo_comes_40 : decode m_Mo_comes.2.1 40 = .ok (.getfield 13, 3) := by decide +kernel
theorem d_Mo_comes_43 : decode m_Mo_comes.2.1 43 = .ok (.iadd, 1) := by decide +kernel
theorem d_Mo_comes_44 : decode m_Mo_comes.2.1 44 = .ok (.aload_n 0, 1) := by decide +kernel
theorem d_Mo_comes_45 : decode m_Mo_comes.2.1 45 = .ok (.getfield 29, 3) := by decide +kernel
theorem d_Mo_comes_48 : decode m_Mo_comes.2.1 48 = .ok (.iload_n 1, 1) := by decide +kernel
theorem d_Mo_comes_49 : decode m_Mo_comes.2.1 49 = .ok (.iaload, 1) := by decide +kernel
theorem d_Mo_comes_50 : decode m_Mo_comes.2.1 50 = .ok (.if_icmp .le 13, 3) := by decide +kernel
theorem d_Mo_comes_53 : decode m_Mo_comes.2.1 53 = .ok (.iload_n 3, 1) := by decide +kernel
theorem d_Mo_comes_54 : decode m_Mo_comes.2.1 54 = .ok (.aload_n 0, 1) := by decide +kernel
theorem d_Mo_comes_55 : decode m_Mo_comes.2.1 55 = .ok (.getfield 16, 3) := by decide +kernel
theorem d_Mo_comes_58 : decode m_Mo_comes.2.1 58 = .ok (.isub, 1) := by decide +kernel
theorem d_Mo_comes_59 : decode m_Mo_comes.2.1 59 = .ok (.istore_n 3, 1) := by decide +kernel
theorem d_Mo_comes_60 : decode m_Mo_comes.2.1 60 = .ok (.goto (-36), 3) := by decide +kernel
theorem d_Mo_comes_63 : decode m_Mo_comes.2.1 63 = .ok (.iload_n 3, 1) := by decide +kernel
theorem d_Mo_comes_64 : decode m_Mo_comes.2.1 64 = .ok (.istore 4, 2) := by decide +kernel
theorem d_Mo_comes_66 : decode m_Mo_comes.2.1 66 = .ok (.iload 4, 2) := by decide +kernel
theorem d_Mo_comes_68 : decode m_Mo_comes.2.1 68 = .ok (.iload_n 2, 1) := by decide +kernel
theorem d_Mo_comes_69 : decode m_Mo_comes.2.1 69 = .ok (.if_icmp .gt 65, 3) := by decide +kernel
theorem d_Mo_comes_72 : decode m_Mo_comes.2.1 72 = .ok (.iload 4, 2) := by decide +kernel
theorem d_Mo_comes_74 : decode m_Mo_comes.2.1 74 = .ok (.aload_n 0, 1) := by decide +kernel
theorem d_Mo_comes_75 : decode m_Mo_comes.2.1 75 = .ok (.getfield 13, 3) := by decide +kernel
