theorem dX9_link_11 : decode cX9_link 11 = .ok (.getfield 50, 3) := by decide +kernel
theorem dX9_link_14 : decode cX9_link 14 = .ok (.iload_n 3, 1) := by decide +kernel
theorem dX9_link_15 : decode cX9_link 15 = .ok (.aload_n 0, 1) := by decide +kernel
theorem dX9_link_16 : decode cX9_link 16 = .ok (.getfield 56, 3) := by decide +kernel
theorem dX9_link_19 : decode cX9_link 19 = .ok (.imul, 1) := by decide +kernel
theorem dX9_link_20 : decode cX9_link 20 = .ok (.iadd, 1) := by decide +kernel
theorem dX9_link_21 : decode cX9_link 21 = .ok (.sipush 512, 3) := by decide +kernel
theorem dX9_link_24 : decode cX9_link 24 = .ok (.imul, 1) := by decide +kernel
theorem dX9_link_25 : decode cX9_link 25 = .ok (.iconst 4, 1) := by decide +kernel
theorem dX9_link_26 : decode cX9_link 26 = .ok (.iload_n 1, 1) := by decide +kernel
theorem dX9_link_27 : decode cX9_link 27 = .ok (.imul, 1) := by decide +kernel
theorem dX9_link_28 : decode cX9_link 28 = .ok (.iadd, 1) := by decide +kernel
theorem dX9_link_29 : decode cX9_link 29 = .ok (.istore 4, 2) := by decide +kernel
theorem dX9_link_31 : decode cX9_link 31 = .ok (.aload_n 0, 1) := by decide +kernel
theorem dX9_link_32 : decode cX9_link 32 = .ok (.getfield 15, 3) := by decide +kernel
theorem dX9_link_35 : decode cX9_link 35 = .ok (.iload 4, 2) := by decide +kernel
theorem dX9_link_37 : decode cX9_link 37 = .ok (.aload_n 0, 1) := by decide +kernel
theorem dX9_link_38 : decode cX9_link 38 = .ok (.getfield 15, 3) := by decide +kernel
theorem dX9_link_41 : decode cX9_link 41 = .ok (.iload 4, 2) := by decide +kernel
theorem dX9_link_43 : decode cX9_link 43 = .ok (.invokevirtual 25, 3) := by decide +kernel
theorem dX9_link_46 : decode cX9_link 46 = .ok (.ldc 107, 2) := by decide +kernel
theorem dX9_link_48 : decode cX9_link 48 = .ok (.iand, 1) := by decide +kernel
theorem dX9_link_49 : decode cX9_link 49 = .ok (.iload_n 2, 1) := by decide +kernel
theorem dX9_link_50 : decode cX9_link 50 = .ok (.ior, 1) := by decide +kernel
theorem dX9_link_51 : decode cX9_link 51 = .ok (.invokevirtual 79, 3) := by decide +kernel
theorem dX9_link_54 : decode cX9_link 54 = .ok (.iinc 3 1, 3) := by decide +kernel
theorem dX9_link_57 : decode cX9_link 57 = .ok (.goto (-55), 3) := by decide +kernel
theorem dX9_link_60 : decode cX9_link 60 = .ok (.return_, 1) := by decide +kernel
theorem dX9_tablesAsTold_0 : decode cX9_tablesAsTold 0 = .ok (.aload_n 0, 1) := by decide +kernel
theorem dX9_tablesAsTold_1 : decode cX9_tablesAsTold 1 = .ok (.iconst 0, 1) := by decide +kernel
theorem dX9_tablesAsTold_2 : decode cX9_tablesAsTold 2 = .ok (.invokevirtual 104, 3) := by decide +kernel
theorem dX9_tablesAsTold_5 : decode cX9_tablesAsTold 5 = .ok (.ldc 88, 2) := by decide +kernel
theorem dX9_tablesAsTold_7 : decode cX9_tablesAsTold 7 = .ok (.if_icmp .ne 13, 3) := by decide +kernel
theorem dX9_tablesAsTold_10 : decode cX9_tablesAsTold 10 = .ok (.aload_n 0, 1) := by decide +kernel
theorem dX9_tablesAsTold_11 : decode cX9_tablesAsTold 11 = .ok (.iconst 1, 1) := by decide +kernel
theorem dX9_tablesAsTold_12 : decode cX9_tablesAsTold 12 = .ok (.invokevirtual 104, 3) := by decide +kernel
theorem dX9_tablesAsTold_15 : decode cX9_tablesAsTold 15 = .ok (.ldc 92, 2) := by decide +kernel
theorem dX9_tablesAsTold_17 : decode cX9_tablesAsTold 17 = .ok (.if_icmp .eq 5, 3) := by decide +kernel
theorem dX9_tablesAsTold_20 : decode cX9_tablesAsTold 20 = .ok (.iconst 0, 1) := by decide +kernel
theorem dX9_tablesAsTold_21 : decode cX9_tablesAsTold 21 = .ok (.ireturn, 1) := by decide +kernel
theorem dX9_tablesAsTold_22 : decode cX9_tablesAsTold 22 = .ok (.iconst 0, 1) := by decide +kernel
theorem dX9_tablesAsTold_23 : decode cX9_tablesAsTold 23 = .ok (.istore_n 1, 1) := by decide +kernel
theorem dX9_tablesAsTold_24 : decode cX9_tablesAsTold 24 = .ok (.iload_n 1, 1) := by decide +kernel
theorem dX9_tablesAsTold_25 : decode cX9_tablesAsTold 25 = .ok (.aload_n 0, 1) := by decide +kernel
theorem dX9_tablesAsTold_26 : decode cX9_tablesAsTold 26 = .ok (.getfield 62, 3) := by decide +kernel
theorem dX9_tablesAsTold_29 : decode cX9_tablesAsTold 29 = .ok (.iconst 1, 1) := by decide +kernel
theorem dX9_tablesAsTold_30 : decode cX9_tablesAsTold 30 = .ok (.iadd, 1) := by decide +kernel
theorem dX9_tablesAsTold_31 : decode cX9_tablesAsTold 31 = .ok (.if_icmp .gt 86, 3) := by decide +kernel
theorem dX9_tablesAsTold_34 : decode cX9_tablesAsTold 34 = .ok (.aload_n 0, 1) := by decide +kernel
theorem dX9_tablesAsTold_35 : decode cX9_tablesAsTold 35 = .ok (.iload_n 1, 1) := by decide +kernel
theorem dX9_tablesAsTold_36 : decode cX9_tablesAsTold 36 = .ok (.invokevirtual 104, 3) := by decide +kernel
theorem dX9_tablesAsTold_39 : decode cX9_tablesAsTold 39 = .ok (.istore_n 2, 1) := by decide +kernel
theorem dX9_tablesAsTold_40 : decode cX9_tablesAsTold 40 = .ok (.iload_n 2, 1) := by decide +kernel
theorem dX9_tablesAsTold_41 : decode cX9_tablesAsTold 41 = .ok (.ifCond .eq 19, 3) := by decide +kernel
theorem dX9_tablesAsTold_44 : decode cX9_tablesAsTold 44 = .ok (.aload_n 0, 1) := by decide +kernel
theorem dX9_tablesAsTold_45 : decode cX9_tablesAsTold 45 = .ok (.iload_n 2, 1) := by decide +kernel
theorem dX9_tablesAsTold_46 : decode cX9_tablesAsTold 46 = .ok (.invokevirtual 100, 3) := by decide +kernel
theorem dX9_tablesAsTold_49 : decode cX9_tablesAsTold 49 = .ok (.ifCond .ne 11, 3) := by decide +kernel
theorem dX9_tablesAsTold_52 : decode cX9_tablesAsTold 52 = .ok (.iload_n 2, 1) := by decide +kernel
theorem dX9_tablesAsTold_53 : decode cX9_tablesAsTold 53 = .ok (.ldc 88, 2) := by decide +kernel
theorem dX9_tablesAsTold_55 : decode cX9_tablesAsTold 55 = .ok (.if_icmp .ge 5, 3) := by decide +kernel
theorem dX9_tablesAsTold_58 : decode cX9_tablesAsTold 58 = .ok (.iconst 0, 1) := by decide +kernel
theorem dX9_tablesAsTold_59 : decode cX9_tablesAsTold 59 = .ok (.ireturn, 1) := by decide +kernel
theorem dX9_tablesAsTold_60 : decode cX9_tablesAsTold 60 = .ok (.aload_n 0, 1) := by decide +kernel
theorem dX9_tablesAsTold_61 : decode cX9_tablesAsTold 61 = .ok (.getfield 50, 3) := by decide +kernel
theorem dX9_tablesAsTold_64 : decode cX9_tablesAsTold 64 = .ok (.sipush 512, 3) := by decide +kernel
theorem dX9_tablesAsTold_67 : decode cX9_tablesAsTold 67 = .ok (.imul, 1) := by decide +kernel
theorem dX9_tablesAsTold_68 : decode cX9_tablesAsTold 68 = .ok (.iconst 4, 1) := by decide +kernel
theorem dX9_tablesAsTold_69 : decode cX9_tablesAsTold 69 = .ok (.iload_n 1, 1) := by decide +kernel
theorem dX9_tablesAsTold_70 : decode cX9_tablesAsTold 70 = .ok (.imul, 1) := by decide +kernel
theorem dX9_tablesAsTold_71 : decode cX9_tablesAsTold 71 = .ok (.iadd, 1) := by decide +kernel
theorem dX9_tablesAsTold_72 : decode cX9_tablesAsTold 72 = .ok (.istore_n 3, 1) := by decide +kernel
theorem dX9_tablesAsTold_73 : decode cX9_tablesAsTold 73 = .ok (.aload_n 0, 1) := by decide +kernel
theorem dX9_tablesAsTold_74 : decode cX9_tablesAsTold 74 = .ok (.getfield 53, 3) := by decide +kernel
theorem dX9_tablesAsTold_77 : decode cX9_tablesAsTold 77 = .ok (.iconst 2, 1) := by decide +kernel
theorem dX9_tablesAsTold_78 : decode cX9_tablesAsTold 78 = .ok (.if_icmp .ne 33, 3) := by decide +kernel
theorem dX9_tablesAsTold_81 : decode cX9_tablesAsTold 81 = .ok (.aload_n 0, 1) := by decide +kernel
theorem dX9_tablesAsTold_82 : decode cX9_tablesAsTold 82 = .ok (.getfield 15, 3) := by decide +kernel
theorem dX9_tablesAsTold_85 : decode cX9_tablesAsTold 85 = .ok (.iload_n 3, 1) := by decide +kernel
theorem dX9_tablesAsTold_86 : decode cX9_tablesAsTold 86 = .ok (.invokevirtual 25, 3) := by decide +kernel
theorem dX9_tablesAsTold_89 : decode cX9_tablesAsTold 89 = .ok (.aload_n 0, 1) := by decide +kernel
theorem dX9_tablesAsTold_90 : decode cX9_tablesAsTold 90 = .ok (.getfield 15, 3) := by decide +kernel
theorem dX9_tablesAsTold_93 : decode cX9_tablesAsTold 93 = .ok (.iload_n 3, 1) := by decide +kernel
theorem dX9_tablesAsTold_94 : decode cX9_tablesAsTold 94 = .ok (.aload_n 0, 1) := by decide +kernel
theorem dX9_tablesAsTold_95 : decode cX9_tablesAsTold 95 = .ok (.getfield 56, 3) := by decide +kernel
theorem dX9_tablesAsTold_98 : decode cX9_tablesAsTold 98 = .ok (.sipush 512, 3) := by decide +kernel
theorem dX9_tablesAsTold_101 : decode cX9_tablesAsTold 101 = .ok (.imul, 1) := by decide +kernel
theorem dX9_tablesAsTold_102 : decode cX9_tablesAsTold 102 = .ok (.iadd, 1) := by decide +kernel
theorem dX9_tablesAsTold_103 : decode cX9_tablesAsTold 103 = .ok (.invokevirtual 25, 3) := by decide +kernel
theorem dX9_tablesAsTold_106 : decode cX9_tablesAsTold 106 = .ok (.if_icmp .eq 5, 3) := by decide +kernel
theorem dX9_tablesAsTold_109 : decode cX9_tablesAsTold 109 = .ok (.iconst 0, 1) := by decide +kernel
theorem dX9_tablesAsTold_110 : decode cX9_tablesAsTold 110 = .ok (.ireturn, 1) := by decide +kernel
theorem dX9_tablesAsTold_111 : decode cX9_tablesAsTold 111 = .ok (.iinc 1 1, 3) := by decide +kernel
theorem dX9_tablesAsTold_114 : decode cX9_tablesAsTold 114 = .ok (.goto (-90), 3) := by decide +kernel
theorem dX9_tablesAsTold_117 : decode cX9_tablesAsTold 117 = .ok (.iconst 1, 1) := by decide +kernel
theorem dX9_tablesAsTold_118 : decode cX9_tablesAsTold 118 = .ok (.ireturn, 1) := by decide +kernel
theorem dX9_freeClusters_0 : decode cX9_freeClusters 0 = .ok (.iconst 0, 1) := by decide +kernel
theorem dX9_freeClusters_1 : decode cX9_freeClusters 1 = .ok (.istore_n 1, 1) := by decide +kernel
theorem dX9_freeClusters_2 : decode cX9_freeClusters 2 = .ok (.iconst 2, 1) := by decide +kernel
theorem dX9_freeClusters_3 : decode cX9_freeClusters 3 = .ok (.istore_n 2, 1) := by decide +kernel
theorem dX9_freeClusters_4 : decode cX9_freeClusters 4 = .ok (.iload_n 2, 1) := by decide +kernel
theorem dX9_freeClusters_5 : decode cX9_freeClusters 5 = .ok (.aload_n 0, 1) := by decide +kernel
theorem dX9_freeClusters_6 : decode cX9_freeClusters 6 = .ok (.getfield 62, 3) := by decide +kernel
theorem dX9_freeClusters_9 : decode cX9_freeClusters 9 = .ok (.iconst 1, 1) := by decide +kernel
theorem dX9_freeClusters_10 : decode cX9_freeClusters 10 = .ok (.iadd, 1) := by decide +kernel
theorem dX9_freeClusters_11 : decode cX9_freeClusters 11 = .ok (.if_icmp .gt 20, 3) := by decide +kernel
theorem dX9_freeClusters_14 : decode cX9_freeClusters 14 = .ok (.aload_n 0, 1) := by decide +kernel
theorem dX9_freeClusters_15 : decode cX9_freeClusters 15 = .ok (.iload_n 2, 1) := by decide +kernel
theorem dX9_freeClusters_16 : decode cX9_freeClusters 16 = .ok (.invokevirtual 104, 3) := by decide +kernel
theorem dX9_freeClusters_19 : decode cX9_freeClusters 19 = .ok (.ifCond .ne 6, 3) := by decide +kernel
theorem dX9_freeClusters_22 : decode cX9_freeClusters 22 = .ok (.iinc 1 1, 3) := by decide +kernel
theorem dX9_freeClusters_25 : decode cX9_freeClusters 25 = .ok (.iinc 2 1, 3) := by decide +kernel
theorem dX9_freeClusters_28 : decode cX9_freeClusters 28 = .ok (.goto (-24), 3) := by decide +kernel
theorem dX9_freeClusters_31 : decode cX9_freeClusters 31 = .ok (.iload_n 1, 1) := by decide +kernel
theorem dX9_freeClusters_32 : decode cX9_freeClusters 32 = .ok (.ireturn, 1) := by decide +kernel
theorem dX9_claimLowest_0 : decode cX9_claimLowest 0 = .ok (.iconst 2, 1) := by decide +kernel
theorem dX9_claimLowest_1 : decode cX9_claimLowest 1 = .ok (.istore_n 1, 1) := by decide +kernel
theorem dX9_claimLowest_2 : decode cX9_claimLowest 2 = .ok (.iload_n 1, 1) := by decide +kernel
theorem dX9_claimLowest_3 : decode cX9_claimLowest 3 = .ok (.aload_n 0, 1) := by decide +kernel
theorem dX9_claimLowest_4 : decode cX9_claimLowest 4 = .ok (.getfield 62, 3) := by decide +kernel
theorem dX9_claimLowest_7 : decode cX9_claimLowest 7 = .ok (.iconst 1, 1) := by decide +kernel
theorem dX9_claimLowest_8 : decode cX9_claimLowest 8 = .ok (.iadd, 1) := by decide +kernel
theorem dX9_claimLowest_9 : decode cX9_claimLowest 9 = .ok (.if_icmp .gt 68, 3) := by decide +kernel
theorem dX9_claimLowest_12 : decode cX9_claimLowest 12 = .ok (.aload_n 0, 1) := by decide +kernel
theorem dX9_claimLowest_13 : decode cX9_claimLowest 13 = .ok (.iload_n 1, 1) := by decide +kernel
theorem dX9_claimLowest_14 : decode cX9_claimLowest 14 = .ok (.invokevirtual 104, 3) := by decide +kernel
theorem dX9_claimLowest_17 : decode cX9_claimLowest 17 = .ok (.ifCond .ne 54, 3) := by decide +kernel
theorem dX9_claimLowest_20 : decode cX9_claimLowest 20 = .ok (.aload_n 0, 1) := by decide +kernel
theorem dX9_claimLowest_21 : decode cX9_claimLowest 21 = .ok (.iload_n 1, 1) := by decide +kernel
theorem dX9_claimLowest_22 : decode cX9_claimLowest 22 = .ok (.ldc 92, 2) := by decide +kernel
theorem dX9_claimLowest_24 : decode cX9_claimLowest 24 = .ok (.invokevirtual 89, 3) := by decide +kernel
theorem dX9_claimLowest_27 : decode cX9_claimLowest 27 = .ok (.aload_n 0, 1) := by decide +kernel
theorem dX9_claimLowest_28 : decode cX9_claimLowest 28 = .ok (.getfield 59, 3) := by decide +kernel
theorem dX9_claimLowest_31 : decode cX9_claimLowest 31 = .ok (.iload_n 1, 1) := by decide +kernel
theorem dX9_claimLowest_32 : decode cX9_claimLowest 32 = .ok (.iconst 2, 1) := by decide +kernel
theorem dX9_claimLowest_33 : decode cX9_claimLowest 33 = .ok (.isub, 1) := by decide +kernel
theorem dX9_claimLowest_34 : decode cX9_claimLowest 34 = .ok (.aload_n 0, 1) := by decide +kernel
theorem dX9_claimLowest_35 : decode cX9_claimLowest 35 = .ok (.getfield 9, 3) := by decide +kernel
theorem dX9_claimLowest_38 : decode cX9_claimLowest 38 = .ok (.ishl, 1) := by decide +kernel
theorem dX9_claimLowest_39 : decode cX9_claimLowest 39 = .ok (.iadd, 1) := by decide +kernel
theorem dX9_claimLowest_40 : decode cX9_claimLowest 40 = .ok (.istore_n 2, 1) := by decide +kernel
theorem dX9_claimLowest_41 : decode cX9_claimLowest 41 = .ok (.iconst 0, 1) := by decide +kernel
theorem dX9_claimLowest_42 : decode cX9_claimLowest 42 = .ok (.istore_n 3, 1) := by decide +kernel
theorem dX9_claimLowest_43 : decode cX9_claimLowest 43 = .ok (.iload_n 3, 1) := by decide +kernel
theorem dX9_claimLowest_44 : decode cX9_claimLowest 44 = .ok (.iconst 1, 1) := by decide +kernel
theorem dX9_claimLowest_45 : decode cX9_claimLowest 45 = .ok (.aload_n 0, 1) := by decide +kernel
theorem dX9_claimLowest_46 : decode cX9_claimLowest 46 = .ok (.getfield 9, 3) := by decide +kernel
theorem dX9_claimLowest_49 : decode cX9_claimLowest 49 = .ok (.ishl, 1) := by decide +kernel
theorem dX9_claimLowest_50 : decode cX9_claimLowest 50 = .ok (.if_icmp .ge 19, 3) := by decide +kernel
theorem dX9_claimLowest_53 : decode cX9_claimLowest 53 = .ok (.aload_n 0, 1) := by decide +kernel
theorem dX9_claimLowest_54 : decode cX9_claimLowest 54 = .ok (.getfield 15, 3) := by decide +kernel
theorem dX9_claimLowest_57 : decode cX9_claimLowest 57 = .ok (.iload_n 2, 1) := by decide +kernel
theorem dX9_claimLowest_58 : decode cX9_claimLowest 58 = .ok (.iload_n 3, 1) := by decide +kernel
theorem dX9_claimLowest_59 : decode cX9_claimLowest 59 = .ok (.iadd, 1) := by decide +kernel
theorem dX9_claimLowest_60 : decode cX9_claimLowest 60 = .ok (.invokevirtual 108, 3) := by decide +kernel
theorem dX9_claimLowest_63 : decode cX9_claimLowest 63 = .ok (.iinc 3 1, 3) := by decide +kernel
theorem dX9_claimLowest_66 : decode cX9_claimLowest 66 = .ok (.goto (-23), 3) := by decide +kernel
theorem dX9_claimLowest_69 : decode cX9_claimLowest 69 = .ok (.iload_n 1, 1) := by decide +kernel
theorem dX9_claimLowest_70 : decode cX9_claimLowest 70 = .ok (.ireturn, 1) := by decide +kernel
theorem dX9_claimLowest_71 : decode cX9_claimLowest 71 = .ok (.iinc 1 1, 3) := by decide +kernel
theorem dX9_claimLowest_74 : decode cX9_claimLowest 74 = .ok (.goto (-72), 3) := by decide +kernel
theorem dX9_claimLowest_77 : decode cX9_claimLowest 77 = .ok (.iconst 0, 1) := by decide +kernel
theorem dX9_claimLowest_78 : decode cX9_claimLowest 78 = .ok (.ireturn, 1) := by decide +kernel
theorem dX9_later_0 : decode cX9_later 0 = .ok (.iload_n 1, 1) := by decide +kernel
theorem dX9_later_1 : decode cX9_later 1 = .ok (.istore_n 3, 1) := by decide +kernel
theorem dX9_later_2 : decode cX9_later 2 = .ok (.iconst 0, 1) := by decide +kernel
theorem dX9_later_3 : decode cX9_later 3 = .ok (.istore 4, 2) := by decide +kernel
theorem dX9_later_5 : decode cX9_later 5 = .ok (.iload 4, 2) := by decide +kernel
theorem dX9_later_7 : decode cX9_later 7 = .ok (.iload_n 2, 1) := by decide +kernel
theorem dX9_later_8 : decode cX9_later 8 = .ok (.if_icmp .ge 23, 3) := by decide +kernel
theorem dX9_later_11 : decode cX9_later 11 = .ok (.aload_n 0, 1) := by decide +kernel
theorem dX9_later_12 : decode cX9_later 12 = .ok (.iload_n 3, 1) := by decide +kernel
theorem dX9_later_13 : decode cX9_later 13 = .ok (.invokevirtual 100, 3) := by decide +kernel
theorem dX9_later_16 : decode cX9_later 16 = .ok (.ifCond .eq 15, 3) := by decide +kernel
theorem dX9_later_19 : decode cX9_later 19 = .ok (.aload_n 0, 1) := by decide +kernel
theorem dX9_later_20 : decode cX9_later 20 = .ok (.iload_n 3, 1) := by decide +kernel
theorem dX9_later_21 : decode cX9_later 21 = .ok (.invokevirtual 104, 3) := by decide +kernel
theorem dX9_later_24 : decode cX9_later 24 = .ok (.istore_n 3, 1) := by decide +kernel
theorem dX9_later_25 : decode cX9_later 25 = .ok (.iinc 4 1, 3) := by decide +kernel
theorem dX9_later_28 : decode cX9_later 28 = .ok (.goto (-23), 3) := by decide +kernel
theorem dX9_later_31 : decode cX9_later 31 = .ok (.iload_n 3, 1) := by decide +kernel
theorem dX9_later_32 : decode cX9_later 32 = .ok (.ireturn, 1) := by decide +kernel
theorem dX9_last_0 : decode cX9_last 0 = .ok (.iconst 0, 1) := by decide +kernel
theorem dX9_last_1 : decode cX9_last 1 = .ok (.istore_n 2, 1) := by decide +kernel
theorem dX9_last_2 : decode cX9_last 2 = .ok (.iload_n 1, 1) := by decide +kernel
theorem dX9_last_3 : decode cX9_last 3 = .ok (.istore_n 3, 1) := by decide +kernel
theorem dX9_last_4 : decode cX9_last 4 = .ok (.iconst 0, 1) := by decide +kernel
theorem dX9_last_5 : decode cX9_last 5 = .ok (.istore 4, 2) := by decide +kernel
theorem dX9_last_7 : decode cX9_last 7 = .ok (.iload 4, 2) := by decide +kernel
theorem dX9_last_9 : decode cX9_last 9 = .ok (.aload_n 0, 1) := by decide +kernel
theorem dX9_last_10 : decode cX9_last 10 = .ok (.getfield 62, 3) := by decide +kernel
theorem dX9_last_13 : decode cX9_last 13 = .ok (.if_icmp .ge 25, 3) := by decide +kernel
theorem dX9_last_16 : decode cX9_last 16 = .ok (.aload_n 0, 1) := by decide +kernel
theorem dX9_last_17 : decode cX9_last 17 = .ok (.iload_n 3, 1) := by decide +kernel
theorem dX9_last_18 : decode cX9_last 18 = .ok (.invokevirtual 100, 3) := by decide +kernel
theorem dX9_last_21 : decode cX9_last 21 = .ok (.ifCond .eq 17, 3) := by decide +kernel
theorem dX9_last_24 : decode cX9_last 24 = .ok (.iload_n 3, 1) := by decide +kernel
theorem dX9_last_25 : decode cX9_last 25 = .ok (.istore_n 2, 1) := by decide +kernel
theorem dX9_last_26 : decode cX9_last 26 = .ok (.aload_n 0, 1) := by decide +kernel
theorem dX9_last_27 : decode cX9_last 27 = .ok (.iload_n 3, 1) := by decide +kernel
theorem dX9_last_28 : decode cX9_last 28 = .ok (.invokevirtual 104, 3) := by decide +kernel
theorem dX9_last_31 : decode cX9_last 31 = .ok (.istore_n 3, 1) := by decide +kernel
theorem dX9_last_32 : decode cX9_last 32 = .ok (.iinc 4 1, 3) := by decide +kernel
theorem dX9_last_35 : decode cX9_last 35 = .ok (.goto (-28), 3) := by decide +kernel
theorem dX9_last_38 : decode cX9_last 38 = .ok (.iload_n 2, 1) := by decide +kernel
theorem dX9_last_39 : decode cX9_last 39 = .ok (.ireturn, 1) := by decide +kernel
theorem dX9_release_0 : decode cX9_release 0 = .ok (.iload_n 1, 1) := by decide +kernel
theorem dX9_release_1 : decode cX9_release 1 = .ok (.istore_n 2, 1) := by decide +kernel
theorem dX9_release_2 : decode cX9_release 2 = .ok (.iconst 0, 1) := by decide +kernel
theorem dX9_release_3 : decode cX9_release 3 = .ok (.istore_n 3, 1) := by decide +kernel
theorem dX9_release_4 : decode cX9_release 4 = .ok (.iload_n 3, 1) := by decide +kernel
theorem dX9_release_5 : decode cX9_release 5 = .ok (.aload_n 0, 1) := by decide +kernel
theorem dX9_release_6 : decode cX9_release 6 = .ok (.getfield 62, 3) := by decide +kernel
theorem dX9_release_9 : decode cX9_release 9 = .ok (.if_icmp .ge 33, 3) := by decide +kernel
theorem dX9_release_12 : decode cX9_release 12 = .ok (.aload_n 0, 1) := by decide +kernel
theorem dX9_release_13 : decode cX9_release 13 = .ok (.iload_n 2, 1) := by decide +kernel
theorem dX9_release_14 : decode cX9_release 14 = .ok (.invokevirtual 100, 3) := by decide +kernel
theorem dX9_release_17 : decode cX9_release 17 = .ok (.ifCond .eq 25, 3) := by decide +kernel
theorem dX9_release_20 : decode cX9_release 20 = .ok (.aload_n 0, 1) := by decide +kernel
theorem dX9_release_21 : decode cX9_release 21 = .ok (.iload_n 2, 1) := by decide +kernel
theorem dX9_release_22 : decode cX9_release 22 = .ok (.invokevirtual 104, 3) := by decide +kernel
theorem dX9_release_25 : decode cX9_release 25 = .ok (.istore 4, 2) := by decide +kernel
theorem dX9_release_27 : decode cX9_release 27 = .ok (.aload_n 0, 1) := by decide +kernel
theorem dX9_release_28 : decode cX9_release 28 = .ok (.iload_n 2, 1) := by decide +kernel
theorem dX9_release_29 : decode cX9_release 29 = .ok (.iconst 0, 1) := by decide +kernel
theorem dX9_release_30 : decode cX9_release 30 = .ok (.invokevirtual 89, 3) := by decide +kernel
theorem dX9_release_33 : decode cX9_release 33 = .ok (.iload 4, 2) := by decide +kernel
theorem dX9_release_35 : decode cX9_release 35 = .ok (.istore_n 2, 1) := by decide +kernel
theorem dX9_release_36 : decode cX9_release 36 = .ok (.iinc 3 1, 3) := by decide +kernel
theorem dX9_release_39 : decode cX9_release 39 = .ok (.goto (-35), 3) := by decide +kernel
theorem dX9_release_42 : decode cX9_release 42 = .ok (.return_, 1) := by decide +kernel
