/-! Decode rows of the reference and the law's helpers. Written by wip/gen/names.py. -/
theorem d_Model_init_0 : decode b_Model_init 0 = .ok (.aload_n 0, 1) := by decide +kernel
theorem d_Model_init_1 : decode b_Model_init 1 = .ok (.invokespecial 1, 3) := by decide +kernel
theorem d_Model_init_4 : decode b_Model_init 4 = .ok (.aload_n 0, 1) := by decide +kernel
theorem d_Model_init_5 : decode b_Model_init 5 = .ok (.sipush 8192, 3) := by decide +kernel
theorem d_Model_init_8 : decode b_Model_init 8 = .ok (.newarray .byte, 2) := by decide +kernel
theorem d_Model_init_10 : decode b_Model_init 10 = .ok (.putfield 7, 3) := by decide +kernel
theorem d_Model_init_13 : decode b_Model_init 13 = .ok (.aload_n 0, 1) := by decide +kernel
theorem d_Model_init_14 : decode b_Model_init 14 = .ok (.sipush 8192, 3) := by decide +kernel
theorem d_Model_init_17 : decode b_Model_init 17 = .ok (.newarray .byte, 2) := by decide +kernel
theorem d_Model_init_19 : decode b_Model_init 19 = .ok (.putfield 13, 3) := by decide +kernel
theorem d_Model_init_22 : decode b_Model_init 22 = .ok (.aload_n 0, 1) := by decide +kernel
theorem d_Model_init_23 : decode b_Model_init 23 = .ok (.sipush 128, 3) := by decide +kernel
theorem d_Model_init_26 : decode b_Model_init 26 = .ok (.newarray .int, 2) := by decide +kernel
theorem d_Model_init_28 : decode b_Model_init 28 = .ok (.putfield 16, 3) := by decide +kernel
theorem d_Model_init_31 : decode b_Model_init 31 = .ok (.aload_n 0, 1) := by decide +kernel
theorem d_Model_init_32 : decode b_Model_init 32 = .ok (.iconst (-1), 1) := by decide +kernel
theorem d_Model_init_33 : decode b_Model_init 33 = .ok (.putfield 20, 3) := by decide +kernel
theorem d_Model_init_36 : decode b_Model_init 36 = .ok (.aload_n 0, 1) := by decide +kernel
theorem d_Model_init_37 : decode b_Model_init 37 = .ok (.bipush 8, 2) := by decide +kernel
theorem d_Model_init_39 : decode b_Model_init 39 = .ok (.newarray .byte, 2) := by decide +kernel
theorem d_Model_init_41 : decode b_Model_init 41 = .ok (.putfield 24, 3) := by decide +kernel
theorem d_Model_init_44 : decode b_Model_init 44 = .ok (.aload_n 0, 1) := by decide +kernel
theorem d_Model_init_45 : decode b_Model_init 45 = .ok (.bipush 64, 2) := by decide +kernel
theorem d_Model_init_47 : decode b_Model_init 47 = .ok (.newarray .byte, 2) := by decide +kernel
theorem d_Model_init_49 : decode b_Model_init 49 = .ok (.putfield 27, 3) := by decide +kernel
theorem d_Model_init_52 : decode b_Model_init 52 = .ok (.aload_n 0, 1) := by decide +kernel
theorem d_Model_init_53 : decode b_Model_init 53 = .ok (.getfield 7, 3) := by decide +kernel
theorem d_Model_init_56 : decode b_Model_init 56 = .ok (.sipush 1088, 3) := by decide +kernel
theorem d_Model_init_59 : decode b_Model_init 59 = .ok (.iconst 2, 1) := by decide +kernel
theorem d_Model_init_60 : decode b_Model_init 60 = .ok (.bastore, 1) := by decide +kernel
theorem d_Model_init_61 : decode b_Model_init 61 = .ok (.aload_n 0, 1) := by decide +kernel
theorem d_Model_init_62 : decode b_Model_init 62 = .ok (.getfield 7, 3) := by decide +kernel
theorem d_Model_init_65 : decode b_Model_init 65 = .ok (.sipush 1089, 3) := by decide +kernel
theorem d_Model_init_68 : decode b_Model_init 68 = .ok (.iconst 1, 1) := by decide +kernel
theorem d_Model_init_69 : decode b_Model_init 69 = .ok (.bastore, 1) := by decide +kernel
theorem d_Model_init_70 : decode b_Model_init 70 = .ok (.iconst 0, 1) := by decide +kernel
theorem d_Model_init_71 : decode b_Model_init 71 = .ok (.istore_n 1, 1) := by decide +kernel
theorem d_Model_init_72 : decode b_Model_init 72 = .ok (.iload_n 1, 1) := by decide +kernel
theorem d_Model_init_73 : decode b_Model_init 73 = .ok (.bipush 26, 2) := by decide +kernel
theorem d_Model_init_75 : decode b_Model_init 75 = .ok (.if_icmp .ge 32, 3) := by decide +kernel
theorem d_Model_init_78 : decode b_Model_init 78 = .ok (.aload_n 0, 1) := by decide +kernel
theorem d_Model_init_79 : decode b_Model_init 79 = .ok (.getfield 7, 3) := by decide +kernel
theorem d_Model_init_82 : decode b_Model_init 82 = .ok (.sipush 1600, 3) := by decide +kernel
theorem d_Model_init_85 : decode b_Model_init 85 = .ok (.iload_n 1, 1) := by decide +kernel
theorem d_Model_init_86 : decode b_Model_init 86 = .ok (.bipush 8, 2) := by decide +kernel
theorem d_Model_init_88 : decode b_Model_init 88 = .ok (.idiv, 1) := by decide +kernel
theorem d_Model_init_89 : decode b_Model_init 89 = .ok (.iadd, 1) := by decide +kernel
theorem d_Model_init_90 : decode b_Model_init 90 = .ok (.dup2, 1) := by decide +kernel
theorem d_Model_init_91 : decode b_Model_init 91 = .ok (.baload, 1) := by decide +kernel
theorem d_Model_init_92 : decode b_Model_init 92 = .ok (.iconst 1, 1) := by decide +kernel
theorem d_Model_init_93 : decode b_Model_init 93 = .ok (.iload_n 1, 1) := by decide +kernel
theorem d_Model_init_94 : decode b_Model_init 94 = .ok (.bipush 8, 2) := by decide +kernel
theorem d_Model_init_96 : decode b_Model_init 96 = .ok (.irem, 1) := by decide +kernel
theorem d_Model_init_97 : decode b_Model_init 97 = .ok (.ishl, 1) := by decide +kernel
theorem d_Model_init_98 : decode b_Model_init 98 = .ok (.ior, 1) := by decide +kernel
theorem d_Model_init_99 : decode b_Model_init 99 = .ok (.i2b, 1) := by decide +kernel
theorem d_Model_init_100 : decode b_Model_init 100 = .ok (.bastore, 1) := by decide +kernel
theorem d_Model_init_101 : decode b_Model_init 101 = .ok (.iinc 1 1, 3) := by decide +kernel
theorem d_Model_init_104 : decode b_Model_init 104 = .ok (.goto (-32), 3) := by decide +kernel
theorem d_Model_init_107 : decode b_Model_init 107 = .ok (.aload_n 0, 1) := by decide +kernel
theorem d_Model_init_108 : decode b_Model_init 108 = .ok (.invokevirtual 30, 3) := by decide +kernel
theorem d_Model_init_111 : decode b_Model_init 111 = .ok (.return_, 1) := by decide +kernel
theorem d_Model_load_0 : decode b_Model_load 0 = .ok (.iconst 0, 1) := by decide +kernel
theorem d_Model_load_1 : decode b_Model_load 1 = .ok (.istore_n 1, 1) := by decide +kernel
theorem d_Model_load_2 : decode b_Model_load 2 = .ok (.iload_n 1, 1) := by decide +kernel
theorem d_Model_load_3 : decode b_Model_load 3 = .ok (.sipush 8192, 3) := by decide +kernel
theorem d_Model_load_6 : decode b_Model_load 6 = .ok (.if_icmp .ge 21, 3) := by decide +kernel
theorem d_Model_load_9 : decode b_Model_load 9 = .ok (.aload_n 0, 1) := by decide +kernel
theorem d_Model_load_10 : decode b_Model_load 10 = .ok (.getfield 13, 3) := by decide +kernel
theorem d_Model_load_13 : decode b_Model_load 13 = .ok (.iload_n 1, 1) := by decide +kernel
theorem d_Model_load_14 : decode b_Model_load 14 = .ok (.aload_n 0, 1) := by decide +kernel
theorem d_Model_load_15 : decode b_Model_load 15 = .ok (.getfield 7, 3) := by decide +kernel
theorem d_Model_load_18 : decode b_Model_load 18 = .ok (.iload_n 1, 1) := by decide +kernel
theorem d_Model_load_19 : decode b_Model_load 19 = .ok (.baload, 1) := by decide +kernel
theorem d_Model_load_20 : decode b_Model_load 20 = .ok (.bastore, 1) := by decide +kernel
theorem d_Model_load_21 : decode b_Model_load 21 = .ok (.iinc 1 1, 3) := by decide +kernel
theorem d_Model_load_24 : decode b_Model_load 24 = .ok (.goto (-22), 3) := by decide +kernel
theorem d_Model_load_27 : decode b_Model_load 27 = .ok (.aload_n 0, 1) := by decide +kernel
theorem d_Model_load_28 : decode b_Model_load 28 = .ok (.iconst 0, 1) := by decide +kernel
theorem d_Model_load_29 : decode b_Model_load 29 = .ok (.putfield 36, 3) := by decide +kernel
theorem d_Model_load_32 : decode b_Model_load 32 = .ok (.return_, 1) := by decide +kernel
theorem d_Model_thrown_0 : decode b_Model_thrown 0 = .ok (.aload_n 0, 1) := by decide +kernel
theorem d_Model_thrown_1 : decode b_Model_thrown 1 = .ok (.getfield 33, 3) := by decide +kernel
theorem d_Model_thrown_4 : decode b_Model_thrown 4 = .ok (.ireturn, 1) := by decide +kernel
theorem d_Model_sync_0 : decode b_Model_sync 0 = .ok (.aload_n 0, 1) := by decide +kernel
theorem d_Model_sync_1 : decode b_Model_sync 1 = .ok (.invokevirtual 100, 3) := by decide +kernel
theorem d_Model_sync_4 : decode b_Model_sync 4 = .ok (.ifCond .eq 5, 3) := by decide +kernel
theorem d_Model_sync_7 : decode b_Model_sync 7 = .ok (.iconst 0, 1) := by decide +kernel
theorem d_Model_sync_8 : decode b_Model_sync 8 = .ok (.ireturn, 1) := by decide +kernel
theorem d_Model_sync_9 : decode b_Model_sync 9 = .ok (.aload_n 0, 1) := by decide +kernel
theorem d_Model_sync_10 : decode b_Model_sync 10 = .ok (.getfield 81, 3) := by decide +kernel
theorem d_Model_sync_13 : decode b_Model_sync 13 = .ok (.istore_n 1, 1) := by decide +kernel
theorem d_Model_sync_14 : decode b_Model_sync 14 = .ok (.aload_n 0, 1) := by decide +kernel
theorem d_Model_sync_15 : decode b_Model_sync 15 = .ok (.aload_n 0, 1) := by decide +kernel
theorem d_Model_sync_16 : decode b_Model_sync 16 = .ok (.invokevirtual 96, 3) := by decide +kernel
theorem d_Model_sync_19 : decode b_Model_sync 19 = .ok (.ifCond .eq 7, 3) := by decide +kernel
theorem d_Model_sync_22 : decode b_Model_sync 22 = .ok (.iconst 0, 1) := by decide +kernel
theorem d_Model_sync_23 : decode b_Model_sync 23 = .ok (.goto 4, 3) := by decide +kernel
theorem d_Model_sync_26 : decode b_Model_sync 26 = .ok (.iconst 2, 1) := by decide +kernel
theorem d_Model_sync_27 : decode b_Model_sync 27 = .ok (.putfield 33, 3) := by decide +kernel
theorem d_Model_sync_30 : decode b_Model_sync 30 = .ok (.aload_n 0, 1) := by decide +kernel
theorem d_Model_sync_31 : decode b_Model_sync 31 = .ok (.getfield 33, 3) := by decide +kernel
theorem d_Model_sync_34 : decode b_Model_sync 34 = .ok (.ifCond .le 7, 3) := by decide +kernel
theorem d_Model_sync_37 : decode b_Model_sync 37 = .ok (.iconst 0, 1) := by decide +kernel
theorem d_Model_sync_38 : decode b_Model_sync 38 = .ok (.goto 9, 3) := by decide +kernel
theorem d_Model_sync_41 : decode b_Model_sync 41 = .ok (.aload_n 0, 1) := by decide +kernel
theorem d_Model_sync_42 : decode b_Model_sync 42 = .ok (.getfield 81, 3) := by decide +kernel
theorem d_Model_sync_45 : decode b_Model_sync 45 = .ok (.iload_n 1, 1) := by decide +kernel
theorem d_Model_sync_46 : decode b_Model_sync 46 = .ok (.isub, 1) := by decide +kernel
theorem d_Model_sync_47 : decode b_Model_sync 47 = .ok (.ireturn, 1) := by decide +kernel
theorem d_Model_dead_0 : decode b_Model_dead 0 = .ok (.aload_n 0, 1) := by decide +kernel
theorem d_Model_dead_1 : decode b_Model_dead 1 = .ok (.aload_n 0, 1) := by decide +kernel
theorem d_Model_dead_2 : decode b_Model_dead 2 = .ok (.getfield 78, 3) := by decide +kernel
theorem d_Model_dead_5 : decode b_Model_dead 5 = .ok (.ifCond .eq 7, 3) := by decide +kernel
theorem d_Model_dead_8 : decode b_Model_dead 8 = .ok (.iconst 1, 1) := by decide +kernel
theorem d_Model_dead_9 : decode b_Model_dead 9 = .ok (.goto 4, 3) := by decide +kernel
theorem d_Model_dead_12 : decode b_Model_dead 12 = .ok (.iconst 0, 1) := by decide +kernel
theorem d_Model_dead_13 : decode b_Model_dead 13 = .ok (.putfield 33, 3) := by decide +kernel
theorem d_Model_dead_16 : decode b_Model_dead 16 = .ok (.aload_n 0, 1) := by decide +kernel
theorem d_Model_dead_17 : decode b_Model_dead 17 = .ok (.getfield 78, 3) := by decide +kernel
theorem d_Model_dead_20 : decode b_Model_dead 20 = .ok (.ireturn, 1) := by decide +kernel
theorem d_Model_commit_0 : decode b_Model_commit 0 = .ok (.aload_n 0, 1) := by decide +kernel
theorem d_Model_commit_1 : decode b_Model_commit 1 = .ok (.getfield 36, 3) := by decide +kernel
theorem d_Model_commit_4 : decode b_Model_commit 4 = .ok (.ifCond .ne 5, 3) := by decide +kernel
theorem d_Model_commit_7 : decode b_Model_commit 7 = .ok (.iconst 1, 1) := by decide +kernel
theorem d_Model_commit_8 : decode b_Model_commit 8 = .ok (.ireturn, 1) := by decide +kernel
theorem d_Model_commit_9 : decode b_Model_commit 9 = .ok (.aload_n 0, 1) := by decide +kernel
theorem d_Model_commit_10 : decode b_Model_commit 10 = .ok (.getfield 36, 3) := by decide +kernel
theorem d_Model_commit_13 : decode b_Model_commit 13 = .ok (.istore_n 1, 1) := by decide +kernel
theorem d_Model_commit_14 : decode b_Model_commit 14 = .ok (.aload_n 0, 1) := by decide +kernel
theorem d_Model_commit_15 : decode b_Model_commit 15 = .ok (.dup, 1) := by decide +kernel
theorem d_Model_commit_16 : decode b_Model_commit 16 = .ok (.getfield 84, 3) := by decide +kernel
theorem d_Model_commit_19 : decode b_Model_commit 19 = .ok (.iconst 1, 1) := by decide +kernel
theorem d_Model_commit_20 : decode b_Model_commit 20 = .ok (.iadd, 1) := by decide +kernel
theorem d_Model_commit_21 : decode b_Model_commit 21 = .ok (.putfield 84, 3) := by decide +kernel
theorem d_Model_commit_24 : decode b_Model_commit 24 = .ok (.aload_n 0, 1) := by decide +kernel
theorem d_Model_commit_25 : decode b_Model_commit 25 = .ok (.iconst 0, 1) := by decide +kernel
theorem d_Model_commit_26 : decode b_Model_commit 26 = .ok (.putfield 74, 3) := by decide +kernel
theorem d_Model_commit_29 : decode b_Model_commit 29 = .ok (.iconst 0, 1) := by decide +kernel
theorem d_Model_commit_30 : decode b_Model_commit 30 = .ok (.istore_n 2, 1) := by decide +kernel
theorem d_Model_commit_31 : decode b_Model_commit 31 = .ok (.iload_n 2, 1) := by decide +kernel
theorem d_Model_commit_32 : decode b_Model_commit 32 = .ok (.iload_n 1, 1) := by decide +kernel
theorem d_Model_commit_33 : decode b_Model_commit 33 = .ok (.if_icmp .ge 33, 3) := by decide +kernel
theorem d_Model_commit_36 : decode b_Model_commit 36 = .ok (.aload_n 0, 1) := by decide +kernel
theorem d_Model_commit_37 : decode b_Model_commit 37 = .ok (.getfield 74, 3) := by decide +kernel
theorem d_Model_commit_40 : decode b_Model_commit 40 = .ok (.ifCond .ne 26, 3) := by decide +kernel
theorem d_Model_commit_43 : decode b_Model_commit 43 = .ok (.aload_n 0, 1) := by decide +kernel
theorem d_Model_commit_44 : decode b_Model_commit 44 = .ok (.aload_n 0, 1) := by decide +kernel
theorem d_Model_commit_45 : decode b_Model_commit 45 = .ok (.getfield 16, 3) := by decide +kernel
theorem d_Model_commit_48 : decode b_Model_commit 48 = .ok (.iload_n 2, 1) := by decide +kernel
theorem d_Model_commit_49 : decode b_Model_commit 49 = .ok (.iaload, 1) := by decide +kernel
theorem d_Model_commit_50 : decode b_Model_commit 50 = .ok (.invokevirtual 87, 3) := by decide +kernel
theorem d_Model_commit_53 : decode b_Model_commit 53 = .ok (.aload_n 0, 1) := by decide +kernel
theorem d_Model_commit_54 : decode b_Model_commit 54 = .ok (.iconst 2, 1) := by decide +kernel
theorem d_Model_commit_55 : decode b_Model_commit 55 = .ok (.iload_n 2, 1) := by decide +kernel
theorem d_Model_commit_56 : decode b_Model_commit 56 = .ok (.iadd, 1) := by decide +kernel
theorem d_Model_commit_57 : decode b_Model_commit 57 = .ok (.invokevirtual 90, 3) := by decide +kernel
theorem d_Model_commit_60 : decode b_Model_commit 60 = .ok (.iinc 2 1, 3) := by decide +kernel
theorem d_Model_commit_63 : decode b_Model_commit 63 = .ok (.goto (-32), 3) := by decide +kernel
theorem d_Model_commit_66 : decode b_Model_commit 66 = .ok (.aload_n 0, 1) := by decide +kernel
theorem d_Model_commit_67 : decode b_Model_commit 67 = .ok (.getfield 74, 3) := by decide +kernel
theorem d_Model_commit_70 : decode b_Model_commit 70 = .ok (.ifCond .ne 13, 3) := by decide +kernel
theorem d_Model_commit_73 : decode b_Model_commit 73 = .ok (.aload_n 0, 1) := by decide +kernel
theorem d_Model_commit_74 : decode b_Model_commit 74 = .ok (.iload_n 1, 1) := by decide +kernel
theorem d_Model_commit_75 : decode b_Model_commit 75 = .ok (.invokevirtual 93, 3) := by decide +kernel
theorem d_Model_commit_78 : decode b_Model_commit 78 = .ok (.aload_n 0, 1) := by decide +kernel
theorem d_Model_commit_79 : decode b_Model_commit 79 = .ok (.iconst 1, 1) := by decide +kernel
theorem d_Model_commit_80 : decode b_Model_commit 80 = .ok (.invokevirtual 90, 3) := by decide +kernel
theorem d_Model_commit_83 : decode b_Model_commit 83 = .ok (.iconst 0, 1) := by decide +kernel
theorem d_Model_commit_84 : decode b_Model_commit 84 = .ok (.istore_n 2, 1) := by decide +kernel
theorem d_Model_commit_85 : decode b_Model_commit 85 = .ok (.iload_n 2, 1) := by decide +kernel
theorem d_Model_commit_86 : decode b_Model_commit 86 = .ok (.iload_n 1, 1) := by decide +kernel
theorem d_Model_commit_87 : decode b_Model_commit 87 = .ok (.if_icmp .ge 36, 3) := by decide +kernel
theorem d_Model_commit_90 : decode b_Model_commit 90 = .ok (.aload_n 0, 1) := by decide +kernel
theorem d_Model_commit_91 : decode b_Model_commit 91 = .ok (.getfield 74, 3) := by decide +kernel
theorem d_Model_commit_94 : decode b_Model_commit 94 = .ok (.ifCond .ne 29, 3) := by decide +kernel
theorem d_Model_commit_97 : decode b_Model_commit 97 = .ok (.aload_n 0, 1) := by decide +kernel
theorem d_Model_commit_98 : decode b_Model_commit 98 = .ok (.aload_n 0, 1) := by decide +kernel
theorem d_Model_commit_99 : decode b_Model_commit 99 = .ok (.getfield 16, 3) := by decide +kernel
theorem d_Model_commit_102 : decode b_Model_commit 102 = .ok (.iload_n 2, 1) := by decide +kernel
theorem d_Model_commit_103 : decode b_Model_commit 103 = .ok (.iaload, 1) := by decide +kernel
theorem d_Model_commit_104 : decode b_Model_commit 104 = .ok (.invokevirtual 87, 3) := by decide +kernel
theorem d_Model_commit_107 : decode b_Model_commit 107 = .ok (.aload_n 0, 1) := by decide +kernel
theorem d_Model_commit_108 : decode b_Model_commit 108 = .ok (.aload_n 0, 1) := by decide +kernel
theorem d_Model_commit_109 : decode b_Model_commit 109 = .ok (.getfield 16, 3) := by decide +kernel
theorem d_Model_commit_112 : decode b_Model_commit 112 = .ok (.iload_n 2, 1) := by decide +kernel
theorem d_Model_commit_113 : decode b_Model_commit 113 = .ok (.iaload, 1) := by decide +kernel
theorem d_Model_commit_114 : decode b_Model_commit 114 = .ok (.invokevirtual 90, 3) := by decide +kernel
theorem d_Model_commit_117 : decode b_Model_commit 117 = .ok (.iinc 2 1, 3) := by decide +kernel
theorem d_Model_commit_120 : decode b_Model_commit 120 = .ok (.goto (-35), 3) := by decide +kernel
theorem d_Model_commit_123 : decode b_Model_commit 123 = .ok (.aload_n 0, 1) := by decide +kernel
theorem d_Model_commit_124 : decode b_Model_commit 124 = .ok (.getfield 74, 3) := by decide +kernel
theorem d_Model_commit_127 : decode b_Model_commit 127 = .ok (.ifCond .ne 13, 3) := by decide +kernel
theorem d_Model_commit_130 : decode b_Model_commit 130 = .ok (.aload_n 0, 1) := by decide +kernel
theorem d_Model_commit_131 : decode b_Model_commit 131 = .ok (.iconst 0, 1) := by decide +kernel
theorem d_Model_commit_132 : decode b_Model_commit 132 = .ok (.invokevirtual 93, 3) := by decide +kernel
theorem d_Model_commit_135 : decode b_Model_commit 135 = .ok (.aload_n 0, 1) := by decide +kernel
theorem d_Model_commit_136 : decode b_Model_commit 136 = .ok (.iconst 1, 1) := by decide +kernel
theorem d_Model_commit_137 : decode b_Model_commit 137 = .ok (.invokevirtual 90, 3) := by decide +kernel
theorem d_Model_commit_140 : decode b_Model_commit 140 = .ok (.aload_n 0, 1) := by decide +kernel
theorem d_Model_commit_141 : decode b_Model_commit 141 = .ok (.iconst 0, 1) := by decide +kernel
theorem d_Model_commit_142 : decode b_Model_commit 142 = .ok (.putfield 36, 3) := by decide +kernel
theorem d_Model_commit_145 : decode b_Model_commit 145 = .ok (.aload_n 0, 1) := by decide +kernel
theorem d_Model_commit_146 : decode b_Model_commit 146 = .ok (.getfield 74, 3) := by decide +kernel
theorem d_Model_commit_149 : decode b_Model_commit 149 = .ok (.ifCond .ne 7, 3) := by decide +kernel
theorem d_Model_commit_152 : decode b_Model_commit 152 = .ok (.iconst 1, 1) := by decide +kernel
theorem d_Model_commit_153 : decode b_Model_commit 153 = .ok (.goto 4, 3) := by decide +kernel
theorem d_Model_commit_156 : decode b_Model_commit 156 = .ok (.iconst 0, 1) := by decide +kernel
theorem d_Model_commit_157 : decode b_Model_commit 157 = .ok (.ireturn, 1) := by decide +kernel
theorem d_Model_fetch_0 : decode b_Model_fetch 0 = .ok (.iconst 0, 1) := by decide +kernel
theorem d_Model_fetch_1 : decode b_Model_fetch 1 = .ok (.istore_n 2, 1) := by decide +kernel
theorem d_Model_fetch_2 : decode b_Model_fetch 2 = .ok (.iload_n 2, 1) := by decide +kernel
theorem d_Model_fetch_3 : decode b_Model_fetch 3 = .ok (.bipush 64, 2) := by decide +kernel
theorem d_Model_fetch_5 : decode b_Model_fetch 5 = .ok (.if_icmp .ge 26, 3) := by decide +kernel
theorem d_Model_fetch_8 : decode b_Model_fetch 8 = .ok (.aload_n 0, 1) := by decide +kernel
theorem d_Model_fetch_9 : decode b_Model_fetch 9 = .ok (.getfield 27, 3) := by decide +kernel
theorem d_Model_fetch_12 : decode b_Model_fetch 12 = .ok (.iload_n 2, 1) := by decide +kernel
theorem d_Model_fetch_13 : decode b_Model_fetch 13 = .ok (.aload_n 0, 1) := by decide +kernel
theorem d_Model_fetch_14 : decode b_Model_fetch 14 = .ok (.getfield 13, 3) := by decide +kernel
theorem d_Model_fetch_17 : decode b_Model_fetch 17 = .ok (.bipush 64, 2) := by decide +kernel
theorem d_Model_fetch_19 : decode b_Model_fetch 19 = .ok (.iload_n 1, 1) := by decide +kernel
theorem d_Model_fetch_20 : decode b_Model_fetch 20 = .ok (.imul, 1) := by decide +kernel
theorem d_Model_fetch_21 : decode b_Model_fetch 21 = .ok (.iload_n 2, 1) := by decide +kernel
theorem d_Model_fetch_22 : decode b_Model_fetch 22 = .ok (.iadd, 1) := by decide +kernel
theorem d_Model_fetch_23 : decode b_Model_fetch 23 = .ok (.baload, 1) := by decide +kernel
theorem d_Model_fetch_24 : decode b_Model_fetch 24 = .ok (.bastore, 1) := by decide +kernel
theorem d_Model_fetch_25 : decode b_Model_fetch 25 = .ok (.iinc 2 1, 3) := by decide +kernel
theorem d_Model_fetch_28 : decode b_Model_fetch 28 = .ok (.goto (-26), 3) := by decide +kernel
theorem d_Model_fetch_31 : decode b_Model_fetch 31 = .ok (.return_, 1) := by decide +kernel
theorem d_Model_put_0 : decode b_Model_put 0 = .ok (.aload_n 0, 1) := by decide +kernel
theorem d_Model_put_1 : decode b_Model_put 1 = .ok (.aload_n 0, 1) := by decide +kernel
theorem d_Model_put_2 : decode b_Model_put 2 = .ok (.getfield 74, 3) := by decide +kernel
theorem d_Model_put_5 : decode b_Model_put 5 = .ok (.ifCond .ne 10, 3) := by decide +kernel
theorem d_Model_put_8 : decode b_Model_put 8 = .ok (.aload_n 0, 1) := by decide +kernel
theorem d_Model_put_9 : decode b_Model_put 9 = .ok (.getfield 20, 3) := by decide +kernel
theorem d_Model_put_12 : decode b_Model_put 12 = .ok (.ifCond .ne 7, 3) := by decide +kernel
theorem d_Model_put_15 : decode b_Model_put 15 = .ok (.iconst 1, 1) := by decide +kernel
theorem d_Model_put_16 : decode b_Model_put 16 = .ok (.goto 4, 3) := by decide +kernel
theorem d_Model_put_19 : decode b_Model_put 19 = .ok (.iconst 0, 1) := by decide +kernel
theorem d_Model_put_20 : decode b_Model_put 20 = .ok (.putfield 74, 3) := by decide +kernel
theorem d_Model_put_23 : decode b_Model_put 23 = .ok (.aload_n 0, 1) := by decide +kernel
theorem d_Model_put_24 : decode b_Model_put 24 = .ok (.getfield 74, 3) := by decide +kernel
theorem d_Model_put_27 : decode b_Model_put 27 = .ok (.ifCond .eq 14, 3) := by decide +kernel
theorem d_Model_put_30 : decode b_Model_put 30 = .ok (.aload_n 0, 1) := by decide +kernel
theorem d_Model_put_31 : decode b_Model_put 31 = .ok (.iconst 1, 1) := by decide +kernel
theorem d_Model_put_32 : decode b_Model_put 32 = .ok (.putfield 78, 3) := by decide +kernel
theorem d_Model_put_35 : decode b_Model_put 35 = .ok (.aload_n 0, 1) := by decide +kernel
theorem d_Model_put_36 : decode b_Model_put 36 = .ok (.iconst (-1), 1) := by decide +kernel
theorem d_Model_put_37 : decode b_Model_put 37 = .ok (.putfield 20, 3) := by decide +kernel
theorem d_Model_put_40 : decode b_Model_put 40 = .ok (.return_, 1) := by decide +kernel
theorem d_Model_put_41 : decode b_Model_put 41 = .ok (.aload_n 0, 1) := by decide +kernel
theorem d_Model_put_42 : decode b_Model_put 42 = .ok (.aload_n 0, 1) := by decide +kernel
theorem d_Model_put_43 : decode b_Model_put 43 = .ok (.getfield 20, 3) := by decide +kernel
theorem d_Model_put_46 : decode b_Model_put 46 = .ok (.iconst (-1), 1) := by decide +kernel
theorem d_Model_put_47 : decode b_Model_put 47 = .ok (.if_icmp .ne 7, 3) := by decide +kernel
theorem d_Model_put_50 : decode b_Model_put 50 = .ok (.iconst (-1), 1) := by decide +kernel
theorem d_Model_put_51 : decode b_Model_put 51 = .ok (.goto 9, 3) := by decide +kernel
theorem d_Model_put_54 : decode b_Model_put 54 = .ok (.aload_n 0, 1) := by decide +kernel
theorem d_Model_put_55 : decode b_Model_put 55 = .ok (.getfield 20, 3) := by decide +kernel
theorem d_Model_put_58 : decode b_Model_put 58 = .ok (.iconst 1, 1) := by decide +kernel
theorem d_Model_put_59 : decode b_Model_put 59 = .ok (.isub, 1) := by decide +kernel
theorem d_Model_put_60 : decode b_Model_put 60 = .ok (.putfield 20, 3) := by decide +kernel
theorem d_Model_put_63 : decode b_Model_put 63 = .ok (.iconst 0, 1) := by decide +kernel
theorem d_Model_put_64 : decode b_Model_put 64 = .ok (.istore_n 2, 1) := by decide +kernel
theorem d_Model_put_65 : decode b_Model_put 65 = .ok (.iload_n 2, 1) := by decide +kernel
theorem d_Model_put_66 : decode b_Model_put 66 = .ok (.bipush 64, 2) := by decide +kernel
theorem d_Model_put_68 : decode b_Model_put 68 = .ok (.if_icmp .ge 26, 3) := by decide +kernel
theorem d_Model_put_71 : decode b_Model_put 71 = .ok (.aload_n 0, 1) := by decide +kernel
theorem d_Model_put_72 : decode b_Model_put 72 = .ok (.getfield 7, 3) := by decide +kernel
theorem d_Model_put_75 : decode b_Model_put 75 = .ok (.bipush 64, 2) := by decide +kernel
theorem d_Model_put_77 : decode b_Model_put 77 = .ok (.iload_n 1, 1) := by decide +kernel
theorem d_Model_put_78 : decode b_Model_put 78 = .ok (.imul, 1) := by decide +kernel
theorem d_Model_put_79 : decode b_Model_put 79 = .ok (.iload_n 2, 1) := by decide +kernel
theorem d_Model_put_80 : decode b_Model_put 80 = .ok (.iadd, 1) := by decide +kernel
theorem d_Model_put_81 : decode b_Model_put 81 = .ok (.aload_n 0, 1) := by decide +kernel
theorem d_Model_put_82 : decode b_Model_put 82 = .ok (.getfield 27, 3) := by decide +kernel
theorem d_Model_put_85 : decode b_Model_put 85 = .ok (.iload_n 2, 1) := by decide +kernel
theorem d_Model_put_86 : decode b_Model_put 86 = .ok (.baload, 1) := by decide +kernel
theorem d_Model_put_87 : decode b_Model_put 87 = .ok (.bastore, 1) := by decide +kernel
theorem d_Model_put_88 : decode b_Model_put 88 = .ok (.iinc 2 1, 3) := by decide +kernel
theorem d_Model_put_91 : decode b_Model_put 91 = .ok (.goto (-26), 3) := by decide +kernel
theorem d_Model_put_94 : decode b_Model_put 94 = .ok (.aload_n 0, 1) := by decide +kernel
theorem d_Model_put_95 : decode b_Model_put 95 = .ok (.dup, 1) := by decide +kernel
theorem d_Model_put_96 : decode b_Model_put 96 = .ok (.getfield 81, 3) := by decide +kernel
theorem d_Model_put_99 : decode b_Model_put 99 = .ok (.iconst 1, 1) := by decide +kernel
theorem d_Model_put_100 : decode b_Model_put 100 = .ok (.iadd, 1) := by decide +kernel
theorem d_Model_put_101 : decode b_Model_put 101 = .ok (.putfield 81, 3) := by decide +kernel
theorem d_Model_put_104 : decode b_Model_put 104 = .ok (.return_, 1) := by decide +kernel
theorem d_Model_head_0 : decode b_Model_head 0 = .ok (.iconst 0, 1) := by decide +kernel
theorem d_Model_head_1 : decode b_Model_head 1 = .ok (.istore_n 2, 1) := by decide +kernel
theorem d_Model_head_2 : decode b_Model_head 2 = .ok (.iload_n 2, 1) := by decide +kernel
theorem d_Model_head_3 : decode b_Model_head 3 = .ok (.bipush 64, 2) := by decide +kernel
theorem d_Model_head_5 : decode b_Model_head 5 = .ok (.if_icmp .ge 41, 3) := by decide +kernel
theorem d_Model_head_8 : decode b_Model_head 8 = .ok (.aload_n 0, 1) := by decide +kernel
theorem d_Model_head_9 : decode b_Model_head 9 = .ok (.getfield 27, 3) := by decide +kernel
theorem d_Model_head_12 : decode b_Model_head 12 = .ok (.iload_n 2, 1) := by decide +kernel
theorem d_Model_head_13 : decode b_Model_head 13 = .ok (.iload_n 2, 1) := by decide +kernel
theorem d_Model_head_14 : decode b_Model_head 14 = .ok (.ifCond .ne 7, 3) := by decide +kernel
theorem d_Model_head_17 : decode b_Model_head 17 = .ok (.iload_n 1, 1) := by decide +kernel
theorem d_Model_head_18 : decode b_Model_head 18 = .ok (.goto 20, 3) := by decide +kernel
theorem d_Model_head_21 : decode b_Model_head 21 = .ok (.iload_n 2, 1) := by decide +kernel
theorem d_Model_head_22 : decode b_Model_head 22 = .ok (.iload_n 1, 1) := by decide +kernel
theorem d_Model_head_23 : decode b_Model_head 23 = .ok (.if_icmp .gt 14, 3) := by decide +kernel
theorem d_Model_head_26 : decode b_Model_head 26 = .ok (.aload_n 0, 1) := by decide +kernel
theorem d_Model_head_27 : decode b_Model_head 27 = .ok (.getfield 16, 3) := by decide +kernel
theorem d_Model_head_30 : decode b_Model_head 30 = .ok (.iload_n 2, 1) := by decide +kernel
theorem d_Model_head_31 : decode b_Model_head 31 = .ok (.iconst 1, 1) := by decide +kernel
theorem d_Model_head_32 : decode b_Model_head 32 = .ok (.isub, 1) := by decide +kernel
theorem d_Model_head_33 : decode b_Model_head 33 = .ok (.iaload, 1) := by decide +kernel
theorem d_Model_head_34 : decode b_Model_head 34 = .ok (.goto 4, 3) := by decide +kernel
theorem d_Model_head_37 : decode b_Model_head 37 = .ok (.iconst 0, 1) := by decide +kernel
theorem d_Model_head_38 : decode b_Model_head 38 = .ok (.i2b, 1) := by decide +kernel
theorem d_Model_head_39 : decode b_Model_head 39 = .ok (.bastore, 1) := by decide +kernel
theorem d_Model_head_40 : decode b_Model_head 40 = .ok (.iinc 2 1, 3) := by decide +kernel
theorem d_Model_head_43 : decode b_Model_head 43 = .ok (.goto (-41), 3) := by decide +kernel
theorem d_Model_head_46 : decode b_Model_head 46 = .ok (.return_, 1) := by decide +kernel
theorem d_Model_failAfter_0 : decode b_Model_failAfter 0 = .ok (.aload_n 0, 1) := by decide +kernel
theorem d_Model_failAfter_1 : decode b_Model_failAfter 1 = .ok (.iconst 0, 1) := by decide +kernel
theorem d_Model_failAfter_2 : decode b_Model_failAfter 2 = .ok (.putfield 33, 3) := by decide +kernel
theorem d_Model_failAfter_5 : decode b_Model_failAfter 5 = .ok (.iload_n 1, 1) := by decide +kernel
theorem d_Model_failAfter_6 : decode b_Model_failAfter 6 = .ok (.ifCond .ge 5, 3) := by decide +kernel
theorem d_Model_failAfter_9 : decode b_Model_failAfter 9 = .ok (.iconst 0, 1) := by decide +kernel
theorem d_Model_failAfter_10 : decode b_Model_failAfter 10 = .ok (.ireturn, 1) := by decide +kernel
theorem d_Model_failAfter_11 : decode b_Model_failAfter 11 = .ok (.aload_n 0, 1) := by decide +kernel
theorem d_Model_failAfter_12 : decode b_Model_failAfter 12 = .ok (.iload_n 1, 1) := by decide +kernel
theorem d_Model_failAfter_13 : decode b_Model_failAfter 13 = .ok (.putfield 20, 3) := by decide +kernel
theorem d_Model_failAfter_16 : decode b_Model_failAfter 16 = .ok (.iconst 1, 1) := by decide +kernel
theorem d_Model_failAfter_17 : decode b_Model_failAfter 17 = .ok (.ireturn, 1) := by decide +kernel
theorem d_Model_mount_0 : decode b_Model_mount 0 = .ok (.aload_n 0, 1) := by decide +kernel
theorem d_Model_mount_1 : decode b_Model_mount 1 = .ok (.iconst 0, 1) := by decide +kernel
theorem d_Model_mount_2 : decode b_Model_mount 2 = .ok (.putfield 78, 3) := by decide +kernel
theorem d_Model_mount_5 : decode b_Model_mount 5 = .ok (.aload_n 0, 1) := by decide +kernel
theorem d_Model_mount_6 : decode b_Model_mount 6 = .ok (.iconst 0, 1) := by decide +kernel
theorem d_Model_mount_7 : decode b_Model_mount 7 = .ok (.putfield 74, 3) := by decide +kernel
theorem d_Model_mount_10 : decode b_Model_mount 10 = .ok (.aload_n 0, 1) := by decide +kernel
theorem d_Model_mount_11 : decode b_Model_mount 11 = .ok (.iconst 0, 1) := by decide +kernel
theorem d_Model_mount_12 : decode b_Model_mount 12 = .ok (.putfield 33, 3) := by decide +kernel
theorem d_Model_mount_15 : decode b_Model_mount 15 = .ok (.aload_n 0, 1) := by decide +kernel
theorem d_Model_mount_16 : decode b_Model_mount 16 = .ok (.getfield 7, 3) := by decide +kernel
theorem d_Model_mount_19 : decode b_Model_mount 19 = .ok (.bipush 64, 2) := by decide +kernel
theorem d_Model_mount_21 : decode b_Model_mount 21 = .ok (.baload, 1) := by decide +kernel
theorem d_Model_mount_22 : decode b_Model_mount 22 = .ok (.istore_n 1, 1) := by decide +kernel
theorem d_Model_mount_23 : decode b_Model_mount 23 = .ok (.iconst 0, 1) := by decide +kernel
theorem d_Model_mount_24 : decode b_Model_mount 24 = .ok (.istore_n 2, 1) := by decide +kernel
theorem d_Model_mount_25 : decode b_Model_mount 25 = .ok (.iload_n 2, 1) := by decide +kernel
theorem d_Model_mount_26 : decode b_Model_mount 26 = .ok (.iload_n 1, 1) := by decide +kernel
theorem d_Model_mount_27 : decode b_Model_mount 27 = .ok (.if_icmp .ge 62, 3) := by decide +kernel
theorem d_Model_mount_30 : decode b_Model_mount 30 = .ok (.aload_n 0, 1) := by decide +kernel
theorem d_Model_mount_31 : decode b_Model_mount 31 = .ok (.getfield 74, 3) := by decide +kernel
theorem d_Model_mount_34 : decode b_Model_mount 34 = .ok (.ifCond .ne 55, 3) := by decide +kernel
theorem d_Model_mount_37 : decode b_Model_mount 37 = .ok (.iconst 0, 1) := by decide +kernel
theorem d_Model_mount_38 : decode b_Model_mount 38 = .ok (.istore_n 3, 1) := by decide +kernel
theorem d_Model_mount_39 : decode b_Model_mount 39 = .ok (.iload_n 3, 1) := by decide +kernel
theorem d_Model_mount_40 : decode b_Model_mount 40 = .ok (.bipush 64, 2) := by decide +kernel
theorem d_Model_mount_42 : decode b_Model_mount 42 = .ok (.if_icmp .ge 28, 3) := by decide +kernel
theorem d_Model_mount_45 : decode b_Model_mount 45 = .ok (.aload_n 0, 1) := by decide +kernel
theorem d_Model_mount_46 : decode b_Model_mount 46 = .ok (.getfield 27, 3) := by decide +kernel
theorem d_Model_mount_49 : decode b_Model_mount 49 = .ok (.iload_n 3, 1) := by decide +kernel
theorem d_Model_mount_50 : decode b_Model_mount 50 = .ok (.aload_n 0, 1) := by decide +kernel
theorem d_Model_mount_51 : decode b_Model_mount 51 = .ok (.getfield 7, 3) := by decide +kernel
theorem d_Model_mount_54 : decode b_Model_mount 54 = .ok (.bipush 64, 2) := by decide +kernel
theorem d_Model_mount_56 : decode b_Model_mount 56 = .ok (.iconst 2, 1) := by decide +kernel
theorem d_Model_mount_57 : decode b_Model_mount 57 = .ok (.iload_n 2, 1) := by decide +kernel
theorem d_Model_mount_58 : decode b_Model_mount 58 = .ok (.iadd, 1) := by decide +kernel
theorem d_Model_mount_59 : decode b_Model_mount 59 = .ok (.imul, 1) := by decide +kernel
theorem d_Model_mount_60 : decode b_Model_mount 60 = .ok (.iload_n 3, 1) := by decide +kernel
theorem d_Model_mount_61 : decode b_Model_mount 61 = .ok (.iadd, 1) := by decide +kernel
theorem d_Model_mount_62 : decode b_Model_mount 62 = .ok (.baload, 1) := by decide +kernel
theorem d_Model_mount_63 : decode b_Model_mount 63 = .ok (.bastore, 1) := by decide +kernel
theorem d_Model_mount_64 : decode b_Model_mount 64 = .ok (.iinc 3 1, 3) := by decide +kernel
theorem d_Model_mount_67 : decode b_Model_mount 67 = .ok (.goto (-28), 3) := by decide +kernel
theorem d_Model_mount_70 : decode b_Model_mount 70 = .ok (.aload_n 0, 1) := by decide +kernel
theorem d_Model_mount_71 : decode b_Model_mount 71 = .ok (.aload_n 0, 1) := by decide +kernel
theorem d_Model_mount_72 : decode b_Model_mount 72 = .ok (.getfield 7, 3) := by decide +kernel
theorem d_Model_mount_75 : decode b_Model_mount 75 = .ok (.bipush 65, 2) := by decide +kernel
theorem d_Model_mount_77 : decode b_Model_mount 77 = .ok (.iload_n 2, 1) := by decide +kernel
theorem d_Model_mount_78 : decode b_Model_mount 78 = .ok (.iadd, 1) := by decide +kernel
theorem d_Model_mount_79 : decode b_Model_mount 79 = .ok (.baload, 1) := by decide +kernel
theorem d_Model_mount_80 : decode b_Model_mount 80 = .ok (.invokevirtual 90, 3) := by decide +kernel
theorem d_Model_mount_83 : decode b_Model_mount 83 = .ok (.iinc 2 1, 3) := by decide +kernel
theorem d_Model_mount_86 : decode b_Model_mount 86 = .ok (.goto (-61), 3) := by decide +kernel
theorem d_Model_mount_89 : decode b_Model_mount 89 = .ok (.iload_n 1, 1) := by decide +kernel
theorem d_Model_mount_90 : decode b_Model_mount 90 = .ok (.ifCond .le 20, 3) := by decide +kernel
theorem d_Model_mount_93 : decode b_Model_mount 93 = .ok (.aload_n 0, 1) := by decide +kernel
theorem d_Model_mount_94 : decode b_Model_mount 94 = .ok (.getfield 74, 3) := by decide +kernel
theorem d_Model_mount_97 : decode b_Model_mount 97 = .ok (.ifCond .ne 13, 3) := by decide +kernel
theorem d_Model_mount_100 : decode b_Model_mount 100 = .ok (.aload_n 0, 1) := by decide +kernel
theorem d_Model_mount_101 : decode b_Model_mount 101 = .ok (.iconst 0, 1) := by decide +kernel
theorem d_Model_mount_102 : decode b_Model_mount 102 = .ok (.invokevirtual 93, 3) := by decide +kernel
theorem d_Model_mount_105 : decode b_Model_mount 105 = .ok (.aload_n 0, 1) := by decide +kernel
theorem d_Model_mount_106 : decode b_Model_mount 106 = .ok (.iconst 1, 1) := by decide +kernel
theorem d_Model_mount_107 : decode b_Model_mount 107 = .ok (.invokevirtual 90, 3) := by decide +kernel
theorem d_Model_mount_110 : decode b_Model_mount 110 = .ok (.aload_n 0, 1) := by decide +kernel
theorem d_Model_mount_111 : decode b_Model_mount 111 = .ok (.iconst 0, 1) := by decide +kernel
theorem d_Model_mount_112 : decode b_Model_mount 112 = .ok (.putfield 36, 3) := by decide +kernel
theorem d_Model_mount_115 : decode b_Model_mount 115 = .ok (.aload_n 0, 1) := by decide +kernel
theorem d_Model_mount_116 : decode b_Model_mount 116 = .ok (.aload_n 0, 1) := by decide +kernel
theorem d_Model_mount_117 : decode b_Model_mount 117 = .ok (.getfield 74, 3) := by decide +kernel
theorem d_Model_mount_120 : decode b_Model_mount 120 = .ok (.ifCond .eq 7, 3) := by decide +kernel
theorem d_Model_mount_123 : decode b_Model_mount 123 = .ok (.iconst 1, 1) := by decide +kernel
theorem d_Model_mount_124 : decode b_Model_mount 124 = .ok (.goto 4, 3) := by decide +kernel
theorem d_Model_mount_127 : decode b_Model_mount 127 = .ok (.iconst 0, 1) := by decide +kernel
theorem d_Model_mount_128 : decode b_Model_mount 128 = .ok (.putfield 33, 3) := by decide +kernel
theorem d_Model_mount_131 : decode b_Model_mount 131 = .ok (.aload_n 0, 1) := by decide +kernel
theorem d_Model_mount_132 : decode b_Model_mount 132 = .ok (.getfield 74, 3) := by decide +kernel
theorem d_Model_mount_135 : decode b_Model_mount 135 = .ok (.ifCond .eq 5, 3) := by decide +kernel
theorem d_Model_mount_138 : decode b_Model_mount 138 = .ok (.iconst 0, 1) := by decide +kernel
theorem d_Model_mount_139 : decode b_Model_mount 139 = .ok (.ireturn, 1) := by decide +kernel
theorem d_Model_mount_140 : decode b_Model_mount 140 = .ok (.aload_n 0, 1) := by decide +kernel
theorem d_Model_mount_141 : decode b_Model_mount 141 = .ok (.invokevirtual 30, 3) := by decide +kernel
theorem d_Model_mount_144 : decode b_Model_mount 144 = .ok (.iload_n 1, 1) := by decide +kernel
theorem d_Model_mount_145 : decode b_Model_mount 145 = .ok (.ireturn, 1) := by decide +kernel
theorem d_Model_make_0 : decode b_Model_make 0 = .ok (.aload_n 0, 1) := by decide +kernel
theorem d_Model_make_1 : decode b_Model_make 1 = .ok (.invokevirtual 100, 3) := by decide +kernel
theorem d_Model_make_4 : decode b_Model_make 4 = .ok (.ifCond .eq 5, 3) := by decide +kernel
theorem d_Model_make_7 : decode b_Model_make 7 = .ok (.iconst 0, 1) := by decide +kernel
theorem d_Model_make_8 : decode b_Model_make 8 = .ok (.ireturn, 1) := by decide +kernel
theorem d_Model_make_9 : decode b_Model_make 9 = .ok (.aload_n 0, 1) := by decide +kernel
theorem d_Model_make_10 : decode b_Model_make 10 = .ok (.lload_n 2, 1) := by decide +kernel
theorem d_Model_make_11 : decode b_Model_make 11 = .ok (.invokevirtual 137, 3) := by decide +kernel
theorem d_Model_make_14 : decode b_Model_make 14 = .ok (.ifCond .eq 27, 3) := by decide +kernel
theorem d_Model_make_17 : decode b_Model_make 17 = .ok (.aload_n 0, 1) := by decide +kernel
theorem d_Model_make_18 : decode b_Model_make 18 = .ok (.iload_n 1, 1) := by decide +kernel
theorem d_Model_make_19 : decode b_Model_make 19 = .ok (.iconst 2, 1) := by decide +kernel
theorem d_Model_make_20 : decode b_Model_make 20 = .ok (.invokevirtual 141, 3) := by decide +kernel
theorem d_Model_make_23 : decode b_Model_make 23 = .ok (.ifCond .eq 18, 3) := by decide +kernel
theorem d_Model_make_26 : decode b_Model_make 26 = .ok (.aload_n 0, 1) := by decide +kernel
theorem d_Model_make_27 : decode b_Model_make 27 = .ok (.iload_n 1, 1) := by decide +kernel
theorem d_Model_make_28 : decode b_Model_make 28 = .ok (.invokevirtual 145, 3) := by decide +kernel
theorem d_Model_make_31 : decode b_Model_make 31 = .ok (.ifCond .eq 10, 3) := by decide +kernel
theorem d_Model_make_34 : decode b_Model_make 34 = .ok (.aload_n 0, 1) := by decide +kernel
theorem d_Model_make_35 : decode b_Model_make 35 = .ok (.invokevirtual 148, 3) := by decide +kernel
theorem d_Model_make_38 : decode b_Model_make 38 = .ok (.ifCond .ge 5, 3) := by decide +kernel
theorem d_Model_make_41 : decode b_Model_make 41 = .ok (.iconst (-1), 1) := by decide +kernel
theorem d_Model_make_42 : decode b_Model_make 42 = .ok (.ireturn, 1) := by decide +kernel
theorem d_Model_make_43 : decode b_Model_make 43 = .ok (.aload_n 0, 1) := by decide +kernel
theorem d_Model_make_44 : decode b_Model_make 44 = .ok (.invokevirtual 151, 3) := by decide +kernel
theorem d_Model_make_47 : decode b_Model_make 47 = .ok (.ifCond .ne 5, 3) := by decide +kernel
theorem d_Model_make_50 : decode b_Model_make 50 = .ok (.iconst 0, 1) := by decide +kernel
theorem d_Model_make_51 : decode b_Model_make 51 = .ok (.ireturn, 1) := by decide +kernel
theorem d_Model_make_52 : decode b_Model_make 52 = .ok (.aload_n 0, 1) := by decide +kernel
theorem d_Model_make_53 : decode b_Model_make 53 = .ok (.invokevirtual 148, 3) := by decide +kernel
theorem d_Model_make_56 : decode b_Model_make 56 = .ok (.istore 5, 2) := by decide +kernel
theorem d_Model_make_58 : decode b_Model_make 58 = .ok (.aload_n 0, 1) := by decide +kernel
theorem d_Model_make_59 : decode b_Model_make 59 = .ok (.iload 5, 2) := by decide +kernel
theorem d_Model_make_61 : decode b_Model_make 61 = .ok (.iconst 0, 1) := by decide +kernel
theorem d_Model_make_62 : decode b_Model_make 62 = .ok (.iload 4, 2) := by decide +kernel
theorem d_Model_make_64 : decode b_Model_make 64 = .ok (.ifCond .eq 7, 3) := by decide +kernel
theorem d_Model_make_67 : decode b_Model_make 67 = .ok (.iconst 2, 1) := by decide +kernel
theorem d_Model_make_68 : decode b_Model_make 68 = .ok (.goto 4, 3) := by decide +kernel
theorem d_Model_make_71 : decode b_Model_make 71 = .ok (.iconst 1, 1) := by decide +kernel
theorem d_Model_make_72 : decode b_Model_make 72 = .ok (.invokevirtual 65, 3) := by decide +kernel
theorem d_Model_make_75 : decode b_Model_make 75 = .ok (.aload_n 0, 1) := by decide +kernel
theorem d_Model_make_76 : decode b_Model_make 76 = .ok (.iload 5, 2) := by decide +kernel
theorem d_Model_make_78 : decode b_Model_make 78 = .ok (.iconst 1, 1) := by decide +kernel
theorem d_Model_make_79 : decode b_Model_make 79 = .ok (.iconst 1, 1) := by decide +kernel
theorem d_Model_make_80 : decode b_Model_make 80 = .ok (.invokevirtual 65, 3) := by decide +kernel
theorem d_Model_make_83 : decode b_Model_make 83 = .ok (.aload_n 0, 1) := by decide +kernel
theorem d_Model_make_84 : decode b_Model_make 84 = .ok (.iload_n 1, 1) := by decide +kernel
theorem d_Model_make_85 : decode b_Model_make 85 = .ok (.iload 5, 2) := by decide +kernel
theorem d_Model_make_87 : decode b_Model_make 87 = .ok (.invokevirtual 154, 3) := by decide +kernel
theorem d_Model_make_90 : decode b_Model_make 90 = .ok (.iload 5, 2) := by decide +kernel
theorem d_Model_make_92 : decode b_Model_make 92 = .ok (.ireturn, 1) := by decide +kernel
theorem d_Model_isName_0 : decode b_Model_isName 0 = .ok (.iconst 1, 1) := by decide +kernel
theorem d_Model_isName_1 : decode b_Model_isName 1 = .ok (.istore_n 3, 1) := by decide +kernel
theorem d_Model_isName_2 : decode b_Model_isName 2 = .ok (.iconst 0, 1) := by decide +kernel
theorem d_Model_isName_3 : decode b_Model_isName 3 = .ok (.istore 4, 2) := by decide +kernel
theorem d_Model_isName_5 : decode b_Model_isName 5 = .ok (.iconst 0, 1) := by decide +kernel
theorem d_Model_isName_6 : decode b_Model_isName 6 = .ok (.istore 5, 2) := by decide +kernel
theorem d_Model_isName_8 : decode b_Model_isName 8 = .ok (.iload 5, 2) := by decide +kernel
theorem d_Model_isName_10 : decode b_Model_isName 10 = .ok (.bipush 8, 2) := by decide +kernel
theorem d_Model_isName_12 : decode b_Model_isName 12 = .ok (.if_icmp .ge 90, 3) := by decide +kernel
theorem d_Model_isName_15 : decode b_Model_isName 15 = .ok (.lload_n 1, 1) := by decide +kernel
theorem d_Model_isName_16 : decode b_Model_isName 16 = .ok (.bipush 56, 2) := by decide +kernel
theorem d_Model_isName_18 : decode b_Model_isName 18 = .ok (.bipush 8, 2) := by decide +kernel
theorem d_Model_isName_20 : decode b_Model_isName 20 = .ok (.iload 5, 2) := by decide +kernel
theorem d_Model_isName_22 : decode b_Model_isName 22 = .ok (.imul, 1) := by decide +kernel
theorem d_Model_isName_23 : decode b_Model_isName 23 = .ok (.isub, 1) := by decide +kernel
theorem d_Model_isName_24 : decode b_Model_isName 24 = .ok (.lshr, 1) := by decide +kernel
theorem d_Model_isName_25 : decode b_Model_isName 25 = .ok (.ldc2_w 103, 3) := by decide +kernel
theorem d_Model_isName_28 : decode b_Model_isName 28 = .ok (.land, 1) := by decide +kernel
theorem d_Model_isName_29 : decode b_Model_isName 29 = .ok (.l2i, 1) := by decide +kernel
theorem d_Model_isName_30 : decode b_Model_isName 30 = .ok (.istore 6, 2) := by decide +kernel
theorem d_Model_isName_32 : decode b_Model_isName 32 = .ok (.iload 4, 2) := by decide +kernel
theorem d_Model_isName_34 : decode b_Model_isName 34 = .ok (.ifCond .ne 8, 3) := by decide +kernel
theorem d_Model_isName_37 : decode b_Model_isName 37 = .ok (.iload 6, 2) := by decide +kernel
theorem d_Model_isName_39 : decode b_Model_isName 39 = .ok (.ifCond .ne 7, 3) := by decide +kernel
theorem d_Model_isName_42 : decode b_Model_isName 42 = .ok (.iconst 1, 1) := by decide +kernel
theorem d_Model_isName_43 : decode b_Model_isName 43 = .ok (.goto 4, 3) := by decide +kernel
theorem d_Model_isName_46 : decode b_Model_isName 46 = .ok (.iconst 0, 1) := by decide +kernel
theorem d_Model_isName_47 : decode b_Model_isName 47 = .ok (.istore 4, 2) := by decide +kernel
theorem d_Model_isName_49 : decode b_Model_isName 49 = .ok (.iload_n 3, 1) := by decide +kernel
theorem d_Model_isName_50 : decode b_Model_isName 50 = .ok (.ifCond .eq 34, 3) := by decide +kernel
theorem d_Model_isName_53 : decode b_Model_isName 53 = .ok (.iload 4, 2) := by decide +kernel
theorem d_Model_isName_55 : decode b_Model_isName 55 = .ok (.ifCond .eq 11, 3) := by decide +kernel
theorem d_Model_isName_58 : decode b_Model_isName 58 = .ok (.iload 6, 2) := by decide +kernel
theorem d_Model_isName_60 : decode b_Model_isName 60 = .ok (.ifCond .ne 24, 3) := by decide +kernel
theorem d_Model_isName_63 : decode b_Model_isName 63 = .ok (.goto 17, 3) := by decide +kernel
theorem d_Model_isName_66 : decode b_Model_isName 66 = .ok (.iload 6, 2) := by decide +kernel
theorem d_Model_isName_68 : decode b_Model_isName 68 = .ok (.bipush 33, 2) := by decide +kernel
theorem d_Model_isName_70 : decode b_Model_isName 70 = .ok (.if_icmp .lt 14, 3) := by decide +kernel
theorem d_Model_isName_73 : decode b_Model_isName 73 = .ok (.iload 6, 2) := by decide +kernel
theorem d_Model_isName_75 : decode b_Model_isName 75 = .ok (.bipush 126, 2) := by decide +kernel
theorem d_Model_isName_77 : decode b_Model_isName 77 = .ok (.if_icmp .gt 7, 3) := by decide +kernel
theorem d_Model_isName_80 : decode b_Model_isName 80 = .ok (.iconst 1, 1) := by decide +kernel
theorem d_Model_isName_81 : decode b_Model_isName 81 = .ok (.goto 4, 3) := by decide +kernel
theorem d_Model_isName_84 : decode b_Model_isName 84 = .ok (.iconst 0, 1) := by decide +kernel
theorem d_Model_isName_85 : decode b_Model_isName 85 = .ok (.istore_n 3, 1) := by decide +kernel
theorem d_Model_isName_86 : decode b_Model_isName 86 = .ok (.aload_n 0, 1) := by decide +kernel
theorem d_Model_isName_87 : decode b_Model_isName 87 = .ok (.getfield 24, 3) := by decide +kernel
theorem d_Model_isName_90 : decode b_Model_isName 90 = .ok (.iload 5, 2) := by decide +kernel
theorem d_Model_isName_92 : decode b_Model_isName 92 = .ok (.iload 6, 2) := by decide +kernel
theorem d_Model_isName_94 : decode b_Model_isName 94 = .ok (.i2b, 1) := by decide +kernel
theorem d_Model_isName_95 : decode b_Model_isName 95 = .ok (.bastore, 1) := by decide +kernel
theorem d_Model_isName_96 : decode b_Model_isName 96 = .ok (.iinc 5 1, 3) := by decide +kernel
theorem d_Model_isName_99 : decode b_Model_isName 99 = .ok (.goto (-91), 3) := by decide +kernel
theorem d_Model_isName_102 : decode b_Model_isName 102 = .ok (.iload_n 3, 1) := by decide +kernel
theorem d_Model_isName_103 : decode b_Model_isName 103 = .ok (.ifCond .eq 21, 3) := by decide +kernel
theorem d_Model_isName_106 : decode b_Model_isName 106 = .ok (.aload_n 0, 1) := by decide +kernel
theorem d_Model_isName_107 : decode b_Model_isName 107 = .ok (.getfield 24, 3) := by decide +kernel
theorem d_Model_isName_110 : decode b_Model_isName 110 = .ok (.iconst 0, 1) := by decide +kernel
theorem d_Model_isName_111 : decode b_Model_isName 111 = .ok (.baload, 1) := by decide +kernel
theorem d_Model_isName_112 : decode b_Model_isName 112 = .ok (.ifCond .eq 12, 3) := by decide +kernel
theorem d_Model_isName_115 : decode b_Model_isName 115 = .ok (.iload 4, 2) := by decide +kernel
theorem d_Model_isName_117 : decode b_Model_isName 117 = .ok (.ifCond .eq 7, 3) := by decide +kernel
theorem d_Model_isName_120 : decode b_Model_isName 120 = .ok (.iconst 1, 1) := by decide +kernel
theorem d_Model_isName_121 : decode b_Model_isName 121 = .ok (.goto 4, 3) := by decide +kernel
theorem d_Model_isName_124 : decode b_Model_isName 124 = .ok (.iconst 0, 1) := by decide +kernel
theorem d_Model_isName_125 : decode b_Model_isName 125 = .ok (.ireturn, 1) := by decide +kernel
theorem d_Model_is_0 : decode b_Model_is 0 = .ok (.iload_n 1, 1) := by decide +kernel
theorem d_Model_is_1 : decode b_Model_is 1 = .ok (.invokestatic 58, 3) := by decide +kernel
theorem d_Model_is_4 : decode b_Model_is 4 = .ok (.ifCond .eq 28, 3) := by decide +kernel
theorem d_Model_is_7 : decode b_Model_is 7 = .ok (.aload_n 0, 1) := by decide +kernel
theorem d_Model_is_8 : decode b_Model_is 8 = .ok (.iload_n 1, 1) := by decide +kernel
theorem d_Model_is_9 : decode b_Model_is 9 = .ok (.invokestatic 58, 3) := by decide +kernel
theorem d_Model_is_12 : decode b_Model_is 12 = .ok (.ifCond .eq 7, 3) := by decide +kernel
theorem d_Model_is_15 : decode b_Model_is 15 = .ok (.iload_n 1, 1) := by decide +kernel
theorem d_Model_is_16 : decode b_Model_is 16 = .ok (.goto 4, 3) := by decide +kernel
theorem d_Model_is_19 : decode b_Model_is 19 = .ok (.iconst 0, 1) := by decide +kernel
theorem d_Model_is_20 : decode b_Model_is 20 = .ok (.iconst 0, 1) := by decide +kernel
theorem d_Model_is_21 : decode b_Model_is 21 = .ok (.invokevirtual 62, 3) := by decide +kernel
theorem d_Model_is_24 : decode b_Model_is 24 = .ok (.iload_n 2, 1) := by decide +kernel
theorem d_Model_is_25 : decode b_Model_is 25 = .ok (.if_icmp .ne 7, 3) := by decide +kernel
theorem d_Model_is_28 : decode b_Model_is 28 = .ok (.iconst 1, 1) := by decide +kernel
theorem d_Model_is_29 : decode b_Model_is 29 = .ok (.goto 4, 3) := by decide +kernel
theorem d_Model_is_32 : decode b_Model_is 32 = .ok (.iconst 0, 1) := by decide +kernel
theorem d_Model_is_33 : decode b_Model_is 33 = .ok (.ireturn, 1) := by decide +kernel
theorem d_Model_isInode_0 : decode b_Model_isInode 0 = .ok (.iload_n 0, 1) := by decide +kernel
theorem d_Model_isInode_1 : decode b_Model_isInode 1 = .ok (.ifCond .lt 13, 3) := by decide +kernel
theorem d_Model_isInode_4 : decode b_Model_isInode 4 = .ok (.iload_n 0, 1) := by decide +kernel
theorem d_Model_isInode_5 : decode b_Model_isInode 5 = .ok (.bipush 32, 2) := by decide +kernel
theorem d_Model_isInode_7 : decode b_Model_isInode 7 = .ok (.if_icmp .ge 7, 3) := by decide +kernel
theorem d_Model_isInode_10 : decode b_Model_isInode 10 = .ok (.iconst 1, 1) := by decide +kernel
theorem d_Model_isInode_11 : decode b_Model_isInode 11 = .ok (.goto 4, 3) := by decide +kernel
theorem d_Model_isInode_14 : decode b_Model_isInode 14 = .ok (.iconst 0, 1) := by decide +kernel
theorem d_Model_isInode_15 : decode b_Model_isInode 15 = .ok (.ireturn, 1) := by decide +kernel
theorem d_Model_inodeAt_0 : decode b_Model_inodeAt 0 = .ok (.aload_n 0, 1) := by decide +kernel
theorem d_Model_inodeAt_1 : decode b_Model_inodeAt 1 = .ok (.iload_n 1, 1) := by decide +kernel
theorem d_Model_inodeAt_2 : decode b_Model_inodeAt 2 = .ok (.invokestatic 43, 3) := by decide +kernel
theorem d_Model_inodeAt_5 : decode b_Model_inodeAt 5 = .ok (.iload_n 1, 1) := by decide +kernel
theorem d_Model_inodeAt_6 : decode b_Model_inodeAt 6 = .ok (.invokestatic 47, 3) := by decide +kernel
theorem d_Model_inodeAt_9 : decode b_Model_inodeAt 9 = .ok (.iload_n 2, 1) := by decide +kernel
theorem d_Model_inodeAt_10 : decode b_Model_inodeAt 10 = .ok (.iadd, 1) := by decide +kernel
theorem d_Model_inodeAt_11 : decode b_Model_inodeAt 11 = .ok (.invokevirtual 50, 3) := by decide +kernel
theorem d_Model_inodeAt_14 : decode b_Model_inodeAt 14 = .ok (.ireturn, 1) := by decide +kernel
theorem d_Model_blockOf_0 : decode b_Model_blockOf 0 = .ok (.bipush 17, 2) := by decide +kernel
theorem d_Model_blockOf_2 : decode b_Model_blockOf 2 = .ok (.iload_n 0, 1) := by decide +kernel
theorem d_Model_blockOf_3 : decode b_Model_blockOf 3 = .ok (.iconst 4, 1) := by decide +kernel
theorem d_Model_blockOf_4 : decode b_Model_blockOf 4 = .ok (.idiv, 1) := by decide +kernel
theorem d_Model_blockOf_5 : decode b_Model_blockOf 5 = .ok (.iadd, 1) := by decide +kernel
theorem d_Model_blockOf_6 : decode b_Model_blockOf 6 = .ok (.ireturn, 1) := by decide +kernel
theorem d_Model_placeOf_0 : decode b_Model_placeOf 0 = .ok (.bipush 16, 2) := by decide +kernel
theorem d_Model_placeOf_2 : decode b_Model_placeOf 2 = .ok (.iload_n 0, 1) := by decide +kernel
theorem d_Model_placeOf_3 : decode b_Model_placeOf 3 = .ok (.iconst 4, 1) := by decide +kernel
theorem d_Model_placeOf_4 : decode b_Model_placeOf 4 = .ok (.irem, 1) := by decide +kernel
theorem d_Model_placeOf_5 : decode b_Model_placeOf 5 = .ok (.imul, 1) := by decide +kernel
theorem d_Model_placeOf_6 : decode b_Model_placeOf 6 = .ok (.ireturn, 1) := by decide +kernel
theorem d_Model_at_0 : decode b_Model_at 0 = .ok (.aload_n 0, 1) := by decide +kernel
theorem d_Model_at_1 : decode b_Model_at 1 = .ok (.getfield 13, 3) := by decide +kernel
theorem d_Model_at_4 : decode b_Model_at 4 = .ok (.bipush 64, 2) := by decide +kernel
theorem d_Model_at_6 : decode b_Model_at 6 = .ok (.iload_n 1, 1) := by decide +kernel
theorem d_Model_at_7 : decode b_Model_at 7 = .ok (.imul, 1) := by decide +kernel
theorem d_Model_at_8 : decode b_Model_at 8 = .ok (.iload_n 2, 1) := by decide +kernel
theorem d_Model_at_9 : decode b_Model_at 9 = .ok (.iadd, 1) := by decide +kernel
theorem d_Model_at_10 : decode b_Model_at 10 = .ok (.baload, 1) := by decide +kernel
theorem d_Model_at_11 : decode b_Model_at 11 = .ok (.sipush 255, 3) := by decide +kernel
theorem d_Model_at_14 : decode b_Model_at 14 = .ok (.iand, 1) := by decide +kernel
theorem d_Model_at_15 : decode b_Model_at 15 = .ok (.ireturn, 1) := by decide +kernel
theorem d_Model_mayEnter_0 : decode b_Model_mayEnter 0 = .ok (.aload_n 0, 1) := by decide +kernel
theorem d_Model_mayEnter_1 : decode b_Model_mayEnter 1 = .ok (.iload_n 1, 1) := by decide +kernel
theorem d_Model_mayEnter_2 : decode b_Model_mayEnter 2 = .ok (.invokevirtual 118, 3) := by decide +kernel
theorem d_Model_mayEnter_5 : decode b_Model_mayEnter 5 = .ok (.istore_n 2, 1) := by decide +kernel
theorem d_Model_mayEnter_6 : decode b_Model_mayEnter 6 = .ok (.iload_n 2, 1) := by decide +kernel
theorem d_Model_mayEnter_7 : decode b_Model_mayEnter 7 = .ok (.aload_n 0, 1) := by decide +kernel
theorem d_Model_mayEnter_8 : decode b_Model_mayEnter 8 = .ok (.iload_n 1, 1) := by decide +kernel
theorem d_Model_mayEnter_9 : decode b_Model_mayEnter 9 = .ok (.invokevirtual 105, 3) := by decide +kernel
theorem d_Model_mayEnter_12 : decode b_Model_mayEnter 12 = .ok (.if_icmp .ne 10, 3) := by decide +kernel
theorem d_Model_mayEnter_15 : decode b_Model_mayEnter 15 = .ok (.iload_n 2, 1) := by decide +kernel
theorem d_Model_mayEnter_16 : decode b_Model_mayEnter 16 = .ok (.bipush 8, 2) := by decide +kernel
theorem d_Model_mayEnter_18 : decode b_Model_mayEnter 18 = .ok (.iadd, 1) := by decide +kernel
theorem d_Model_mayEnter_19 : decode b_Model_mayEnter 19 = .ok (.goto 8, 3) := by decide +kernel
theorem d_Model_mayEnter_22 : decode b_Model_mayEnter 22 = .ok (.aload_n 0, 1) := by decide +kernel
theorem d_Model_mayEnter_23 : decode b_Model_mayEnter 23 = .ok (.iload_n 1, 1) := by decide +kernel
theorem d_Model_mayEnter_24 : decode b_Model_mayEnter 24 = .ok (.invokevirtual 105, 3) := by decide +kernel
theorem d_Model_mayEnter_27 : decode b_Model_mayEnter 27 = .ok (.istore_n 3, 1) := by decide +kernel
theorem d_Model_mayEnter_28 : decode b_Model_mayEnter 28 = .ok (.aload_n 0, 1) := by decide +kernel
theorem d_Model_mayEnter_29 : decode b_Model_mayEnter 29 = .ok (.iload_n 1, 1) := by decide +kernel
theorem d_Model_mayEnter_30 : decode b_Model_mayEnter 30 = .ok (.invokevirtual 128, 3) := by decide +kernel
theorem d_Model_mayEnter_33 : decode b_Model_mayEnter 33 = .ok (.ifCond .ge 27, 3) := by decide +kernel
theorem d_Model_mayEnter_36 : decode b_Model_mayEnter 36 = .ok (.iload_n 3, 1) := by decide +kernel
theorem d_Model_mayEnter_37 : decode b_Model_mayEnter 37 = .ok (.sipush 1000, 3) := by decide +kernel
theorem d_Model_mayEnter_40 : decode b_Model_mayEnter 40 = .ok (.if_icmp .gt 20, 3) := by decide +kernel
theorem d_Model_mayEnter_43 : decode b_Model_mayEnter 43 = .ok (.aload_n 0, 1) := by decide +kernel
theorem d_Model_mayEnter_44 : decode b_Model_mayEnter 44 = .ok (.iload_n 1, 1) := by decide +kernel
theorem d_Model_mayEnter_45 : decode b_Model_mayEnter 45 = .ok (.iload_n 3, 1) := by decide +kernel
theorem d_Model_mayEnter_46 : decode b_Model_mayEnter 46 = .ok (.invokevirtual 131, 3) := by decide +kernel
theorem d_Model_mayEnter_49 : decode b_Model_mayEnter 49 = .ok (.aload_n 0, 1) := by decide +kernel
theorem d_Model_mayEnter_50 : decode b_Model_mayEnter 50 = .ok (.invokevirtual 134, 3) := by decide +kernel
theorem d_Model_mayEnter_53 : decode b_Model_mayEnter 53 = .ok (.if_icmp .gt 7, 3) := by decide +kernel
theorem d_Model_mayEnter_56 : decode b_Model_mayEnter 56 = .ok (.iconst 1, 1) := by decide +kernel
theorem d_Model_mayEnter_57 : decode b_Model_mayEnter 57 = .ok (.goto 4, 3) := by decide +kernel
theorem d_Model_mayEnter_60 : decode b_Model_mayEnter 60 = .ok (.iconst 0, 1) := by decide +kernel
theorem d_Model_mayEnter_61 : decode b_Model_mayEnter 61 = .ok (.ireturn, 1) := by decide +kernel
theorem d_Model_placeForEntry_0 : decode b_Model_placeForEntry 0 = .ok (.iconst 0, 1) := by decide +kernel
theorem d_Model_placeForEntry_1 : decode b_Model_placeForEntry 1 = .ok (.istore_n 2, 1) := by decide +kernel
theorem d_Model_placeForEntry_2 : decode b_Model_placeForEntry 2 = .ok (.iload_n 2, 1) := by decide +kernel
theorem d_Model_placeForEntry_3 : decode b_Model_placeForEntry 3 = .ok (.aload_n 0, 1) := by decide +kernel
theorem d_Model_placeForEntry_4 : decode b_Model_placeForEntry 4 = .ok (.iload_n 1, 1) := by decide +kernel
theorem d_Model_placeForEntry_5 : decode b_Model_placeForEntry 5 = .ok (.invokevirtual 105, 3) := by decide +kernel
theorem d_Model_placeForEntry_8 : decode b_Model_placeForEntry 8 = .ok (.if_icmp .ge 18, 3) := by decide +kernel
theorem d_Model_placeForEntry_11 : decode b_Model_placeForEntry 11 = .ok (.aload_n 0, 1) := by decide +kernel
theorem d_Model_placeForEntry_12 : decode b_Model_placeForEntry 12 = .ok (.iload_n 1, 1) := by decide +kernel
theorem d_Model_placeForEntry_13 : decode b_Model_placeForEntry 13 = .ok (.iload_n 2, 1) := by decide +kernel
theorem d_Model_placeForEntry_14 : decode b_Model_placeForEntry 14 = .ok (.invokevirtual 108, 3) := by decide +kernel
theorem d_Model_placeForEntry_17 : decode b_Model_placeForEntry 17 = .ok (.ifCond .eq 9, 3) := by decide +kernel
theorem d_Model_placeForEntry_20 : decode b_Model_placeForEntry 20 = .ok (.iinc 2 8, 3) := by decide +kernel
theorem d_Model_placeForEntry_23 : decode b_Model_placeForEntry 23 = .ok (.goto (-21), 3) := by decide +kernel
theorem d_Model_placeForEntry_26 : decode b_Model_placeForEntry 26 = .ok (.iload_n 2, 1) := by decide +kernel
theorem d_Model_placeForEntry_27 : decode b_Model_placeForEntry 27 = .ok (.ireturn, 1) := by decide +kernel
theorem d_Model_sizeOf_0 : decode b_Model_sizeOf 0 = .ok (.sipush 256, 3) := by decide +kernel
theorem d_Model_sizeOf_3 : decode b_Model_sizeOf 3 = .ok (.aload_n 0, 1) := by decide +kernel
theorem d_Model_sizeOf_4 : decode b_Model_sizeOf 4 = .ok (.iload_n 1, 1) := by decide +kernel
theorem d_Model_sizeOf_5 : decode b_Model_sizeOf 5 = .ok (.iconst 2, 1) := by decide +kernel
theorem d_Model_sizeOf_6 : decode b_Model_sizeOf 6 = .ok (.invokevirtual 62, 3) := by decide +kernel
theorem d_Model_sizeOf_9 : decode b_Model_sizeOf 9 = .ok (.imul, 1) := by decide +kernel
theorem d_Model_sizeOf_10 : decode b_Model_sizeOf 10 = .ok (.aload_n 0, 1) := by decide +kernel
theorem d_Model_sizeOf_11 : decode b_Model_sizeOf 11 = .ok (.iload_n 1, 1) := by decide +kernel
theorem d_Model_sizeOf_12 : decode b_Model_sizeOf 12 = .ok (.iconst 3, 1) := by decide +kernel
theorem d_Model_sizeOf_13 : decode b_Model_sizeOf 13 = .ok (.invokevirtual 62, 3) := by decide +kernel
theorem d_Model_sizeOf_16 : decode b_Model_sizeOf 16 = .ok (.iadd, 1) := by decide +kernel
theorem d_Model_sizeOf_17 : decode b_Model_sizeOf 17 = .ok (.ireturn, 1) := by decide +kernel
theorem d_Model_contentAt_0 : decode b_Model_contentAt 0 = .ok (.aload_n 0, 1) := by decide +kernel
theorem d_Model_contentAt_1 : decode b_Model_contentAt 1 = .ok (.aload_n 0, 1) := by decide +kernel
theorem d_Model_contentAt_2 : decode b_Model_contentAt 2 = .ok (.iload_n 1, 1) := by decide +kernel
theorem d_Model_contentAt_3 : decode b_Model_contentAt 3 = .ok (.iload_n 2, 1) := by decide +kernel
theorem d_Model_contentAt_4 : decode b_Model_contentAt 4 = .ok (.bipush 64, 2) := by decide +kernel
theorem d_Model_contentAt_6 : decode b_Model_contentAt 6 = .ok (.idiv, 1) := by decide +kernel
theorem d_Model_contentAt_7 : decode b_Model_contentAt 7 = .ok (.invokevirtual 68, 3) := by decide +kernel
theorem d_Model_contentAt_10 : decode b_Model_contentAt 10 = .ok (.iload_n 2, 1) := by decide +kernel
theorem d_Model_contentAt_11 : decode b_Model_contentAt 11 = .ok (.bipush 64, 2) := by decide +kernel
theorem d_Model_contentAt_13 : decode b_Model_contentAt 13 = .ok (.irem, 1) := by decide +kernel
theorem d_Model_contentAt_14 : decode b_Model_contentAt 14 = .ok (.invokevirtual 50, 3) := by decide +kernel
theorem d_Model_contentAt_17 : decode b_Model_contentAt 17 = .ok (.ireturn, 1) := by decide +kernel
theorem d_Model_contentBlock_0 : decode b_Model_contentBlock 0 = .ok (.iload_n 2, 1) := by decide +kernel
theorem d_Model_contentBlock_1 : decode b_Model_contentBlock 1 = .ok (.bipush 10, 2) := by decide +kernel
theorem d_Model_contentBlock_3 : decode b_Model_contentBlock 3 = .ok (.if_icmp .ge 14, 3) := by decide +kernel
theorem d_Model_contentBlock_6 : decode b_Model_contentBlock 6 = .ok (.aload_n 0, 1) := by decide +kernel
theorem d_Model_contentBlock_7 : decode b_Model_contentBlock 7 = .ok (.iload_n 1, 1) := by decide +kernel
theorem d_Model_contentBlock_8 : decode b_Model_contentBlock 8 = .ok (.iconst 4, 1) := by decide +kernel
theorem d_Model_contentBlock_9 : decode b_Model_contentBlock 9 = .ok (.iload_n 2, 1) := by decide +kernel
theorem d_Model_contentBlock_10 : decode b_Model_contentBlock 10 = .ok (.iadd, 1) := by decide +kernel
theorem d_Model_contentBlock_11 : decode b_Model_contentBlock 11 = .ok (.invokevirtual 62, 3) := by decide +kernel
theorem d_Model_contentBlock_14 : decode b_Model_contentBlock 14 = .ok (.goto 18, 3) := by decide +kernel
theorem d_Model_contentBlock_17 : decode b_Model_contentBlock 17 = .ok (.aload_n 0, 1) := by decide +kernel
theorem d_Model_contentBlock_18 : decode b_Model_contentBlock 18 = .ok (.aload_n 0, 1) := by decide +kernel
theorem d_Model_contentBlock_19 : decode b_Model_contentBlock 19 = .ok (.iload_n 1, 1) := by decide +kernel
theorem d_Model_contentBlock_20 : decode b_Model_contentBlock 20 = .ok (.bipush 14, 2) := by decide +kernel
theorem d_Model_contentBlock_22 : decode b_Model_contentBlock 22 = .ok (.invokevirtual 62, 3) := by decide +kernel
theorem d_Model_contentBlock_25 : decode b_Model_contentBlock 25 = .ok (.iload_n 2, 1) := by decide +kernel
theorem d_Model_contentBlock_26 : decode b_Model_contentBlock 26 = .ok (.bipush 10, 2) := by decide +kernel
theorem d_Model_contentBlock_28 : decode b_Model_contentBlock 28 = .ok (.isub, 1) := by decide +kernel
theorem d_Model_contentBlock_29 : decode b_Model_contentBlock 29 = .ok (.invokevirtual 50, 3) := by decide +kernel
theorem d_Model_contentBlock_32 : decode b_Model_contentBlock 32 = .ok (.ireturn, 1) := by decide +kernel
theorem d_Model_findEntry_0 : decode b_Model_findEntry 0 = .ok (.iconst (-1), 1) := by decide +kernel
theorem d_Model_findEntry_1 : decode b_Model_findEntry 1 = .ok (.istore_n 2, 1) := by decide +kernel
theorem d_Model_findEntry_2 : decode b_Model_findEntry 2 = .ok (.iconst 0, 1) := by decide +kernel
theorem d_Model_findEntry_3 : decode b_Model_findEntry 3 = .ok (.istore_n 3, 1) := by decide +kernel
theorem d_Model_findEntry_4 : decode b_Model_findEntry 4 = .ok (.iload_n 3, 1) := by decide +kernel
theorem d_Model_findEntry_5 : decode b_Model_findEntry 5 = .ok (.aload_n 0, 1) := by decide +kernel
theorem d_Model_findEntry_6 : decode b_Model_findEntry 6 = .ok (.iload_n 1, 1) := by decide +kernel
theorem d_Model_findEntry_7 : decode b_Model_findEntry 7 = .ok (.invokevirtual 105, 3) := by decide +kernel
theorem d_Model_findEntry_10 : decode b_Model_findEntry 10 = .ok (.if_icmp .ge 85, 3) := by decide +kernel
theorem d_Model_findEntry_13 : decode b_Model_findEntry 13 = .ok (.aload_n 0, 1) := by decide +kernel
theorem d_Model_findEntry_14 : decode b_Model_findEntry 14 = .ok (.iload_n 1, 1) := by decide +kernel
theorem d_Model_findEntry_15 : decode b_Model_findEntry 15 = .ok (.iload_n 3, 1) := by decide +kernel
theorem d_Model_findEntry_16 : decode b_Model_findEntry 16 = .ok (.invokevirtual 108, 3) := by decide +kernel
theorem d_Model_findEntry_19 : decode b_Model_findEntry 19 = .ok (.ifCond .eq 7, 3) := by decide +kernel
theorem d_Model_findEntry_22 : decode b_Model_findEntry 22 = .ok (.iconst 1, 1) := by decide +kernel
theorem d_Model_findEntry_23 : decode b_Model_findEntry 23 = .ok (.goto 4, 3) := by decide +kernel
theorem d_Model_findEntry_26 : decode b_Model_findEntry 26 = .ok (.iconst 0, 1) := by decide +kernel
theorem d_Model_findEntry_27 : decode b_Model_findEntry 27 = .ok (.istore 4, 2) := by decide +kernel
theorem d_Model_findEntry_29 : decode b_Model_findEntry 29 = .ok (.iconst 0, 1) := by decide +kernel
theorem d_Model_findEntry_30 : decode b_Model_findEntry 30 = .ok (.istore 5, 2) := by decide +kernel
theorem d_Model_findEntry_32 : decode b_Model_findEntry 32 = .ok (.iload 5, 2) := by decide +kernel
theorem d_Model_findEntry_34 : decode b_Model_findEntry 34 = .ok (.bipush 7, 2) := by decide +kernel
theorem d_Model_findEntry_36 : decode b_Model_findEntry 36 = .ok (.if_icmp .ge 42, 3) := by decide +kernel
theorem d_Model_findEntry_39 : decode b_Model_findEntry 39 = .ok (.iload 4, 2) := by decide +kernel
theorem d_Model_findEntry_41 : decode b_Model_findEntry 41 = .ok (.ifCond .eq 28, 3) := by decide +kernel
theorem d_Model_findEntry_44 : decode b_Model_findEntry 44 = .ok (.aload_n 0, 1) := by decide +kernel
theorem d_Model_findEntry_45 : decode b_Model_findEntry 45 = .ok (.iload_n 1, 1) := by decide +kernel
theorem d_Model_findEntry_46 : decode b_Model_findEntry 46 = .ok (.iload_n 3, 1) := by decide +kernel
theorem d_Model_findEntry_47 : decode b_Model_findEntry 47 = .ok (.iconst 1, 1) := by decide +kernel
theorem d_Model_findEntry_48 : decode b_Model_findEntry 48 = .ok (.iadd, 1) := by decide +kernel
theorem d_Model_findEntry_49 : decode b_Model_findEntry 49 = .ok (.iload 5, 2) := by decide +kernel
theorem d_Model_findEntry_51 : decode b_Model_findEntry 51 = .ok (.iadd, 1) := by decide +kernel
theorem d_Model_findEntry_52 : decode b_Model_findEntry 52 = .ok (.invokevirtual 108, 3) := by decide +kernel
theorem d_Model_findEntry_55 : decode b_Model_findEntry 55 = .ok (.aload_n 0, 1) := by decide +kernel
theorem d_Model_findEntry_56 : decode b_Model_findEntry 56 = .ok (.getfield 24, 3) := by decide +kernel
theorem d_Model_findEntry_59 : decode b_Model_findEntry 59 = .ok (.iload 5, 2) := by decide +kernel
theorem d_Model_findEntry_61 : decode b_Model_findEntry 61 = .ok (.baload, 1) := by decide +kernel
theorem d_Model_findEntry_62 : decode b_Model_findEntry 62 = .ok (.if_icmp .ne 7, 3) := by decide +kernel
theorem d_Model_findEntry_65 : decode b_Model_findEntry 65 = .ok (.iconst 1, 1) := by decide +kernel
theorem d_Model_findEntry_66 : decode b_Model_findEntry 66 = .ok (.goto 4, 3) := by decide +kernel
theorem d_Model_findEntry_69 : decode b_Model_findEntry 69 = .ok (.iconst 0, 1) := by decide +kernel
theorem d_Model_findEntry_70 : decode b_Model_findEntry 70 = .ok (.istore 4, 2) := by decide +kernel
theorem d_Model_findEntry_72 : decode b_Model_findEntry 72 = .ok (.iinc 5 1, 3) := by decide +kernel
theorem d_Model_findEntry_75 : decode b_Model_findEntry 75 = .ok (.goto (-43), 3) := by decide +kernel
theorem d_Model_findEntry_78 : decode b_Model_findEntry 78 = .ok (.iload 4, 2) := by decide +kernel
theorem d_Model_findEntry_80 : decode b_Model_findEntry 80 = .ok (.ifCond .eq 7, 3) := by decide +kernel
theorem d_Model_findEntry_83 : decode b_Model_findEntry 83 = .ok (.iload_n 3, 1) := by decide +kernel
theorem d_Model_findEntry_84 : decode b_Model_findEntry 84 = .ok (.goto 4, 3) := by decide +kernel
theorem d_Model_findEntry_87 : decode b_Model_findEntry 87 = .ok (.iload_n 2, 1) := by decide +kernel
theorem d_Model_findEntry_88 : decode b_Model_findEntry 88 = .ok (.istore_n 2, 1) := by decide +kernel
theorem d_Model_findEntry_89 : decode b_Model_findEntry 89 = .ok (.iinc 3 8, 3) := by decide +kernel
theorem d_Model_findEntry_92 : decode b_Model_findEntry 92 = .ok (.goto (-88), 3) := by decide +kernel
theorem d_Model_findEntry_95 : decode b_Model_findEntry 95 = .ok (.iload_n 2, 1) := by decide +kernel
theorem d_Model_findEntry_96 : decode b_Model_findEntry 96 = .ok (.ireturn, 1) := by decide +kernel
theorem d_Model_needs_0 : decode b_Model_needs 0 = .ok (.aload_n 0, 1) := by decide +kernel
theorem d_Model_needs_1 : decode b_Model_needs 1 = .ok (.iload_n 1, 1) := by decide +kernel
theorem d_Model_needs_2 : decode b_Model_needs 2 = .ok (.invokevirtual 105, 3) := by decide +kernel
theorem d_Model_needs_5 : decode b_Model_needs 5 = .ok (.invokestatic 111, 3) := by decide +kernel
theorem d_Model_needs_8 : decode b_Model_needs 8 = .ok (.istore_n 3, 1) := by decide +kernel
theorem d_Model_needs_9 : decode b_Model_needs 9 = .ok (.iload_n 2, 1) := by decide +kernel
theorem d_Model_needs_10 : decode b_Model_needs 10 = .ok (.invokestatic 111, 3) := by decide +kernel
theorem d_Model_needs_13 : decode b_Model_needs 13 = .ok (.istore 4, 2) := by decide +kernel
theorem d_Model_needs_15 : decode b_Model_needs 15 = .ok (.iload 4, 2) := by decide +kernel
theorem d_Model_needs_17 : decode b_Model_needs 17 = .ok (.iload_n 3, 1) := by decide +kernel
theorem d_Model_needs_18 : decode b_Model_needs 18 = .ok (.if_icmp .gt 7, 3) := by decide +kernel
theorem d_Model_needs_21 : decode b_Model_needs 21 = .ok (.iconst 0, 1) := by decide +kernel
theorem d_Model_needs_22 : decode b_Model_needs 22 = .ok (.goto 26, 3) := by decide +kernel
theorem d_Model_needs_25 : decode b_Model_needs 25 = .ok (.iload 4, 2) := by decide +kernel
theorem d_Model_needs_27 : decode b_Model_needs 27 = .ok (.iload_n 3, 1) := by decide +kernel
theorem d_Model_needs_28 : decode b_Model_needs 28 = .ok (.isub, 1) := by decide +kernel
theorem d_Model_needs_29 : decode b_Model_needs 29 = .ok (.iload 4, 2) := by decide +kernel
theorem d_Model_needs_31 : decode b_Model_needs 31 = .ok (.bipush 10, 2) := by decide +kernel
theorem d_Model_needs_33 : decode b_Model_needs 33 = .ok (.if_icmp .le 13, 3) := by decide +kernel
theorem d_Model_needs_36 : decode b_Model_needs 36 = .ok (.iload_n 3, 1) := by decide +kernel
theorem d_Model_needs_37 : decode b_Model_needs 37 = .ok (.bipush 10, 2) := by decide +kernel
theorem d_Model_needs_39 : decode b_Model_needs 39 = .ok (.if_icmp .gt 7, 3) := by decide +kernel
theorem d_Model_needs_42 : decode b_Model_needs 42 = .ok (.iconst 1, 1) := by decide +kernel
theorem d_Model_needs_43 : decode b_Model_needs 43 = .ok (.goto 4, 3) := by decide +kernel
theorem d_Model_needs_46 : decode b_Model_needs 46 = .ok (.iconst 0, 1) := by decide +kernel
theorem d_Model_needs_47 : decode b_Model_needs 47 = .ok (.iadd, 1) := by decide +kernel
theorem d_Model_needs_48 : decode b_Model_needs 48 = .ok (.ireturn, 1) := by decide +kernel
theorem d_Model_blocksFor_0 : decode b_Model_blocksFor 0 = .ok (.iload_n 0, 1) := by decide +kernel
theorem d_Model_blocksFor_1 : decode b_Model_blocksFor 1 = .ok (.bipush 64, 2) := by decide +kernel
theorem d_Model_blocksFor_3 : decode b_Model_blocksFor 3 = .ok (.iadd, 1) := by decide +kernel
theorem d_Model_blocksFor_4 : decode b_Model_blocksFor 4 = .ok (.iconst 1, 1) := by decide +kernel
theorem d_Model_blocksFor_5 : decode b_Model_blocksFor 5 = .ok (.isub, 1) := by decide +kernel
theorem d_Model_blocksFor_6 : decode b_Model_blocksFor 6 = .ok (.bipush 64, 2) := by decide +kernel
theorem d_Model_blocksFor_8 : decode b_Model_blocksFor 8 = .ok (.idiv, 1) := by decide +kernel
theorem d_Model_blocksFor_9 : decode b_Model_blocksFor 9 = .ok (.ireturn, 1) := by decide +kernel
theorem d_Model_freeBlocks_0 : decode b_Model_freeBlocks 0 = .ok (.iconst 0, 1) := by decide +kernel
theorem d_Model_freeBlocks_1 : decode b_Model_freeBlocks 1 = .ok (.istore_n 1, 1) := by decide +kernel
theorem d_Model_freeBlocks_2 : decode b_Model_freeBlocks 2 = .ok (.iconst 0, 1) := by decide +kernel
theorem d_Model_freeBlocks_3 : decode b_Model_freeBlocks 3 = .ok (.istore_n 2, 1) := by decide +kernel
theorem d_Model_freeBlocks_4 : decode b_Model_freeBlocks 4 = .ok (.iload_n 2, 1) := by decide +kernel
theorem d_Model_freeBlocks_5 : decode b_Model_freeBlocks 5 = .ok (.sipush 128, 3) := by decide +kernel
theorem d_Model_freeBlocks_8 : decode b_Model_freeBlocks 8 = .ok (.if_icmp .ge 25, 3) := by decide +kernel
theorem d_Model_freeBlocks_11 : decode b_Model_freeBlocks 11 = .ok (.iload_n 1, 1) := by decide +kernel
theorem d_Model_freeBlocks_12 : decode b_Model_freeBlocks 12 = .ok (.aload_n 0, 1) := by decide +kernel
theorem d_Model_freeBlocks_13 : decode b_Model_freeBlocks 13 = .ok (.iload_n 2, 1) := by decide +kernel
theorem d_Model_freeBlocks_14 : decode b_Model_freeBlocks 14 = .ok (.invokevirtual 71, 3) := by decide +kernel
theorem d_Model_freeBlocks_17 : decode b_Model_freeBlocks 17 = .ok (.ifCond .eq 7, 3) := by decide +kernel
theorem d_Model_freeBlocks_20 : decode b_Model_freeBlocks 20 = .ok (.iconst 0, 1) := by decide +kernel
theorem d_Model_freeBlocks_21 : decode b_Model_freeBlocks 21 = .ok (.goto 4, 3) := by decide +kernel
theorem d_Model_freeBlocks_24 : decode b_Model_freeBlocks 24 = .ok (.iconst 1, 1) := by decide +kernel
theorem d_Model_freeBlocks_25 : decode b_Model_freeBlocks 25 = .ok (.iadd, 1) := by decide +kernel
theorem d_Model_freeBlocks_26 : decode b_Model_freeBlocks 26 = .ok (.istore_n 1, 1) := by decide +kernel
theorem d_Model_freeBlocks_27 : decode b_Model_freeBlocks 27 = .ok (.iinc 2 1, 3) := by decide +kernel
theorem d_Model_freeBlocks_30 : decode b_Model_freeBlocks 30 = .ok (.goto (-26), 3) := by decide +kernel
theorem d_Model_freeBlocks_33 : decode b_Model_freeBlocks 33 = .ok (.iload_n 1, 1) := by decide +kernel
theorem d_Model_freeBlocks_34 : decode b_Model_freeBlocks 34 = .ok (.ireturn, 1) := by decide +kernel
theorem d_Model_isUsed_0 : decode b_Model_isUsed 0 = .ok (.aload_n 0, 1) := by decide +kernel
theorem d_Model_isUsed_1 : decode b_Model_isUsed 1 = .ok (.bipush 25, 2) := by decide +kernel
theorem d_Model_isUsed_3 : decode b_Model_isUsed 3 = .ok (.iload_n 1, 1) := by decide +kernel
theorem d_Model_isUsed_4 : decode b_Model_isUsed 4 = .ok (.bipush 8, 2) := by decide +kernel
theorem d_Model_isUsed_6 : decode b_Model_isUsed 6 = .ok (.idiv, 1) := by decide +kernel
theorem d_Model_isUsed_7 : decode b_Model_isUsed 7 = .ok (.invokevirtual 50, 3) := by decide +kernel
theorem d_Model_isUsed_10 : decode b_Model_isUsed 10 = .ok (.iload_n 1, 1) := by decide +kernel
theorem d_Model_isUsed_11 : decode b_Model_isUsed 11 = .ok (.bipush 8, 2) := by decide +kernel
theorem d_Model_isUsed_13 : decode b_Model_isUsed 13 = .ok (.irem, 1) := by decide +kernel
theorem d_Model_isUsed_14 : decode b_Model_isUsed 14 = .ok (.ishr, 1) := by decide +kernel
theorem d_Model_isUsed_15 : decode b_Model_isUsed 15 = .ok (.iconst 1, 1) := by decide +kernel
theorem d_Model_isUsed_16 : decode b_Model_isUsed 16 = .ok (.iand, 1) := by decide +kernel
theorem d_Model_isUsed_17 : decode b_Model_isUsed 17 = .ok (.iconst 1, 1) := by decide +kernel
theorem d_Model_isUsed_18 : decode b_Model_isUsed 18 = .ok (.if_icmp .ne 7, 3) := by decide +kernel
theorem d_Model_isUsed_21 : decode b_Model_isUsed 21 = .ok (.iconst 1, 1) := by decide +kernel
theorem d_Model_isUsed_22 : decode b_Model_isUsed 22 = .ok (.goto 4, 3) := by decide +kernel
theorem d_Model_isUsed_25 : decode b_Model_isUsed 25 = .ok (.iconst 0, 1) := by decide +kernel
theorem d_Model_isUsed_26 : decode b_Model_isUsed 26 = .ok (.ireturn, 1) := by decide +kernel
theorem d_Model_freeInode_0 : decode b_Model_freeInode 0 = .ok (.iconst 0, 1) := by decide +kernel
theorem d_Model_freeInode_1 : decode b_Model_freeInode 1 = .ok (.istore_n 1, 1) := by decide +kernel
theorem d_Model_freeInode_2 : decode b_Model_freeInode 2 = .ok (.iload_n 1, 1) := by decide +kernel
theorem d_Model_freeInode_3 : decode b_Model_freeInode 3 = .ok (.bipush 32, 2) := by decide +kernel
theorem d_Model_freeInode_5 : decode b_Model_freeInode 5 = .ok (.if_icmp .ge 18, 3) := by decide +kernel
theorem d_Model_freeInode_8 : decode b_Model_freeInode 8 = .ok (.aload_n 0, 1) := by decide +kernel
theorem d_Model_freeInode_9 : decode b_Model_freeInode 9 = .ok (.iload_n 1, 1) := by decide +kernel
theorem d_Model_freeInode_10 : decode b_Model_freeInode 10 = .ok (.iconst 0, 1) := by decide +kernel
theorem d_Model_freeInode_11 : decode b_Model_freeInode 11 = .ok (.invokevirtual 62, 3) := by decide +kernel
theorem d_Model_freeInode_14 : decode b_Model_freeInode 14 = .ok (.ifCond .eq 9, 3) := by decide +kernel
theorem d_Model_freeInode_17 : decode b_Model_freeInode 17 = .ok (.iinc 1 1, 3) := by decide +kernel
theorem d_Model_freeInode_20 : decode b_Model_freeInode 20 = .ok (.goto (-18), 3) := by decide +kernel
theorem d_Model_freeInode_23 : decode b_Model_freeInode 23 = .ok (.iload_n 1, 1) := by decide +kernel
theorem d_Model_freeInode_24 : decode b_Model_freeInode 24 = .ok (.bipush 32, 2) := by decide +kernel
theorem d_Model_freeInode_26 : decode b_Model_freeInode 26 = .ok (.if_icmp .ge 7, 3) := by decide +kernel
theorem d_Model_freeInode_29 : decode b_Model_freeInode 29 = .ok (.iload_n 1, 1) := by decide +kernel
theorem d_Model_freeInode_30 : decode b_Model_freeInode 30 = .ok (.goto 4, 3) := by decide +kernel
theorem d_Model_freeInode_33 : decode b_Model_freeInode 33 = .ok (.iconst (-1), 1) := by decide +kernel
theorem d_Model_freeInode_34 : decode b_Model_freeInode 34 = .ok (.ireturn, 1) := by decide +kernel
theorem d_Model_ready_0 : decode b_Model_ready 0 = .ok (.aload_n 0, 1) := by decide +kernel
theorem d_Model_ready_1 : decode b_Model_ready 1 = .ok (.getfield 36, 3) := by decide +kernel
theorem d_Model_ready_4 : decode b_Model_ready 4 = .ok (.bipush 10, 2) := by decide +kernel
theorem d_Model_ready_6 : decode b_Model_ready 6 = .ok (.if_icmp .gt 5, 3) := by decide +kernel
theorem d_Model_ready_9 : decode b_Model_ready 9 = .ok (.iconst 1, 1) := by decide +kernel
theorem d_Model_ready_10 : decode b_Model_ready 10 = .ok (.ireturn, 1) := by decide +kernel
theorem d_Model_ready_11 : decode b_Model_ready 11 = .ok (.aload_n 0, 1) := by decide +kernel
theorem d_Model_ready_12 : decode b_Model_ready 12 = .ok (.invokevirtual 96, 3) := by decide +kernel
theorem d_Model_ready_15 : decode b_Model_ready 15 = .ok (.istore_n 1, 1) := by decide +kernel
theorem d_Model_ready_16 : decode b_Model_ready 16 = .ok (.aload_n 0, 1) := by decide +kernel
theorem d_Model_ready_17 : decode b_Model_ready 17 = .ok (.iload_n 1, 1) := by decide +kernel
theorem d_Model_ready_18 : decode b_Model_ready 18 = .ok (.ifCond .eq 7, 3) := by decide +kernel
theorem d_Model_ready_21 : decode b_Model_ready 21 = .ok (.iconst 0, 1) := by decide +kernel
theorem d_Model_ready_22 : decode b_Model_ready 22 = .ok (.goto 4, 3) := by decide +kernel
theorem d_Model_ready_25 : decode b_Model_ready 25 = .ok (.iconst 2, 1) := by decide +kernel
theorem d_Model_ready_26 : decode b_Model_ready 26 = .ok (.putfield 33, 3) := by decide +kernel
theorem d_Model_ready_29 : decode b_Model_ready 29 = .ok (.iload_n 1, 1) := by decide +kernel
theorem d_Model_ready_30 : decode b_Model_ready 30 = .ok (.ireturn, 1) := by decide +kernel
theorem d_Model_setInode_0 : decode b_Model_setInode 0 = .ok (.aload_n 0, 1) := by decide +kernel
theorem d_Model_setInode_1 : decode b_Model_setInode 1 = .ok (.iload_n 1, 1) := by decide +kernel
theorem d_Model_setInode_2 : decode b_Model_setInode 2 = .ok (.invokestatic 43, 3) := by decide +kernel
theorem d_Model_setInode_5 : decode b_Model_setInode 5 = .ok (.iload_n 1, 1) := by decide +kernel
theorem d_Model_setInode_6 : decode b_Model_setInode 6 = .ok (.invokestatic 47, 3) := by decide +kernel
theorem d_Model_setInode_9 : decode b_Model_setInode 9 = .ok (.iload_n 2, 1) := by decide +kernel
theorem d_Model_setInode_10 : decode b_Model_setInode 10 = .ok (.iadd, 1) := by decide +kernel
theorem d_Model_setInode_11 : decode b_Model_setInode 11 = .ok (.iload_n 3, 1) := by decide +kernel
theorem d_Model_setInode_12 : decode b_Model_setInode 12 = .ok (.invokevirtual 54, 3) := by decide +kernel
theorem d_Model_setInode_15 : decode b_Model_setInode 15 = .ok (.return_, 1) := by decide +kernel
theorem d_Model_set_0 : decode b_Model_set 0 = .ok (.aload_n 0, 1) := by decide +kernel
theorem d_Model_set_1 : decode b_Model_set 1 = .ok (.getfield 13, 3) := by decide +kernel
theorem d_Model_set_4 : decode b_Model_set 4 = .ok (.bipush 64, 2) := by decide +kernel
theorem d_Model_set_6 : decode b_Model_set 6 = .ok (.iload_n 1, 1) := by decide +kernel
theorem d_Model_set_7 : decode b_Model_set 7 = .ok (.imul, 1) := by decide +kernel
theorem d_Model_set_8 : decode b_Model_set 8 = .ok (.iload_n 2, 1) := by decide +kernel
theorem d_Model_set_9 : decode b_Model_set 9 = .ok (.iadd, 1) := by decide +kernel
theorem d_Model_set_10 : decode b_Model_set 10 = .ok (.iload_n 3, 1) := by decide +kernel
theorem d_Model_set_11 : decode b_Model_set 11 = .ok (.i2b, 1) := by decide +kernel
theorem d_Model_set_12 : decode b_Model_set 12 = .ok (.bastore, 1) := by decide +kernel
theorem d_Model_set_13 : decode b_Model_set 13 = .ok (.aload_n 0, 1) := by decide +kernel
theorem d_Model_set_14 : decode b_Model_set 14 = .ok (.iload_n 1, 1) := by decide +kernel
theorem d_Model_set_15 : decode b_Model_set 15 = .ok (.invokevirtual 39, 3) := by decide +kernel
theorem d_Model_set_18 : decode b_Model_set 18 = .ok (.return_, 1) := by decide +kernel
theorem d_Model_pend_0 : decode b_Model_pend 0 = .ok (.iconst 0, 1) := by decide +kernel
theorem d_Model_pend_1 : decode b_Model_pend 1 = .ok (.istore_n 2, 1) := by decide +kernel
theorem d_Model_pend_2 : decode b_Model_pend 2 = .ok (.iconst 0, 1) := by decide +kernel
theorem d_Model_pend_3 : decode b_Model_pend 3 = .ok (.istore_n 3, 1) := by decide +kernel
theorem d_Model_pend_4 : decode b_Model_pend 4 = .ok (.iload_n 3, 1) := by decide +kernel
theorem d_Model_pend_5 : decode b_Model_pend 5 = .ok (.aload_n 0, 1) := by decide +kernel
theorem d_Model_pend_6 : decode b_Model_pend 6 = .ok (.getfield 36, 3) := by decide +kernel
theorem d_Model_pend_9 : decode b_Model_pend 9 = .ok (.if_icmp .ge 29, 3) := by decide +kernel
theorem d_Model_pend_12 : decode b_Model_pend 12 = .ok (.iload_n 2, 1) := by decide +kernel
theorem d_Model_pend_13 : decode b_Model_pend 13 = .ok (.ifCond .ne 13, 3) := by decide +kernel
theorem d_Model_pend_16 : decode b_Model_pend 16 = .ok (.aload_n 0, 1) := by decide +kernel
theorem d_Model_pend_17 : decode b_Model_pend 17 = .ok (.getfield 16, 3) := by decide +kernel
theorem d_Model_pend_20 : decode b_Model_pend 20 = .ok (.iload_n 3, 1) := by decide +kernel
theorem d_Model_pend_21 : decode b_Model_pend 21 = .ok (.iaload, 1) := by decide +kernel
theorem d_Model_pend_22 : decode b_Model_pend 22 = .ok (.iload_n 1, 1) := by decide +kernel
theorem d_Model_pend_23 : decode b_Model_pend 23 = .ok (.if_icmp .ne 7, 3) := by decide +kernel
theorem d_Model_pend_26 : decode b_Model_pend 26 = .ok (.iconst 1, 1) := by decide +kernel
theorem d_Model_pend_27 : decode b_Model_pend 27 = .ok (.goto 4, 3) := by decide +kernel
theorem d_Model_pend_30 : decode b_Model_pend 30 = .ok (.iconst 0, 1) := by decide +kernel
theorem d_Model_pend_31 : decode b_Model_pend 31 = .ok (.istore_n 2, 1) := by decide +kernel
theorem d_Model_pend_32 : decode b_Model_pend 32 = .ok (.iinc 3 1, 3) := by decide +kernel
theorem d_Model_pend_35 : decode b_Model_pend 35 = .ok (.goto (-31), 3) := by decide +kernel
theorem d_Model_pend_38 : decode b_Model_pend 38 = .ok (.iload_n 2, 1) := by decide +kernel
theorem d_Model_pend_39 : decode b_Model_pend 39 = .ok (.ifCond .ne 23, 3) := by decide +kernel
theorem d_Model_pend_42 : decode b_Model_pend 42 = .ok (.aload_n 0, 1) := by decide +kernel
theorem d_Model_pend_43 : decode b_Model_pend 43 = .ok (.getfield 16, 3) := by decide +kernel
theorem d_Model_pend_46 : decode b_Model_pend 46 = .ok (.aload_n 0, 1) := by decide +kernel
theorem d_Model_pend_47 : decode b_Model_pend 47 = .ok (.getfield 36, 3) := by decide +kernel
theorem d_Model_pend_50 : decode b_Model_pend 50 = .ok (.iload_n 1, 1) := by decide +kernel
theorem d_Model_pend_51 : decode b_Model_pend 51 = .ok (.iastore, 1) := by decide +kernel
theorem d_Model_pend_52 : decode b_Model_pend 52 = .ok (.aload_n 0, 1) := by decide +kernel
theorem d_Model_pend_53 : decode b_Model_pend 53 = .ok (.dup, 1) := by decide +kernel
theorem d_Model_pend_54 : decode b_Model_pend 54 = .ok (.getfield 36, 3) := by decide +kernel
theorem d_Model_pend_57 : decode b_Model_pend 57 = .ok (.iconst 1, 1) := by decide +kernel
theorem d_Model_pend_58 : decode b_Model_pend 58 = .ok (.iadd, 1) := by decide +kernel
theorem d_Model_pend_59 : decode b_Model_pend 59 = .ok (.putfield 36, 3) := by decide +kernel
theorem d_Model_pend_62 : decode b_Model_pend 62 = .ok (.return_, 1) := by decide +kernel
theorem d_Model_enter_0 : decode b_Model_enter 0 = .ok (.aload_n 0, 1) := by decide +kernel
theorem d_Model_enter_1 : decode b_Model_enter 1 = .ok (.iload_n 1, 1) := by decide +kernel
theorem d_Model_enter_2 : decode b_Model_enter 2 = .ok (.invokevirtual 118, 3) := by decide +kernel
theorem d_Model_enter_5 : decode b_Model_enter 5 = .ok (.istore_n 3, 1) := by decide +kernel
theorem d_Model_enter_6 : decode b_Model_enter 6 = .ok (.iload_n 3, 1) := by decide +kernel
theorem d_Model_enter_7 : decode b_Model_enter 7 = .ok (.aload_n 0, 1) := by decide +kernel
theorem d_Model_enter_8 : decode b_Model_enter 8 = .ok (.iload_n 1, 1) := by decide +kernel
theorem d_Model_enter_9 : decode b_Model_enter 9 = .ok (.invokevirtual 105, 3) := by decide +kernel
theorem d_Model_enter_12 : decode b_Model_enter 12 = .ok (.if_icmp .ne 7, 3) := by decide +kernel
theorem d_Model_enter_15 : decode b_Model_enter 15 = .ok (.iconst 1, 1) := by decide +kernel
theorem d_Model_enter_16 : decode b_Model_enter 16 = .ok (.goto 4, 3) := by decide +kernel
theorem d_Model_enter_19 : decode b_Model_enter 19 = .ok (.iconst 0, 1) := by decide +kernel
theorem d_Model_enter_20 : decode b_Model_enter 20 = .ok (.istore 4, 2) := by decide +kernel
theorem d_Model_enter_22 : decode b_Model_enter 22 = .ok (.iload 4, 2) := by decide +kernel
theorem d_Model_enter_24 : decode b_Model_enter 24 = .ok (.ifCond .eq 19, 3) := by decide +kernel
theorem d_Model_enter_27 : decode b_Model_enter 27 = .ok (.iload_n 3, 1) := by decide +kernel
theorem d_Model_enter_28 : decode b_Model_enter 28 = .ok (.bipush 64, 2) := by decide +kernel
theorem d_Model_enter_30 : decode b_Model_enter 30 = .ok (.irem, 1) := by decide +kernel
theorem d_Model_enter_31 : decode b_Model_enter 31 = .ok (.ifCond .ne 12, 3) := by decide +kernel
theorem d_Model_enter_34 : decode b_Model_enter 34 = .ok (.aload_n 0, 1) := by decide +kernel
theorem d_Model_enter_35 : decode b_Model_enter 35 = .ok (.iload_n 1, 1) := by decide +kernel
theorem d_Model_enter_36 : decode b_Model_enter 36 = .ok (.iload_n 3, 1) := by decide +kernel
theorem d_Model_enter_37 : decode b_Model_enter 37 = .ok (.bipush 64, 2) := by decide +kernel
theorem d_Model_enter_39 : decode b_Model_enter 39 = .ok (.idiv, 1) := by decide +kernel
theorem d_Model_enter_40 : decode b_Model_enter 40 = .ok (.invokevirtual 121, 3) := by decide +kernel
theorem d_Model_enter_43 : decode b_Model_enter 43 = .ok (.aload_n 0, 1) := by decide +kernel
theorem d_Model_enter_44 : decode b_Model_enter 44 = .ok (.iload_n 1, 1) := by decide +kernel
theorem d_Model_enter_45 : decode b_Model_enter 45 = .ok (.iload_n 3, 1) := by decide +kernel
theorem d_Model_enter_46 : decode b_Model_enter 46 = .ok (.bipush 64, 2) := by decide +kernel
theorem d_Model_enter_48 : decode b_Model_enter 48 = .ok (.idiv, 1) := by decide +kernel
theorem d_Model_enter_49 : decode b_Model_enter 49 = .ok (.invokevirtual 68, 3) := by decide +kernel
theorem d_Model_enter_52 : decode b_Model_enter 52 = .ok (.istore 5, 2) := by decide +kernel
theorem d_Model_enter_54 : decode b_Model_enter 54 = .ok (.aload_n 0, 1) := by decide +kernel
theorem d_Model_enter_55 : decode b_Model_enter 55 = .ok (.iload 5, 2) := by decide +kernel
theorem d_Model_enter_57 : decode b_Model_enter 57 = .ok (.iload_n 3, 1) := by decide +kernel
theorem d_Model_enter_58 : decode b_Model_enter 58 = .ok (.bipush 64, 2) := by decide +kernel
theorem d_Model_enter_60 : decode b_Model_enter 60 = .ok (.irem, 1) := by decide +kernel
theorem d_Model_enter_61 : decode b_Model_enter 61 = .ok (.iload_n 2, 1) := by decide +kernel
theorem d_Model_enter_62 : decode b_Model_enter 62 = .ok (.iconst 1, 1) := by decide +kernel
theorem d_Model_enter_63 : decode b_Model_enter 63 = .ok (.iadd, 1) := by decide +kernel
theorem d_Model_enter_64 : decode b_Model_enter 64 = .ok (.invokevirtual 54, 3) := by decide +kernel
theorem d_Model_enter_67 : decode b_Model_enter 67 = .ok (.iconst 0, 1) := by decide +kernel
theorem d_Model_enter_68 : decode b_Model_enter 68 = .ok (.istore 6, 2) := by decide +kernel
theorem d_Model_enter_70 : decode b_Model_enter 70 = .ok (.iload 6, 2) := by decide +kernel
theorem d_Model_enter_72 : decode b_Model_enter 72 = .ok (.bipush 7, 2) := by decide +kernel
theorem d_Model_enter_74 : decode b_Model_enter 74 = .ok (.if_icmp .ge 31, 3) := by decide +kernel
theorem d_Model_enter_77 : decode b_Model_enter 77 = .ok (.aload_n 0, 1) := by decide +kernel
theorem d_Model_enter_78 : decode b_Model_enter 78 = .ok (.iload 5, 2) := by decide +kernel
theorem d_Model_enter_80 : decode b_Model_enter 80 = .ok (.iload_n 3, 1) := by decide +kernel
theorem d_Model_enter_81 : decode b_Model_enter 81 = .ok (.bipush 64, 2) := by decide +kernel
theorem d_Model_enter_83 : decode b_Model_enter 83 = .ok (.irem, 1) := by decide +kernel
theorem d_Model_enter_84 : decode b_Model_enter 84 = .ok (.iconst 1, 1) := by decide +kernel
theorem d_Model_enter_85 : decode b_Model_enter 85 = .ok (.iadd, 1) := by decide +kernel
theorem d_Model_enter_86 : decode b_Model_enter 86 = .ok (.iload 6, 2) := by decide +kernel
theorem d_Model_enter_88 : decode b_Model_enter 88 = .ok (.iadd, 1) := by decide +kernel
theorem d_Model_enter_89 : decode b_Model_enter 89 = .ok (.aload_n 0, 1) := by decide +kernel
theorem d_Model_enter_90 : decode b_Model_enter 90 = .ok (.getfield 24, 3) := by decide +kernel
theorem d_Model_enter_93 : decode b_Model_enter 93 = .ok (.iload 6, 2) := by decide +kernel
theorem d_Model_enter_95 : decode b_Model_enter 95 = .ok (.baload, 1) := by decide +kernel
theorem d_Model_enter_96 : decode b_Model_enter 96 = .ok (.invokevirtual 54, 3) := by decide +kernel
theorem d_Model_enter_99 : decode b_Model_enter 99 = .ok (.iinc 6 1, 3) := by decide +kernel
theorem d_Model_enter_102 : decode b_Model_enter 102 = .ok (.goto (-32), 3) := by decide +kernel
theorem d_Model_enter_105 : decode b_Model_enter 105 = .ok (.iload 4, 2) := by decide +kernel
theorem d_Model_enter_107 : decode b_Model_enter 107 = .ok (.ifCond .eq 12, 3) := by decide +kernel
theorem d_Model_enter_110 : decode b_Model_enter 110 = .ok (.aload_n 0, 1) := by decide +kernel
theorem d_Model_enter_111 : decode b_Model_enter 111 = .ok (.iload_n 1, 1) := by decide +kernel
theorem d_Model_enter_112 : decode b_Model_enter 112 = .ok (.iload_n 3, 1) := by decide +kernel
theorem d_Model_enter_113 : decode b_Model_enter 113 = .ok (.bipush 8, 2) := by decide +kernel
theorem d_Model_enter_115 : decode b_Model_enter 115 = .ok (.iadd, 1) := by decide +kernel
theorem d_Model_enter_116 : decode b_Model_enter 116 = .ok (.invokevirtual 125, 3) := by decide +kernel
theorem d_Model_enter_119 : decode b_Model_enter 119 = .ok (.return_, 1) := by decide +kernel
theorem d_Model_blockFor_0 : decode b_Model_blockFor 0 = .ok (.iload_n 2, 1) := by decide +kernel
theorem d_Model_blockFor_1 : decode b_Model_blockFor 1 = .ok (.bipush 10, 2) := by decide +kernel
theorem d_Model_blockFor_3 : decode b_Model_blockFor 3 = .ok (.if_icmp .ge 20, 3) := by decide +kernel
theorem d_Model_blockFor_6 : decode b_Model_blockFor 6 = .ok (.aload_n 0, 1) := by decide +kernel
theorem d_Model_blockFor_7 : decode b_Model_blockFor 7 = .ok (.invokevirtual 114, 3) := by decide +kernel
theorem d_Model_blockFor_10 : decode b_Model_blockFor 10 = .ok (.istore_n 3, 1) := by decide +kernel
theorem d_Model_blockFor_11 : decode b_Model_blockFor 11 = .ok (.aload_n 0, 1) := by decide +kernel
theorem d_Model_blockFor_12 : decode b_Model_blockFor 12 = .ok (.iload_n 1, 1) := by decide +kernel
theorem d_Model_blockFor_13 : decode b_Model_blockFor 13 = .ok (.iconst 4, 1) := by decide +kernel
theorem d_Model_blockFor_14 : decode b_Model_blockFor 14 = .ok (.iload_n 2, 1) := by decide +kernel
theorem d_Model_blockFor_15 : decode b_Model_blockFor 15 = .ok (.iadd, 1) := by decide +kernel
theorem d_Model_blockFor_16 : decode b_Model_blockFor 16 = .ok (.iload_n 3, 1) := by decide +kernel
theorem d_Model_blockFor_17 : decode b_Model_blockFor 17 = .ok (.invokevirtual 65, 3) := by decide +kernel
theorem d_Model_blockFor_20 : decode b_Model_blockFor 20 = .ok (.goto 47, 3) := by decide +kernel
theorem d_Model_blockFor_23 : decode b_Model_blockFor 23 = .ok (.aload_n 0, 1) := by decide +kernel
theorem d_Model_blockFor_24 : decode b_Model_blockFor 24 = .ok (.iload_n 1, 1) := by decide +kernel
theorem d_Model_blockFor_25 : decode b_Model_blockFor 25 = .ok (.bipush 14, 2) := by decide +kernel
theorem d_Model_blockFor_27 : decode b_Model_blockFor 27 = .ok (.invokevirtual 62, 3) := by decide +kernel
theorem d_Model_blockFor_30 : decode b_Model_blockFor 30 = .ok (.ifCond .ne 16, 3) := by decide +kernel
theorem d_Model_blockFor_33 : decode b_Model_blockFor 33 = .ok (.aload_n 0, 1) := by decide +kernel
theorem d_Model_blockFor_34 : decode b_Model_blockFor 34 = .ok (.invokevirtual 114, 3) := by decide +kernel
theorem d_Model_blockFor_37 : decode b_Model_blockFor 37 = .ok (.istore_n 3, 1) := by decide +kernel
theorem d_Model_blockFor_38 : decode b_Model_blockFor 38 = .ok (.aload_n 0, 1) := by decide +kernel
theorem d_Model_blockFor_39 : decode b_Model_blockFor 39 = .ok (.iload_n 1, 1) := by decide +kernel
theorem d_Model_blockFor_40 : decode b_Model_blockFor 40 = .ok (.bipush 14, 2) := by decide +kernel
theorem d_Model_blockFor_42 : decode b_Model_blockFor 42 = .ok (.iload_n 3, 1) := by decide +kernel
theorem d_Model_blockFor_43 : decode b_Model_blockFor 43 = .ok (.invokevirtual 65, 3) := by decide +kernel
theorem d_Model_blockFor_46 : decode b_Model_blockFor 46 = .ok (.aload_n 0, 1) := by decide +kernel
theorem d_Model_blockFor_47 : decode b_Model_blockFor 47 = .ok (.invokevirtual 114, 3) := by decide +kernel
theorem d_Model_blockFor_50 : decode b_Model_blockFor 50 = .ok (.istore_n 3, 1) := by decide +kernel
theorem d_Model_blockFor_51 : decode b_Model_blockFor 51 = .ok (.aload_n 0, 1) := by decide +kernel
theorem d_Model_blockFor_52 : decode b_Model_blockFor 52 = .ok (.aload_n 0, 1) := by decide +kernel
theorem d_Model_blockFor_53 : decode b_Model_blockFor 53 = .ok (.iload_n 1, 1) := by decide +kernel
theorem d_Model_blockFor_54 : decode b_Model_blockFor 54 = .ok (.bipush 14, 2) := by decide +kernel
theorem d_Model_blockFor_56 : decode b_Model_blockFor 56 = .ok (.invokevirtual 62, 3) := by decide +kernel
theorem d_Model_blockFor_59 : decode b_Model_blockFor 59 = .ok (.iload_n 2, 1) := by decide +kernel
theorem d_Model_blockFor_60 : decode b_Model_blockFor 60 = .ok (.bipush 10, 2) := by decide +kernel
theorem d_Model_blockFor_62 : decode b_Model_blockFor 62 = .ok (.isub, 1) := by decide +kernel
theorem d_Model_blockFor_63 : decode b_Model_blockFor 63 = .ok (.iload_n 3, 1) := by decide +kernel
theorem d_Model_blockFor_64 : decode b_Model_blockFor 64 = .ok (.invokevirtual 54, 3) := by decide +kernel
theorem d_Model_blockFor_67 : decode b_Model_blockFor 67 = .ok (.return_, 1) := by decide +kernel
theorem d_Model_takeBlock_0 : decode b_Model_takeBlock 0 = .ok (.iconst 0, 1) := by decide +kernel
theorem d_Model_takeBlock_1 : decode b_Model_takeBlock 1 = .ok (.istore_n 1, 1) := by decide +kernel
theorem d_Model_takeBlock_2 : decode b_Model_takeBlock 2 = .ok (.aload_n 0, 1) := by decide +kernel
theorem d_Model_takeBlock_3 : decode b_Model_takeBlock 3 = .ok (.iload_n 1, 1) := by decide +kernel
theorem d_Model_takeBlock_4 : decode b_Model_takeBlock 4 = .ok (.invokevirtual 71, 3) := by decide +kernel
theorem d_Model_takeBlock_7 : decode b_Model_takeBlock 7 = .ok (.ifCond .eq 9, 3) := by decide +kernel
theorem d_Model_takeBlock_10 : decode b_Model_takeBlock 10 = .ok (.iinc 1 1, 3) := by decide +kernel
theorem d_Model_takeBlock_13 : decode b_Model_takeBlock 13 = .ok (.goto (-11), 3) := by decide +kernel
theorem d_Model_takeBlock_16 : decode b_Model_takeBlock 16 = .ok (.aload_n 0, 1) := by decide +kernel
theorem d_Model_takeBlock_17 : decode b_Model_takeBlock 17 = .ok (.bipush 25, 2) := by decide +kernel
theorem d_Model_takeBlock_19 : decode b_Model_takeBlock 19 = .ok (.iload_n 1, 1) := by decide +kernel
theorem d_Model_takeBlock_20 : decode b_Model_takeBlock 20 = .ok (.bipush 8, 2) := by decide +kernel
theorem d_Model_takeBlock_22 : decode b_Model_takeBlock 22 = .ok (.idiv, 1) := by decide +kernel
theorem d_Model_takeBlock_23 : decode b_Model_takeBlock 23 = .ok (.aload_n 0, 1) := by decide +kernel
theorem d_Model_takeBlock_24 : decode b_Model_takeBlock 24 = .ok (.bipush 25, 2) := by decide +kernel
theorem d_Model_takeBlock_26 : decode b_Model_takeBlock 26 = .ok (.iload_n 1, 1) := by decide +kernel
theorem d_Model_takeBlock_27 : decode b_Model_takeBlock 27 = .ok (.bipush 8, 2) := by decide +kernel
theorem d_Model_takeBlock_29 : decode b_Model_takeBlock 29 = .ok (.idiv, 1) := by decide +kernel
theorem d_Model_takeBlock_30 : decode b_Model_takeBlock 30 = .ok (.invokevirtual 50, 3) := by decide +kernel
theorem d_Model_takeBlock_33 : decode b_Model_takeBlock 33 = .ok (.iconst 1, 1) := by decide +kernel
theorem d_Model_takeBlock_34 : decode b_Model_takeBlock 34 = .ok (.iload_n 1, 1) := by decide +kernel
theorem d_Model_takeBlock_35 : decode b_Model_takeBlock 35 = .ok (.bipush 8, 2) := by decide +kernel
theorem d_Model_takeBlock_37 : decode b_Model_takeBlock 37 = .ok (.irem, 1) := by decide +kernel
theorem d_Model_takeBlock_38 : decode b_Model_takeBlock 38 = .ok (.ishl, 1) := by decide +kernel
theorem d_Model_takeBlock_39 : decode b_Model_takeBlock 39 = .ok (.ior, 1) := by decide +kernel
theorem d_Model_takeBlock_40 : decode b_Model_takeBlock 40 = .ok (.invokevirtual 54, 3) := by decide +kernel
theorem d_Model_takeBlock_43 : decode b_Model_takeBlock 43 = .ok (.iconst 0, 1) := by decide +kernel
theorem d_Model_takeBlock_44 : decode b_Model_takeBlock 44 = .ok (.istore_n 2, 1) := by decide +kernel
theorem d_Model_takeBlock_45 : decode b_Model_takeBlock 45 = .ok (.iload_n 2, 1) := by decide +kernel
theorem d_Model_takeBlock_46 : decode b_Model_takeBlock 46 = .ok (.bipush 64, 2) := by decide +kernel
theorem d_Model_takeBlock_48 : decode b_Model_takeBlock 48 = .ok (.if_icmp .ge 16, 3) := by decide +kernel
theorem d_Model_takeBlock_51 : decode b_Model_takeBlock 51 = .ok (.aload_n 0, 1) := by decide +kernel
theorem d_Model_takeBlock_52 : decode b_Model_takeBlock 52 = .ok (.iload_n 1, 1) := by decide +kernel
theorem d_Model_takeBlock_53 : decode b_Model_takeBlock 53 = .ok (.iload_n 2, 1) := by decide +kernel
theorem d_Model_takeBlock_54 : decode b_Model_takeBlock 54 = .ok (.iconst 0, 1) := by decide +kernel
theorem d_Model_takeBlock_55 : decode b_Model_takeBlock 55 = .ok (.invokevirtual 54, 3) := by decide +kernel
theorem d_Model_takeBlock_58 : decode b_Model_takeBlock 58 = .ok (.iinc 2 1, 3) := by decide +kernel
theorem d_Model_takeBlock_61 : decode b_Model_takeBlock 61 = .ok (.goto (-16), 3) := by decide +kernel
theorem d_Model_takeBlock_64 : decode b_Model_takeBlock 64 = .ok (.iload_n 1, 1) := by decide +kernel
theorem d_Model_takeBlock_65 : decode b_Model_takeBlock 65 = .ok (.ireturn, 1) := by decide +kernel
theorem d_Model_setSize_0 : decode b_Model_setSize 0 = .ok (.aload_n 0, 1) := by decide +kernel
theorem d_Model_setSize_1 : decode b_Model_setSize 1 = .ok (.iload_n 1, 1) := by decide +kernel
theorem d_Model_setSize_2 : decode b_Model_setSize 2 = .ok (.iconst 2, 1) := by decide +kernel
theorem d_Model_setSize_3 : decode b_Model_setSize 3 = .ok (.iload_n 2, 1) := by decide +kernel
theorem d_Model_setSize_4 : decode b_Model_setSize 4 = .ok (.sipush 256, 3) := by decide +kernel
theorem d_Model_setSize_7 : decode b_Model_setSize 7 = .ok (.idiv, 1) := by decide +kernel
theorem d_Model_setSize_8 : decode b_Model_setSize 8 = .ok (.invokevirtual 65, 3) := by decide +kernel
theorem d_Model_setSize_11 : decode b_Model_setSize 11 = .ok (.aload_n 0, 1) := by decide +kernel
theorem d_Model_setSize_12 : decode b_Model_setSize 12 = .ok (.iload_n 1, 1) := by decide +kernel
theorem d_Model_setSize_13 : decode b_Model_setSize 13 = .ok (.iconst 3, 1) := by decide +kernel
theorem d_Model_setSize_14 : decode b_Model_setSize 14 = .ok (.iload_n 2, 1) := by decide +kernel
theorem d_Model_setSize_15 : decode b_Model_setSize 15 = .ok (.sipush 256, 3) := by decide +kernel
theorem d_Model_setSize_18 : decode b_Model_setSize 18 = .ok (.irem, 1) := by decide +kernel
theorem d_Model_setSize_19 : decode b_Model_setSize 19 = .ok (.invokevirtual 65, 3) := by decide +kernel
theorem d_Model_setSize_22 : decode b_Model_setSize 22 = .ok (.return_, 1) := by decide +kernel
theorem d_Model_link_0 : decode b_Model_link 0 = .ok (.aload_n 0, 1) := by decide +kernel
theorem d_Model_link_1 : decode b_Model_link 1 = .ok (.invokevirtual 100, 3) := by decide +kernel
theorem d_Model_link_4 : decode b_Model_link 4 = .ok (.ifCond .eq 5, 3) := by decide +kernel
theorem d_Model_link_7 : decode b_Model_link 7 = .ok (.iconst 0, 1) := by decide +kernel
theorem d_Model_link_8 : decode b_Model_link 8 = .ok (.ireturn, 1) := by decide +kernel
theorem d_Model_link_9 : decode b_Model_link 9 = .ok (.aload_n 0, 1) := by decide +kernel
theorem d_Model_link_10 : decode b_Model_link 10 = .ok (.lload_n 2, 1) := by decide +kernel
theorem d_Model_link_11 : decode b_Model_link 11 = .ok (.invokevirtual 137, 3) := by decide +kernel
theorem d_Model_link_14 : decode b_Model_link 14 = .ok (.ifCond .eq 43, 3) := by decide +kernel
theorem d_Model_link_17 : decode b_Model_link 17 = .ok (.aload_n 0, 1) := by decide +kernel
theorem d_Model_link_18 : decode b_Model_link 18 = .ok (.iload_n 1, 1) := by decide +kernel
theorem d_Model_link_19 : decode b_Model_link 19 = .ok (.iconst 2, 1) := by decide +kernel
theorem d_Model_link_20 : decode b_Model_link 20 = .ok (.invokevirtual 141, 3) := by decide +kernel
theorem d_Model_link_23 : decode b_Model_link 23 = .ok (.ifCond .eq 34, 3) := by decide +kernel
theorem d_Model_link_26 : decode b_Model_link 26 = .ok (.aload_n 0, 1) := by decide +kernel
theorem d_Model_link_27 : decode b_Model_link 27 = .ok (.iload 4, 2) := by decide +kernel
theorem d_Model_link_29 : decode b_Model_link 29 = .ok (.iconst 1, 1) := by decide +kernel
theorem d_Model_link_30 : decode b_Model_link 30 = .ok (.invokevirtual 141, 3) := by decide +kernel
theorem d_Model_link_33 : decode b_Model_link 33 = .ok (.ifCond .eq 24, 3) := by decide +kernel
theorem d_Model_link_36 : decode b_Model_link 36 = .ok (.aload_n 0, 1) := by decide +kernel
theorem d_Model_link_37 : decode b_Model_link 37 = .ok (.iload_n 1, 1) := by decide +kernel
theorem d_Model_link_38 : decode b_Model_link 38 = .ok (.invokevirtual 145, 3) := by decide +kernel
theorem d_Model_link_41 : decode b_Model_link 41 = .ok (.ifCond .eq 16, 3) := by decide +kernel
theorem d_Model_link_44 : decode b_Model_link 44 = .ok (.aload_n 0, 1) := by decide +kernel
theorem d_Model_link_45 : decode b_Model_link 45 = .ok (.iload 4, 2) := by decide +kernel
theorem d_Model_link_47 : decode b_Model_link 47 = .ok (.iconst 1, 1) := by decide +kernel
theorem d_Model_link_48 : decode b_Model_link 48 = .ok (.invokevirtual 62, 3) := by decide +kernel
theorem d_Model_link_51 : decode b_Model_link 51 = .ok (.sipush 200, 3) := by decide +kernel
theorem d_Model_link_54 : decode b_Model_link 54 = .ok (.if_icmp .ne 5, 3) := by decide +kernel
theorem d_Model_link_57 : decode b_Model_link 57 = .ok (.iconst 0, 1) := by decide +kernel
theorem d_Model_link_58 : decode b_Model_link 58 = .ok (.ireturn, 1) := by decide +kernel
theorem d_Model_link_59 : decode b_Model_link 59 = .ok (.aload_n 0, 1) := by decide +kernel
theorem d_Model_link_60 : decode b_Model_link 60 = .ok (.invokevirtual 151, 3) := by decide +kernel
theorem d_Model_link_63 : decode b_Model_link 63 = .ok (.ifCond .ne 5, 3) := by decide +kernel
theorem d_Model_link_66 : decode b_Model_link 66 = .ok (.iconst 0, 1) := by decide +kernel
theorem d_Model_link_67 : decode b_Model_link 67 = .ok (.ireturn, 1) := by decide +kernel
theorem d_Model_link_68 : decode b_Model_link 68 = .ok (.aload_n 0, 1) := by decide +kernel
theorem d_Model_link_69 : decode b_Model_link 69 = .ok (.iload 4, 2) := by decide +kernel
theorem d_Model_link_71 : decode b_Model_link 71 = .ok (.iconst 1, 1) := by decide +kernel
theorem d_Model_link_72 : decode b_Model_link 72 = .ok (.aload_n 0, 1) := by decide +kernel
theorem d_Model_link_73 : decode b_Model_link 73 = .ok (.iload 4, 2) := by decide +kernel
theorem d_Model_link_75 : decode b_Model_link 75 = .ok (.iconst 1, 1) := by decide +kernel
theorem d_Model_link_76 : decode b_Model_link 76 = .ok (.invokevirtual 62, 3) := by decide +kernel
theorem d_Model_link_79 : decode b_Model_link 79 = .ok (.iconst 1, 1) := by decide +kernel
theorem d_Model_link_80 : decode b_Model_link 80 = .ok (.iadd, 1) := by decide +kernel
theorem d_Model_link_81 : decode b_Model_link 81 = .ok (.invokevirtual 65, 3) := by decide +kernel
theorem d_Model_link_84 : decode b_Model_link 84 = .ok (.aload_n 0, 1) := by decide +kernel
theorem d_Model_link_85 : decode b_Model_link 85 = .ok (.iload_n 1, 1) := by decide +kernel
theorem d_Model_link_86 : decode b_Model_link 86 = .ok (.iload 4, 2) := by decide +kernel
theorem d_Model_link_88 : decode b_Model_link 88 = .ok (.invokevirtual 154, 3) := by decide +kernel
theorem d_Model_link_91 : decode b_Model_link 91 = .ok (.iconst 1, 1) := by decide +kernel
theorem d_Model_link_92 : decode b_Model_link 92 = .ok (.ireturn, 1) := by decide +kernel
theorem d_Model_unlink_0 : decode b_Model_unlink 0 = .ok (.aload_n 0, 1) := by decide +kernel
theorem d_Model_unlink_1 : decode b_Model_unlink 1 = .ok (.invokevirtual 100, 3) := by decide +kernel
theorem d_Model_unlink_4 : decode b_Model_unlink 4 = .ok (.ifCond .eq 5, 3) := by decide +kernel
theorem d_Model_unlink_7 : decode b_Model_unlink 7 = .ok (.iconst 0, 1) := by decide +kernel
theorem d_Model_unlink_8 : decode b_Model_unlink 8 = .ok (.ireturn, 1) := by decide +kernel
theorem d_Model_unlink_9 : decode b_Model_unlink 9 = .ok (.aload_n 0, 1) := by decide +kernel
theorem d_Model_unlink_10 : decode b_Model_unlink 10 = .ok (.lload_n 2, 1) := by decide +kernel
theorem d_Model_unlink_11 : decode b_Model_unlink 11 = .ok (.invokevirtual 137, 3) := by decide +kernel
theorem d_Model_unlink_14 : decode b_Model_unlink 14 = .ok (.ifCond .eq 12, 3) := by decide +kernel
theorem d_Model_unlink_17 : decode b_Model_unlink 17 = .ok (.aload_n 0, 1) := by decide +kernel
theorem d_Model_unlink_18 : decode b_Model_unlink 18 = .ok (.iload_n 1, 1) := by decide +kernel
theorem d_Model_unlink_19 : decode b_Model_unlink 19 = .ok (.iconst 2, 1) := by decide +kernel
theorem d_Model_unlink_20 : decode b_Model_unlink 20 = .ok (.invokevirtual 141, 3) := by decide +kernel
theorem d_Model_unlink_23 : decode b_Model_unlink 23 = .ok (.ifCond .ne 5, 3) := by decide +kernel
theorem d_Model_unlink_26 : decode b_Model_unlink 26 = .ok (.iconst 0, 1) := by decide +kernel
theorem d_Model_unlink_27 : decode b_Model_unlink 27 = .ok (.ireturn, 1) := by decide +kernel
theorem d_Model_unlink_28 : decode b_Model_unlink 28 = .ok (.aload_n 0, 1) := by decide +kernel
theorem d_Model_unlink_29 : decode b_Model_unlink 29 = .ok (.iload_n 1, 1) := by decide +kernel
theorem d_Model_unlink_30 : decode b_Model_unlink 30 = .ok (.invokevirtual 128, 3) := by decide +kernel
theorem d_Model_unlink_33 : decode b_Model_unlink 33 = .ok (.istore 4, 2) := by decide +kernel
theorem d_Model_unlink_35 : decode b_Model_unlink 35 = .ok (.iload 4, 2) := by decide +kernel
theorem d_Model_unlink_37 : decode b_Model_unlink 37 = .ok (.ifCond .ge 5, 3) := by decide +kernel
theorem d_Model_unlink_40 : decode b_Model_unlink 40 = .ok (.iconst 0, 1) := by decide +kernel
theorem d_Model_unlink_41 : decode b_Model_unlink 41 = .ok (.ireturn, 1) := by decide +kernel
theorem d_Model_unlink_42 : decode b_Model_unlink 42 = .ok (.aload_n 0, 1) := by decide +kernel
theorem d_Model_unlink_43 : decode b_Model_unlink 43 = .ok (.iload_n 1, 1) := by decide +kernel
theorem d_Model_unlink_44 : decode b_Model_unlink 44 = .ok (.iload 4, 2) := by decide +kernel
theorem d_Model_unlink_46 : decode b_Model_unlink 46 = .ok (.invokevirtual 108, 3) := by decide +kernel
theorem d_Model_unlink_49 : decode b_Model_unlink 49 = .ok (.iconst 1, 1) := by decide +kernel
theorem d_Model_unlink_50 : decode b_Model_unlink 50 = .ok (.isub, 1) := by decide +kernel
theorem d_Model_unlink_51 : decode b_Model_unlink 51 = .ok (.istore 5, 2) := by decide +kernel
theorem d_Model_unlink_53 : decode b_Model_unlink 53 = .ok (.aload_n 0, 1) := by decide +kernel
theorem d_Model_unlink_54 : decode b_Model_unlink 54 = .ok (.iload 5, 2) := by decide +kernel
theorem d_Model_unlink_56 : decode b_Model_unlink 56 = .ok (.iconst 2, 1) := by decide +kernel
theorem d_Model_unlink_57 : decode b_Model_unlink 57 = .ok (.invokevirtual 141, 3) := by decide +kernel
theorem d_Model_unlink_60 : decode b_Model_unlink 60 = .ok (.ifCond .eq 12, 3) := by decide +kernel
theorem d_Model_unlink_63 : decode b_Model_unlink 63 = .ok (.aload_n 0, 1) := by decide +kernel
theorem d_Model_unlink_64 : decode b_Model_unlink 64 = .ok (.iload 5, 2) := by decide +kernel
theorem d_Model_unlink_66 : decode b_Model_unlink 66 = .ok (.invokevirtual 160, 3) := by decide +kernel
theorem d_Model_unlink_69 : decode b_Model_unlink 69 = .ok (.ifCond .gt 10, 3) := by decide +kernel
theorem d_Model_unlink_72 : decode b_Model_unlink 72 = .ok (.aload_n 0, 1) := by decide +kernel
theorem d_Model_unlink_73 : decode b_Model_unlink 73 = .ok (.invokevirtual 151, 3) := by decide +kernel
theorem d_Model_unlink_76 : decode b_Model_unlink 76 = .ok (.ifCond .ne 5, 3) := by decide +kernel
theorem d_Model_unlink_79 : decode b_Model_unlink 79 = .ok (.iconst 0, 1) := by decide +kernel
theorem d_Model_unlink_80 : decode b_Model_unlink 80 = .ok (.ireturn, 1) := by decide +kernel
theorem d_Model_unlink_81 : decode b_Model_unlink 81 = .ok (.aload_n 0, 1) := by decide +kernel
theorem d_Model_unlink_82 : decode b_Model_unlink 82 = .ok (.iload_n 1, 1) := by decide +kernel
theorem d_Model_unlink_83 : decode b_Model_unlink 83 = .ok (.iload 4, 2) := by decide +kernel
theorem d_Model_unlink_85 : decode b_Model_unlink 85 = .ok (.bipush 64, 2) := by decide +kernel
theorem d_Model_unlink_87 : decode b_Model_unlink 87 = .ok (.idiv, 1) := by decide +kernel
theorem d_Model_unlink_88 : decode b_Model_unlink 88 = .ok (.invokevirtual 68, 3) := by decide +kernel
theorem d_Model_unlink_91 : decode b_Model_unlink 91 = .ok (.istore 6, 2) := by decide +kernel
theorem d_Model_unlink_93 : decode b_Model_unlink 93 = .ok (.iconst 0, 1) := by decide +kernel
theorem d_Model_unlink_94 : decode b_Model_unlink 94 = .ok (.istore 7, 2) := by decide +kernel
theorem d_Model_unlink_96 : decode b_Model_unlink 96 = .ok (.iload 7, 2) := by decide +kernel
theorem d_Model_unlink_98 : decode b_Model_unlink 98 = .ok (.bipush 8, 2) := by decide +kernel
theorem d_Model_unlink_100 : decode b_Model_unlink 100 = .ok (.if_icmp .ge 24, 3) := by decide +kernel
theorem d_Model_unlink_103 : decode b_Model_unlink 103 = .ok (.aload_n 0, 1) := by decide +kernel
theorem d_Model_unlink_104 : decode b_Model_unlink 104 = .ok (.iload 6, 2) := by decide +kernel
theorem d_Model_unlink_106 : decode b_Model_unlink 106 = .ok (.iload 4, 2) := by decide +kernel
theorem d_Model_unlink_108 : decode b_Model_unlink 108 = .ok (.bipush 64, 2) := by decide +kernel
theorem d_Model_unlink_110 : decode b_Model_unlink 110 = .ok (.irem, 1) := by decide +kernel
theorem d_Model_unlink_111 : decode b_Model_unlink 111 = .ok (.iload 7, 2) := by decide +kernel
theorem d_Model_unlink_113 : decode b_Model_unlink 113 = .ok (.iadd, 1) := by decide +kernel
theorem d_Model_unlink_114 : decode b_Model_unlink 114 = .ok (.iconst 0, 1) := by decide +kernel
theorem d_Model_unlink_115 : decode b_Model_unlink 115 = .ok (.invokevirtual 54, 3) := by decide +kernel
theorem d_Model_unlink_118 : decode b_Model_unlink 118 = .ok (.iinc 7 1, 3) := by decide +kernel
theorem d_Model_unlink_121 : decode b_Model_unlink 121 = .ok (.goto (-25), 3) := by decide +kernel
theorem d_Model_unlink_124 : decode b_Model_unlink 124 = .ok (.aload_n 0, 1) := by decide +kernel
theorem d_Model_unlink_125 : decode b_Model_unlink 125 = .ok (.iload 5, 2) := by decide +kernel
theorem d_Model_unlink_127 : decode b_Model_unlink 127 = .ok (.iconst 1, 1) := by decide +kernel
theorem d_Model_unlink_128 : decode b_Model_unlink 128 = .ok (.invokevirtual 62, 3) := by decide +kernel
theorem d_Model_unlink_131 : decode b_Model_unlink 131 = .ok (.iconst 1, 1) := by decide +kernel
theorem d_Model_unlink_132 : decode b_Model_unlink 132 = .ok (.if_icmp .le 22, 3) := by decide +kernel
theorem d_Model_unlink_135 : decode b_Model_unlink 135 = .ok (.aload_n 0, 1) := by decide +kernel
theorem d_Model_unlink_136 : decode b_Model_unlink 136 = .ok (.iload 5, 2) := by decide +kernel
theorem d_Model_unlink_138 : decode b_Model_unlink 138 = .ok (.iconst 1, 1) := by decide +kernel
theorem d_Model_unlink_139 : decode b_Model_unlink 139 = .ok (.aload_n 0, 1) := by decide +kernel
theorem d_Model_unlink_140 : decode b_Model_unlink 140 = .ok (.iload 5, 2) := by decide +kernel
theorem d_Model_unlink_142 : decode b_Model_unlink 142 = .ok (.iconst 1, 1) := by decide +kernel
theorem d_Model_unlink_143 : decode b_Model_unlink 143 = .ok (.invokevirtual 62, 3) := by decide +kernel
theorem d_Model_unlink_146 : decode b_Model_unlink 146 = .ok (.iconst 1, 1) := by decide +kernel
theorem d_Model_unlink_147 : decode b_Model_unlink 147 = .ok (.isub, 1) := by decide +kernel
theorem d_Model_unlink_148 : decode b_Model_unlink 148 = .ok (.invokevirtual 65, 3) := by decide +kernel
theorem d_Model_unlink_151 : decode b_Model_unlink 151 = .ok (.goto 16, 3) := by decide +kernel
theorem d_Model_unlink_154 : decode b_Model_unlink 154 = .ok (.aload_n 0, 1) := by decide +kernel
theorem d_Model_unlink_155 : decode b_Model_unlink 155 = .ok (.iload 5, 2) := by decide +kernel
theorem d_Model_unlink_157 : decode b_Model_unlink 157 = .ok (.invokevirtual 163, 3) := by decide +kernel
theorem d_Model_unlink_160 : decode b_Model_unlink 160 = .ok (.aload_n 0, 1) := by decide +kernel
theorem d_Model_unlink_161 : decode b_Model_unlink 161 = .ok (.iload 5, 2) := by decide +kernel
theorem d_Model_unlink_163 : decode b_Model_unlink 163 = .ok (.iconst 0, 1) := by decide +kernel
theorem d_Model_unlink_164 : decode b_Model_unlink 164 = .ok (.invokevirtual 166, 3) := by decide +kernel
theorem d_Model_unlink_167 : decode b_Model_unlink 167 = .ok (.iconst 1, 1) := by decide +kernel
theorem d_Model_unlink_168 : decode b_Model_unlink 168 = .ok (.ireturn, 1) := by decide +kernel
theorem d_Model_entries_0 : decode b_Model_entries 0 = .ok (.iconst 0, 1) := by decide +kernel
theorem d_Model_entries_1 : decode b_Model_entries 1 = .ok (.istore_n 2, 1) := by decide +kernel
theorem d_Model_entries_2 : decode b_Model_entries 2 = .ok (.iconst 0, 1) := by decide +kernel
theorem d_Model_entries_3 : decode b_Model_entries 3 = .ok (.istore_n 3, 1) := by decide +kernel
theorem d_Model_entries_4 : decode b_Model_entries 4 = .ok (.iload_n 3, 1) := by decide +kernel
theorem d_Model_entries_5 : decode b_Model_entries 5 = .ok (.aload_n 0, 1) := by decide +kernel
theorem d_Model_entries_6 : decode b_Model_entries 6 = .ok (.iload_n 1, 1) := by decide +kernel
theorem d_Model_entries_7 : decode b_Model_entries 7 = .ok (.invokevirtual 105, 3) := by decide +kernel
theorem d_Model_entries_10 : decode b_Model_entries 10 = .ok (.if_icmp .ge 26, 3) := by decide +kernel
theorem d_Model_entries_13 : decode b_Model_entries 13 = .ok (.iload_n 2, 1) := by decide +kernel
theorem d_Model_entries_14 : decode b_Model_entries 14 = .ok (.aload_n 0, 1) := by decide +kernel
theorem d_Model_entries_15 : decode b_Model_entries 15 = .ok (.iload_n 1, 1) := by decide +kernel
theorem d_Model_entries_16 : decode b_Model_entries 16 = .ok (.iload_n 3, 1) := by decide +kernel
theorem d_Model_entries_17 : decode b_Model_entries 17 = .ok (.invokevirtual 108, 3) := by decide +kernel
theorem d_Model_entries_20 : decode b_Model_entries 20 = .ok (.ifCond .ne 7, 3) := by decide +kernel
theorem d_Model_entries_23 : decode b_Model_entries 23 = .ok (.iconst 0, 1) := by decide +kernel
theorem d_Model_entries_24 : decode b_Model_entries 24 = .ok (.goto 4, 3) := by decide +kernel
theorem d_Model_entries_27 : decode b_Model_entries 27 = .ok (.iconst 1, 1) := by decide +kernel
theorem d_Model_entries_28 : decode b_Model_entries 28 = .ok (.iadd, 1) := by decide +kernel
theorem d_Model_entries_29 : decode b_Model_entries 29 = .ok (.istore_n 2, 1) := by decide +kernel
theorem d_Model_entries_30 : decode b_Model_entries 30 = .ok (.iinc 3 8, 3) := by decide +kernel
theorem d_Model_entries_33 : decode b_Model_entries 33 = .ok (.goto (-29), 3) := by decide +kernel
theorem d_Model_entries_36 : decode b_Model_entries 36 = .ok (.iload_n 2, 1) := by decide +kernel
theorem d_Model_entries_37 : decode b_Model_entries 37 = .ok (.ireturn, 1) := by decide +kernel
theorem d_Model_release_0 : decode b_Model_release 0 = .ok (.aload_n 0, 1) := by decide +kernel
theorem d_Model_release_1 : decode b_Model_release 1 = .ok (.iload_n 1, 1) := by decide +kernel
theorem d_Model_release_2 : decode b_Model_release 2 = .ok (.invokevirtual 105, 3) := by decide +kernel
theorem d_Model_release_5 : decode b_Model_release 5 = .ok (.invokestatic 111, 3) := by decide +kernel
theorem d_Model_release_8 : decode b_Model_release 8 = .ok (.istore_n 2, 1) := by decide +kernel
theorem d_Model_release_9 : decode b_Model_release 9 = .ok (.iconst 0, 1) := by decide +kernel
theorem d_Model_release_10 : decode b_Model_release 10 = .ok (.istore_n 3, 1) := by decide +kernel
theorem d_Model_release_11 : decode b_Model_release 11 = .ok (.iload_n 3, 1) := by decide +kernel
theorem d_Model_release_12 : decode b_Model_release 12 = .ok (.iload_n 2, 1) := by decide +kernel
theorem d_Model_release_13 : decode b_Model_release 13 = .ok (.if_icmp .ge 19, 3) := by decide +kernel
theorem d_Model_release_16 : decode b_Model_release 16 = .ok (.aload_n 0, 1) := by decide +kernel
theorem d_Model_release_17 : decode b_Model_release 17 = .ok (.aload_n 0, 1) := by decide +kernel
theorem d_Model_release_18 : decode b_Model_release 18 = .ok (.iload_n 1, 1) := by decide +kernel
theorem d_Model_release_19 : decode b_Model_release 19 = .ok (.iload_n 3, 1) := by decide +kernel
theorem d_Model_release_20 : decode b_Model_release 20 = .ok (.invokevirtual 68, 3) := by decide +kernel
theorem d_Model_release_23 : decode b_Model_release 23 = .ok (.invokevirtual 157, 3) := by decide +kernel
theorem d_Model_release_26 : decode b_Model_release 26 = .ok (.iinc 3 1, 3) := by decide +kernel
theorem d_Model_release_29 : decode b_Model_release 29 = .ok (.goto (-18), 3) := by decide +kernel
theorem d_Model_release_32 : decode b_Model_release 32 = .ok (.iload_n 2, 1) := by decide +kernel
theorem d_Model_release_33 : decode b_Model_release 33 = .ok (.bipush 10, 2) := by decide +kernel
theorem d_Model_release_35 : decode b_Model_release 35 = .ok (.if_icmp .le 14, 3) := by decide +kernel
theorem d_Model_release_38 : decode b_Model_release 38 = .ok (.aload_n 0, 1) := by decide +kernel
theorem d_Model_release_39 : decode b_Model_release 39 = .ok (.aload_n 0, 1) := by decide +kernel
theorem d_Model_release_40 : decode b_Model_release 40 = .ok (.iload_n 1, 1) := by decide +kernel
theorem d_Model_release_41 : decode b_Model_release 41 = .ok (.bipush 14, 2) := by decide +kernel
theorem d_Model_release_43 : decode b_Model_release 43 = .ok (.invokevirtual 62, 3) := by decide +kernel
theorem d_Model_release_46 : decode b_Model_release 46 = .ok (.invokevirtual 157, 3) := by decide +kernel
theorem d_Model_release_49 : decode b_Model_release 49 = .ok (.return_, 1) := by decide +kernel
theorem d_Model_free_0 : decode b_Model_free 0 = .ok (.aload_n 0, 1) := by decide +kernel
theorem d_Model_free_1 : decode b_Model_free 1 = .ok (.bipush 25, 2) := by decide +kernel
theorem d_Model_free_3 : decode b_Model_free 3 = .ok (.iload_n 1, 1) := by decide +kernel
theorem d_Model_free_4 : decode b_Model_free 4 = .ok (.bipush 8, 2) := by decide +kernel
theorem d_Model_free_6 : decode b_Model_free 6 = .ok (.idiv, 1) := by decide +kernel
theorem d_Model_free_7 : decode b_Model_free 7 = .ok (.aload_n 0, 1) := by decide +kernel
theorem d_Model_free_8 : decode b_Model_free 8 = .ok (.bipush 25, 2) := by decide +kernel
theorem d_Model_free_10 : decode b_Model_free 10 = .ok (.iload_n 1, 1) := by decide +kernel
theorem d_Model_free_11 : decode b_Model_free 11 = .ok (.bipush 8, 2) := by decide +kernel
theorem d_Model_free_13 : decode b_Model_free 13 = .ok (.idiv, 1) := by decide +kernel
theorem d_Model_free_14 : decode b_Model_free 14 = .ok (.invokevirtual 50, 3) := by decide +kernel
theorem d_Model_free_17 : decode b_Model_free 17 = .ok (.iconst 1, 1) := by decide +kernel
theorem d_Model_free_18 : decode b_Model_free 18 = .ok (.iload_n 1, 1) := by decide +kernel
theorem d_Model_free_19 : decode b_Model_free 19 = .ok (.bipush 8, 2) := by decide +kernel
theorem d_Model_free_21 : decode b_Model_free 21 = .ok (.irem, 1) := by decide +kernel
theorem d_Model_free_22 : decode b_Model_free 22 = .ok (.ishl, 1) := by decide +kernel
theorem d_Model_free_23 : decode b_Model_free 23 = .ok (.iconst (-1), 1) := by decide +kernel
theorem d_Model_free_24 : decode b_Model_free 24 = .ok (.ixor, 1) := by decide +kernel
theorem d_Model_free_25 : decode b_Model_free 25 = .ok (.iand, 1) := by decide +kernel
theorem d_Model_free_26 : decode b_Model_free 26 = .ok (.invokevirtual 54, 3) := by decide +kernel
theorem d_Model_free_29 : decode b_Model_free 29 = .ok (.return_, 1) := by decide +kernel
theorem d_Model_clear_0 : decode b_Model_clear 0 = .ok (.iload_n 2, 1) := by decide +kernel
theorem d_Model_clear_1 : decode b_Model_clear 1 = .ok (.istore_n 3, 1) := by decide +kernel
theorem d_Model_clear_2 : decode b_Model_clear 2 = .ok (.iload_n 3, 1) := by decide +kernel
theorem d_Model_clear_3 : decode b_Model_clear 3 = .ok (.bipush 16, 2) := by decide +kernel
theorem d_Model_clear_5 : decode b_Model_clear 5 = .ok (.if_icmp .ge 16, 3) := by decide +kernel
theorem d_Model_clear_8 : decode b_Model_clear 8 = .ok (.aload_n 0, 1) := by decide +kernel
theorem d_Model_clear_9 : decode b_Model_clear 9 = .ok (.iload_n 1, 1) := by decide +kernel
theorem d_Model_clear_10 : decode b_Model_clear 10 = .ok (.iload_n 3, 1) := by decide +kernel
theorem d_Model_clear_11 : decode b_Model_clear 11 = .ok (.iconst 0, 1) := by decide +kernel
theorem d_Model_clear_12 : decode b_Model_clear 12 = .ok (.invokevirtual 65, 3) := by decide +kernel
theorem d_Model_clear_15 : decode b_Model_clear 15 = .ok (.iinc 3 1, 3) := by decide +kernel
theorem d_Model_clear_18 : decode b_Model_clear 18 = .ok (.goto (-16), 3) := by decide +kernel
theorem d_Model_clear_21 : decode b_Model_clear 21 = .ok (.return_, 1) := by decide +kernel
theorem d_Model_write_0 : decode b_Model_write 0 = .ok (.aload_n 0, 1) := by decide +kernel
theorem d_Model_write_1 : decode b_Model_write 1 = .ok (.invokevirtual 100, 3) := by decide +kernel
theorem d_Model_write_4 : decode b_Model_write 4 = .ok (.ifCond .eq 5, 3) := by decide +kernel
theorem d_Model_write_7 : decode b_Model_write 7 = .ok (.iconst 0, 1) := by decide +kernel
theorem d_Model_write_8 : decode b_Model_write 8 = .ok (.ireturn, 1) := by decide +kernel
theorem d_Model_write_9 : decode b_Model_write 9 = .ok (.iload 5, 2) := by decide +kernel
theorem d_Model_write_11 : decode b_Model_write 11 = .ok (.iconst 1, 1) := by decide +kernel
theorem d_Model_write_12 : decode b_Model_write 12 = .ok (.if_icmp .lt 21, 3) := by decide +kernel
theorem d_Model_write_15 : decode b_Model_write 15 = .ok (.iload 5, 2) := by decide +kernel
theorem d_Model_write_17 : decode b_Model_write 17 = .ok (.bipush 8, 2) := by decide +kernel
theorem d_Model_write_19 : decode b_Model_write 19 = .ok (.if_icmp .gt 14, 3) := by decide +kernel
theorem d_Model_write_22 : decode b_Model_write 22 = .ok (.aload_n 0, 1) := by decide +kernel
theorem d_Model_write_23 : decode b_Model_write 23 = .ok (.iload_n 1, 1) := by decide +kernel
theorem d_Model_write_24 : decode b_Model_write 24 = .ok (.iload_n 2, 1) := by decide +kernel
theorem d_Model_write_25 : decode b_Model_write 25 = .ok (.iload 5, 2) := by decide +kernel
theorem d_Model_write_27 : decode b_Model_write 27 = .ok (.invokevirtual 169, 3) := by decide +kernel
theorem d_Model_write_30 : decode b_Model_write 30 = .ok (.ifCond .ne 5, 3) := by decide +kernel
theorem d_Model_write_33 : decode b_Model_write 33 = .ok (.iconst (-1), 1) := by decide +kernel
theorem d_Model_write_34 : decode b_Model_write 34 = .ok (.ireturn, 1) := by decide +kernel
theorem d_Model_write_35 : decode b_Model_write 35 = .ok (.aload_n 0, 1) := by decide +kernel
theorem d_Model_write_36 : decode b_Model_write 36 = .ok (.invokevirtual 151, 3) := by decide +kernel
theorem d_Model_write_39 : decode b_Model_write 39 = .ok (.ifCond .ne 5, 3) := by decide +kernel
theorem d_Model_write_42 : decode b_Model_write 42 = .ok (.iconst 0, 1) := by decide +kernel
theorem d_Model_write_43 : decode b_Model_write 43 = .ok (.ireturn, 1) := by decide +kernel
theorem d_Model_write_44 : decode b_Model_write 44 = .ok (.iconst 0, 1) := by decide +kernel
theorem d_Model_write_45 : decode b_Model_write 45 = .ok (.istore 6, 2) := by decide +kernel
theorem d_Model_write_47 : decode b_Model_write 47 = .ok (.iload 6, 2) := by decide +kernel
theorem d_Model_write_49 : decode b_Model_write 49 = .ok (.iload 5, 2) := by decide +kernel
theorem d_Model_write_51 : decode b_Model_write 51 = .ok (.if_icmp .ge 28, 3) := by decide +kernel
theorem d_Model_write_54 : decode b_Model_write 54 = .ok (.aload_n 0, 1) := by decide +kernel
theorem d_Model_write_55 : decode b_Model_write 55 = .ok (.getfield 27, 3) := by decide +kernel
theorem d_Model_write_58 : decode b_Model_write 58 = .ok (.iload 6, 2) := by decide +kernel
theorem d_Model_write_60 : decode b_Model_write 60 = .ok (.lload_n 3, 1) := by decide +kernel
theorem d_Model_write_61 : decode b_Model_write 61 = .ok (.bipush 56, 2) := by decide +kernel
theorem d_Model_write_63 : decode b_Model_write 63 = .ok (.bipush 8, 2) := by decide +kernel
theorem d_Model_write_65 : decode b_Model_write 65 = .ok (.iload 6, 2) := by decide +kernel
theorem d_Model_write_67 : decode b_Model_write 67 = .ok (.imul, 1) := by decide +kernel
theorem d_Model_write_68 : decode b_Model_write 68 = .ok (.isub, 1) := by decide +kernel
theorem d_Model_write_69 : decode b_Model_write 69 = .ok (.lshr, 1) := by decide +kernel
theorem d_Model_write_70 : decode b_Model_write 70 = .ok (.l2i, 1) := by decide +kernel
theorem d_Model_write_71 : decode b_Model_write 71 = .ok (.i2b, 1) := by decide +kernel
theorem d_Model_write_72 : decode b_Model_write 72 = .ok (.bastore, 1) := by decide +kernel
theorem d_Model_write_73 : decode b_Model_write 73 = .ok (.iinc 6 1, 3) := by decide +kernel
theorem d_Model_write_76 : decode b_Model_write 76 = .ok (.goto (-29), 3) := by decide +kernel
theorem d_Model_write_79 : decode b_Model_write 79 = .ok (.aload_n 0, 1) := by decide +kernel
theorem d_Model_write_80 : decode b_Model_write 80 = .ok (.iload_n 1, 1) := by decide +kernel
theorem d_Model_write_81 : decode b_Model_write 81 = .ok (.iload_n 2, 1) := by decide +kernel
theorem d_Model_write_82 : decode b_Model_write 82 = .ok (.iload 5, 2) := by decide +kernel
theorem d_Model_write_84 : decode b_Model_write 84 = .ok (.invokevirtual 173, 3) := by decide +kernel
theorem d_Model_write_87 : decode b_Model_write 87 = .ok (.ireturn, 1) := by decide +kernel
theorem d_Model_mayWrite_0 : decode b_Model_mayWrite 0 = .ok (.aload_n 0, 1) := by decide +kernel
theorem d_Model_mayWrite_1 : decode b_Model_mayWrite 1 = .ok (.iload_n 1, 1) := by decide +kernel
theorem d_Model_mayWrite_2 : decode b_Model_mayWrite 2 = .ok (.iconst 1, 1) := by decide +kernel
theorem d_Model_mayWrite_3 : decode b_Model_mayWrite 3 = .ok (.invokevirtual 141, 3) := by decide +kernel
theorem d_Model_mayWrite_6 : decode b_Model_mayWrite 6 = .ok (.ifCond .eq 44, 3) := by decide +kernel
theorem d_Model_mayWrite_9 : decode b_Model_mayWrite 9 = .ok (.iload_n 2, 1) := by decide +kernel
theorem d_Model_mayWrite_10 : decode b_Model_mayWrite 10 = .ok (.ifCond .lt 40, 3) := by decide +kernel
theorem d_Model_mayWrite_13 : decode b_Model_mayWrite 13 = .ok (.iload_n 2, 1) := by decide +kernel
theorem d_Model_mayWrite_14 : decode b_Model_mayWrite 14 = .ok (.aload_n 0, 1) := by decide +kernel
theorem d_Model_mayWrite_15 : decode b_Model_mayWrite 15 = .ok (.iload_n 1, 1) := by decide +kernel
theorem d_Model_mayWrite_16 : decode b_Model_mayWrite 16 = .ok (.invokevirtual 105, 3) := by decide +kernel
theorem d_Model_mayWrite_19 : decode b_Model_mayWrite 19 = .ok (.if_icmp .gt 31, 3) := by decide +kernel
theorem d_Model_mayWrite_22 : decode b_Model_mayWrite 22 = .ok (.iload_n 2, 1) := by decide +kernel
theorem d_Model_mayWrite_23 : decode b_Model_mayWrite 23 = .ok (.iload_n 3, 1) := by decide +kernel
theorem d_Model_mayWrite_24 : decode b_Model_mayWrite 24 = .ok (.iadd, 1) := by decide +kernel
theorem d_Model_mayWrite_25 : decode b_Model_mayWrite 25 = .ok (.sipush 1000, 3) := by decide +kernel
theorem d_Model_mayWrite_28 : decode b_Model_mayWrite 28 = .ok (.if_icmp .gt 22, 3) := by decide +kernel
theorem d_Model_mayWrite_31 : decode b_Model_mayWrite 31 = .ok (.aload_n 0, 1) := by decide +kernel
theorem d_Model_mayWrite_32 : decode b_Model_mayWrite 32 = .ok (.iload_n 1, 1) := by decide +kernel
theorem d_Model_mayWrite_33 : decode b_Model_mayWrite 33 = .ok (.iload_n 2, 1) := by decide +kernel
theorem d_Model_mayWrite_34 : decode b_Model_mayWrite 34 = .ok (.iload_n 3, 1) := by decide +kernel
theorem d_Model_mayWrite_35 : decode b_Model_mayWrite 35 = .ok (.iadd, 1) := by decide +kernel
theorem d_Model_mayWrite_36 : decode b_Model_mayWrite 36 = .ok (.invokevirtual 131, 3) := by decide +kernel
theorem d_Model_mayWrite_39 : decode b_Model_mayWrite 39 = .ok (.aload_n 0, 1) := by decide +kernel
theorem d_Model_mayWrite_40 : decode b_Model_mayWrite 40 = .ok (.invokevirtual 134, 3) := by decide +kernel
theorem d_Model_mayWrite_43 : decode b_Model_mayWrite 43 = .ok (.if_icmp .gt 7, 3) := by decide +kernel
theorem d_Model_mayWrite_46 : decode b_Model_mayWrite 46 = .ok (.iconst 1, 1) := by decide +kernel
theorem d_Model_mayWrite_47 : decode b_Model_mayWrite 47 = .ok (.goto 4, 3) := by decide +kernel
theorem d_Model_mayWrite_50 : decode b_Model_mayWrite 50 = .ok (.iconst 0, 1) := by decide +kernel
theorem d_Model_mayWrite_51 : decode b_Model_mayWrite 51 = .ok (.ireturn, 1) := by decide +kernel
theorem d_Model_writes_0 : decode b_Model_writes 0 = .ok (.aload_n 0, 1) := by decide +kernel
theorem d_Model_writes_1 : decode b_Model_writes 1 = .ok (.iload_n 1, 1) := by decide +kernel
theorem d_Model_writes_2 : decode b_Model_writes 2 = .ok (.invokevirtual 105, 3) := by decide +kernel
theorem d_Model_writes_5 : decode b_Model_writes 5 = .ok (.invokestatic 111, 3) := by decide +kernel
theorem d_Model_writes_8 : decode b_Model_writes 8 = .ok (.istore 4, 2) := by decide +kernel
theorem d_Model_writes_10 : decode b_Model_writes 10 = .ok (.iload_n 2, 1) := by decide +kernel
theorem d_Model_writes_11 : decode b_Model_writes 11 = .ok (.istore 5, 2) := by decide +kernel
theorem d_Model_writes_13 : decode b_Model_writes 13 = .ok (.iload 5, 2) := by decide +kernel
theorem d_Model_writes_15 : decode b_Model_writes 15 = .ok (.iload_n 2, 1) := by decide +kernel
theorem d_Model_writes_16 : decode b_Model_writes 16 = .ok (.iload_n 3, 1) := by decide +kernel
theorem d_Model_writes_17 : decode b_Model_writes 17 = .ok (.iadd, 1) := by decide +kernel
theorem d_Model_writes_18 : decode b_Model_writes 18 = .ok (.if_icmp .ge 71, 3) := by decide +kernel
theorem d_Model_writes_21 : decode b_Model_writes 21 = .ok (.iload 5, 2) := by decide +kernel
theorem d_Model_writes_23 : decode b_Model_writes 23 = .ok (.bipush 64, 2) := by decide +kernel
theorem d_Model_writes_25 : decode b_Model_writes 25 = .ok (.idiv, 1) := by decide +kernel
theorem d_Model_writes_26 : decode b_Model_writes 26 = .ok (.iload 4, 2) := by decide +kernel
theorem d_Model_writes_28 : decode b_Model_writes 28 = .ok (.if_icmp .lt 27, 3) := by decide +kernel
theorem d_Model_writes_31 : decode b_Model_writes 31 = .ok (.iload 5, 2) := by decide +kernel
theorem d_Model_writes_33 : decode b_Model_writes 33 = .ok (.iload_n 2, 1) := by decide +kernel
theorem d_Model_writes_34 : decode b_Model_writes 34 = .ok (.if_icmp .eq 11, 3) := by decide +kernel
theorem d_Model_writes_37 : decode b_Model_writes 37 = .ok (.iload 5, 2) := by decide +kernel
theorem d_Model_writes_39 : decode b_Model_writes 39 = .ok (.bipush 64, 2) := by decide +kernel
theorem d_Model_writes_41 : decode b_Model_writes 41 = .ok (.irem, 1) := by decide +kernel
theorem d_Model_writes_42 : decode b_Model_writes 42 = .ok (.ifCond .ne 13, 3) := by decide +kernel
theorem d_Model_writes_45 : decode b_Model_writes 45 = .ok (.aload_n 0, 1) := by decide +kernel
theorem d_Model_writes_46 : decode b_Model_writes 46 = .ok (.iload_n 1, 1) := by decide +kernel
theorem d_Model_writes_47 : decode b_Model_writes 47 = .ok (.iload 5, 2) := by decide +kernel
theorem d_Model_writes_49 : decode b_Model_writes 49 = .ok (.bipush 64, 2) := by decide +kernel
theorem d_Model_writes_51 : decode b_Model_writes 51 = .ok (.idiv, 1) := by decide +kernel
theorem d_Model_writes_52 : decode b_Model_writes 52 = .ok (.invokevirtual 121, 3) := by decide +kernel
theorem d_Model_writes_55 : decode b_Model_writes 55 = .ok (.aload_n 0, 1) := by decide +kernel
theorem d_Model_writes_56 : decode b_Model_writes 56 = .ok (.aload_n 0, 1) := by decide +kernel
theorem d_Model_writes_57 : decode b_Model_writes 57 = .ok (.iload_n 1, 1) := by decide +kernel
theorem d_Model_writes_58 : decode b_Model_writes 58 = .ok (.iload 5, 2) := by decide +kernel
theorem d_Model_writes_60 : decode b_Model_writes 60 = .ok (.bipush 64, 2) := by decide +kernel
theorem d_Model_writes_62 : decode b_Model_writes 62 = .ok (.idiv, 1) := by decide +kernel
theorem d_Model_writes_63 : decode b_Model_writes 63 = .ok (.invokevirtual 68, 3) := by decide +kernel
theorem d_Model_writes_66 : decode b_Model_writes 66 = .ok (.iload 5, 2) := by decide +kernel
theorem d_Model_writes_68 : decode b_Model_writes 68 = .ok (.bipush 64, 2) := by decide +kernel
theorem d_Model_writes_70 : decode b_Model_writes 70 = .ok (.irem, 1) := by decide +kernel
theorem d_Model_writes_71 : decode b_Model_writes 71 = .ok (.aload_n 0, 1) := by decide +kernel
theorem d_Model_writes_72 : decode b_Model_writes 72 = .ok (.getfield 27, 3) := by decide +kernel
theorem d_Model_writes_75 : decode b_Model_writes 75 = .ok (.iload 5, 2) := by decide +kernel
theorem d_Model_writes_77 : decode b_Model_writes 77 = .ok (.iload_n 2, 1) := by decide +kernel
theorem d_Model_writes_78 : decode b_Model_writes 78 = .ok (.isub, 1) := by decide +kernel
theorem d_Model_writes_79 : decode b_Model_writes 79 = .ok (.baload, 1) := by decide +kernel
theorem d_Model_writes_80 : decode b_Model_writes 80 = .ok (.invokevirtual 54, 3) := by decide +kernel
theorem d_Model_writes_83 : decode b_Model_writes 83 = .ok (.iinc 5 1, 3) := by decide +kernel
theorem d_Model_writes_86 : decode b_Model_writes 86 = .ok (.goto (-73), 3) := by decide +kernel
theorem d_Model_writes_89 : decode b_Model_writes 89 = .ok (.iload_n 2, 1) := by decide +kernel
theorem d_Model_writes_90 : decode b_Model_writes 90 = .ok (.iload_n 3, 1) := by decide +kernel
theorem d_Model_writes_91 : decode b_Model_writes 91 = .ok (.iadd, 1) := by decide +kernel
theorem d_Model_writes_92 : decode b_Model_writes 92 = .ok (.aload_n 0, 1) := by decide +kernel
theorem d_Model_writes_93 : decode b_Model_writes 93 = .ok (.iload_n 1, 1) := by decide +kernel
theorem d_Model_writes_94 : decode b_Model_writes 94 = .ok (.invokevirtual 105, 3) := by decide +kernel
theorem d_Model_writes_97 : decode b_Model_writes 97 = .ok (.if_icmp .le 11, 3) := by decide +kernel
theorem d_Model_writes_100 : decode b_Model_writes 100 = .ok (.aload_n 0, 1) := by decide +kernel
theorem d_Model_writes_101 : decode b_Model_writes 101 = .ok (.iload_n 1, 1) := by decide +kernel
theorem d_Model_writes_102 : decode b_Model_writes 102 = .ok (.iload_n 2, 1) := by decide +kernel
theorem d_Model_writes_103 : decode b_Model_writes 103 = .ok (.iload_n 3, 1) := by decide +kernel
theorem d_Model_writes_104 : decode b_Model_writes 104 = .ok (.iadd, 1) := by decide +kernel
theorem d_Model_writes_105 : decode b_Model_writes 105 = .ok (.invokevirtual 125, 3) := by decide +kernel
theorem d_Model_writes_108 : decode b_Model_writes 108 = .ok (.aload_n 0, 1) := by decide +kernel
theorem d_Model_writes_109 : decode b_Model_writes 109 = .ok (.iload_n 1, 1) := by decide +kernel
theorem d_Model_writes_110 : decode b_Model_writes 110 = .ok (.invokevirtual 105, 3) := by decide +kernel
theorem d_Model_writes_113 : decode b_Model_writes 113 = .ok (.ireturn, 1) := by decide +kernel
theorem d_Model_fill_0 : decode b_Model_fill 0 = .ok (.aload_n 0, 1) := by decide +kernel
theorem d_Model_fill_1 : decode b_Model_fill 1 = .ok (.invokevirtual 100, 3) := by decide +kernel
theorem d_Model_fill_4 : decode b_Model_fill 4 = .ok (.ifCond .eq 5, 3) := by decide +kernel
theorem d_Model_fill_7 : decode b_Model_fill 7 = .ok (.iconst 0, 1) := by decide +kernel
theorem d_Model_fill_8 : decode b_Model_fill 8 = .ok (.ireturn, 1) := by decide +kernel
theorem d_Model_fill_9 : decode b_Model_fill 9 = .ok (.iload 4, 2) := by decide +kernel
theorem d_Model_fill_11 : decode b_Model_fill 11 = .ok (.iconst 1, 1) := by decide +kernel
theorem d_Model_fill_12 : decode b_Model_fill 12 = .ok (.if_icmp .lt 32, 3) := by decide +kernel
theorem d_Model_fill_15 : decode b_Model_fill 15 = .ok (.iload 4, 2) := by decide +kernel
theorem d_Model_fill_17 : decode b_Model_fill 17 = .ok (.bipush 64, 2) := by decide +kernel
theorem d_Model_fill_19 : decode b_Model_fill 19 = .ok (.if_icmp .gt 25, 3) := by decide +kernel
theorem d_Model_fill_22 : decode b_Model_fill 22 = .ok (.iload_n 3, 1) := by decide +kernel
theorem d_Model_fill_23 : decode b_Model_fill 23 = .ok (.ifCond .lt 21, 3) := by decide +kernel
theorem d_Model_fill_26 : decode b_Model_fill 26 = .ok (.iload_n 3, 1) := by decide +kernel
theorem d_Model_fill_27 : decode b_Model_fill 27 = .ok (.sipush 255, 3) := by decide +kernel
theorem d_Model_fill_30 : decode b_Model_fill 30 = .ok (.if_icmp .gt 14, 3) := by decide +kernel
theorem d_Model_fill_33 : decode b_Model_fill 33 = .ok (.aload_n 0, 1) := by decide +kernel
theorem d_Model_fill_34 : decode b_Model_fill 34 = .ok (.iload_n 1, 1) := by decide +kernel
theorem d_Model_fill_35 : decode b_Model_fill 35 = .ok (.iload_n 2, 1) := by decide +kernel
theorem d_Model_fill_36 : decode b_Model_fill 36 = .ok (.iload 4, 2) := by decide +kernel
theorem d_Model_fill_38 : decode b_Model_fill 38 = .ok (.invokevirtual 169, 3) := by decide +kernel
theorem d_Model_fill_41 : decode b_Model_fill 41 = .ok (.ifCond .ne 5, 3) := by decide +kernel
theorem d_Model_fill_44 : decode b_Model_fill 44 = .ok (.iconst (-1), 1) := by decide +kernel
theorem d_Model_fill_45 : decode b_Model_fill 45 = .ok (.ireturn, 1) := by decide +kernel
theorem d_Model_fill_46 : decode b_Model_fill 46 = .ok (.aload_n 0, 1) := by decide +kernel
theorem d_Model_fill_47 : decode b_Model_fill 47 = .ok (.invokevirtual 151, 3) := by decide +kernel
theorem d_Model_fill_50 : decode b_Model_fill 50 = .ok (.ifCond .ne 5, 3) := by decide +kernel
theorem d_Model_fill_53 : decode b_Model_fill 53 = .ok (.iconst 0, 1) := by decide +kernel
theorem d_Model_fill_54 : decode b_Model_fill 54 = .ok (.ireturn, 1) := by decide +kernel
theorem d_Model_fill_55 : decode b_Model_fill 55 = .ok (.iconst 0, 1) := by decide +kernel
theorem d_Model_fill_56 : decode b_Model_fill 56 = .ok (.istore 5, 2) := by decide +kernel
theorem d_Model_fill_58 : decode b_Model_fill 58 = .ok (.iload 5, 2) := by decide +kernel
theorem d_Model_fill_60 : decode b_Model_fill 60 = .ok (.iload 4, 2) := by decide +kernel
theorem d_Model_fill_62 : decode b_Model_fill 62 = .ok (.if_icmp .ge 18, 3) := by decide +kernel
theorem d_Model_fill_65 : decode b_Model_fill 65 = .ok (.aload_n 0, 1) := by decide +kernel
theorem d_Model_fill_66 : decode b_Model_fill 66 = .ok (.getfield 27, 3) := by decide +kernel
theorem d_Model_fill_69 : decode b_Model_fill 69 = .ok (.iload 5, 2) := by decide +kernel
theorem d_Model_fill_71 : decode b_Model_fill 71 = .ok (.iload_n 3, 1) := by decide +kernel
theorem d_Model_fill_72 : decode b_Model_fill 72 = .ok (.i2b, 1) := by decide +kernel
theorem d_Model_fill_73 : decode b_Model_fill 73 = .ok (.bastore, 1) := by decide +kernel
theorem d_Model_fill_74 : decode b_Model_fill 74 = .ok (.iinc 5 1, 3) := by decide +kernel
theorem d_Model_fill_77 : decode b_Model_fill 77 = .ok (.goto (-19), 3) := by decide +kernel
theorem d_Model_fill_80 : decode b_Model_fill 80 = .ok (.aload_n 0, 1) := by decide +kernel
theorem d_Model_fill_81 : decode b_Model_fill 81 = .ok (.iload_n 1, 1) := by decide +kernel
theorem d_Model_fill_82 : decode b_Model_fill 82 = .ok (.iload_n 2, 1) := by decide +kernel
theorem d_Model_fill_83 : decode b_Model_fill 83 = .ok (.iload 4, 2) := by decide +kernel
theorem d_Model_fill_85 : decode b_Model_fill 85 = .ok (.invokevirtual 173, 3) := by decide +kernel
theorem d_Model_fill_88 : decode b_Model_fill 88 = .ok (.ireturn, 1) := by decide +kernel
theorem d_Model_truncate_0 : decode b_Model_truncate 0 = .ok (.aload_n 0, 1) := by decide +kernel
theorem d_Model_truncate_1 : decode b_Model_truncate 1 = .ok (.invokevirtual 100, 3) := by decide +kernel
theorem d_Model_truncate_4 : decode b_Model_truncate 4 = .ok (.ifCond .eq 5, 3) := by decide +kernel
theorem d_Model_truncate_7 : decode b_Model_truncate 7 = .ok (.iconst 0, 1) := by decide +kernel
theorem d_Model_truncate_8 : decode b_Model_truncate 8 = .ok (.ireturn, 1) := by decide +kernel
theorem d_Model_truncate_9 : decode b_Model_truncate 9 = .ok (.aload_n 0, 1) := by decide +kernel
theorem d_Model_truncate_10 : decode b_Model_truncate 10 = .ok (.iload_n 1, 1) := by decide +kernel
theorem d_Model_truncate_11 : decode b_Model_truncate 11 = .ok (.iconst 1, 1) := by decide +kernel
theorem d_Model_truncate_12 : decode b_Model_truncate 12 = .ok (.invokevirtual 141, 3) := by decide +kernel
theorem d_Model_truncate_15 : decode b_Model_truncate 15 = .ok (.ifCond .eq 18, 3) := by decide +kernel
theorem d_Model_truncate_18 : decode b_Model_truncate 18 = .ok (.aload_n 0, 1) := by decide +kernel
theorem d_Model_truncate_19 : decode b_Model_truncate 19 = .ok (.iload_n 1, 1) := by decide +kernel
theorem d_Model_truncate_20 : decode b_Model_truncate 20 = .ok (.invokevirtual 105, 3) := by decide +kernel
theorem d_Model_truncate_23 : decode b_Model_truncate 23 = .ok (.ifCond .eq 10, 3) := by decide +kernel
theorem d_Model_truncate_26 : decode b_Model_truncate 26 = .ok (.aload_n 0, 1) := by decide +kernel
theorem d_Model_truncate_27 : decode b_Model_truncate 27 = .ok (.invokevirtual 151, 3) := by decide +kernel
theorem d_Model_truncate_30 : decode b_Model_truncate 30 = .ok (.ifCond .ne 5, 3) := by decide +kernel
theorem d_Model_truncate_33 : decode b_Model_truncate 33 = .ok (.iconst 0, 1) := by decide +kernel
theorem d_Model_truncate_34 : decode b_Model_truncate 34 = .ok (.ireturn, 1) := by decide +kernel
theorem d_Model_truncate_35 : decode b_Model_truncate 35 = .ok (.aload_n 0, 1) := by decide +kernel
theorem d_Model_truncate_36 : decode b_Model_truncate 36 = .ok (.iload_n 1, 1) := by decide +kernel
theorem d_Model_truncate_37 : decode b_Model_truncate 37 = .ok (.invokevirtual 163, 3) := by decide +kernel
theorem d_Model_truncate_40 : decode b_Model_truncate 40 = .ok (.aload_n 0, 1) := by decide +kernel
theorem d_Model_truncate_41 : decode b_Model_truncate 41 = .ok (.iload_n 1, 1) := by decide +kernel
theorem d_Model_truncate_42 : decode b_Model_truncate 42 = .ok (.iconst 2, 1) := by decide +kernel
theorem d_Model_truncate_43 : decode b_Model_truncate 43 = .ok (.invokevirtual 166, 3) := by decide +kernel
theorem d_Model_truncate_46 : decode b_Model_truncate 46 = .ok (.iconst 1, 1) := by decide +kernel
theorem d_Model_truncate_47 : decode b_Model_truncate 47 = .ok (.ireturn, 1) := by decide +kernel
theorem d_Model_find_0 : decode b_Model_find 0 = .ok (.aload_n 0, 1) := by decide +kernel
theorem d_Model_find_1 : decode b_Model_find 1 = .ok (.invokevirtual 100, 3) := by decide +kernel
theorem d_Model_find_4 : decode b_Model_find 4 = .ok (.ifCond .eq 5, 3) := by decide +kernel
theorem d_Model_find_7 : decode b_Model_find 7 = .ok (.iconst 0, 1) := by decide +kernel
theorem d_Model_find_8 : decode b_Model_find 8 = .ok (.ireturn, 1) := by decide +kernel
theorem d_Model_find_9 : decode b_Model_find 9 = .ok (.aload_n 0, 1) := by decide +kernel
theorem d_Model_find_10 : decode b_Model_find 10 = .ok (.lload_n 2, 1) := by decide +kernel
theorem d_Model_find_11 : decode b_Model_find 11 = .ok (.invokevirtual 137, 3) := by decide +kernel
theorem d_Model_find_14 : decode b_Model_find 14 = .ok (.ifCond .eq 12, 3) := by decide +kernel
theorem d_Model_find_17 : decode b_Model_find 17 = .ok (.aload_n 0, 1) := by decide +kernel
theorem d_Model_find_18 : decode b_Model_find 18 = .ok (.iload_n 1, 1) := by decide +kernel
theorem d_Model_find_19 : decode b_Model_find 19 = .ok (.iconst 2, 1) := by decide +kernel
theorem d_Model_find_20 : decode b_Model_find 20 = .ok (.invokevirtual 141, 3) := by decide +kernel
theorem d_Model_find_23 : decode b_Model_find 23 = .ok (.ifCond .ne 5, 3) := by decide +kernel
theorem d_Model_find_26 : decode b_Model_find 26 = .ok (.iconst (-1), 1) := by decide +kernel
theorem d_Model_find_27 : decode b_Model_find 27 = .ok (.ireturn, 1) := by decide +kernel
theorem d_Model_find_28 : decode b_Model_find 28 = .ok (.aload_n 0, 1) := by decide +kernel
theorem d_Model_find_29 : decode b_Model_find 29 = .ok (.iload_n 1, 1) := by decide +kernel
theorem d_Model_find_30 : decode b_Model_find 30 = .ok (.invokevirtual 128, 3) := by decide +kernel
theorem d_Model_find_33 : decode b_Model_find 33 = .ok (.istore 4, 2) := by decide +kernel
theorem d_Model_find_35 : decode b_Model_find 35 = .ok (.iload 4, 2) := by decide +kernel
theorem d_Model_find_37 : decode b_Model_find 37 = .ok (.ifCond .ge 7, 3) := by decide +kernel
theorem d_Model_find_40 : decode b_Model_find 40 = .ok (.iconst (-1), 1) := by decide +kernel
theorem d_Model_find_41 : decode b_Model_find 41 = .ok (.goto 12, 3) := by decide +kernel
theorem d_Model_find_44 : decode b_Model_find 44 = .ok (.aload_n 0, 1) := by decide +kernel
theorem d_Model_find_45 : decode b_Model_find 45 = .ok (.iload_n 1, 1) := by decide +kernel
theorem d_Model_find_46 : decode b_Model_find 46 = .ok (.iload 4, 2) := by decide +kernel
theorem d_Model_find_48 : decode b_Model_find 48 = .ok (.invokevirtual 108, 3) := by decide +kernel
theorem d_Model_find_51 : decode b_Model_find 51 = .ok (.iconst 1, 1) := by decide +kernel
theorem d_Model_find_52 : decode b_Model_find 52 = .ok (.isub, 1) := by decide +kernel
theorem d_Model_find_53 : decode b_Model_find 53 = .ok (.ireturn, 1) := by decide +kernel
theorem d_Model_read_0 : decode b_Model_read 0 = .ok (.aload_n 0, 1) := by decide +kernel
theorem d_Model_read_1 : decode b_Model_read 1 = .ok (.invokevirtual 100, 3) := by decide +kernel
theorem d_Model_read_4 : decode b_Model_read 4 = .ok (.ifCond .eq 5, 3) := by decide +kernel
theorem d_Model_read_7 : decode b_Model_read 7 = .ok (.iconst 0, 1) := by decide +kernel
theorem d_Model_read_8 : decode b_Model_read 8 = .ok (.ireturn, 1) := by decide +kernel
theorem d_Model_read_9 : decode b_Model_read 9 = .ok (.aload_n 0, 1) := by decide +kernel
theorem d_Model_read_10 : decode b_Model_read 10 = .ok (.iload_n 1, 1) := by decide +kernel
theorem d_Model_read_11 : decode b_Model_read 11 = .ok (.invokestatic 58, 3) := by decide +kernel
theorem d_Model_read_14 : decode b_Model_read 14 = .ok (.ifCond .eq 31, 3) := by decide +kernel
theorem d_Model_read_17 : decode b_Model_read 17 = .ok (.iload_n 2, 1) := by decide +kernel
theorem d_Model_read_18 : decode b_Model_read 18 = .ok (.ifCond .lt 27, 3) := by decide +kernel
theorem d_Model_read_21 : decode b_Model_read 21 = .ok (.iload_n 2, 1) := by decide +kernel
theorem d_Model_read_22 : decode b_Model_read 22 = .ok (.aload_n 0, 1) := by decide +kernel
theorem d_Model_read_23 : decode b_Model_read 23 = .ok (.iload_n 1, 1) := by decide +kernel
theorem d_Model_read_24 : decode b_Model_read 24 = .ok (.invokestatic 58, 3) := by decide +kernel
theorem d_Model_read_27 : decode b_Model_read 27 = .ok (.ifCond .eq 7, 3) := by decide +kernel
theorem d_Model_read_30 : decode b_Model_read 30 = .ok (.iload_n 1, 1) := by decide +kernel
theorem d_Model_read_31 : decode b_Model_read 31 = .ok (.goto 4, 3) := by decide +kernel
theorem d_Model_read_34 : decode b_Model_read 34 = .ok (.iconst 0, 1) := by decide +kernel
theorem d_Model_read_35 : decode b_Model_read 35 = .ok (.invokevirtual 105, 3) := by decide +kernel
theorem d_Model_read_38 : decode b_Model_read 38 = .ok (.if_icmp .ge 7, 3) := by decide +kernel
theorem d_Model_read_41 : decode b_Model_read 41 = .ok (.iconst 0, 1) := by decide +kernel
theorem d_Model_read_42 : decode b_Model_read 42 = .ok (.goto 4, 3) := by decide +kernel
theorem d_Model_read_45 : decode b_Model_read 45 = .ok (.iconst 2, 1) := by decide +kernel
theorem d_Model_read_46 : decode b_Model_read 46 = .ok (.putfield 33, 3) := by decide +kernel
theorem d_Model_read_49 : decode b_Model_read 49 = .ok (.aload_n 0, 1) := by decide +kernel
theorem d_Model_read_50 : decode b_Model_read 50 = .ok (.getfield 33, 3) := by decide +kernel
theorem d_Model_read_53 : decode b_Model_read 53 = .ok (.ifCond .le 7, 3) := by decide +kernel
theorem d_Model_read_56 : decode b_Model_read 56 = .ok (.iconst 0, 1) := by decide +kernel
theorem d_Model_read_57 : decode b_Model_read 57 = .ok (.goto 9, 3) := by decide +kernel
theorem d_Model_read_60 : decode b_Model_read 60 = .ok (.aload_n 0, 1) := by decide +kernel
theorem d_Model_read_61 : decode b_Model_read 61 = .ok (.iload_n 1, 1) := by decide +kernel
theorem d_Model_read_62 : decode b_Model_read 62 = .ok (.iload_n 2, 1) := by decide +kernel
theorem d_Model_read_63 : decode b_Model_read 63 = .ok (.invokevirtual 108, 3) := by decide +kernel
theorem d_Model_read_66 : decode b_Model_read 66 = .ok (.ireturn, 1) := by decide +kernel
theorem d_Model_look_0 : decode b_Model_look 0 = .ok (.aload_n 0, 1) := by decide +kernel
theorem d_Model_look_1 : decode b_Model_look 1 = .ok (.invokevirtual 100, 3) := by decide +kernel
theorem d_Model_look_4 : decode b_Model_look 4 = .ok (.ifCond .eq 5, 3) := by decide +kernel
theorem d_Model_look_7 : decode b_Model_look 7 = .ok (.iconst 0, 1) := by decide +kernel
theorem d_Model_look_8 : decode b_Model_look 8 = .ok (.ireturn, 1) := by decide +kernel
theorem d_Model_look_9 : decode b_Model_look 9 = .ok (.aload_n 0, 1) := by decide +kernel
theorem d_Model_look_10 : decode b_Model_look 10 = .ok (.iload_n 1, 1) := by decide +kernel
theorem d_Model_look_11 : decode b_Model_look 11 = .ok (.invokestatic 58, 3) := by decide +kernel
theorem d_Model_look_14 : decode b_Model_look 14 = .ok (.ifCond .eq 16, 3) := by decide +kernel
theorem d_Model_look_17 : decode b_Model_look 17 = .ok (.iload_n 2, 1) := by decide +kernel
theorem d_Model_look_18 : decode b_Model_look 18 = .ok (.ifCond .lt 12, 3) := by decide +kernel
theorem d_Model_look_21 : decode b_Model_look 21 = .ok (.iload_n 2, 1) := by decide +kernel
theorem d_Model_look_22 : decode b_Model_look 22 = .ok (.iconst 5, 1) := by decide +kernel
theorem d_Model_look_23 : decode b_Model_look 23 = .ok (.if_icmp .ge 7, 3) := by decide +kernel
theorem d_Model_look_26 : decode b_Model_look 26 = .ok (.iconst 0, 1) := by decide +kernel
theorem d_Model_look_27 : decode b_Model_look 27 = .ok (.goto 4, 3) := by decide +kernel
theorem d_Model_look_30 : decode b_Model_look 30 = .ok (.iconst 2, 1) := by decide +kernel
theorem d_Model_look_31 : decode b_Model_look 31 = .ok (.putfield 33, 3) := by decide +kernel
theorem d_Model_look_34 : decode b_Model_look 34 = .ok (.aload_n 0, 1) := by decide +kernel
theorem d_Model_look_35 : decode b_Model_look 35 = .ok (.getfield 33, 3) := by decide +kernel
theorem d_Model_look_38 : decode b_Model_look 38 = .ok (.ifCond .le 5, 3) := by decide +kernel
theorem d_Model_look_41 : decode b_Model_look 41 = .ok (.iconst 0, 1) := by decide +kernel
theorem d_Model_look_42 : decode b_Model_look 42 = .ok (.ireturn, 1) := by decide +kernel
theorem d_Model_look_43 : decode b_Model_look 43 = .ok (.iload_n 2, 1) := by decide +kernel
theorem d_Model_look_44 : decode b_Model_look 44 = .ok (.tableswitch 61 0 3 #[32, 39, 46, 52], 32) := by decide +kernel
theorem d_Model_look_76 : decode b_Model_look 76 = .ok (.aload_n 0, 1) := by decide +kernel
theorem d_Model_look_77 : decode b_Model_look 77 = .ok (.iload_n 1, 1) := by decide +kernel
theorem d_Model_look_78 : decode b_Model_look 78 = .ok (.iconst 0, 1) := by decide +kernel
theorem d_Model_look_79 : decode b_Model_look 79 = .ok (.invokevirtual 62, 3) := by decide +kernel
theorem d_Model_look_82 : decode b_Model_look 82 = .ok (.ireturn, 1) := by decide +kernel
theorem d_Model_look_83 : decode b_Model_look 83 = .ok (.aload_n 0, 1) := by decide +kernel
theorem d_Model_look_84 : decode b_Model_look 84 = .ok (.iload_n 1, 1) := by decide +kernel
theorem d_Model_look_85 : decode b_Model_look 85 = .ok (.iconst 1, 1) := by decide +kernel
theorem d_Model_look_86 : decode b_Model_look 86 = .ok (.invokevirtual 62, 3) := by decide +kernel
theorem d_Model_look_89 : decode b_Model_look 89 = .ok (.ireturn, 1) := by decide +kernel
theorem d_Model_look_90 : decode b_Model_look 90 = .ok (.aload_n 0, 1) := by decide +kernel
theorem d_Model_look_91 : decode b_Model_look 91 = .ok (.iload_n 1, 1) := by decide +kernel
theorem d_Model_look_92 : decode b_Model_look 92 = .ok (.invokevirtual 105, 3) := by decide +kernel
theorem d_Model_look_95 : decode b_Model_look 95 = .ok (.ireturn, 1) := by decide +kernel
theorem d_Model_look_96 : decode b_Model_look 96 = .ok (.aload_n 0, 1) := by decide +kernel
theorem d_Model_look_97 : decode b_Model_look 97 = .ok (.iload_n 1, 1) := by decide +kernel
theorem d_Model_look_98 : decode b_Model_look 98 = .ok (.invokevirtual 105, 3) := by decide +kernel
theorem d_Model_look_101 : decode b_Model_look 101 = .ok (.invokestatic 111, 3) := by decide +kernel
theorem d_Model_look_104 : decode b_Model_look 104 = .ok (.ireturn, 1) := by decide +kernel
theorem d_Model_look_105 : decode b_Model_look 105 = .ok (.aload_n 0, 1) := by decide +kernel
theorem d_Model_look_106 : decode b_Model_look 106 = .ok (.iload_n 1, 1) := by decide +kernel
theorem d_Model_look_107 : decode b_Model_look 107 = .ok (.iconst 2, 1) := by decide +kernel
theorem d_Model_look_108 : decode b_Model_look 108 = .ok (.invokevirtual 141, 3) := by decide +kernel
theorem d_Model_look_111 : decode b_Model_look 111 = .ok (.ifCond .eq 11, 3) := by decide +kernel
theorem d_Model_look_114 : decode b_Model_look 114 = .ok (.aload_n 0, 1) := by decide +kernel
theorem d_Model_look_115 : decode b_Model_look 115 = .ok (.iload_n 1, 1) := by decide +kernel
theorem d_Model_look_116 : decode b_Model_look 116 = .ok (.invokevirtual 160, 3) := by decide +kernel
theorem d_Model_look_119 : decode b_Model_look 119 = .ok (.goto 4, 3) := by decide +kernel
theorem d_Model_look_122 : decode b_Model_look 122 = .ok (.iconst 0, 1) := by decide +kernel
theorem d_Model_look_123 : decode b_Model_look 123 = .ok (.ireturn, 1) := by decide +kernel
theorem d_Model_disk_0 : decode b_Model_disk 0 = .ok (.aload_n 0, 1) := by decide +kernel
theorem d_Model_disk_1 : decode b_Model_disk 1 = .ok (.iload_n 1, 1) := by decide +kernel
theorem d_Model_disk_2 : decode b_Model_disk 2 = .ok (.iload_n 2, 1) := by decide +kernel
theorem d_Model_disk_3 : decode b_Model_disk 3 = .ok (.invokestatic 176, 3) := by decide +kernel
theorem d_Model_disk_6 : decode b_Model_disk 6 = .ok (.ifCond .eq 7, 3) := by decide +kernel
theorem d_Model_disk_9 : decode b_Model_disk 9 = .ok (.iconst 0, 1) := by decide +kernel
theorem d_Model_disk_10 : decode b_Model_disk 10 = .ok (.goto 4, 3) := by decide +kernel
theorem d_Model_disk_13 : decode b_Model_disk 13 = .ok (.iconst 1, 1) := by decide +kernel
theorem d_Model_disk_14 : decode b_Model_disk 14 = .ok (.putfield 33, 3) := by decide +kernel
theorem d_Model_disk_17 : decode b_Model_disk 17 = .ok (.aload_n 0, 1) := by decide +kernel
theorem d_Model_disk_18 : decode b_Model_disk 18 = .ok (.getfield 33, 3) := by decide +kernel
theorem d_Model_disk_21 : decode b_Model_disk 21 = .ok (.ifCond .le 7, 3) := by decide +kernel
theorem d_Model_disk_24 : decode b_Model_disk 24 = .ok (.iconst 0, 1) := by decide +kernel
theorem d_Model_disk_25 : decode b_Model_disk 25 = .ok (.goto 18, 3) := by decide +kernel
theorem d_Model_disk_28 : decode b_Model_disk 28 = .ok (.aload_n 0, 1) := by decide +kernel
theorem d_Model_disk_29 : decode b_Model_disk 29 = .ok (.getfield 7, 3) := by decide +kernel
theorem d_Model_disk_32 : decode b_Model_disk 32 = .ok (.bipush 64, 2) := by decide +kernel
theorem d_Model_disk_34 : decode b_Model_disk 34 = .ok (.iload_n 1, 1) := by decide +kernel
theorem d_Model_disk_35 : decode b_Model_disk 35 = .ok (.imul, 1) := by decide +kernel
theorem d_Model_disk_36 : decode b_Model_disk 36 = .ok (.iload_n 2, 1) := by decide +kernel
theorem d_Model_disk_37 : decode b_Model_disk 37 = .ok (.iadd, 1) := by decide +kernel
theorem d_Model_disk_38 : decode b_Model_disk 38 = .ok (.baload, 1) := by decide +kernel
theorem d_Model_disk_39 : decode b_Model_disk 39 = .ok (.sipush 255, 3) := by decide +kernel
theorem d_Model_disk_42 : decode b_Model_disk 42 = .ok (.iand, 1) := by decide +kernel
theorem d_Model_disk_43 : decode b_Model_disk 43 = .ok (.ireturn, 1) := by decide +kernel
theorem d_Model_isByte_0 : decode b_Model_isByte 0 = .ok (.iload_n 0, 1) := by decide +kernel
theorem d_Model_isByte_1 : decode b_Model_isByte 1 = .ok (.ifCond .lt 24, 3) := by decide +kernel
theorem d_Model_isByte_4 : decode b_Model_isByte 4 = .ok (.iload_n 0, 1) := by decide +kernel
theorem d_Model_isByte_5 : decode b_Model_isByte 5 = .ok (.sipush 128, 3) := by decide +kernel
theorem d_Model_isByte_8 : decode b_Model_isByte 8 = .ok (.if_icmp .ge 17, 3) := by decide +kernel
theorem d_Model_isByte_11 : decode b_Model_isByte 11 = .ok (.iload_n 1, 1) := by decide +kernel
theorem d_Model_isByte_12 : decode b_Model_isByte 12 = .ok (.ifCond .lt 13, 3) := by decide +kernel
theorem d_Model_isByte_15 : decode b_Model_isByte 15 = .ok (.iload_n 1, 1) := by decide +kernel
theorem d_Model_isByte_16 : decode b_Model_isByte 16 = .ok (.bipush 64, 2) := by decide +kernel
theorem d_Model_isByte_18 : decode b_Model_isByte 18 = .ok (.if_icmp .ge 7, 3) := by decide +kernel
theorem d_Model_isByte_21 : decode b_Model_isByte 21 = .ok (.iconst 1, 1) := by decide +kernel
theorem d_Model_isByte_22 : decode b_Model_isByte 22 = .ok (.goto 4, 3) := by decide +kernel
theorem d_Model_isByte_25 : decode b_Model_isByte 25 = .ok (.iconst 0, 1) := by decide +kernel
theorem d_Model_isByte_26 : decode b_Model_isByte 26 = .ok (.ireturn, 1) := by decide +kernel
theorem d_Model_memory_0 : decode b_Model_memory 0 = .ok (.aload_n 0, 1) := by decide +kernel
theorem d_Model_memory_1 : decode b_Model_memory 1 = .ok (.invokevirtual 100, 3) := by decide +kernel
theorem d_Model_memory_4 : decode b_Model_memory 4 = .ok (.ifCond .eq 5, 3) := by decide +kernel
theorem d_Model_memory_7 : decode b_Model_memory 7 = .ok (.iconst 0, 1) := by decide +kernel
theorem d_Model_memory_8 : decode b_Model_memory 8 = .ok (.ireturn, 1) := by decide +kernel
theorem d_Model_memory_9 : decode b_Model_memory 9 = .ok (.aload_n 0, 1) := by decide +kernel
theorem d_Model_memory_10 : decode b_Model_memory 10 = .ok (.iload_n 1, 1) := by decide +kernel
theorem d_Model_memory_11 : decode b_Model_memory 11 = .ok (.iload_n 2, 1) := by decide +kernel
theorem d_Model_memory_12 : decode b_Model_memory 12 = .ok (.invokestatic 176, 3) := by decide +kernel
theorem d_Model_memory_15 : decode b_Model_memory 15 = .ok (.ifCond .eq 7, 3) := by decide +kernel
theorem d_Model_memory_18 : decode b_Model_memory 18 = .ok (.iconst 0, 1) := by decide +kernel
theorem d_Model_memory_19 : decode b_Model_memory 19 = .ok (.goto 4, 3) := by decide +kernel
theorem d_Model_memory_22 : decode b_Model_memory 22 = .ok (.iconst 2, 1) := by decide +kernel
theorem d_Model_memory_23 : decode b_Model_memory 23 = .ok (.putfield 33, 3) := by decide +kernel
theorem d_Model_memory_26 : decode b_Model_memory 26 = .ok (.aload_n 0, 1) := by decide +kernel
theorem d_Model_memory_27 : decode b_Model_memory 27 = .ok (.getfield 33, 3) := by decide +kernel
theorem d_Model_memory_30 : decode b_Model_memory 30 = .ok (.ifCond .le 7, 3) := by decide +kernel
theorem d_Model_memory_33 : decode b_Model_memory 33 = .ok (.iconst 0, 1) := by decide +kernel
theorem d_Model_memory_34 : decode b_Model_memory 34 = .ok (.goto 9, 3) := by decide +kernel
theorem d_Model_memory_37 : decode b_Model_memory 37 = .ok (.aload_n 0, 1) := by decide +kernel
theorem d_Model_memory_38 : decode b_Model_memory 38 = .ok (.iload_n 1, 1) := by decide +kernel
theorem d_Model_memory_39 : decode b_Model_memory 39 = .ok (.iload_n 2, 1) := by decide +kernel
theorem d_Model_memory_40 : decode b_Model_memory 40 = .ok (.invokevirtual 50, 3) := by decide +kernel
theorem d_Model_memory_43 : decode b_Model_memory 43 = .ok (.ireturn, 1) := by decide +kernel
theorem d_Model_count_0 : decode b_Model_count 0 = .ok (.aload_n 0, 1) := by decide +kernel
theorem d_Model_count_1 : decode b_Model_count 1 = .ok (.iconst 0, 1) := by decide +kernel
theorem d_Model_count_2 : decode b_Model_count 2 = .ok (.putfield 33, 3) := by decide +kernel
theorem d_Model_count_5 : decode b_Model_count 5 = .ok (.iload_n 1, 1) := by decide +kernel
theorem d_Model_count_6 : decode b_Model_count 6 = .ok (.bipush 8, 2) := by decide +kernel
theorem d_Model_count_8 : decode b_Model_count 8 = .ok (.if_icmp .lt 35, 3) := by decide +kernel
theorem d_Model_count_11 : decode b_Model_count 11 = .ok (.aload_n 0, 1) := by decide +kernel
theorem d_Model_count_12 : decode b_Model_count 12 = .ok (.getfield 78, 3) := by decide +kernel
theorem d_Model_count_15 : decode b_Model_count 15 = .ok (.ifCond .ne 14, 3) := by decide +kernel
theorem d_Model_count_18 : decode b_Model_count 18 = .ok (.iload_n 1, 1) := by decide +kernel
theorem d_Model_count_19 : decode b_Model_count 19 = .ok (.bipush 8, 2) := by decide +kernel
theorem d_Model_count_21 : decode b_Model_count 21 = .ok (.isub, 1) := by decide +kernel
theorem d_Model_count_22 : decode b_Model_count 22 = .ok (.aload_n 0, 1) := by decide +kernel
theorem d_Model_count_23 : decode b_Model_count 23 = .ok (.getfield 36, 3) := by decide +kernel
theorem d_Model_count_26 : decode b_Model_count 26 = .ok (.if_icmp .lt 7, 3) := by decide +kernel
theorem d_Model_count_29 : decode b_Model_count 29 = .ok (.iconst (-1), 1) := by decide +kernel
theorem d_Model_count_30 : decode b_Model_count 30 = .ok (.goto 12, 3) := by decide +kernel
theorem d_Model_count_33 : decode b_Model_count 33 = .ok (.aload_n 0, 1) := by decide +kernel
theorem d_Model_count_34 : decode b_Model_count 34 = .ok (.getfield 16, 3) := by decide +kernel
theorem d_Model_count_37 : decode b_Model_count 37 = .ok (.iload_n 1, 1) := by decide +kernel
theorem d_Model_count_38 : decode b_Model_count 38 = .ok (.bipush 8, 2) := by decide +kernel
theorem d_Model_count_40 : decode b_Model_count 40 = .ok (.isub, 1) := by decide +kernel
theorem d_Model_count_41 : decode b_Model_count 41 = .ok (.iaload, 1) := by decide +kernel
theorem d_Model_count_42 : decode b_Model_count 42 = .ok (.ireturn, 1) := by decide +kernel
theorem d_Model_count_43 : decode b_Model_count 43 = .ok (.iconst 0, 1) := by decide +kernel
theorem d_Model_count_44 : decode b_Model_count 44 = .ok (.istore_n 2, 1) := by decide +kernel
theorem d_Model_count_45 : decode b_Model_count 45 = .ok (.iconst 0, 1) := by decide +kernel
theorem d_Model_count_46 : decode b_Model_count 46 = .ok (.istore_n 3, 1) := by decide +kernel
theorem d_Model_count_47 : decode b_Model_count 47 = .ok (.iload_n 3, 1) := by decide +kernel
theorem d_Model_count_48 : decode b_Model_count 48 = .ok (.bipush 32, 2) := by decide +kernel
theorem d_Model_count_50 : decode b_Model_count 50 = .ok (.if_icmp .ge 26, 3) := by decide +kernel
theorem d_Model_count_53 : decode b_Model_count 53 = .ok (.iload_n 2, 1) := by decide +kernel
theorem d_Model_count_54 : decode b_Model_count 54 = .ok (.aload_n 0, 1) := by decide +kernel
theorem d_Model_count_55 : decode b_Model_count 55 = .ok (.iload_n 3, 1) := by decide +kernel
theorem d_Model_count_56 : decode b_Model_count 56 = .ok (.iconst 0, 1) := by decide +kernel
theorem d_Model_count_57 : decode b_Model_count 57 = .ok (.invokevirtual 62, 3) := by decide +kernel
theorem d_Model_count_60 : decode b_Model_count 60 = .ok (.ifCond .ne 7, 3) := by decide +kernel
theorem d_Model_count_63 : decode b_Model_count 63 = .ok (.iconst 1, 1) := by decide +kernel
theorem d_Model_count_64 : decode b_Model_count 64 = .ok (.goto 4, 3) := by decide +kernel
theorem d_Model_count_67 : decode b_Model_count 67 = .ok (.iconst 0, 1) := by decide +kernel
theorem d_Model_count_68 : decode b_Model_count 68 = .ok (.iadd, 1) := by decide +kernel
theorem d_Model_count_69 : decode b_Model_count 69 = .ok (.istore_n 2, 1) := by decide +kernel
theorem d_Model_count_70 : decode b_Model_count 70 = .ok (.iinc 3 1, 3) := by decide +kernel
theorem d_Model_count_73 : decode b_Model_count 73 = .ok (.goto (-26), 3) := by decide +kernel
theorem d_Model_count_76 : decode b_Model_count 76 = .ok (.iload_n 1, 1) := by decide +kernel
theorem d_Model_count_77 : decode b_Model_count 77 = .ok (.tableswitch 107 0 5 #[39, 55, 71, 84, 89, 94], 39) := by decide +kernel
theorem d_Model_count_116 : decode b_Model_count 116 = .ok (.aload_n 0, 1) := by decide +kernel
theorem d_Model_count_117 : decode b_Model_count 117 = .ok (.getfield 78, 3) := by decide +kernel
theorem d_Model_count_120 : decode b_Model_count 120 = .ok (.ifCond .eq 7, 3) := by decide +kernel
theorem d_Model_count_123 : decode b_Model_count 123 = .ok (.iconst (-1), 1) := by decide +kernel
theorem d_Model_count_124 : decode b_Model_count 124 = .ok (.goto 7, 3) := by decide +kernel
theorem d_Model_count_127 : decode b_Model_count 127 = .ok (.aload_n 0, 1) := by decide +kernel
theorem d_Model_count_128 : decode b_Model_count 128 = .ok (.getfield 36, 3) := by decide +kernel
theorem d_Model_count_131 : decode b_Model_count 131 = .ok (.ireturn, 1) := by decide +kernel
theorem d_Model_count_132 : decode b_Model_count 132 = .ok (.aload_n 0, 1) := by decide +kernel
theorem d_Model_count_133 : decode b_Model_count 133 = .ok (.getfield 78, 3) := by decide +kernel
theorem d_Model_count_136 : decode b_Model_count 136 = .ok (.ifCond .eq 7, 3) := by decide +kernel
theorem d_Model_count_139 : decode b_Model_count 139 = .ok (.iconst (-1), 1) := by decide +kernel
theorem d_Model_count_140 : decode b_Model_count 140 = .ok (.goto 7, 3) := by decide +kernel
theorem d_Model_count_143 : decode b_Model_count 143 = .ok (.aload_n 0, 1) := by decide +kernel
theorem d_Model_count_144 : decode b_Model_count 144 = .ok (.invokevirtual 134, 3) := by decide +kernel
theorem d_Model_count_147 : decode b_Model_count 147 = .ok (.ireturn, 1) := by decide +kernel
theorem d_Model_count_148 : decode b_Model_count 148 = .ok (.aload_n 0, 1) := by decide +kernel
theorem d_Model_count_149 : decode b_Model_count 149 = .ok (.getfield 78, 3) := by decide +kernel
theorem d_Model_count_152 : decode b_Model_count 152 = .ok (.ifCond .eq 7, 3) := by decide +kernel
theorem d_Model_count_155 : decode b_Model_count 155 = .ok (.iconst (-1), 1) := by decide +kernel
theorem d_Model_count_156 : decode b_Model_count 156 = .ok (.goto 4, 3) := by decide +kernel
theorem d_Model_count_159 : decode b_Model_count 159 = .ok (.iload_n 2, 1) := by decide +kernel
theorem d_Model_count_160 : decode b_Model_count 160 = .ok (.ireturn, 1) := by decide +kernel
theorem d_Model_count_161 : decode b_Model_count 161 = .ok (.aload_n 0, 1) := by decide +kernel
theorem d_Model_count_162 : decode b_Model_count 162 = .ok (.getfield 81, 3) := by decide +kernel
theorem d_Model_count_165 : decode b_Model_count 165 = .ok (.ireturn, 1) := by decide +kernel
theorem d_Model_count_166 : decode b_Model_count 166 = .ok (.aload_n 0, 1) := by decide +kernel
theorem d_Model_count_167 : decode b_Model_count 167 = .ok (.getfield 84, 3) := by decide +kernel
theorem d_Model_count_170 : decode b_Model_count 170 = .ok (.ireturn, 1) := by decide +kernel
theorem d_Model_count_171 : decode b_Model_count 171 = .ok (.aload_n 0, 1) := by decide +kernel
theorem d_Model_count_172 : decode b_Model_count 172 = .ok (.getfield 78, 3) := by decide +kernel
theorem d_Model_count_175 : decode b_Model_count 175 = .ok (.ifCond .eq 7, 3) := by decide +kernel
theorem d_Model_count_178 : decode b_Model_count 178 = .ok (.iconst 1, 1) := by decide +kernel
theorem d_Model_count_179 : decode b_Model_count 179 = .ok (.goto 4, 3) := by decide +kernel
theorem d_Model_count_182 : decode b_Model_count 182 = .ok (.iconst 0, 1) := by decide +kernel
theorem d_Model_count_183 : decode b_Model_count 183 = .ok (.ireturn, 1) := by decide +kernel
theorem d_Model_count_184 : decode b_Model_count 184 = .ok (.iconst (-1), 1) := by decide +kernel
theorem d_Model_count_185 : decode b_Model_count 185 = .ok (.ireturn, 1) := by decide +kernel
theorem d_Law_make_0 : decode b_Law_make 0 = .ok (.aload 5, 2) := by decide +kernel
theorem d_Law_make_2 : decode b_Law_make 2 = .ok (.iconst 0, 1) := by decide +kernel
theorem d_Law_make_3 : decode b_Law_make 3 = .ok (.aload_n 0, 1) := by decide +kernel
theorem d_Law_make_4 : decode b_Law_make 4 = .ok (.iload_n 1, 1) := by decide +kernel
theorem d_Law_make_5 : decode b_Law_make 5 = .ok (.lload_n 2, 1) := by decide +kernel
theorem d_Law_make_6 : decode b_Law_make 6 = .ok (.iload 4, 2) := by decide +kernel
theorem d_Law_make_8 : decode b_Law_make 8 = .ok (.invokevirtual 7, 3) := by decide +kernel
theorem d_Law_make_11 : decode b_Law_make 11 = .ok (.i2l, 1) := by decide +kernel
theorem d_Law_make_12 : decode b_Law_make 12 = .ok (.lastore, 1) := by decide +kernel
theorem d_Law_make_13 : decode b_Law_make 13 = .ok (.goto 11, 3) := by decide +kernel
theorem d_Law_make_16 : decode b_Law_make 16 = .ok (.astore 6, 2) := by decide +kernel
theorem d_Law_make_18 : decode b_Law_make 18 = .ok (.iconst 1, 1) := by decide +kernel
theorem d_Law_make_19 : decode b_Law_make 19 = .ok (.ireturn, 1) := by decide +kernel
theorem d_Law_make_20 : decode b_Law_make 20 = .ok (.astore 6, 2) := by decide +kernel
theorem d_Law_make_22 : decode b_Law_make 22 = .ok (.iconst 2, 1) := by decide +kernel
theorem d_Law_make_23 : decode b_Law_make 23 = .ok (.ireturn, 1) := by decide +kernel
theorem d_Law_make_24 : decode b_Law_make 24 = .ok (.iconst 0, 1) := by decide +kernel
theorem d_Law_make_25 : decode b_Law_make 25 = .ok (.ireturn, 1) := by decide +kernel
theorem d_Law_link_0 : decode b_Law_link 0 = .ok (.aload 5, 2) := by decide +kernel
theorem d_Law_link_2 : decode b_Law_link 2 = .ok (.iconst 0, 1) := by decide +kernel
theorem d_Law_link_3 : decode b_Law_link 3 = .ok (.aload_n 0, 1) := by decide +kernel
theorem d_Law_link_4 : decode b_Law_link 4 = .ok (.iload_n 1, 1) := by decide +kernel
theorem d_Law_link_5 : decode b_Law_link 5 = .ok (.lload_n 2, 1) := by decide +kernel
theorem d_Law_link_6 : decode b_Law_link 6 = .ok (.iload 4, 2) := by decide +kernel
theorem d_Law_link_8 : decode b_Law_link 8 = .ok (.invokevirtual 17, 3) := by decide +kernel
theorem d_Law_link_11 : decode b_Law_link 11 = .ok (.ifCond .eq 7, 3) := by decide +kernel
theorem d_Law_link_14 : decode b_Law_link 14 = .ok (.lconst 1, 1) := by decide +kernel
theorem d_Law_link_15 : decode b_Law_link 15 = .ok (.goto 4, 3) := by decide +kernel
theorem d_Law_link_18 : decode b_Law_link 18 = .ok (.lconst 0, 1) := by decide +kernel
theorem d_Law_link_19 : decode b_Law_link 19 = .ok (.lastore, 1) := by decide +kernel
theorem d_Law_link_20 : decode b_Law_link 20 = .ok (.goto 11, 3) := by decide +kernel
theorem d_Law_link_23 : decode b_Law_link 23 = .ok (.astore 6, 2) := by decide +kernel
theorem d_Law_link_25 : decode b_Law_link 25 = .ok (.iconst 1, 1) := by decide +kernel
theorem d_Law_link_26 : decode b_Law_link 26 = .ok (.ireturn, 1) := by decide +kernel
theorem d_Law_link_27 : decode b_Law_link 27 = .ok (.astore 6, 2) := by decide +kernel
theorem d_Law_link_29 : decode b_Law_link 29 = .ok (.iconst 2, 1) := by decide +kernel
theorem d_Law_link_30 : decode b_Law_link 30 = .ok (.ireturn, 1) := by decide +kernel
theorem d_Law_link_31 : decode b_Law_link 31 = .ok (.iconst 0, 1) := by decide +kernel
theorem d_Law_link_32 : decode b_Law_link 32 = .ok (.ireturn, 1) := by decide +kernel
theorem d_Law_unlink_0 : decode b_Law_unlink 0 = .ok (.aload 4, 2) := by decide +kernel
theorem d_Law_unlink_2 : decode b_Law_unlink 2 = .ok (.iconst 0, 1) := by decide +kernel
theorem d_Law_unlink_3 : decode b_Law_unlink 3 = .ok (.aload_n 0, 1) := by decide +kernel
theorem d_Law_unlink_4 : decode b_Law_unlink 4 = .ok (.iload_n 1, 1) := by decide +kernel
theorem d_Law_unlink_5 : decode b_Law_unlink 5 = .ok (.lload_n 2, 1) := by decide +kernel
theorem d_Law_unlink_6 : decode b_Law_unlink 6 = .ok (.invokevirtual 21, 3) := by decide +kernel
theorem d_Law_unlink_9 : decode b_Law_unlink 9 = .ok (.ifCond .eq 7, 3) := by decide +kernel
theorem d_Law_unlink_12 : decode b_Law_unlink 12 = .ok (.lconst 1, 1) := by decide +kernel
theorem d_Law_unlink_13 : decode b_Law_unlink 13 = .ok (.goto 4, 3) := by decide +kernel
theorem d_Law_unlink_16 : decode b_Law_unlink 16 = .ok (.lconst 0, 1) := by decide +kernel
theorem d_Law_unlink_17 : decode b_Law_unlink 17 = .ok (.lastore, 1) := by decide +kernel
theorem d_Law_unlink_18 : decode b_Law_unlink 18 = .ok (.goto 11, 3) := by decide +kernel
theorem d_Law_unlink_21 : decode b_Law_unlink 21 = .ok (.astore 5, 2) := by decide +kernel
theorem d_Law_unlink_23 : decode b_Law_unlink 23 = .ok (.iconst 1, 1) := by decide +kernel
theorem d_Law_unlink_24 : decode b_Law_unlink 24 = .ok (.ireturn, 1) := by decide +kernel
theorem d_Law_unlink_25 : decode b_Law_unlink 25 = .ok (.astore 5, 2) := by decide +kernel
theorem d_Law_unlink_27 : decode b_Law_unlink 27 = .ok (.iconst 2, 1) := by decide +kernel
theorem d_Law_unlink_28 : decode b_Law_unlink 28 = .ok (.ireturn, 1) := by decide +kernel
theorem d_Law_unlink_29 : decode b_Law_unlink 29 = .ok (.iconst 0, 1) := by decide +kernel
theorem d_Law_unlink_30 : decode b_Law_unlink 30 = .ok (.ireturn, 1) := by decide +kernel
theorem d_Law_write_0 : decode b_Law_write 0 = .ok (.aload 6, 2) := by decide +kernel
theorem d_Law_write_2 : decode b_Law_write 2 = .ok (.iconst 0, 1) := by decide +kernel
theorem d_Law_write_3 : decode b_Law_write 3 = .ok (.aload_n 0, 1) := by decide +kernel
theorem d_Law_write_4 : decode b_Law_write 4 = .ok (.iload_n 1, 1) := by decide +kernel
theorem d_Law_write_5 : decode b_Law_write 5 = .ok (.iload_n 2, 1) := by decide +kernel
theorem d_Law_write_6 : decode b_Law_write 6 = .ok (.lload_n 3, 1) := by decide +kernel
theorem d_Law_write_7 : decode b_Law_write 7 = .ok (.iload 5, 2) := by decide +kernel
theorem d_Law_write_9 : decode b_Law_write 9 = .ok (.invokevirtual 25, 3) := by decide +kernel
theorem d_Law_write_12 : decode b_Law_write 12 = .ok (.i2l, 1) := by decide +kernel
theorem d_Law_write_13 : decode b_Law_write 13 = .ok (.lastore, 1) := by decide +kernel
theorem d_Law_write_14 : decode b_Law_write 14 = .ok (.goto 11, 3) := by decide +kernel
theorem d_Law_write_17 : decode b_Law_write 17 = .ok (.astore 7, 2) := by decide +kernel
theorem d_Law_write_19 : decode b_Law_write 19 = .ok (.iconst 1, 1) := by decide +kernel
theorem d_Law_write_20 : decode b_Law_write 20 = .ok (.ireturn, 1) := by decide +kernel
theorem d_Law_write_21 : decode b_Law_write 21 = .ok (.astore 7, 2) := by decide +kernel
theorem d_Law_write_23 : decode b_Law_write 23 = .ok (.iconst 2, 1) := by decide +kernel
theorem d_Law_write_24 : decode b_Law_write 24 = .ok (.ireturn, 1) := by decide +kernel
theorem d_Law_write_25 : decode b_Law_write 25 = .ok (.iconst 0, 1) := by decide +kernel
theorem d_Law_write_26 : decode b_Law_write 26 = .ok (.ireturn, 1) := by decide +kernel
theorem d_Law_fill_0 : decode b_Law_fill 0 = .ok (.aload 5, 2) := by decide +kernel
theorem d_Law_fill_2 : decode b_Law_fill 2 = .ok (.iconst 0, 1) := by decide +kernel
theorem d_Law_fill_3 : decode b_Law_fill 3 = .ok (.aload_n 0, 1) := by decide +kernel
theorem d_Law_fill_4 : decode b_Law_fill 4 = .ok (.iload_n 1, 1) := by decide +kernel
theorem d_Law_fill_5 : decode b_Law_fill 5 = .ok (.iload_n 2, 1) := by decide +kernel
theorem d_Law_fill_6 : decode b_Law_fill 6 = .ok (.iload_n 3, 1) := by decide +kernel
theorem d_Law_fill_7 : decode b_Law_fill 7 = .ok (.iload 4, 2) := by decide +kernel
theorem d_Law_fill_9 : decode b_Law_fill 9 = .ok (.invokevirtual 29, 3) := by decide +kernel
theorem d_Law_fill_12 : decode b_Law_fill 12 = .ok (.i2l, 1) := by decide +kernel
theorem d_Law_fill_13 : decode b_Law_fill 13 = .ok (.lastore, 1) := by decide +kernel
theorem d_Law_fill_14 : decode b_Law_fill 14 = .ok (.goto 11, 3) := by decide +kernel
theorem d_Law_fill_17 : decode b_Law_fill 17 = .ok (.astore 6, 2) := by decide +kernel
theorem d_Law_fill_19 : decode b_Law_fill 19 = .ok (.iconst 1, 1) := by decide +kernel
theorem d_Law_fill_20 : decode b_Law_fill 20 = .ok (.ireturn, 1) := by decide +kernel
theorem d_Law_fill_21 : decode b_Law_fill 21 = .ok (.astore 6, 2) := by decide +kernel
theorem d_Law_fill_23 : decode b_Law_fill 23 = .ok (.iconst 2, 1) := by decide +kernel
theorem d_Law_fill_24 : decode b_Law_fill 24 = .ok (.ireturn, 1) := by decide +kernel
theorem d_Law_fill_25 : decode b_Law_fill 25 = .ok (.iconst 0, 1) := by decide +kernel
theorem d_Law_fill_26 : decode b_Law_fill 26 = .ok (.ireturn, 1) := by decide +kernel
theorem d_Law_truncate_0 : decode b_Law_truncate 0 = .ok (.aload_n 2, 1) := by decide +kernel
theorem d_Law_truncate_1 : decode b_Law_truncate 1 = .ok (.iconst 0, 1) := by decide +kernel
theorem d_Law_truncate_2 : decode b_Law_truncate 2 = .ok (.aload_n 0, 1) := by decide +kernel
theorem d_Law_truncate_3 : decode b_Law_truncate 3 = .ok (.iload_n 1, 1) := by decide +kernel
theorem d_Law_truncate_4 : decode b_Law_truncate 4 = .ok (.invokevirtual 33, 3) := by decide +kernel
theorem d_Law_truncate_7 : decode b_Law_truncate 7 = .ok (.ifCond .eq 7, 3) := by decide +kernel
theorem d_Law_truncate_10 : decode b_Law_truncate 10 = .ok (.lconst 1, 1) := by decide +kernel
theorem d_Law_truncate_11 : decode b_Law_truncate 11 = .ok (.goto 4, 3) := by decide +kernel
theorem d_Law_truncate_14 : decode b_Law_truncate 14 = .ok (.lconst 0, 1) := by decide +kernel
theorem d_Law_truncate_15 : decode b_Law_truncate 15 = .ok (.lastore, 1) := by decide +kernel
theorem d_Law_truncate_16 : decode b_Law_truncate 16 = .ok (.goto 9, 3) := by decide +kernel
theorem d_Law_truncate_19 : decode b_Law_truncate 19 = .ok (.astore_n 3, 1) := by decide +kernel
theorem d_Law_truncate_20 : decode b_Law_truncate 20 = .ok (.iconst 1, 1) := by decide +kernel
theorem d_Law_truncate_21 : decode b_Law_truncate 21 = .ok (.ireturn, 1) := by decide +kernel
theorem d_Law_truncate_22 : decode b_Law_truncate 22 = .ok (.astore_n 3, 1) := by decide +kernel
theorem d_Law_truncate_23 : decode b_Law_truncate 23 = .ok (.iconst 2, 1) := by decide +kernel
theorem d_Law_truncate_24 : decode b_Law_truncate 24 = .ok (.ireturn, 1) := by decide +kernel
theorem d_Law_truncate_25 : decode b_Law_truncate 25 = .ok (.iconst 0, 1) := by decide +kernel
theorem d_Law_truncate_26 : decode b_Law_truncate 26 = .ok (.ireturn, 1) := by decide +kernel
theorem d_Law_sync_0 : decode b_Law_sync 0 = .ok (.aload_n 1, 1) := by decide +kernel
theorem d_Law_sync_1 : decode b_Law_sync 1 = .ok (.iconst 0, 1) := by decide +kernel
theorem d_Law_sync_2 : decode b_Law_sync 2 = .ok (.aload_n 0, 1) := by decide +kernel
theorem d_Law_sync_3 : decode b_Law_sync 3 = .ok (.invokevirtual 37, 3) := by decide +kernel
theorem d_Law_sync_6 : decode b_Law_sync 6 = .ok (.i2l, 1) := by decide +kernel
theorem d_Law_sync_7 : decode b_Law_sync 7 = .ok (.lastore, 1) := by decide +kernel
theorem d_Law_sync_8 : decode b_Law_sync 8 = .ok (.goto 9, 3) := by decide +kernel
theorem d_Law_sync_11 : decode b_Law_sync 11 = .ok (.astore_n 2, 1) := by decide +kernel
theorem d_Law_sync_12 : decode b_Law_sync 12 = .ok (.iconst 1, 1) := by decide +kernel
theorem d_Law_sync_13 : decode b_Law_sync 13 = .ok (.ireturn, 1) := by decide +kernel
theorem d_Law_sync_14 : decode b_Law_sync 14 = .ok (.astore_n 2, 1) := by decide +kernel
theorem d_Law_sync_15 : decode b_Law_sync 15 = .ok (.iconst 2, 1) := by decide +kernel
theorem d_Law_sync_16 : decode b_Law_sync 16 = .ok (.ireturn, 1) := by decide +kernel
theorem d_Law_sync_17 : decode b_Law_sync 17 = .ok (.iconst 0, 1) := by decide +kernel
theorem d_Law_sync_18 : decode b_Law_sync 18 = .ok (.ireturn, 1) := by decide +kernel
theorem d_Law_mount_0 : decode b_Law_mount 0 = .ok (.aload_n 1, 1) := by decide +kernel
theorem d_Law_mount_1 : decode b_Law_mount 1 = .ok (.iconst 0, 1) := by decide +kernel
theorem d_Law_mount_2 : decode b_Law_mount 2 = .ok (.aload_n 0, 1) := by decide +kernel
theorem d_Law_mount_3 : decode b_Law_mount 3 = .ok (.invokevirtual 41, 3) := by decide +kernel
theorem d_Law_mount_6 : decode b_Law_mount 6 = .ok (.i2l, 1) := by decide +kernel
theorem d_Law_mount_7 : decode b_Law_mount 7 = .ok (.lastore, 1) := by decide +kernel
theorem d_Law_mount_8 : decode b_Law_mount 8 = .ok (.goto 6, 3) := by decide +kernel
theorem d_Law_mount_11 : decode b_Law_mount 11 = .ok (.astore_n 2, 1) := by decide +kernel
theorem d_Law_mount_12 : decode b_Law_mount 12 = .ok (.iconst 1, 1) := by decide +kernel
theorem d_Law_mount_13 : decode b_Law_mount 13 = .ok (.ireturn, 1) := by decide +kernel
theorem d_Law_mount_14 : decode b_Law_mount 14 = .ok (.iconst 0, 1) := by decide +kernel
theorem d_Law_mount_15 : decode b_Law_mount 15 = .ok (.ireturn, 1) := by decide +kernel
theorem d_Law_find_0 : decode b_Law_find 0 = .ok (.aload 4, 2) := by decide +kernel
theorem d_Law_find_2 : decode b_Law_find 2 = .ok (.iconst 0, 1) := by decide +kernel
theorem d_Law_find_3 : decode b_Law_find 3 = .ok (.aload_n 0, 1) := by decide +kernel
theorem d_Law_find_4 : decode b_Law_find 4 = .ok (.iload_n 1, 1) := by decide +kernel
theorem d_Law_find_5 : decode b_Law_find 5 = .ok (.lload_n 2, 1) := by decide +kernel
theorem d_Law_find_6 : decode b_Law_find 6 = .ok (.invokevirtual 44, 3) := by decide +kernel
theorem d_Law_find_9 : decode b_Law_find 9 = .ok (.i2l, 1) := by decide +kernel
theorem d_Law_find_10 : decode b_Law_find 10 = .ok (.lastore, 1) := by decide +kernel
theorem d_Law_find_11 : decode b_Law_find 11 = .ok (.goto 7, 3) := by decide +kernel
theorem d_Law_find_14 : decode b_Law_find 14 = .ok (.astore 5, 2) := by decide +kernel
theorem d_Law_find_16 : decode b_Law_find 16 = .ok (.iconst 1, 1) := by decide +kernel
theorem d_Law_find_17 : decode b_Law_find 17 = .ok (.ireturn, 1) := by decide +kernel
theorem d_Law_find_18 : decode b_Law_find 18 = .ok (.iconst 0, 1) := by decide +kernel
theorem d_Law_find_19 : decode b_Law_find 19 = .ok (.ireturn, 1) := by decide +kernel
theorem d_Law_read_0 : decode b_Law_read 0 = .ok (.aload_n 3, 1) := by decide +kernel
theorem d_Law_read_1 : decode b_Law_read 1 = .ok (.iconst 0, 1) := by decide +kernel
theorem d_Law_read_2 : decode b_Law_read 2 = .ok (.aload_n 0, 1) := by decide +kernel
theorem d_Law_read_3 : decode b_Law_read 3 = .ok (.iload_n 1, 1) := by decide +kernel
theorem d_Law_read_4 : decode b_Law_read 4 = .ok (.iload_n 2, 1) := by decide +kernel
theorem d_Law_read_5 : decode b_Law_read 5 = .ok (.invokevirtual 48, 3) := by decide +kernel
theorem d_Law_read_8 : decode b_Law_read 8 = .ok (.i2l, 1) := by decide +kernel
theorem d_Law_read_9 : decode b_Law_read 9 = .ok (.lastore, 1) := by decide +kernel
theorem d_Law_read_10 : decode b_Law_read 10 = .ok (.goto 11, 3) := by decide +kernel
theorem d_Law_read_13 : decode b_Law_read 13 = .ok (.astore 4, 2) := by decide +kernel
theorem d_Law_read_15 : decode b_Law_read 15 = .ok (.iconst 1, 1) := by decide +kernel
theorem d_Law_read_16 : decode b_Law_read 16 = .ok (.ireturn, 1) := by decide +kernel
theorem d_Law_read_17 : decode b_Law_read 17 = .ok (.astore 4, 2) := by decide +kernel
theorem d_Law_read_19 : decode b_Law_read 19 = .ok (.iconst 2, 1) := by decide +kernel
theorem d_Law_read_20 : decode b_Law_read 20 = .ok (.ireturn, 1) := by decide +kernel
theorem d_Law_read_21 : decode b_Law_read 21 = .ok (.iconst 0, 1) := by decide +kernel
theorem d_Law_read_22 : decode b_Law_read 22 = .ok (.ireturn, 1) := by decide +kernel
theorem d_Law_look_0 : decode b_Law_look 0 = .ok (.aload_n 3, 1) := by decide +kernel
theorem d_Law_look_1 : decode b_Law_look 1 = .ok (.iconst 0, 1) := by decide +kernel
theorem d_Law_look_2 : decode b_Law_look 2 = .ok (.aload_n 0, 1) := by decide +kernel
theorem d_Law_look_3 : decode b_Law_look 3 = .ok (.iload_n 1, 1) := by decide +kernel
theorem d_Law_look_4 : decode b_Law_look 4 = .ok (.iload_n 2, 1) := by decide +kernel
theorem d_Law_look_5 : decode b_Law_look 5 = .ok (.invokevirtual 54, 3) := by decide +kernel
theorem d_Law_look_8 : decode b_Law_look 8 = .ok (.i2l, 1) := by decide +kernel
theorem d_Law_look_9 : decode b_Law_look 9 = .ok (.lastore, 1) := by decide +kernel
theorem d_Law_look_10 : decode b_Law_look 10 = .ok (.goto 11, 3) := by decide +kernel
theorem d_Law_look_13 : decode b_Law_look 13 = .ok (.astore 4, 2) := by decide +kernel
theorem d_Law_look_15 : decode b_Law_look 15 = .ok (.iconst 1, 1) := by decide +kernel
theorem d_Law_look_16 : decode b_Law_look 16 = .ok (.ireturn, 1) := by decide +kernel
theorem d_Law_look_17 : decode b_Law_look 17 = .ok (.astore 4, 2) := by decide +kernel
theorem d_Law_look_19 : decode b_Law_look 19 = .ok (.iconst 2, 1) := by decide +kernel
theorem d_Law_look_20 : decode b_Law_look 20 = .ok (.ireturn, 1) := by decide +kernel
theorem d_Law_look_21 : decode b_Law_look 21 = .ok (.iconst 0, 1) := by decide +kernel
theorem d_Law_look_22 : decode b_Law_look 22 = .ok (.ireturn, 1) := by decide +kernel
theorem d_Law_disk_0 : decode b_Law_disk 0 = .ok (.aload_n 3, 1) := by decide +kernel
theorem d_Law_disk_1 : decode b_Law_disk 1 = .ok (.iconst 0, 1) := by decide +kernel
theorem d_Law_disk_2 : decode b_Law_disk 2 = .ok (.aload_n 0, 1) := by decide +kernel
theorem d_Law_disk_3 : decode b_Law_disk 3 = .ok (.iload_n 1, 1) := by decide +kernel
theorem d_Law_disk_4 : decode b_Law_disk 4 = .ok (.iload_n 2, 1) := by decide +kernel
theorem d_Law_disk_5 : decode b_Law_disk 5 = .ok (.invokevirtual 57, 3) := by decide +kernel
theorem d_Law_disk_8 : decode b_Law_disk 8 = .ok (.i2l, 1) := by decide +kernel
theorem d_Law_disk_9 : decode b_Law_disk 9 = .ok (.lastore, 1) := by decide +kernel
theorem d_Law_disk_10 : decode b_Law_disk 10 = .ok (.goto 7, 3) := by decide +kernel
theorem d_Law_disk_13 : decode b_Law_disk 13 = .ok (.astore 4, 2) := by decide +kernel
theorem d_Law_disk_15 : decode b_Law_disk 15 = .ok (.iconst 1, 1) := by decide +kernel
theorem d_Law_disk_16 : decode b_Law_disk 16 = .ok (.ireturn, 1) := by decide +kernel
theorem d_Law_disk_17 : decode b_Law_disk 17 = .ok (.iconst 0, 1) := by decide +kernel
theorem d_Law_disk_18 : decode b_Law_disk 18 = .ok (.ireturn, 1) := by decide +kernel
theorem d_Law_memory_0 : decode b_Law_memory 0 = .ok (.aload_n 3, 1) := by decide +kernel
theorem d_Law_memory_1 : decode b_Law_memory 1 = .ok (.iconst 0, 1) := by decide +kernel
theorem d_Law_memory_2 : decode b_Law_memory 2 = .ok (.aload_n 0, 1) := by decide +kernel
theorem d_Law_memory_3 : decode b_Law_memory 3 = .ok (.iload_n 1, 1) := by decide +kernel
theorem d_Law_memory_4 : decode b_Law_memory 4 = .ok (.iload_n 2, 1) := by decide +kernel
theorem d_Law_memory_5 : decode b_Law_memory 5 = .ok (.invokevirtual 60, 3) := by decide +kernel
theorem d_Law_memory_8 : decode b_Law_memory 8 = .ok (.i2l, 1) := by decide +kernel
theorem d_Law_memory_9 : decode b_Law_memory 9 = .ok (.lastore, 1) := by decide +kernel
theorem d_Law_memory_10 : decode b_Law_memory 10 = .ok (.goto 11, 3) := by decide +kernel
theorem d_Law_memory_13 : decode b_Law_memory 13 = .ok (.astore 4, 2) := by decide +kernel
theorem d_Law_memory_15 : decode b_Law_memory 15 = .ok (.iconst 1, 1) := by decide +kernel
theorem d_Law_memory_16 : decode b_Law_memory 16 = .ok (.ireturn, 1) := by decide +kernel
theorem d_Law_memory_17 : decode b_Law_memory 17 = .ok (.astore 4, 2) := by decide +kernel
theorem d_Law_memory_19 : decode b_Law_memory 19 = .ok (.iconst 2, 1) := by decide +kernel
theorem d_Law_memory_20 : decode b_Law_memory 20 = .ok (.ireturn, 1) := by decide +kernel
theorem d_Law_memory_21 : decode b_Law_memory 21 = .ok (.iconst 0, 1) := by decide +kernel
theorem d_Law_memory_22 : decode b_Law_memory 22 = .ok (.ireturn, 1) := by decide +kernel
