/-! Decode rows of the component. Written by wip/gen/names.py. -/
theorem d_Blocks_init_0 : decode b_Blocks_init 0 = .ok (.aload_n 0, 1) := by decide +kernel
theorem d_Blocks_init_1 : decode b_Blocks_init 1 = .ok (.invokespecial 3, 3) := by decide +kernel
theorem d_Blocks_init_4 : decode b_Blocks_init 4 = .ok (.aload_n 0, 1) := by decide +kernel
theorem d_Blocks_init_5 : decode b_Blocks_init 5 = .ok (.sipush 8192, 3) := by decide +kernel
theorem d_Blocks_init_8 : decode b_Blocks_init 8 = .ok (.newarray .byte, 2) := by decide +kernel
theorem d_Blocks_init_10 : decode b_Blocks_init 10 = .ok (.putfield 9, 3) := by decide +kernel
theorem d_Blocks_init_13 : decode b_Blocks_init 13 = .ok (.return_, 1) := by decide +kernel
theorem d_Blocks_set_0 : decode b_Blocks_set 0 = .ok (.iload_n 1, 1) := by decide +kernel
theorem d_Blocks_set_1 : decode b_Blocks_set 1 = .ok (.ifCond .lt 33, 3) := by decide +kernel
theorem d_Blocks_set_4 : decode b_Blocks_set 4 = .ok (.iload_n 1, 1) := by decide +kernel
theorem d_Blocks_set_5 : decode b_Blocks_set 5 = .ok (.sipush 128, 3) := by decide +kernel
theorem d_Blocks_set_8 : decode b_Blocks_set 8 = .ok (.if_icmp .ge 26, 3) := by decide +kernel
theorem d_Blocks_set_11 : decode b_Blocks_set 11 = .ok (.iload_n 2, 1) := by decide +kernel
theorem d_Blocks_set_12 : decode b_Blocks_set 12 = .ok (.ifCond .lt 22, 3) := by decide +kernel
theorem d_Blocks_set_15 : decode b_Blocks_set 15 = .ok (.iload_n 2, 1) := by decide +kernel
theorem d_Blocks_set_16 : decode b_Blocks_set 16 = .ok (.bipush 64, 2) := by decide +kernel
theorem d_Blocks_set_18 : decode b_Blocks_set 18 = .ok (.if_icmp .ge 16, 3) := by decide +kernel
theorem d_Blocks_set_21 : decode b_Blocks_set 21 = .ok (.aload_n 0, 1) := by decide +kernel
theorem d_Blocks_set_22 : decode b_Blocks_set 22 = .ok (.getfield 9, 3) := by decide +kernel
theorem d_Blocks_set_25 : decode b_Blocks_set 25 = .ok (.iload_n 1, 1) := by decide +kernel
theorem d_Blocks_set_26 : decode b_Blocks_set 26 = .ok (.bipush 64, 2) := by decide +kernel
theorem d_Blocks_set_28 : decode b_Blocks_set 28 = .ok (.imul, 1) := by decide +kernel
theorem d_Blocks_set_29 : decode b_Blocks_set 29 = .ok (.iload_n 2, 1) := by decide +kernel
theorem d_Blocks_set_30 : decode b_Blocks_set 30 = .ok (.iadd, 1) := by decide +kernel
theorem d_Blocks_set_31 : decode b_Blocks_set 31 = .ok (.iload_n 3, 1) := by decide +kernel
theorem d_Blocks_set_32 : decode b_Blocks_set 32 = .ok (.i2b, 1) := by decide +kernel
theorem d_Blocks_set_33 : decode b_Blocks_set 33 = .ok (.bastore, 1) := by decide +kernel
theorem d_Blocks_set_34 : decode b_Blocks_set 34 = .ok (.return_, 1) := by decide +kernel
theorem d_Blocks_get_0 : decode b_Blocks_get 0 = .ok (.iload_n 1, 1) := by decide +kernel
theorem d_Blocks_get_1 : decode b_Blocks_get 1 = .ok (.ifCond .lt 20, 3) := by decide +kernel
theorem d_Blocks_get_4 : decode b_Blocks_get 4 = .ok (.iload_n 1, 1) := by decide +kernel
theorem d_Blocks_get_5 : decode b_Blocks_get 5 = .ok (.sipush 128, 3) := by decide +kernel
theorem d_Blocks_get_8 : decode b_Blocks_get 8 = .ok (.if_icmp .ge 13, 3) := by decide +kernel
theorem d_Blocks_get_11 : decode b_Blocks_get 11 = .ok (.iload_n 2, 1) := by decide +kernel
theorem d_Blocks_get_12 : decode b_Blocks_get 12 = .ok (.ifCond .lt 9, 3) := by decide +kernel
theorem d_Blocks_get_15 : decode b_Blocks_get 15 = .ok (.iload_n 2, 1) := by decide +kernel
theorem d_Blocks_get_16 : decode b_Blocks_get 16 = .ok (.bipush 64, 2) := by decide +kernel
theorem d_Blocks_get_18 : decode b_Blocks_get 18 = .ok (.if_icmp .lt 5, 3) := by decide +kernel
theorem d_Blocks_get_21 : decode b_Blocks_get 21 = .ok (.iconst 0, 1) := by decide +kernel
theorem d_Blocks_get_22 : decode b_Blocks_get 22 = .ok (.ireturn, 1) := by decide +kernel
theorem d_Blocks_get_23 : decode b_Blocks_get 23 = .ok (.aload_n 0, 1) := by decide +kernel
theorem d_Blocks_get_24 : decode b_Blocks_get 24 = .ok (.getfield 9, 3) := by decide +kernel
theorem d_Blocks_get_27 : decode b_Blocks_get 27 = .ok (.iload_n 1, 1) := by decide +kernel
theorem d_Blocks_get_28 : decode b_Blocks_get 28 = .ok (.bipush 64, 2) := by decide +kernel
theorem d_Blocks_get_30 : decode b_Blocks_get 30 = .ok (.imul, 1) := by decide +kernel
theorem d_Blocks_get_31 : decode b_Blocks_get 31 = .ok (.iload_n 2, 1) := by decide +kernel
theorem d_Blocks_get_32 : decode b_Blocks_get 32 = .ok (.iadd, 1) := by decide +kernel
theorem d_Blocks_get_33 : decode b_Blocks_get 33 = .ok (.baload, 1) := by decide +kernel
theorem d_Blocks_get_34 : decode b_Blocks_get 34 = .ok (.sipush 255, 3) := by decide +kernel
theorem d_Blocks_get_37 : decode b_Blocks_get 37 = .ok (.iand, 1) := by decide +kernel
theorem d_Blocks_get_38 : decode b_Blocks_get 38 = .ok (.ireturn, 1) := by decide +kernel
theorem d_Blocks_copyAll_0 : decode b_Blocks_copyAll 0 = .ok (.aload_n 1, 1) := by decide +kernel
theorem d_Blocks_copyAll_1 : decode b_Blocks_copyAll 1 = .ok (.getfield 9, 3) := by decide +kernel
theorem d_Blocks_copyAll_4 : decode b_Blocks_copyAll 4 = .ok (.iconst 0, 1) := by decide +kernel
theorem d_Blocks_copyAll_5 : decode b_Blocks_copyAll 5 = .ok (.aload_n 0, 1) := by decide +kernel
theorem d_Blocks_copyAll_6 : decode b_Blocks_copyAll 6 = .ok (.getfield 9, 3) := by decide +kernel
theorem d_Blocks_copyAll_9 : decode b_Blocks_copyAll 9 = .ok (.iconst 0, 1) := by decide +kernel
theorem d_Blocks_copyAll_10 : decode b_Blocks_copyAll 10 = .ok (.sipush 8192, 3) := by decide +kernel
theorem d_Blocks_copyAll_13 : decode b_Blocks_copyAll 13 = .ok (.invokestatic 19, 3) := by decide +kernel
theorem d_Blocks_copyAll_16 : decode b_Blocks_copyAll 16 = .ok (.return_, 1) := by decide +kernel
theorem d_Blocks_copyBlock_0 : decode b_Blocks_copyBlock 0 = .ok (.iload_n 2, 1) := by decide +kernel
theorem d_Blocks_copyBlock_1 : decode b_Blocks_copyBlock 1 = .ok (.ifCond .lt 42, 3) := by decide +kernel
theorem d_Blocks_copyBlock_4 : decode b_Blocks_copyBlock 4 = .ok (.iload_n 2, 1) := by decide +kernel
theorem d_Blocks_copyBlock_5 : decode b_Blocks_copyBlock 5 = .ok (.sipush 128, 3) := by decide +kernel
theorem d_Blocks_copyBlock_8 : decode b_Blocks_copyBlock 8 = .ok (.if_icmp .ge 35, 3) := by decide +kernel
theorem d_Blocks_copyBlock_11 : decode b_Blocks_copyBlock 11 = .ok (.iload_n 3, 1) := by decide +kernel
theorem d_Blocks_copyBlock_12 : decode b_Blocks_copyBlock 12 = .ok (.ifCond .lt 31, 3) := by decide +kernel
theorem d_Blocks_copyBlock_15 : decode b_Blocks_copyBlock 15 = .ok (.iload_n 3, 1) := by decide +kernel
theorem d_Blocks_copyBlock_16 : decode b_Blocks_copyBlock 16 = .ok (.sipush 128, 3) := by decide +kernel
theorem d_Blocks_copyBlock_19 : decode b_Blocks_copyBlock 19 = .ok (.if_icmp .ge 24, 3) := by decide +kernel
theorem d_Blocks_copyBlock_22 : decode b_Blocks_copyBlock 22 = .ok (.aload_n 1, 1) := by decide +kernel
theorem d_Blocks_copyBlock_23 : decode b_Blocks_copyBlock 23 = .ok (.getfield 9, 3) := by decide +kernel
theorem d_Blocks_copyBlock_26 : decode b_Blocks_copyBlock 26 = .ok (.iload_n 2, 1) := by decide +kernel
theorem d_Blocks_copyBlock_27 : decode b_Blocks_copyBlock 27 = .ok (.bipush 64, 2) := by decide +kernel
theorem d_Blocks_copyBlock_29 : decode b_Blocks_copyBlock 29 = .ok (.imul, 1) := by decide +kernel
theorem d_Blocks_copyBlock_30 : decode b_Blocks_copyBlock 30 = .ok (.aload_n 0, 1) := by decide +kernel
theorem d_Blocks_copyBlock_31 : decode b_Blocks_copyBlock 31 = .ok (.getfield 9, 3) := by decide +kernel
theorem d_Blocks_copyBlock_34 : decode b_Blocks_copyBlock 34 = .ok (.iload_n 3, 1) := by decide +kernel
theorem d_Blocks_copyBlock_35 : decode b_Blocks_copyBlock 35 = .ok (.bipush 64, 2) := by decide +kernel
theorem d_Blocks_copyBlock_37 : decode b_Blocks_copyBlock 37 = .ok (.imul, 1) := by decide +kernel
theorem d_Blocks_copyBlock_38 : decode b_Blocks_copyBlock 38 = .ok (.bipush 64, 2) := by decide +kernel
theorem d_Blocks_copyBlock_40 : decode b_Blocks_copyBlock 40 = .ok (.invokestatic 19, 3) := by decide +kernel
theorem d_Blocks_copyBlock_43 : decode b_Blocks_copyBlock 43 = .ok (.return_, 1) := by decide +kernel
theorem d_Blocks_clear_0 : decode b_Blocks_clear 0 = .ok (.iconst 0, 1) := by decide +kernel
theorem d_Blocks_clear_1 : decode b_Blocks_clear 1 = .ok (.istore_n 2, 1) := by decide +kernel
theorem d_Blocks_clear_2 : decode b_Blocks_clear 2 = .ok (.iload_n 2, 1) := by decide +kernel
theorem d_Blocks_clear_3 : decode b_Blocks_clear 3 = .ok (.bipush 64, 2) := by decide +kernel
theorem d_Blocks_clear_5 : decode b_Blocks_clear 5 = .ok (.if_icmp .ge 16, 3) := by decide +kernel
theorem d_Blocks_clear_8 : decode b_Blocks_clear 8 = .ok (.aload_n 0, 1) := by decide +kernel
theorem d_Blocks_clear_9 : decode b_Blocks_clear 9 = .ok (.iload_n 1, 1) := by decide +kernel
theorem d_Blocks_clear_10 : decode b_Blocks_clear 10 = .ok (.iload_n 2, 1) := by decide +kernel
theorem d_Blocks_clear_11 : decode b_Blocks_clear 11 = .ok (.iconst 0, 1) := by decide +kernel
theorem d_Blocks_clear_12 : decode b_Blocks_clear 12 = .ok (.invokevirtual 15, 3) := by decide +kernel
theorem d_Blocks_clear_15 : decode b_Blocks_clear 15 = .ok (.iinc 2 1, 3) := by decide +kernel
theorem d_Blocks_clear_18 : decode b_Blocks_clear 18 = .ok (.goto (-16), 3) := by decide +kernel
theorem d_Blocks_clear_21 : decode b_Blocks_clear 21 = .ok (.return_, 1) := by decide +kernel
theorem d_Disk_init_0 : decode b_Disk_init 0 = .ok (.aload_n 0, 1) := by decide +kernel
theorem d_Disk_init_1 : decode b_Disk_init 1 = .ok (.invokespecial 3, 3) := by decide +kernel
theorem d_Disk_init_4 : decode b_Disk_init 4 = .ok (.aload_n 0, 1) := by decide +kernel
theorem d_Disk_init_5 : decode b_Disk_init 5 = .ok (.new 9, 3) := by decide +kernel
theorem d_Disk_init_8 : decode b_Disk_init 8 = .ok (.dup, 1) := by decide +kernel
theorem d_Disk_init_9 : decode b_Disk_init 9 = .ok (.invokespecial 11, 3) := by decide +kernel
theorem d_Disk_init_12 : decode b_Disk_init 12 = .ok (.putfield 12, 3) := by decide +kernel
theorem d_Disk_init_15 : decode b_Disk_init 15 = .ok (.aload_n 0, 1) := by decide +kernel
theorem d_Disk_init_16 : decode b_Disk_init 16 = .ok (.iconst 0, 1) := by decide +kernel
theorem d_Disk_init_17 : decode b_Disk_init 17 = .ok (.putfield 18, 3) := by decide +kernel
theorem d_Disk_init_20 : decode b_Disk_init 20 = .ok (.aload_n 0, 1) := by decide +kernel
theorem d_Disk_init_21 : decode b_Disk_init 21 = .ok (.iconst (-1), 1) := by decide +kernel
theorem d_Disk_init_22 : decode b_Disk_init 22 = .ok (.putfield 22, 3) := by decide +kernel
theorem d_Disk_init_25 : decode b_Disk_init 25 = .ok (.aload_n 0, 1) := by decide +kernel
theorem d_Disk_init_26 : decode b_Disk_init 26 = .ok (.iconst 0, 1) := by decide +kernel
theorem d_Disk_init_27 : decode b_Disk_init 27 = .ok (.putfield 25, 3) := by decide +kernel
theorem d_Disk_init_30 : decode b_Disk_init 30 = .ok (.aload_n 0, 1) := by decide +kernel
theorem d_Disk_init_31 : decode b_Disk_init 31 = .ok (.getfield 12, 3) := by decide +kernel
theorem d_Disk_init_34 : decode b_Disk_init 34 = .ok (.bipush 17, 2) := by decide +kernel
theorem d_Disk_init_36 : decode b_Disk_init 36 = .ok (.iconst 0, 1) := by decide +kernel
theorem d_Disk_init_37 : decode b_Disk_init 37 = .ok (.iconst 2, 1) := by decide +kernel
theorem d_Disk_init_38 : decode b_Disk_init 38 = .ok (.invokevirtual 29, 3) := by decide +kernel
theorem d_Disk_init_41 : decode b_Disk_init 41 = .ok (.aload_n 0, 1) := by decide +kernel
theorem d_Disk_init_42 : decode b_Disk_init 42 = .ok (.getfield 12, 3) := by decide +kernel
theorem d_Disk_init_45 : decode b_Disk_init 45 = .ok (.bipush 17, 2) := by decide +kernel
theorem d_Disk_init_47 : decode b_Disk_init 47 = .ok (.iconst 1, 1) := by decide +kernel
theorem d_Disk_init_48 : decode b_Disk_init 48 = .ok (.iconst 1, 1) := by decide +kernel
theorem d_Disk_init_49 : decode b_Disk_init 49 = .ok (.invokevirtual 29, 3) := by decide +kernel
theorem d_Disk_init_52 : decode b_Disk_init 52 = .ok (.iconst 0, 1) := by decide +kernel
theorem d_Disk_init_53 : decode b_Disk_init 53 = .ok (.istore_n 1, 1) := by decide +kernel
theorem d_Disk_init_54 : decode b_Disk_init 54 = .ok (.iload_n 1, 1) := by decide +kernel
theorem d_Disk_init_55 : decode b_Disk_init 55 = .ok (.bipush 26, 2) := by decide +kernel
theorem d_Disk_init_57 : decode b_Disk_init 57 = .ok (.if_icmp .ge 42, 3) := by decide +kernel
theorem d_Disk_init_60 : decode b_Disk_init 60 = .ok (.aload_n 0, 1) := by decide +kernel
theorem d_Disk_init_61 : decode b_Disk_init 61 = .ok (.getfield 12, 3) := by decide +kernel
theorem d_Disk_init_64 : decode b_Disk_init 64 = .ok (.bipush 25, 2) := by decide +kernel
theorem d_Disk_init_66 : decode b_Disk_init 66 = .ok (.iload_n 1, 1) := by decide +kernel
theorem d_Disk_init_67 : decode b_Disk_init 67 = .ok (.bipush 8, 2) := by decide +kernel
theorem d_Disk_init_69 : decode b_Disk_init 69 = .ok (.idiv, 1) := by decide +kernel
theorem d_Disk_init_70 : decode b_Disk_init 70 = .ok (.aload_n 0, 1) := by decide +kernel
theorem d_Disk_init_71 : decode b_Disk_init 71 = .ok (.getfield 12, 3) := by decide +kernel
theorem d_Disk_init_74 : decode b_Disk_init 74 = .ok (.bipush 25, 2) := by decide +kernel
theorem d_Disk_init_76 : decode b_Disk_init 76 = .ok (.iload_n 1, 1) := by decide +kernel
theorem d_Disk_init_77 : decode b_Disk_init 77 = .ok (.bipush 8, 2) := by decide +kernel
theorem d_Disk_init_79 : decode b_Disk_init 79 = .ok (.idiv, 1) := by decide +kernel
theorem d_Disk_init_80 : decode b_Disk_init 80 = .ok (.invokevirtual 33, 3) := by decide +kernel
theorem d_Disk_init_83 : decode b_Disk_init 83 = .ok (.iconst 1, 1) := by decide +kernel
theorem d_Disk_init_84 : decode b_Disk_init 84 = .ok (.iload_n 1, 1) := by decide +kernel
theorem d_Disk_init_85 : decode b_Disk_init 85 = .ok (.bipush 8, 2) := by decide +kernel
theorem d_Disk_init_87 : decode b_Disk_init 87 = .ok (.irem, 1) := by decide +kernel
theorem d_Disk_init_88 : decode b_Disk_init 88 = .ok (.ishl, 1) := by decide +kernel
theorem d_Disk_init_89 : decode b_Disk_init 89 = .ok (.ior, 1) := by decide +kernel
theorem d_Disk_init_90 : decode b_Disk_init 90 = .ok (.invokevirtual 29, 3) := by decide +kernel
theorem d_Disk_init_93 : decode b_Disk_init 93 = .ok (.iinc 1 1, 3) := by decide +kernel
theorem d_Disk_init_96 : decode b_Disk_init 96 = .ok (.goto (-42), 3) := by decide +kernel
theorem d_Disk_init_99 : decode b_Disk_init 99 = .ok (.return_, 1) := by decide +kernel
theorem d_Disk_storePending_0 : decode b_Disk_storePending 0 = .ok (.aload_n 0, 1) := by decide +kernel
theorem d_Disk_storePending_1 : decode b_Disk_storePending 1 = .ok (.aload_n 1, 1) := by decide +kernel
theorem d_Disk_storePending_2 : decode b_Disk_storePending 2 = .ok (.invokevirtual 37, 3) := by decide +kernel
theorem d_Disk_storePending_5 : decode b_Disk_storePending 5 = .ok (.ifCond .eq 30, 3) := by decide +kernel
theorem d_Disk_storePending_8 : decode b_Disk_storePending 8 = .ok (.aload_n 0, 1) := by decide +kernel
theorem d_Disk_storePending_9 : decode b_Disk_storePending 9 = .ok (.aload_n 1, 1) := by decide +kernel
theorem d_Disk_storePending_10 : decode b_Disk_storePending 10 = .ok (.invokevirtual 41, 3) := by decide +kernel
theorem d_Disk_storePending_13 : decode b_Disk_storePending 13 = .ok (.ifCond .eq 22, 3) := by decide +kernel
theorem d_Disk_storePending_16 : decode b_Disk_storePending 16 = .ok (.aload_n 0, 1) := by decide +kernel
theorem d_Disk_storePending_17 : decode b_Disk_storePending 17 = .ok (.aload_n 1, 1) := by decide +kernel
theorem d_Disk_storePending_18 : decode b_Disk_storePending 18 = .ok (.invokevirtual 44, 3) := by decide +kernel
theorem d_Disk_storePending_21 : decode b_Disk_storePending 21 = .ok (.ifCond .eq 14, 3) := by decide +kernel
theorem d_Disk_storePending_24 : decode b_Disk_storePending 24 = .ok (.aload_n 0, 1) := by decide +kernel
theorem d_Disk_storePending_25 : decode b_Disk_storePending 25 = .ok (.invokevirtual 47, 3) := by decide +kernel
theorem d_Disk_storePending_28 : decode b_Disk_storePending 28 = .ok (.ifCond .eq 7, 3) := by decide +kernel
theorem d_Disk_storePending_31 : decode b_Disk_storePending 31 = .ok (.iconst 1, 1) := by decide +kernel
theorem d_Disk_storePending_32 : decode b_Disk_storePending 32 = .ok (.goto 4, 3) := by decide +kernel
theorem d_Disk_storePending_35 : decode b_Disk_storePending 35 = .ok (.iconst 0, 1) := by decide +kernel
theorem d_Disk_storePending_36 : decode b_Disk_storePending 36 = .ok (.ireturn, 1) := by decide +kernel
theorem d_Disk_storeInLog_0 : decode b_Disk_storeInLog 0 = .ok (.iconst 0, 1) := by decide +kernel
theorem d_Disk_storeInLog_1 : decode b_Disk_storeInLog 1 = .ok (.istore_n 2, 1) := by decide +kernel
theorem d_Disk_storeInLog_2 : decode b_Disk_storeInLog 2 = .ok (.iload_n 2, 1) := by decide +kernel
theorem d_Disk_storeInLog_3 : decode b_Disk_storeInLog 3 = .ok (.aload_n 1, 1) := by decide +kernel
theorem d_Disk_storeInLog_4 : decode b_Disk_storeInLog 4 = .ok (.getfield 55, 3) := by decide +kernel
theorem d_Disk_storeInLog_7 : decode b_Disk_storeInLog 7 = .ok (.if_icmp .ge 30, 3) := by decide +kernel
theorem d_Disk_storeInLog_10 : decode b_Disk_storeInLog 10 = .ok (.aload_n 0, 1) := by decide +kernel
theorem d_Disk_storeInLog_11 : decode b_Disk_storeInLog 11 = .ok (.aload_n 1, 1) := by decide +kernel
theorem d_Disk_storeInLog_12 : decode b_Disk_storeInLog 12 = .ok (.getfield 60, 3) := by decide +kernel
theorem d_Disk_storeInLog_15 : decode b_Disk_storeInLog 15 = .ok (.aload_n 1, 1) := by decide +kernel
theorem d_Disk_storeInLog_16 : decode b_Disk_storeInLog 16 = .ok (.iload_n 2, 1) := by decide +kernel
theorem d_Disk_storeInLog_17 : decode b_Disk_storeInLog 17 = .ok (.invokevirtual 61, 3) := by decide +kernel
theorem d_Disk_storeInLog_20 : decode b_Disk_storeInLog 20 = .ok (.iconst 2, 1) := by decide +kernel
theorem d_Disk_storeInLog_21 : decode b_Disk_storeInLog 21 = .ok (.iload_n 2, 1) := by decide +kernel
theorem d_Disk_storeInLog_22 : decode b_Disk_storeInLog 22 = .ok (.iadd, 1) := by decide +kernel
theorem d_Disk_storeInLog_23 : decode b_Disk_storeInLog 23 = .ok (.invokevirtual 51, 3) := by decide +kernel
theorem d_Disk_storeInLog_26 : decode b_Disk_storeInLog 26 = .ok (.ifCond .ne 5, 3) := by decide +kernel
theorem d_Disk_storeInLog_29 : decode b_Disk_storeInLog 29 = .ok (.iconst 0, 1) := by decide +kernel
theorem d_Disk_storeInLog_30 : decode b_Disk_storeInLog 30 = .ok (.ireturn, 1) := by decide +kernel
theorem d_Disk_storeInLog_31 : decode b_Disk_storeInLog 31 = .ok (.iinc 2 1, 3) := by decide +kernel
theorem d_Disk_storeInLog_34 : decode b_Disk_storeInLog 34 = .ok (.goto (-32), 3) := by decide +kernel
theorem d_Disk_storeInLog_37 : decode b_Disk_storeInLog 37 = .ok (.iconst 1, 1) := by decide +kernel
theorem d_Disk_storeInLog_38 : decode b_Disk_storeInLog 38 = .ok (.ireturn, 1) := by decide +kernel
theorem d_Disk_storeBlock_0 : decode b_Disk_storeBlock 0 = .ok (.aload_n 0, 1) := by decide +kernel
theorem d_Disk_storeBlock_1 : decode b_Disk_storeBlock 1 = .ok (.invokevirtual 65, 3) := by decide +kernel
theorem d_Disk_storeBlock_4 : decode b_Disk_storeBlock 4 = .ok (.ifCond .ne 5, 3) := by decide +kernel
theorem d_Disk_storeBlock_7 : decode b_Disk_storeBlock 7 = .ok (.iconst 0, 1) := by decide +kernel
theorem d_Disk_storeBlock_8 : decode b_Disk_storeBlock 8 = .ok (.ireturn, 1) := by decide +kernel
theorem d_Disk_storeBlock_9 : decode b_Disk_storeBlock 9 = .ok (.aload_n 0, 1) := by decide +kernel
theorem d_Disk_storeBlock_10 : decode b_Disk_storeBlock 10 = .ok (.getfield 12, 3) := by decide +kernel
theorem d_Disk_storeBlock_13 : decode b_Disk_storeBlock 13 = .ok (.aload_n 1, 1) := by decide +kernel
theorem d_Disk_storeBlock_14 : decode b_Disk_storeBlock 14 = .ok (.iload_n 2, 1) := by decide +kernel
theorem d_Disk_storeBlock_15 : decode b_Disk_storeBlock 15 = .ok (.iload_n 3, 1) := by decide +kernel
theorem d_Disk_storeBlock_16 : decode b_Disk_storeBlock 16 = .ok (.invokevirtual 72, 3) := by decide +kernel
theorem d_Disk_storeBlock_19 : decode b_Disk_storeBlock 19 = .ok (.iconst 1, 1) := by decide +kernel
theorem d_Disk_storeBlock_20 : decode b_Disk_storeBlock 20 = .ok (.ireturn, 1) := by decide +kernel
theorem d_Disk_spendWrite_0 : decode b_Disk_spendWrite 0 = .ok (.aload_n 0, 1) := by decide +kernel
theorem d_Disk_spendWrite_1 : decode b_Disk_spendWrite 1 = .ok (.getfield 22, 3) := by decide +kernel
theorem d_Disk_spendWrite_4 : decode b_Disk_spendWrite 4 = .ok (.ifCond .ne 15, 3) := by decide +kernel
theorem d_Disk_spendWrite_7 : decode b_Disk_spendWrite 7 = .ok (.aload_n 0, 1) := by decide +kernel
theorem d_Disk_spendWrite_8 : decode b_Disk_spendWrite 8 = .ok (.iconst (-1), 1) := by decide +kernel
theorem d_Disk_spendWrite_9 : decode b_Disk_spendWrite 9 = .ok (.putfield 22, 3) := by decide +kernel
theorem d_Disk_spendWrite_12 : decode b_Disk_spendWrite 12 = .ok (.aload_n 0, 1) := by decide +kernel
theorem d_Disk_spendWrite_13 : decode b_Disk_spendWrite 13 = .ok (.iconst 1, 1) := by decide +kernel
theorem d_Disk_spendWrite_14 : decode b_Disk_spendWrite 14 = .ok (.putfield 25, 3) := by decide +kernel
theorem d_Disk_spendWrite_17 : decode b_Disk_spendWrite 17 = .ok (.iconst 0, 1) := by decide +kernel
theorem d_Disk_spendWrite_18 : decode b_Disk_spendWrite 18 = .ok (.ireturn, 1) := by decide +kernel
theorem d_Disk_spendWrite_19 : decode b_Disk_spendWrite 19 = .ok (.aload_n 0, 1) := by decide +kernel
theorem d_Disk_spendWrite_20 : decode b_Disk_spendWrite 20 = .ok (.getfield 22, 3) := by decide +kernel
theorem d_Disk_spendWrite_23 : decode b_Disk_spendWrite 23 = .ok (.ifCond .le 13, 3) := by decide +kernel
theorem d_Disk_spendWrite_26 : decode b_Disk_spendWrite 26 = .ok (.aload_n 0, 1) := by decide +kernel
theorem d_Disk_spendWrite_27 : decode b_Disk_spendWrite 27 = .ok (.dup, 1) := by decide +kernel
theorem d_Disk_spendWrite_28 : decode b_Disk_spendWrite 28 = .ok (.getfield 22, 3) := by decide +kernel
theorem d_Disk_spendWrite_31 : decode b_Disk_spendWrite 31 = .ok (.iconst 1, 1) := by decide +kernel
theorem d_Disk_spendWrite_32 : decode b_Disk_spendWrite 32 = .ok (.isub, 1) := by decide +kernel
theorem d_Disk_spendWrite_33 : decode b_Disk_spendWrite 33 = .ok (.putfield 22, 3) := by decide +kernel
theorem d_Disk_spendWrite_36 : decode b_Disk_spendWrite 36 = .ok (.aload_n 0, 1) := by decide +kernel
theorem d_Disk_spendWrite_37 : decode b_Disk_spendWrite 37 = .ok (.dup, 1) := by decide +kernel
theorem d_Disk_spendWrite_38 : decode b_Disk_spendWrite 38 = .ok (.getfield 18, 3) := by decide +kernel
theorem d_Disk_spendWrite_41 : decode b_Disk_spendWrite 41 = .ok (.iconst 1, 1) := by decide +kernel
theorem d_Disk_spendWrite_42 : decode b_Disk_spendWrite 42 = .ok (.iadd, 1) := by decide +kernel
theorem d_Disk_spendWrite_43 : decode b_Disk_spendWrite 43 = .ok (.putfield 18, 3) := by decide +kernel
theorem d_Disk_spendWrite_46 : decode b_Disk_spendWrite 46 = .ok (.iconst 1, 1) := by decide +kernel
theorem d_Disk_spendWrite_47 : decode b_Disk_spendWrite 47 = .ok (.ireturn, 1) := by decide +kernel
theorem d_Disk_storeHead_0 : decode b_Disk_storeHead 0 = .ok (.aload_n 0, 1) := by decide +kernel
theorem d_Disk_storeHead_1 : decode b_Disk_storeHead 1 = .ok (.invokevirtual 65, 3) := by decide +kernel
theorem d_Disk_storeHead_4 : decode b_Disk_storeHead 4 = .ok (.ifCond .ne 5, 3) := by decide +kernel
theorem d_Disk_storeHead_7 : decode b_Disk_storeHead 7 = .ok (.iconst 0, 1) := by decide +kernel
theorem d_Disk_storeHead_8 : decode b_Disk_storeHead 8 = .ok (.ireturn, 1) := by decide +kernel
theorem d_Disk_storeHead_9 : decode b_Disk_storeHead 9 = .ok (.aload_n 0, 1) := by decide +kernel
theorem d_Disk_storeHead_10 : decode b_Disk_storeHead 10 = .ok (.getfield 12, 3) := by decide +kernel
theorem d_Disk_storeHead_13 : decode b_Disk_storeHead 13 = .ok (.iconst 1, 1) := by decide +kernel
theorem d_Disk_storeHead_14 : decode b_Disk_storeHead 14 = .ok (.invokevirtual 68, 3) := by decide +kernel
theorem d_Disk_storeHead_17 : decode b_Disk_storeHead 17 = .ok (.aload_n 0, 1) := by decide +kernel
theorem d_Disk_storeHead_18 : decode b_Disk_storeHead 18 = .ok (.getfield 12, 3) := by decide +kernel
theorem d_Disk_storeHead_21 : decode b_Disk_storeHead 21 = .ok (.iconst 1, 1) := by decide +kernel
theorem d_Disk_storeHead_22 : decode b_Disk_storeHead 22 = .ok (.iconst 0, 1) := by decide +kernel
theorem d_Disk_storeHead_23 : decode b_Disk_storeHead 23 = .ok (.aload_n 1, 1) := by decide +kernel
theorem d_Disk_storeHead_24 : decode b_Disk_storeHead 24 = .ok (.getfield 55, 3) := by decide +kernel
theorem d_Disk_storeHead_27 : decode b_Disk_storeHead 27 = .ok (.invokevirtual 29, 3) := by decide +kernel
theorem d_Disk_storeHead_30 : decode b_Disk_storeHead 30 = .ok (.iconst 0, 1) := by decide +kernel
theorem d_Disk_storeHead_31 : decode b_Disk_storeHead 31 = .ok (.istore_n 2, 1) := by decide +kernel
theorem d_Disk_storeHead_32 : decode b_Disk_storeHead 32 = .ok (.iload_n 2, 1) := by decide +kernel
theorem d_Disk_storeHead_33 : decode b_Disk_storeHead 33 = .ok (.aload_n 1, 1) := by decide +kernel
theorem d_Disk_storeHead_34 : decode b_Disk_storeHead 34 = .ok (.getfield 55, 3) := by decide +kernel
theorem d_Disk_storeHead_37 : decode b_Disk_storeHead 37 = .ok (.if_icmp .ge 25, 3) := by decide +kernel
theorem d_Disk_storeHead_40 : decode b_Disk_storeHead 40 = .ok (.aload_n 0, 1) := by decide +kernel
theorem d_Disk_storeHead_41 : decode b_Disk_storeHead 41 = .ok (.getfield 12, 3) := by decide +kernel
theorem d_Disk_storeHead_44 : decode b_Disk_storeHead 44 = .ok (.iconst 1, 1) := by decide +kernel
theorem d_Disk_storeHead_45 : decode b_Disk_storeHead 45 = .ok (.iconst 1, 1) := by decide +kernel
theorem d_Disk_storeHead_46 : decode b_Disk_storeHead 46 = .ok (.iload_n 2, 1) := by decide +kernel
theorem d_Disk_storeHead_47 : decode b_Disk_storeHead 47 = .ok (.iadd, 1) := by decide +kernel
theorem d_Disk_storeHead_48 : decode b_Disk_storeHead 48 = .ok (.aload_n 1, 1) := by decide +kernel
theorem d_Disk_storeHead_49 : decode b_Disk_storeHead 49 = .ok (.iload_n 2, 1) := by decide +kernel
theorem d_Disk_storeHead_50 : decode b_Disk_storeHead 50 = .ok (.invokevirtual 61, 3) := by decide +kernel
theorem d_Disk_storeHead_53 : decode b_Disk_storeHead 53 = .ok (.invokevirtual 29, 3) := by decide +kernel
theorem d_Disk_storeHead_56 : decode b_Disk_storeHead 56 = .ok (.iinc 2 1, 3) := by decide +kernel
theorem d_Disk_storeHead_59 : decode b_Disk_storeHead 59 = .ok (.goto (-27), 3) := by decide +kernel
theorem d_Disk_storeHead_62 : decode b_Disk_storeHead 62 = .ok (.iconst 1, 1) := by decide +kernel
theorem d_Disk_storeHead_63 : decode b_Disk_storeHead 63 = .ok (.ireturn, 1) := by decide +kernel
theorem d_Disk_storeInPlace_0 : decode b_Disk_storeInPlace 0 = .ok (.iconst 0, 1) := by decide +kernel
theorem d_Disk_storeInPlace_1 : decode b_Disk_storeInPlace 1 = .ok (.istore_n 2, 1) := by decide +kernel
theorem d_Disk_storeInPlace_2 : decode b_Disk_storeInPlace 2 = .ok (.iload_n 2, 1) := by decide +kernel
theorem d_Disk_storeInPlace_3 : decode b_Disk_storeInPlace 3 = .ok (.aload_n 1, 1) := by decide +kernel
theorem d_Disk_storeInPlace_4 : decode b_Disk_storeInPlace 4 = .ok (.getfield 55, 3) := by decide +kernel
theorem d_Disk_storeInPlace_7 : decode b_Disk_storeInPlace 7 = .ok (.if_icmp .ge 32, 3) := by decide +kernel
theorem d_Disk_storeInPlace_10 : decode b_Disk_storeInPlace 10 = .ok (.aload_n 0, 1) := by decide +kernel
theorem d_Disk_storeInPlace_11 : decode b_Disk_storeInPlace 11 = .ok (.aload_n 1, 1) := by decide +kernel
theorem d_Disk_storeInPlace_12 : decode b_Disk_storeInPlace 12 = .ok (.getfield 60, 3) := by decide +kernel
theorem d_Disk_storeInPlace_15 : decode b_Disk_storeInPlace 15 = .ok (.aload_n 1, 1) := by decide +kernel
theorem d_Disk_storeInPlace_16 : decode b_Disk_storeInPlace 16 = .ok (.iload_n 2, 1) := by decide +kernel
theorem d_Disk_storeInPlace_17 : decode b_Disk_storeInPlace 17 = .ok (.invokevirtual 61, 3) := by decide +kernel
theorem d_Disk_storeInPlace_20 : decode b_Disk_storeInPlace 20 = .ok (.aload_n 1, 1) := by decide +kernel
theorem d_Disk_storeInPlace_21 : decode b_Disk_storeInPlace 21 = .ok (.iload_n 2, 1) := by decide +kernel
theorem d_Disk_storeInPlace_22 : decode b_Disk_storeInPlace 22 = .ok (.invokevirtual 61, 3) := by decide +kernel
theorem d_Disk_storeInPlace_25 : decode b_Disk_storeInPlace 25 = .ok (.invokevirtual 51, 3) := by decide +kernel
theorem d_Disk_storeInPlace_28 : decode b_Disk_storeInPlace 28 = .ok (.ifCond .ne 5, 3) := by decide +kernel
theorem d_Disk_storeInPlace_31 : decode b_Disk_storeInPlace 31 = .ok (.iconst 0, 1) := by decide +kernel
theorem d_Disk_storeInPlace_32 : decode b_Disk_storeInPlace 32 = .ok (.ireturn, 1) := by decide +kernel
theorem d_Disk_storeInPlace_33 : decode b_Disk_storeInPlace 33 = .ok (.iinc 2 1, 3) := by decide +kernel
theorem d_Disk_storeInPlace_36 : decode b_Disk_storeInPlace 36 = .ok (.goto (-34), 3) := by decide +kernel
theorem d_Disk_storeInPlace_39 : decode b_Disk_storeInPlace 39 = .ok (.iconst 1, 1) := by decide +kernel
theorem d_Disk_storeInPlace_40 : decode b_Disk_storeInPlace 40 = .ok (.ireturn, 1) := by decide +kernel
theorem d_Disk_clearHead_0 : decode b_Disk_clearHead 0 = .ok (.aload_n 0, 1) := by decide +kernel
theorem d_Disk_clearHead_1 : decode b_Disk_clearHead 1 = .ok (.invokevirtual 65, 3) := by decide +kernel
theorem d_Disk_clearHead_4 : decode b_Disk_clearHead 4 = .ok (.ifCond .ne 5, 3) := by decide +kernel
theorem d_Disk_clearHead_7 : decode b_Disk_clearHead 7 = .ok (.iconst 0, 1) := by decide +kernel
theorem d_Disk_clearHead_8 : decode b_Disk_clearHead 8 = .ok (.ireturn, 1) := by decide +kernel
theorem d_Disk_clearHead_9 : decode b_Disk_clearHead 9 = .ok (.aload_n 0, 1) := by decide +kernel
theorem d_Disk_clearHead_10 : decode b_Disk_clearHead 10 = .ok (.getfield 12, 3) := by decide +kernel
theorem d_Disk_clearHead_13 : decode b_Disk_clearHead 13 = .ok (.iconst 1, 1) := by decide +kernel
theorem d_Disk_clearHead_14 : decode b_Disk_clearHead 14 = .ok (.invokevirtual 68, 3) := by decide +kernel
theorem d_Disk_clearHead_17 : decode b_Disk_clearHead 17 = .ok (.iconst 1, 1) := by decide +kernel
theorem d_Disk_clearHead_18 : decode b_Disk_clearHead 18 = .ok (.ireturn, 1) := by decide +kernel
theorem d_Disk_replayLog_0 : decode b_Disk_replayLog 0 = .ok (.iconst 0, 1) := by decide +kernel
theorem d_Disk_replayLog_1 : decode b_Disk_replayLog 1 = .ok (.istore_n 2, 1) := by decide +kernel
theorem d_Disk_replayLog_2 : decode b_Disk_replayLog 2 = .ok (.iload_n 2, 1) := by decide +kernel
theorem d_Disk_replayLog_3 : decode b_Disk_replayLog 3 = .ok (.iload_n 1, 1) := by decide +kernel
theorem d_Disk_replayLog_4 : decode b_Disk_replayLog 4 = .ok (.if_icmp .ge 36, 3) := by decide +kernel
theorem d_Disk_replayLog_7 : decode b_Disk_replayLog 7 = .ok (.aload_n 0, 1) := by decide +kernel
theorem d_Disk_replayLog_8 : decode b_Disk_replayLog 8 = .ok (.aload_n 0, 1) := by decide +kernel
theorem d_Disk_replayLog_9 : decode b_Disk_replayLog 9 = .ok (.getfield 12, 3) := by decide +kernel
theorem d_Disk_replayLog_12 : decode b_Disk_replayLog 12 = .ok (.iconst 2, 1) := by decide +kernel
theorem d_Disk_replayLog_13 : decode b_Disk_replayLog 13 = .ok (.iload_n 2, 1) := by decide +kernel
theorem d_Disk_replayLog_14 : decode b_Disk_replayLog 14 = .ok (.iadd, 1) := by decide +kernel
theorem d_Disk_replayLog_15 : decode b_Disk_replayLog 15 = .ok (.aload_n 0, 1) := by decide +kernel
theorem d_Disk_replayLog_16 : decode b_Disk_replayLog 16 = .ok (.getfield 12, 3) := by decide +kernel
theorem d_Disk_replayLog_19 : decode b_Disk_replayLog 19 = .ok (.iconst 1, 1) := by decide +kernel
theorem d_Disk_replayLog_20 : decode b_Disk_replayLog 20 = .ok (.iconst 1, 1) := by decide +kernel
theorem d_Disk_replayLog_21 : decode b_Disk_replayLog 21 = .ok (.iload_n 2, 1) := by decide +kernel
theorem d_Disk_replayLog_22 : decode b_Disk_replayLog 22 = .ok (.iadd, 1) := by decide +kernel
theorem d_Disk_replayLog_23 : decode b_Disk_replayLog 23 = .ok (.invokevirtual 33, 3) := by decide +kernel
theorem d_Disk_replayLog_26 : decode b_Disk_replayLog 26 = .ok (.invokevirtual 51, 3) := by decide +kernel
theorem d_Disk_replayLog_29 : decode b_Disk_replayLog 29 = .ok (.ifCond .ne 5, 3) := by decide +kernel
theorem d_Disk_replayLog_32 : decode b_Disk_replayLog 32 = .ok (.iconst 0, 1) := by decide +kernel
theorem d_Disk_replayLog_33 : decode b_Disk_replayLog 33 = .ok (.ireturn, 1) := by decide +kernel
theorem d_Disk_replayLog_34 : decode b_Disk_replayLog 34 = .ok (.iinc 2 1, 3) := by decide +kernel
theorem d_Disk_replayLog_37 : decode b_Disk_replayLog 37 = .ok (.goto (-35), 3) := by decide +kernel
theorem d_Disk_replayLog_40 : decode b_Disk_replayLog 40 = .ok (.aload_n 0, 1) := by decide +kernel
theorem d_Disk_replayLog_41 : decode b_Disk_replayLog 41 = .ok (.invokevirtual 47, 3) := by decide +kernel
theorem d_Disk_replayLog_44 : decode b_Disk_replayLog 44 = .ok (.ireturn, 1) := by decide +kernel
theorem d_Memory_init_0 : decode b_Memory_init 0 = .ok (.aload_n 0, 1) := by decide +kernel
theorem d_Memory_init_1 : decode b_Memory_init 1 = .ok (.invokespecial 3, 3) := by decide +kernel
theorem d_Memory_init_4 : decode b_Memory_init 4 = .ok (.aload_n 0, 1) := by decide +kernel
theorem d_Memory_init_5 : decode b_Memory_init 5 = .ok (.new 9, 3) := by decide +kernel
theorem d_Memory_init_8 : decode b_Memory_init 8 = .ok (.dup, 1) := by decide +kernel
theorem d_Memory_init_9 : decode b_Memory_init 9 = .ok (.invokespecial 11, 3) := by decide +kernel
theorem d_Memory_init_12 : decode b_Memory_init 12 = .ok (.putfield 12, 3) := by decide +kernel
theorem d_Memory_init_15 : decode b_Memory_init 15 = .ok (.aload_n 0, 1) := by decide +kernel
theorem d_Memory_init_16 : decode b_Memory_init 16 = .ok (.bipush 15, 2) := by decide +kernel
theorem d_Memory_init_18 : decode b_Memory_init 18 = .ok (.newarray .int, 2) := by decide +kernel
theorem d_Memory_init_20 : decode b_Memory_init 20 = .ok (.putfield 18, 3) := by decide +kernel
theorem d_Memory_init_23 : decode b_Memory_init 23 = .ok (.aload_n 0, 1) := by decide +kernel
theorem d_Memory_init_24 : decode b_Memory_init 24 = .ok (.iconst 0, 1) := by decide +kernel
theorem d_Memory_init_25 : decode b_Memory_init 25 = .ok (.putfield 22, 3) := by decide +kernel
theorem d_Memory_init_28 : decode b_Memory_init 28 = .ok (.return_, 1) := by decide +kernel
theorem d_Memory_load_0 : decode b_Memory_load 0 = .ok (.aload_n 0, 1) := by decide +kernel
theorem d_Memory_load_1 : decode b_Memory_load 1 = .ok (.getfield 12, 3) := by decide +kernel
theorem d_Memory_load_4 : decode b_Memory_load 4 = .ok (.aload_n 1, 1) := by decide +kernel
theorem d_Memory_load_5 : decode b_Memory_load 5 = .ok (.invokevirtual 26, 3) := by decide +kernel
theorem d_Memory_load_8 : decode b_Memory_load 8 = .ok (.aload_n 0, 1) := by decide +kernel
theorem d_Memory_load_9 : decode b_Memory_load 9 = .ok (.invokevirtual 30, 3) := by decide +kernel
theorem d_Memory_load_12 : decode b_Memory_load 12 = .ok (.return_, 1) := by decide +kernel
theorem d_Memory_forgetPending_0 : decode b_Memory_forgetPending 0 = .ok (.aload_n 0, 1) := by decide +kernel
theorem d_Memory_forgetPending_1 : decode b_Memory_forgetPending 1 = .ok (.iconst 0, 1) := by decide +kernel
theorem d_Memory_forgetPending_2 : decode b_Memory_forgetPending 2 = .ok (.putfield 22, 3) := by decide +kernel
theorem d_Memory_forgetPending_5 : decode b_Memory_forgetPending 5 = .ok (.return_, 1) := by decide +kernel
theorem d_Memory_pendingAt_0 : decode b_Memory_pendingAt 0 = .ok (.iload_n 1, 1) := by decide +kernel
theorem d_Memory_pendingAt_1 : decode b_Memory_pendingAt 1 = .ok (.ifCond .lt 20, 3) := by decide +kernel
theorem d_Memory_pendingAt_4 : decode b_Memory_pendingAt 4 = .ok (.iload_n 1, 1) := by decide +kernel
theorem d_Memory_pendingAt_5 : decode b_Memory_pendingAt 5 = .ok (.aload_n 0, 1) := by decide +kernel
theorem d_Memory_pendingAt_6 : decode b_Memory_pendingAt 6 = .ok (.getfield 22, 3) := by decide +kernel
theorem d_Memory_pendingAt_9 : decode b_Memory_pendingAt 9 = .ok (.if_icmp .ge 12, 3) := by decide +kernel
theorem d_Memory_pendingAt_12 : decode b_Memory_pendingAt 12 = .ok (.aload_n 0, 1) := by decide +kernel
theorem d_Memory_pendingAt_13 : decode b_Memory_pendingAt 13 = .ok (.getfield 18, 3) := by decide +kernel
theorem d_Memory_pendingAt_16 : decode b_Memory_pendingAt 16 = .ok (.iload_n 1, 1) := by decide +kernel
theorem d_Memory_pendingAt_17 : decode b_Memory_pendingAt 17 = .ok (.iaload, 1) := by decide +kernel
theorem d_Memory_pendingAt_18 : decode b_Memory_pendingAt 18 = .ok (.goto 4, 3) := by decide +kernel
theorem d_Memory_pendingAt_21 : decode b_Memory_pendingAt 21 = .ok (.iconst (-1), 1) := by decide +kernel
theorem d_Memory_pendingAt_22 : decode b_Memory_pendingAt 22 = .ok (.ireturn, 1) := by decide +kernel
theorem d_Memory_change_0 : decode b_Memory_change 0 = .ok (.aload_n 0, 1) := by decide +kernel
theorem d_Memory_change_1 : decode b_Memory_change 1 = .ok (.iload_n 1, 1) := by decide +kernel
theorem d_Memory_change_2 : decode b_Memory_change 2 = .ok (.invokevirtual 33, 3) := by decide +kernel
theorem d_Memory_change_5 : decode b_Memory_change 5 = .ok (.aload_n 0, 1) := by decide +kernel
theorem d_Memory_change_6 : decode b_Memory_change 6 = .ok (.getfield 12, 3) := by decide +kernel
theorem d_Memory_change_9 : decode b_Memory_change 9 = .ok (.iload_n 1, 1) := by decide +kernel
theorem d_Memory_change_10 : decode b_Memory_change 10 = .ok (.iload_n 2, 1) := by decide +kernel
theorem d_Memory_change_11 : decode b_Memory_change 11 = .ok (.iload_n 3, 1) := by decide +kernel
theorem d_Memory_change_12 : decode b_Memory_change 12 = .ok (.invokevirtual 37, 3) := by decide +kernel
theorem d_Memory_change_15 : decode b_Memory_change 15 = .ok (.return_, 1) := by decide +kernel
theorem d_Memory_markPending_0 : decode b_Memory_markPending 0 = .ok (.iconst 0, 1) := by decide +kernel
theorem d_Memory_markPending_1 : decode b_Memory_markPending 1 = .ok (.istore_n 2, 1) := by decide +kernel
theorem d_Memory_markPending_2 : decode b_Memory_markPending 2 = .ok (.iload_n 2, 1) := by decide +kernel
theorem d_Memory_markPending_3 : decode b_Memory_markPending 3 = .ok (.aload_n 0, 1) := by decide +kernel
theorem d_Memory_markPending_4 : decode b_Memory_markPending 4 = .ok (.getfield 22, 3) := by decide +kernel
theorem d_Memory_markPending_7 : decode b_Memory_markPending 7 = .ok (.if_icmp .ge 20, 3) := by decide +kernel
theorem d_Memory_markPending_10 : decode b_Memory_markPending 10 = .ok (.aload_n 0, 1) := by decide +kernel
theorem d_Memory_markPending_11 : decode b_Memory_markPending 11 = .ok (.getfield 18, 3) := by decide +kernel
theorem d_Memory_markPending_14 : decode b_Memory_markPending 14 = .ok (.iload_n 2, 1) := by decide +kernel
theorem d_Memory_markPending_15 : decode b_Memory_markPending 15 = .ok (.iaload, 1) := by decide +kernel
theorem d_Memory_markPending_16 : decode b_Memory_markPending 16 = .ok (.iload_n 1, 1) := by decide +kernel
theorem d_Memory_markPending_17 : decode b_Memory_markPending 17 = .ok (.if_icmp .ne 4, 3) := by decide +kernel
theorem d_Memory_markPending_20 : decode b_Memory_markPending 20 = .ok (.return_, 1) := by decide +kernel
theorem d_Memory_markPending_21 : decode b_Memory_markPending 21 = .ok (.iinc 2 1, 3) := by decide +kernel
theorem d_Memory_markPending_24 : decode b_Memory_markPending 24 = .ok (.goto (-22), 3) := by decide +kernel
theorem d_Memory_markPending_27 : decode b_Memory_markPending 27 = .ok (.aload_n 0, 1) := by decide +kernel
theorem d_Memory_markPending_28 : decode b_Memory_markPending 28 = .ok (.getfield 22, 3) := by decide +kernel
theorem d_Memory_markPending_31 : decode b_Memory_markPending 31 = .ok (.bipush 15, 2) := by decide +kernel
theorem d_Memory_markPending_33 : decode b_Memory_markPending 33 = .ok (.if_icmp .ge 23, 3) := by decide +kernel
theorem d_Memory_markPending_36 : decode b_Memory_markPending 36 = .ok (.aload_n 0, 1) := by decide +kernel
theorem d_Memory_markPending_37 : decode b_Memory_markPending 37 = .ok (.getfield 18, 3) := by decide +kernel
theorem d_Memory_markPending_40 : decode b_Memory_markPending 40 = .ok (.aload_n 0, 1) := by decide +kernel
theorem d_Memory_markPending_41 : decode b_Memory_markPending 41 = .ok (.getfield 22, 3) := by decide +kernel
theorem d_Memory_markPending_44 : decode b_Memory_markPending 44 = .ok (.iload_n 1, 1) := by decide +kernel
theorem d_Memory_markPending_45 : decode b_Memory_markPending 45 = .ok (.iastore, 1) := by decide +kernel
theorem d_Memory_markPending_46 : decode b_Memory_markPending 46 = .ok (.aload_n 0, 1) := by decide +kernel
theorem d_Memory_markPending_47 : decode b_Memory_markPending 47 = .ok (.dup, 1) := by decide +kernel
theorem d_Memory_markPending_48 : decode b_Memory_markPending 48 = .ok (.getfield 22, 3) := by decide +kernel
theorem d_Memory_markPending_51 : decode b_Memory_markPending 51 = .ok (.iconst 1, 1) := by decide +kernel
theorem d_Memory_markPending_52 : decode b_Memory_markPending 52 = .ok (.iadd, 1) := by decide +kernel
theorem d_Memory_markPending_53 : decode b_Memory_markPending 53 = .ok (.putfield 22, 3) := by decide +kernel
theorem d_Memory_markPending_56 : decode b_Memory_markPending 56 = .ok (.return_, 1) := by decide +kernel
theorem d_Memory_clear_0 : decode b_Memory_clear 0 = .ok (.aload_n 0, 1) := by decide +kernel
theorem d_Memory_clear_1 : decode b_Memory_clear 1 = .ok (.iload_n 1, 1) := by decide +kernel
theorem d_Memory_clear_2 : decode b_Memory_clear 2 = .ok (.invokevirtual 33, 3) := by decide +kernel
theorem d_Memory_clear_5 : decode b_Memory_clear 5 = .ok (.aload_n 0, 1) := by decide +kernel
theorem d_Memory_clear_6 : decode b_Memory_clear 6 = .ok (.getfield 12, 3) := by decide +kernel
theorem d_Memory_clear_9 : decode b_Memory_clear 9 = .ok (.iload_n 1, 1) := by decide +kernel
theorem d_Memory_clear_10 : decode b_Memory_clear 10 = .ok (.invokevirtual 41, 3) := by decide +kernel
theorem d_Memory_clear_13 : decode b_Memory_clear 13 = .ok (.return_, 1) := by decide +kernel
theorem d_Integer_bitCount_0 : decode b_Integer_bitCount 0 = .ok (.iload_n 0, 1) := by decide +kernel
theorem d_Integer_bitCount_1 : decode b_Integer_bitCount 1 = .ok (.iload_n 0, 1) := by decide +kernel
theorem d_Integer_bitCount_2 : decode b_Integer_bitCount 2 = .ok (.iconst 1, 1) := by decide +kernel
theorem d_Integer_bitCount_3 : decode b_Integer_bitCount 3 = .ok (.iushr, 1) := by decide +kernel
theorem d_Integer_bitCount_4 : decode b_Integer_bitCount 4 = .ok (.ldc_w 265, 3) := by decide +kernel
theorem d_Integer_bitCount_7 : decode b_Integer_bitCount 7 = .ok (.iand, 1) := by decide +kernel
theorem d_Integer_bitCount_8 : decode b_Integer_bitCount 8 = .ok (.isub, 1) := by decide +kernel
theorem d_Integer_bitCount_9 : decode b_Integer_bitCount 9 = .ok (.istore_n 0, 1) := by decide +kernel
theorem d_Integer_bitCount_10 : decode b_Integer_bitCount 10 = .ok (.iload_n 0, 1) := by decide +kernel
theorem d_Integer_bitCount_11 : decode b_Integer_bitCount 11 = .ok (.ldc_w 266, 3) := by decide +kernel
theorem d_Integer_bitCount_14 : decode b_Integer_bitCount 14 = .ok (.iand, 1) := by decide +kernel
theorem d_Integer_bitCount_15 : decode b_Integer_bitCount 15 = .ok (.iload_n 0, 1) := by decide +kernel
theorem d_Integer_bitCount_16 : decode b_Integer_bitCount 16 = .ok (.iconst 2, 1) := by decide +kernel
theorem d_Integer_bitCount_17 : decode b_Integer_bitCount 17 = .ok (.iushr, 1) := by decide +kernel
theorem d_Integer_bitCount_18 : decode b_Integer_bitCount 18 = .ok (.ldc_w 266, 3) := by decide +kernel
theorem d_Integer_bitCount_21 : decode b_Integer_bitCount 21 = .ok (.iand, 1) := by decide +kernel
theorem d_Integer_bitCount_22 : decode b_Integer_bitCount 22 = .ok (.iadd, 1) := by decide +kernel
theorem d_Integer_bitCount_23 : decode b_Integer_bitCount 23 = .ok (.istore_n 0, 1) := by decide +kernel
theorem d_Integer_bitCount_24 : decode b_Integer_bitCount 24 = .ok (.iload_n 0, 1) := by decide +kernel
theorem d_Integer_bitCount_25 : decode b_Integer_bitCount 25 = .ok (.iload_n 0, 1) := by decide +kernel
theorem d_Integer_bitCount_26 : decode b_Integer_bitCount 26 = .ok (.iconst 4, 1) := by decide +kernel
theorem d_Integer_bitCount_27 : decode b_Integer_bitCount 27 = .ok (.iushr, 1) := by decide +kernel
theorem d_Integer_bitCount_28 : decode b_Integer_bitCount 28 = .ok (.iadd, 1) := by decide +kernel
theorem d_Integer_bitCount_29 : decode b_Integer_bitCount 29 = .ok (.ldc_w 267, 3) := by decide +kernel
theorem d_Integer_bitCount_32 : decode b_Integer_bitCount 32 = .ok (.iand, 1) := by decide +kernel
theorem d_Integer_bitCount_33 : decode b_Integer_bitCount 33 = .ok (.istore_n 0, 1) := by decide +kernel
theorem d_Integer_bitCount_34 : decode b_Integer_bitCount 34 = .ok (.iload_n 0, 1) := by decide +kernel
theorem d_Integer_bitCount_35 : decode b_Integer_bitCount 35 = .ok (.iload_n 0, 1) := by decide +kernel
theorem d_Integer_bitCount_36 : decode b_Integer_bitCount 36 = .ok (.bipush 8, 2) := by decide +kernel
theorem d_Integer_bitCount_38 : decode b_Integer_bitCount 38 = .ok (.iushr, 1) := by decide +kernel
theorem d_Integer_bitCount_39 : decode b_Integer_bitCount 39 = .ok (.iadd, 1) := by decide +kernel
theorem d_Integer_bitCount_40 : decode b_Integer_bitCount 40 = .ok (.istore_n 0, 1) := by decide +kernel
theorem d_Integer_bitCount_41 : decode b_Integer_bitCount 41 = .ok (.iload_n 0, 1) := by decide +kernel
theorem d_Integer_bitCount_42 : decode b_Integer_bitCount 42 = .ok (.iload_n 0, 1) := by decide +kernel
theorem d_Integer_bitCount_43 : decode b_Integer_bitCount 43 = .ok (.bipush 16, 2) := by decide +kernel
theorem d_Integer_bitCount_45 : decode b_Integer_bitCount 45 = .ok (.iushr, 1) := by decide +kernel
theorem d_Integer_bitCount_46 : decode b_Integer_bitCount 46 = .ok (.iadd, 1) := by decide +kernel
theorem d_Integer_bitCount_47 : decode b_Integer_bitCount 47 = .ok (.istore_n 0, 1) := by decide +kernel
theorem d_Integer_bitCount_48 : decode b_Integer_bitCount 48 = .ok (.iload_n 0, 1) := by decide +kernel
theorem d_Integer_bitCount_49 : decode b_Integer_bitCount 49 = .ok (.bipush 63, 2) := by decide +kernel
theorem d_Integer_bitCount_51 : decode b_Integer_bitCount 51 = .ok (.iand, 1) := by decide +kernel
theorem d_Integer_bitCount_52 : decode b_Integer_bitCount 52 = .ok (.ireturn, 1) := by decide +kernel
theorem d_LogFs_init_0 : decode b_LogFs_init 0 = .ok (.aload_n 0, 1) := by decide +kernel
theorem d_LogFs_init_1 : decode b_LogFs_init 1 = .ok (.invokespecial 1, 3) := by decide +kernel
theorem d_LogFs_init_4 : decode b_LogFs_init 4 = .ok (.aload_n 0, 1) := by decide +kernel
theorem d_LogFs_init_5 : decode b_LogFs_init 5 = .ok (.new 7, 3) := by decide +kernel
theorem d_LogFs_init_8 : decode b_LogFs_init 8 = .ok (.dup, 1) := by decide +kernel
theorem d_LogFs_init_9 : decode b_LogFs_init 9 = .ok (.invokespecial 9, 3) := by decide +kernel
theorem d_LogFs_init_12 : decode b_LogFs_init 12 = .ok (.putfield 10, 3) := by decide +kernel
theorem d_LogFs_init_15 : decode b_LogFs_init 15 = .ok (.aload_n 0, 1) := by decide +kernel
theorem d_LogFs_init_16 : decode b_LogFs_init 16 = .ok (.new 16, 3) := by decide +kernel
theorem d_LogFs_init_19 : decode b_LogFs_init 19 = .ok (.dup, 1) := by decide +kernel
theorem d_LogFs_init_20 : decode b_LogFs_init 20 = .ok (.invokespecial 18, 3) := by decide +kernel
theorem d_LogFs_init_23 : decode b_LogFs_init 23 = .ok (.putfield 19, 3) := by decide +kernel
theorem d_LogFs_init_26 : decode b_LogFs_init 26 = .ok (.aload_n 0, 1) := by decide +kernel
theorem d_LogFs_init_27 : decode b_LogFs_init 27 = .ok (.new 23, 3) := by decide +kernel
theorem d_LogFs_init_30 : decode b_LogFs_init 30 = .ok (.dup, 1) := by decide +kernel
theorem d_LogFs_init_31 : decode b_LogFs_init 31 = .ok (.aload_n 0, 1) := by decide +kernel
theorem d_LogFs_init_32 : decode b_LogFs_init 32 = .ok (.getfield 19, 3) := by decide +kernel
theorem d_LogFs_init_35 : decode b_LogFs_init 35 = .ok (.invokespecial 25, 3) := by decide +kernel
theorem d_LogFs_init_38 : decode b_LogFs_init 38 = .ok (.putfield 28, 3) := by decide +kernel
theorem d_LogFs_init_41 : decode b_LogFs_init 41 = .ok (.aload_n 0, 1) := by decide +kernel
theorem d_LogFs_init_42 : decode b_LogFs_init 42 = .ok (.iconst 0, 1) := by decide +kernel
theorem d_LogFs_init_43 : decode b_LogFs_init 43 = .ok (.putfield 32, 3) := by decide +kernel
theorem d_LogFs_init_46 : decode b_LogFs_init 46 = .ok (.aload_n 0, 1) := by decide +kernel
theorem d_LogFs_init_47 : decode b_LogFs_init 47 = .ok (.getfield 19, 3) := by decide +kernel
theorem d_LogFs_init_50 : decode b_LogFs_init 50 = .ok (.aload_n 0, 1) := by decide +kernel
theorem d_LogFs_init_51 : decode b_LogFs_init 51 = .ok (.getfield 10, 3) := by decide +kernel
theorem d_LogFs_init_54 : decode b_LogFs_init 54 = .ok (.getfield 36, 3) := by decide +kernel
theorem d_LogFs_init_57 : decode b_LogFs_init 57 = .ok (.invokevirtual 40, 3) := by decide +kernel
theorem d_LogFs_init_60 : decode b_LogFs_init 60 = .ok (.return_, 1) := by decide +kernel
theorem d_LogFs_failAfter_0 : decode b_LogFs_failAfter 0 = .ok (.iload_n 1, 1) := by decide +kernel
theorem d_LogFs_failAfter_1 : decode b_LogFs_failAfter 1 = .ok (.ifCond .ge 5, 3) := by decide +kernel
theorem d_LogFs_failAfter_4 : decode b_LogFs_failAfter 4 = .ok (.iconst 0, 1) := by decide +kernel
theorem d_LogFs_failAfter_5 : decode b_LogFs_failAfter 5 = .ok (.ireturn, 1) := by decide +kernel
theorem d_LogFs_failAfter_6 : decode b_LogFs_failAfter 6 = .ok (.aload_n 0, 1) := by decide +kernel
theorem d_LogFs_failAfter_7 : decode b_LogFs_failAfter 7 = .ok (.getfield 10, 3) := by decide +kernel
theorem d_LogFs_failAfter_10 : decode b_LogFs_failAfter 10 = .ok (.iload_n 1, 1) := by decide +kernel
theorem d_LogFs_failAfter_11 : decode b_LogFs_failAfter 11 = .ok (.putfield 119, 3) := by decide +kernel
theorem d_LogFs_failAfter_14 : decode b_LogFs_failAfter 14 = .ok (.iconst 1, 1) := by decide +kernel
theorem d_LogFs_failAfter_15 : decode b_LogFs_failAfter 15 = .ok (.ireturn, 1) := by decide +kernel
theorem d_LogFs_count_0 : decode b_LogFs_count 0 = .ok (.iload_n 1, 1) := by decide +kernel
theorem d_LogFs_count_1 : decode b_LogFs_count 1 = .ok (.tableswitch 56 3 5 #[27, 35, 40], 27) := by decide +kernel
theorem d_LogFs_count_28 : decode b_LogFs_count 28 = .ok (.aload_n 0, 1) := by decide +kernel
theorem d_LogFs_count_29 : decode b_LogFs_count 29 = .ok (.getfield 10, 3) := by decide +kernel
theorem d_LogFs_count_32 : decode b_LogFs_count 32 = .ok (.getfield 113, 3) := by decide +kernel
theorem d_LogFs_count_35 : decode b_LogFs_count 35 = .ok (.ireturn, 1) := by decide +kernel
theorem d_LogFs_count_36 : decode b_LogFs_count 36 = .ok (.aload_n 0, 1) := by decide +kernel
theorem d_LogFs_count_37 : decode b_LogFs_count 37 = .ok (.getfield 32, 3) := by decide +kernel
theorem d_LogFs_count_40 : decode b_LogFs_count 40 = .ok (.ireturn, 1) := by decide +kernel
theorem d_LogFs_count_41 : decode b_LogFs_count 41 = .ok (.aload_n 0, 1) := by decide +kernel
theorem d_LogFs_count_42 : decode b_LogFs_count 42 = .ok (.getfield 10, 3) := by decide +kernel
theorem d_LogFs_count_45 : decode b_LogFs_count 45 = .ok (.getfield 122, 3) := by decide +kernel
theorem d_LogFs_count_48 : decode b_LogFs_count 48 = .ok (.ifCond .eq 7, 3) := by decide +kernel
theorem d_LogFs_count_51 : decode b_LogFs_count 51 = .ok (.iconst 1, 1) := by decide +kernel
theorem d_LogFs_count_52 : decode b_LogFs_count 52 = .ok (.goto 4, 3) := by decide +kernel
theorem d_LogFs_count_55 : decode b_LogFs_count 55 = .ok (.iconst 0, 1) := by decide +kernel
theorem d_LogFs_count_56 : decode b_LogFs_count 56 = .ok (.ireturn, 1) := by decide +kernel
theorem d_LogFs_count_57 : decode b_LogFs_count 57 = .ok (.aload_n 0, 1) := by decide +kernel
theorem d_LogFs_count_58 : decode b_LogFs_count 58 = .ok (.getfield 10, 3) := by decide +kernel
theorem d_LogFs_count_61 : decode b_LogFs_count 61 = .ok (.getfield 122, 3) := by decide +kernel
theorem d_LogFs_count_64 : decode b_LogFs_count 64 = .ok (.ifCond .eq 7, 3) := by decide +kernel
theorem d_LogFs_count_67 : decode b_LogFs_count 67 = .ok (.iconst (-1), 1) := by decide +kernel
theorem d_LogFs_count_68 : decode b_LogFs_count 68 = .ok (.goto 8, 3) := by decide +kernel
theorem d_LogFs_count_71 : decode b_LogFs_count 71 = .ok (.aload_n 0, 1) := by decide +kernel
theorem d_LogFs_count_72 : decode b_LogFs_count 72 = .ok (.iload_n 1, 1) := by decide +kernel
theorem d_LogFs_count_73 : decode b_LogFs_count 73 = .ok (.invokevirtual 166, 3) := by decide +kernel
theorem d_LogFs_count_76 : decode b_LogFs_count 76 = .ok (.ireturn, 1) := by decide +kernel
theorem d_LogFs_countInMemory_0 : decode b_LogFs_countInMemory 0 = .ok (.iload_n 1, 1) := by decide +kernel
theorem d_LogFs_countInMemory_1 : decode b_LogFs_countInMemory 1 = .ok (.tableswitch 51 0 2 #[27, 35, 43], 27) := by decide +kernel
theorem d_LogFs_countInMemory_28 : decode b_LogFs_countInMemory 28 = .ok (.aload_n 0, 1) := by decide +kernel
theorem d_LogFs_countInMemory_29 : decode b_LogFs_countInMemory 29 = .ok (.getfield 19, 3) := by decide +kernel
theorem d_LogFs_countInMemory_32 : decode b_LogFs_countInMemory 32 = .ok (.getfield 169, 3) := by decide +kernel
theorem d_LogFs_countInMemory_35 : decode b_LogFs_countInMemory 35 = .ok (.ireturn, 1) := by decide +kernel
theorem d_LogFs_countInMemory_36 : decode b_LogFs_countInMemory 36 = .ok (.aload_n 0, 1) := by decide +kernel
theorem d_LogFs_countInMemory_37 : decode b_LogFs_countInMemory 37 = .ok (.getfield 28, 3) := by decide +kernel
theorem d_LogFs_countInMemory_40 : decode b_LogFs_countInMemory 40 = .ok (.invokevirtual 172, 3) := by decide +kernel
theorem d_LogFs_countInMemory_43 : decode b_LogFs_countInMemory 43 = .ok (.ireturn, 1) := by decide +kernel
theorem d_LogFs_countInMemory_44 : decode b_LogFs_countInMemory 44 = .ok (.aload_n 0, 1) := by decide +kernel
theorem d_LogFs_countInMemory_45 : decode b_LogFs_countInMemory 45 = .ok (.getfield 28, 3) := by decide +kernel
theorem d_LogFs_countInMemory_48 : decode b_LogFs_countInMemory 48 = .ok (.invokevirtual 175, 3) := by decide +kernel
theorem d_LogFs_countInMemory_51 : decode b_LogFs_countInMemory 51 = .ok (.ireturn, 1) := by decide +kernel
theorem d_LogFs_countInMemory_52 : decode b_LogFs_countInMemory 52 = .ok (.iload_n 1, 1) := by decide +kernel
theorem d_LogFs_countInMemory_53 : decode b_LogFs_countInMemory 53 = .ok (.bipush 8, 2) := by decide +kernel
theorem d_LogFs_countInMemory_55 : decode b_LogFs_countInMemory 55 = .ok (.if_icmp .ge 7, 3) := by decide +kernel
theorem d_LogFs_countInMemory_58 : decode b_LogFs_countInMemory 58 = .ok (.iconst (-1), 1) := by decide +kernel
theorem d_LogFs_countInMemory_59 : decode b_LogFs_countInMemory 59 = .ok (.goto 14, 3) := by decide +kernel
theorem d_LogFs_countInMemory_62 : decode b_LogFs_countInMemory 62 = .ok (.aload_n 0, 1) := by decide +kernel
theorem d_LogFs_countInMemory_63 : decode b_LogFs_countInMemory 63 = .ok (.getfield 19, 3) := by decide +kernel
theorem d_LogFs_countInMemory_66 : decode b_LogFs_countInMemory 66 = .ok (.iload_n 1, 1) := by decide +kernel
theorem d_LogFs_countInMemory_67 : decode b_LogFs_countInMemory 67 = .ok (.bipush 8, 2) := by decide +kernel
theorem d_LogFs_countInMemory_69 : decode b_LogFs_countInMemory 69 = .ok (.isub, 1) := by decide +kernel
theorem d_LogFs_countInMemory_70 : decode b_LogFs_countInMemory 70 = .ok (.invokevirtual 178, 3) := by decide +kernel
theorem d_LogFs_countInMemory_73 : decode b_LogFs_countInMemory 73 = .ok (.ireturn, 1) := by decide +kernel
theorem d_LogFs_isInode_0 : decode b_LogFs_isInode 0 = .ok (.iload_n 0, 1) := by decide +kernel
theorem d_LogFs_isInode_1 : decode b_LogFs_isInode 1 = .ok (.ifCond .lt 13, 3) := by decide +kernel
theorem d_LogFs_isInode_4 : decode b_LogFs_isInode 4 = .ok (.iload_n 0, 1) := by decide +kernel
theorem d_LogFs_isInode_5 : decode b_LogFs_isInode 5 = .ok (.bipush 32, 2) := by decide +kernel
theorem d_LogFs_isInode_7 : decode b_LogFs_isInode 7 = .ok (.if_icmp .ge 7, 3) := by decide +kernel
theorem d_LogFs_isInode_10 : decode b_LogFs_isInode 10 = .ok (.iconst 1, 1) := by decide +kernel
theorem d_LogFs_isInode_11 : decode b_LogFs_isInode 11 = .ok (.goto 4, 3) := by decide +kernel
theorem d_LogFs_isInode_14 : decode b_LogFs_isInode 14 = .ok (.iconst 0, 1) := by decide +kernel
theorem d_LogFs_isInode_15 : decode b_LogFs_isInode 15 = .ok (.ireturn, 1) := by decide +kernel
theorem d_LogFs_make_0 : decode b_LogFs_make 0 = .ok (.aload_n 0, 1) := by decide +kernel
theorem d_LogFs_make_1 : decode b_LogFs_make 1 = .ok (.invokevirtual 44, 3) := by decide +kernel
theorem d_LogFs_make_4 : decode b_LogFs_make 4 = .ok (.aload_n 0, 1) := by decide +kernel
theorem d_LogFs_make_5 : decode b_LogFs_make 5 = .ok (.getfield 28, 3) := by decide +kernel
theorem d_LogFs_make_8 : decode b_LogFs_make 8 = .ok (.invokevirtual 47, 3) := by decide +kernel
theorem d_LogFs_make_11 : decode b_LogFs_make 11 = .ok (.istore 5, 2) := by decide +kernel
theorem d_LogFs_make_13 : decode b_LogFs_make 13 = .ok (.iload 5, 2) := by decide +kernel
theorem d_LogFs_make_15 : decode b_LogFs_make 15 = .ok (.iconst (-1), 1) := by decide +kernel
theorem d_LogFs_make_16 : decode b_LogFs_make 16 = .ok (.if_icmp .eq 15, 3) := by decide +kernel
theorem d_LogFs_make_19 : decode b_LogFs_make 19 = .ok (.aload_n 0, 1) := by decide +kernel
theorem d_LogFs_make_20 : decode b_LogFs_make 20 = .ok (.getfield 28, 3) := by decide +kernel
theorem d_LogFs_make_23 : decode b_LogFs_make 23 = .ok (.iload_n 1, 1) := by decide +kernel
theorem d_LogFs_make_24 : decode b_LogFs_make 24 = .ok (.lload_n 2, 1) := by decide +kernel
theorem d_LogFs_make_25 : decode b_LogFs_make 25 = .ok (.invokevirtual 51, 3) := by decide +kernel
theorem d_LogFs_make_28 : decode b_LogFs_make 28 = .ok (.ifCond .ne 5, 3) := by decide +kernel
theorem d_LogFs_make_31 : decode b_LogFs_make 31 = .ok (.iconst (-1), 1) := by decide +kernel
theorem d_LogFs_make_32 : decode b_LogFs_make 32 = .ok (.ireturn, 1) := by decide +kernel
theorem d_LogFs_make_33 : decode b_LogFs_make 33 = .ok (.aload_n 0, 1) := by decide +kernel
theorem d_LogFs_make_34 : decode b_LogFs_make 34 = .ok (.invokevirtual 55, 3) := by decide +kernel
theorem d_LogFs_make_37 : decode b_LogFs_make 37 = .ok (.aload_n 0, 1) := by decide +kernel
theorem d_LogFs_make_38 : decode b_LogFs_make 38 = .ok (.getfield 28, 3) := by decide +kernel
theorem d_LogFs_make_41 : decode b_LogFs_make 41 = .ok (.iload 5, 2) := by decide +kernel
theorem d_LogFs_make_43 : decode b_LogFs_make 43 = .ok (.iload 4, 2) := by decide +kernel
theorem d_LogFs_make_45 : decode b_LogFs_make 45 = .ok (.ifCond .eq 7, 3) := by decide +kernel
theorem d_LogFs_make_48 : decode b_LogFs_make 48 = .ok (.iconst 2, 1) := by decide +kernel
theorem d_LogFs_make_49 : decode b_LogFs_make 49 = .ok (.goto 4, 3) := by decide +kernel
theorem d_LogFs_make_52 : decode b_LogFs_make 52 = .ok (.iconst 1, 1) := by decide +kernel
theorem d_LogFs_make_53 : decode b_LogFs_make 53 = .ok (.invokevirtual 58, 3) := by decide +kernel
theorem d_LogFs_make_56 : decode b_LogFs_make 56 = .ok (.aload_n 0, 1) := by decide +kernel
theorem d_LogFs_make_57 : decode b_LogFs_make 57 = .ok (.getfield 28, 3) := by decide +kernel
theorem d_LogFs_make_60 : decode b_LogFs_make 60 = .ok (.iload_n 1, 1) := by decide +kernel
theorem d_LogFs_make_61 : decode b_LogFs_make 61 = .ok (.aload_n 0, 1) := by decide +kernel
theorem d_LogFs_make_62 : decode b_LogFs_make 62 = .ok (.getfield 28, 3) := by decide +kernel
theorem d_LogFs_make_65 : decode b_LogFs_make 65 = .ok (.iload_n 1, 1) := by decide +kernel
theorem d_LogFs_make_66 : decode b_LogFs_make 66 = .ok (.invokevirtual 62, 3) := by decide +kernel
theorem d_LogFs_make_69 : decode b_LogFs_make 69 = .ok (.iload 5, 2) := by decide +kernel
theorem d_LogFs_make_71 : decode b_LogFs_make 71 = .ok (.lload_n 2, 1) := by decide +kernel
theorem d_LogFs_make_72 : decode b_LogFs_make 72 = .ok (.invokestatic 66, 3) := by decide +kernel
theorem d_LogFs_make_75 : decode b_LogFs_make 75 = .ok (.bipush 8, 2) := by decide +kernel
theorem d_LogFs_make_77 : decode b_LogFs_make 77 = .ok (.invokevirtual 70, 3) := by decide +kernel
theorem d_LogFs_make_80 : decode b_LogFs_make 80 = .ok (.iload 5, 2) := by decide +kernel
theorem d_LogFs_make_82 : decode b_LogFs_make 82 = .ok (.ireturn, 1) := by decide +kernel
theorem d_LogFs_requirePower_0 : decode b_LogFs_requirePower 0 = .ok (.aload_n 0, 1) := by decide +kernel
theorem d_LogFs_requirePower_1 : decode b_LogFs_requirePower 1 = .ok (.getfield 10, 3) := by decide +kernel
theorem d_LogFs_requirePower_4 : decode b_LogFs_requirePower 4 = .ok (.getfield 122, 3) := by decide +kernel
theorem d_LogFs_requirePower_7 : decode b_LogFs_requirePower 7 = .ok (.ifCond .eq 13, 3) := by decide +kernel
theorem d_LogFs_requirePower_10 : decode b_LogFs_requirePower 10 = .ok (.new 181, 3) := by decide +kernel
theorem d_LogFs_requirePower_13 : decode b_LogFs_requirePower 13 = .ok (.dup, 1) := by decide +kernel
theorem d_LogFs_requirePower_14 : decode b_LogFs_requirePower 14 = .ok (.ldc 183, 2) := by decide +kernel
theorem d_LogFs_requirePower_16 : decode b_LogFs_requirePower 16 = .ok (.invokespecial 185, 3) := by decide +kernel
theorem d_LogFs_requirePower_19 : decode b_LogFs_requirePower 19 = .ok (.athrow, 1) := by decide +kernel
theorem d_LogFs_requirePower_20 : decode b_LogFs_requirePower 20 = .ok (.return_, 1) := by decide +kernel
theorem d_LogFs_isName_0 : decode b_LogFs_isName 0 = .ok (.iconst 0, 1) := by decide +kernel
theorem d_LogFs_isName_1 : decode b_LogFs_isName 1 = .ok (.istore_n 2, 1) := by decide +kernel
theorem d_LogFs_isName_2 : decode b_LogFs_isName 2 = .ok (.iload_n 2, 1) := by decide +kernel
theorem d_LogFs_isName_3 : decode b_LogFs_isName 3 = .ok (.bipush 8, 2) := by decide +kernel
theorem d_LogFs_isName_5 : decode b_LogFs_isName 5 = .ok (.if_icmp .ge 37, 3) := by decide +kernel
theorem d_LogFs_isName_8 : decode b_LogFs_isName 8 = .ok (.lload_n 0, 1) := by decide +kernel
theorem d_LogFs_isName_9 : decode b_LogFs_isName 9 = .ok (.iload_n 2, 1) := by decide +kernel
theorem d_LogFs_isName_10 : decode b_LogFs_isName 10 = .ok (.invokestatic 195, 3) := by decide +kernel
theorem d_LogFs_isName_13 : decode b_LogFs_isName 13 = .ok (.ifCond .eq 29, 3) := by decide +kernel
theorem d_LogFs_isName_16 : decode b_LogFs_isName 16 = .ok (.lload_n 0, 1) := by decide +kernel
theorem d_LogFs_isName_17 : decode b_LogFs_isName 17 = .ok (.iload_n 2, 1) := by decide +kernel
theorem d_LogFs_isName_18 : decode b_LogFs_isName 18 = .ok (.invokestatic 195, 3) := by decide +kernel
theorem d_LogFs_isName_21 : decode b_LogFs_isName 21 = .ok (.istore_n 3, 1) := by decide +kernel
theorem d_LogFs_isName_22 : decode b_LogFs_isName 22 = .ok (.iload_n 3, 1) := by decide +kernel
theorem d_LogFs_isName_23 : decode b_LogFs_isName 23 = .ok (.bipush 33, 2) := by decide +kernel
theorem d_LogFs_isName_25 : decode b_LogFs_isName 25 = .ok (.if_icmp .lt 9, 3) := by decide +kernel
theorem d_LogFs_isName_28 : decode b_LogFs_isName 28 = .ok (.iload_n 3, 1) := by decide +kernel
theorem d_LogFs_isName_29 : decode b_LogFs_isName 29 = .ok (.bipush 126, 2) := by decide +kernel
theorem d_LogFs_isName_31 : decode b_LogFs_isName 31 = .ok (.if_icmp .le 5, 3) := by decide +kernel
theorem d_LogFs_isName_34 : decode b_LogFs_isName 34 = .ok (.iconst 0, 1) := by decide +kernel
theorem d_LogFs_isName_35 : decode b_LogFs_isName 35 = .ok (.ireturn, 1) := by decide +kernel
theorem d_LogFs_isName_36 : decode b_LogFs_isName 36 = .ok (.iinc 2 1, 3) := by decide +kernel
theorem d_LogFs_isName_39 : decode b_LogFs_isName 39 = .ok (.goto (-37), 3) := by decide +kernel
theorem d_LogFs_isName_42 : decode b_LogFs_isName 42 = .ok (.iload_n 2, 1) := by decide +kernel
theorem d_LogFs_isName_43 : decode b_LogFs_isName 43 = .ok (.ifCond .le 24, 3) := by decide +kernel
theorem d_LogFs_isName_46 : decode b_LogFs_isName 46 = .ok (.iload_n 2, 1) := by decide +kernel
theorem d_LogFs_isName_47 : decode b_LogFs_isName 47 = .ok (.bipush 7, 2) := by decide +kernel
theorem d_LogFs_isName_49 : decode b_LogFs_isName 49 = .ok (.if_icmp .gt 18, 3) := by decide +kernel
theorem d_LogFs_isName_52 : decode b_LogFs_isName 52 = .ok (.lload_n 0, 1) := by decide +kernel
theorem d_LogFs_isName_53 : decode b_LogFs_isName 53 = .ok (.bipush 8, 2) := by decide +kernel
theorem d_LogFs_isName_55 : decode b_LogFs_isName 55 = .ok (.iload_n 2, 1) := by decide +kernel
theorem d_LogFs_isName_56 : decode b_LogFs_isName 56 = .ok (.imul, 1) := by decide +kernel
theorem d_LogFs_isName_57 : decode b_LogFs_isName 57 = .ok (.lshl, 1) := by decide +kernel
theorem d_LogFs_isName_58 : decode b_LogFs_isName 58 = .ok (.lconst 0, 1) := by decide +kernel
theorem d_LogFs_isName_59 : decode b_LogFs_isName 59 = .ok (.lcmp, 1) := by decide +kernel
theorem d_LogFs_isName_60 : decode b_LogFs_isName 60 = .ok (.ifCond .ne 7, 3) := by decide +kernel
theorem d_LogFs_isName_63 : decode b_LogFs_isName 63 = .ok (.iconst 1, 1) := by decide +kernel
theorem d_LogFs_isName_64 : decode b_LogFs_isName 64 = .ok (.goto 4, 3) := by decide +kernel
theorem d_LogFs_isName_67 : decode b_LogFs_isName 67 = .ok (.iconst 0, 1) := by decide +kernel
theorem d_LogFs_isName_68 : decode b_LogFs_isName 68 = .ok (.ireturn, 1) := by decide +kernel
theorem d_LogFs_byteOf_0 : decode b_LogFs_byteOf 0 = .ok (.lload_n 0, 1) := by decide +kernel
theorem d_LogFs_byteOf_1 : decode b_LogFs_byteOf 1 = .ok (.bipush 8, 2) := by decide +kernel
theorem d_LogFs_byteOf_3 : decode b_LogFs_byteOf 3 = .ok (.bipush 7, 2) := by decide +kernel
theorem d_LogFs_byteOf_5 : decode b_LogFs_byteOf 5 = .ok (.iload_n 2, 1) := by decide +kernel
theorem d_LogFs_byteOf_6 : decode b_LogFs_byteOf 6 = .ok (.isub, 1) := by decide +kernel
theorem d_LogFs_byteOf_7 : decode b_LogFs_byteOf 7 = .ok (.imul, 1) := by decide +kernel
theorem d_LogFs_byteOf_8 : decode b_LogFs_byteOf 8 = .ok (.lushr, 1) := by decide +kernel
theorem d_LogFs_byteOf_9 : decode b_LogFs_byteOf 9 = .ok (.l2i, 1) := by decide +kernel
theorem d_LogFs_byteOf_10 : decode b_LogFs_byteOf 10 = .ok (.sipush 255, 3) := by decide +kernel
theorem d_LogFs_byteOf_13 : decode b_LogFs_byteOf 13 = .ok (.iand, 1) := by decide +kernel
theorem d_LogFs_byteOf_14 : decode b_LogFs_byteOf 14 = .ok (.ireturn, 1) := by decide +kernel
theorem d_LogFs_blocksFor_0 : decode b_LogFs_blocksFor 0 = .ok (.iload_n 0, 1) := by decide +kernel
theorem d_LogFs_blocksFor_1 : decode b_LogFs_blocksFor 1 = .ok (.bipush 64, 2) := by decide +kernel
theorem d_LogFs_blocksFor_3 : decode b_LogFs_blocksFor 3 = .ok (.iadd, 1) := by decide +kernel
theorem d_LogFs_blocksFor_4 : decode b_LogFs_blocksFor 4 = .ok (.iconst 1, 1) := by decide +kernel
theorem d_LogFs_blocksFor_5 : decode b_LogFs_blocksFor 5 = .ok (.isub, 1) := by decide +kernel
theorem d_LogFs_blocksFor_6 : decode b_LogFs_blocksFor 6 = .ok (.bipush 64, 2) := by decide +kernel
theorem d_LogFs_blocksFor_8 : decode b_LogFs_blocksFor 8 = .ok (.idiv, 1) := by decide +kernel
theorem d_LogFs_blocksFor_9 : decode b_LogFs_blocksFor 9 = .ok (.ireturn, 1) := by decide +kernel
theorem d_LogFs_commitIfMany_0 : decode b_LogFs_commitIfMany 0 = .ok (.aload_n 0, 1) := by decide +kernel
theorem d_LogFs_commitIfMany_1 : decode b_LogFs_commitIfMany 1 = .ok (.getfield 19, 3) := by decide +kernel
theorem d_LogFs_commitIfMany_4 : decode b_LogFs_commitIfMany 4 = .ok (.getfield 169, 3) := by decide +kernel
theorem d_LogFs_commitIfMany_7 : decode b_LogFs_commitIfMany 7 = .ok (.bipush 10, 2) := by decide +kernel
theorem d_LogFs_commitIfMany_9 : decode b_LogFs_commitIfMany 9 = .ok (.if_icmp .le 7, 3) := by decide +kernel
theorem d_LogFs_commitIfMany_12 : decode b_LogFs_commitIfMany 12 = .ok (.aload_n 0, 1) := by decide +kernel
theorem d_LogFs_commitIfMany_13 : decode b_LogFs_commitIfMany 13 = .ok (.invokevirtual 116, 3) := by decide +kernel
theorem d_LogFs_commitIfMany_16 : decode b_LogFs_commitIfMany 16 = .ok (.return_, 1) := by decide +kernel
theorem d_LogFs_commit_0 : decode b_LogFs_commit 0 = .ok (.aload_n 0, 1) := by decide +kernel
theorem d_LogFs_commit_1 : decode b_LogFs_commit 1 = .ok (.getfield 19, 3) := by decide +kernel
theorem d_LogFs_commit_4 : decode b_LogFs_commit 4 = .ok (.getfield 169, 3) := by decide +kernel
theorem d_LogFs_commit_7 : decode b_LogFs_commit 7 = .ok (.ifCond .ne 4, 3) := by decide +kernel
theorem d_LogFs_commit_10 : decode b_LogFs_commit 10 = .ok (.return_, 1) := by decide +kernel
theorem d_LogFs_commit_11 : decode b_LogFs_commit 11 = .ok (.aload_n 0, 1) := by decide +kernel
theorem d_LogFs_commit_12 : decode b_LogFs_commit 12 = .ok (.dup, 1) := by decide +kernel
theorem d_LogFs_commit_13 : decode b_LogFs_commit 13 = .ok (.getfield 32, 3) := by decide +kernel
theorem d_LogFs_commit_16 : decode b_LogFs_commit 16 = .ok (.iconst 1, 1) := by decide +kernel
theorem d_LogFs_commit_17 : decode b_LogFs_commit 17 = .ok (.iadd, 1) := by decide +kernel
theorem d_LogFs_commit_18 : decode b_LogFs_commit 18 = .ok (.putfield 32, 3) := by decide +kernel
theorem d_LogFs_commit_21 : decode b_LogFs_commit 21 = .ok (.aload_n 0, 1) := by decide +kernel
theorem d_LogFs_commit_22 : decode b_LogFs_commit 22 = .ok (.getfield 10, 3) := by decide +kernel
theorem d_LogFs_commit_25 : decode b_LogFs_commit 25 = .ok (.aload_n 0, 1) := by decide +kernel
theorem d_LogFs_commit_26 : decode b_LogFs_commit 26 = .ok (.getfield 19, 3) := by decide +kernel
theorem d_LogFs_commit_29 : decode b_LogFs_commit 29 = .ok (.invokevirtual 188, 3) := by decide +kernel
theorem d_LogFs_commit_32 : decode b_LogFs_commit 32 = .ok (.ifCond .ne 13, 3) := by decide +kernel
theorem d_LogFs_commit_35 : decode b_LogFs_commit 35 = .ok (.new 134, 3) := by decide +kernel
theorem d_LogFs_commit_38 : decode b_LogFs_commit 38 = .ok (.dup, 1) := by decide +kernel
theorem d_LogFs_commit_39 : decode b_LogFs_commit 39 = .ok (.ldc 136, 2) := by decide +kernel
theorem d_LogFs_commit_41 : decode b_LogFs_commit 41 = .ok (.invokespecial 138, 3) := by decide +kernel
theorem d_LogFs_commit_44 : decode b_LogFs_commit 44 = .ok (.athrow, 1) := by decide +kernel
theorem d_LogFs_commit_45 : decode b_LogFs_commit 45 = .ok (.aload_n 0, 1) := by decide +kernel
theorem d_LogFs_commit_46 : decode b_LogFs_commit 46 = .ok (.getfield 19, 3) := by decide +kernel
theorem d_LogFs_commit_49 : decode b_LogFs_commit 49 = .ok (.invokevirtual 192, 3) := by decide +kernel
theorem d_LogFs_commit_52 : decode b_LogFs_commit 52 = .ok (.return_, 1) := by decide +kernel
theorem d_LogFs_entryOf_0 : decode b_LogFs_entryOf 0 = .ok (.iload_n 0, 1) := by decide +kernel
theorem d_LogFs_entryOf_1 : decode b_LogFs_entryOf 1 = .ok (.iconst 1, 1) := by decide +kernel
theorem d_LogFs_entryOf_2 : decode b_LogFs_entryOf 2 = .ok (.iadd, 1) := by decide +kernel
theorem d_LogFs_entryOf_3 : decode b_LogFs_entryOf 3 = .ok (.i2l, 1) := by decide +kernel
theorem d_LogFs_entryOf_4 : decode b_LogFs_entryOf 4 = .ok (.bipush 56, 2) := by decide +kernel
theorem d_LogFs_entryOf_6 : decode b_LogFs_entryOf 6 = .ok (.lshl, 1) := by decide +kernel
theorem d_LogFs_entryOf_7 : decode b_LogFs_entryOf 7 = .ok (.lload_n 1, 1) := by decide +kernel
theorem d_LogFs_entryOf_8 : decode b_LogFs_entryOf 8 = .ok (.bipush 8, 2) := by decide +kernel
theorem d_LogFs_entryOf_10 : decode b_LogFs_entryOf 10 = .ok (.lushr, 1) := by decide +kernel
theorem d_LogFs_entryOf_11 : decode b_LogFs_entryOf 11 = .ok (.lor, 1) := by decide +kernel
theorem d_LogFs_entryOf_12 : decode b_LogFs_entryOf 12 = .ok (.lreturn, 1) := by decide +kernel
theorem d_LogFs_link_0 : decode b_LogFs_link 0 = .ok (.aload_n 0, 1) := by decide +kernel
theorem d_LogFs_link_1 : decode b_LogFs_link 1 = .ok (.invokevirtual 44, 3) := by decide +kernel
theorem d_LogFs_link_4 : decode b_LogFs_link 4 = .ok (.aload_n 0, 1) := by decide +kernel
theorem d_LogFs_link_5 : decode b_LogFs_link 5 = .ok (.getfield 28, 3) := by decide +kernel
theorem d_LogFs_link_8 : decode b_LogFs_link 8 = .ok (.iload 4, 2) := by decide +kernel
theorem d_LogFs_link_10 : decode b_LogFs_link 10 = .ok (.invokevirtual 74, 3) := by decide +kernel
theorem d_LogFs_link_13 : decode b_LogFs_link 13 = .ok (.ifCond .eq 30, 3) := by decide +kernel
theorem d_LogFs_link_16 : decode b_LogFs_link 16 = .ok (.aload_n 0, 1) := by decide +kernel
theorem d_LogFs_link_17 : decode b_LogFs_link 17 = .ok (.getfield 28, 3) := by decide +kernel
theorem d_LogFs_link_20 : decode b_LogFs_link 20 = .ok (.iload 4, 2) := by decide +kernel
theorem d_LogFs_link_22 : decode b_LogFs_link 22 = .ok (.invokevirtual 78, 3) := by decide +kernel
theorem d_LogFs_link_25 : decode b_LogFs_link 25 = .ok (.sipush 200, 3) := by decide +kernel
theorem d_LogFs_link_28 : decode b_LogFs_link 28 = .ok (.if_icmp .ge 15, 3) := by decide +kernel
theorem d_LogFs_link_31 : decode b_LogFs_link 31 = .ok (.aload_n 0, 1) := by decide +kernel
theorem d_LogFs_link_32 : decode b_LogFs_link 32 = .ok (.getfield 28, 3) := by decide +kernel
theorem d_LogFs_link_35 : decode b_LogFs_link 35 = .ok (.iload_n 1, 1) := by decide +kernel
theorem d_LogFs_link_36 : decode b_LogFs_link 36 = .ok (.lload_n 2, 1) := by decide +kernel
theorem d_LogFs_link_37 : decode b_LogFs_link 37 = .ok (.invokevirtual 51, 3) := by decide +kernel
theorem d_LogFs_link_40 : decode b_LogFs_link 40 = .ok (.ifCond .ne 5, 3) := by decide +kernel
theorem d_LogFs_link_43 : decode b_LogFs_link 43 = .ok (.iconst 0, 1) := by decide +kernel
theorem d_LogFs_link_44 : decode b_LogFs_link 44 = .ok (.ireturn, 1) := by decide +kernel
theorem d_LogFs_link_45 : decode b_LogFs_link 45 = .ok (.aload_n 0, 1) := by decide +kernel
theorem d_LogFs_link_46 : decode b_LogFs_link 46 = .ok (.invokevirtual 55, 3) := by decide +kernel
theorem d_LogFs_link_49 : decode b_LogFs_link 49 = .ok (.aload_n 0, 1) := by decide +kernel
theorem d_LogFs_link_50 : decode b_LogFs_link 50 = .ok (.getfield 28, 3) := by decide +kernel
theorem d_LogFs_link_53 : decode b_LogFs_link 53 = .ok (.iload 4, 2) := by decide +kernel
theorem d_LogFs_link_55 : decode b_LogFs_link 55 = .ok (.invokevirtual 81, 3) := by decide +kernel
theorem d_LogFs_link_58 : decode b_LogFs_link 58 = .ok (.aload_n 0, 1) := by decide +kernel
theorem d_LogFs_link_59 : decode b_LogFs_link 59 = .ok (.getfield 28, 3) := by decide +kernel
theorem d_LogFs_link_62 : decode b_LogFs_link 62 = .ok (.iload_n 1, 1) := by decide +kernel
theorem d_LogFs_link_63 : decode b_LogFs_link 63 = .ok (.aload_n 0, 1) := by decide +kernel
theorem d_LogFs_link_64 : decode b_LogFs_link 64 = .ok (.getfield 28, 3) := by decide +kernel
theorem d_LogFs_link_67 : decode b_LogFs_link 67 = .ok (.iload_n 1, 1) := by decide +kernel
theorem d_LogFs_link_68 : decode b_LogFs_link 68 = .ok (.invokevirtual 62, 3) := by decide +kernel
theorem d_LogFs_link_71 : decode b_LogFs_link 71 = .ok (.iload 4, 2) := by decide +kernel
theorem d_LogFs_link_73 : decode b_LogFs_link 73 = .ok (.lload_n 2, 1) := by decide +kernel
theorem d_LogFs_link_74 : decode b_LogFs_link 74 = .ok (.invokestatic 66, 3) := by decide +kernel
theorem d_LogFs_link_77 : decode b_LogFs_link 77 = .ok (.bipush 8, 2) := by decide +kernel
theorem d_LogFs_link_79 : decode b_LogFs_link 79 = .ok (.invokevirtual 70, 3) := by decide +kernel
theorem d_LogFs_link_82 : decode b_LogFs_link 82 = .ok (.iconst 1, 1) := by decide +kernel
theorem d_LogFs_link_83 : decode b_LogFs_link 83 = .ok (.ireturn, 1) := by decide +kernel
theorem d_LogFs_unlink_0 : decode b_LogFs_unlink 0 = .ok (.aload_n 0, 1) := by decide +kernel
theorem d_LogFs_unlink_1 : decode b_LogFs_unlink 1 = .ok (.invokevirtual 44, 3) := by decide +kernel
theorem d_LogFs_unlink_4 : decode b_LogFs_unlink 4 = .ok (.aload_n 0, 1) := by decide +kernel
theorem d_LogFs_unlink_5 : decode b_LogFs_unlink 5 = .ok (.getfield 28, 3) := by decide +kernel
theorem d_LogFs_unlink_8 : decode b_LogFs_unlink 8 = .ok (.iload_n 1, 1) := by decide +kernel
theorem d_LogFs_unlink_9 : decode b_LogFs_unlink 9 = .ok (.lload_n 2, 1) := by decide +kernel
theorem d_LogFs_unlink_10 : decode b_LogFs_unlink 10 = .ok (.invokevirtual 85, 3) := by decide +kernel
theorem d_LogFs_unlink_13 : decode b_LogFs_unlink 13 = .ok (.istore 4, 2) := by decide +kernel
theorem d_LogFs_unlink_15 : decode b_LogFs_unlink 15 = .ok (.iload 4, 2) := by decide +kernel
theorem d_LogFs_unlink_17 : decode b_LogFs_unlink 17 = .ok (.iconst (-1), 1) := by decide +kernel
theorem d_LogFs_unlink_18 : decode b_LogFs_unlink 18 = .ok (.if_icmp .ne 5, 3) := by decide +kernel
theorem d_LogFs_unlink_21 : decode b_LogFs_unlink 21 = .ok (.iconst 0, 1) := by decide +kernel
theorem d_LogFs_unlink_22 : decode b_LogFs_unlink 22 = .ok (.ireturn, 1) := by decide +kernel
theorem d_LogFs_unlink_23 : decode b_LogFs_unlink 23 = .ok (.aload_n 0, 1) := by decide +kernel
theorem d_LogFs_unlink_24 : decode b_LogFs_unlink 24 = .ok (.getfield 28, 3) := by decide +kernel
theorem d_LogFs_unlink_27 : decode b_LogFs_unlink 27 = .ok (.iload_n 1, 1) := by decide +kernel
theorem d_LogFs_unlink_28 : decode b_LogFs_unlink 28 = .ok (.iload 4, 2) := by decide +kernel
theorem d_LogFs_unlink_30 : decode b_LogFs_unlink 30 = .ok (.invokevirtual 89, 3) := by decide +kernel
theorem d_LogFs_unlink_33 : decode b_LogFs_unlink 33 = .ok (.istore 5, 2) := by decide +kernel
theorem d_LogFs_unlink_35 : decode b_LogFs_unlink 35 = .ok (.aload_n 0, 1) := by decide +kernel
theorem d_LogFs_unlink_36 : decode b_LogFs_unlink 36 = .ok (.getfield 28, 3) := by decide +kernel
theorem d_LogFs_unlink_39 : decode b_LogFs_unlink 39 = .ok (.iload 5, 2) := by decide +kernel
theorem d_LogFs_unlink_41 : decode b_LogFs_unlink 41 = .ok (.invokevirtual 93, 3) := by decide +kernel
theorem d_LogFs_unlink_44 : decode b_LogFs_unlink 44 = .ok (.ifCond .le 5, 3) := by decide +kernel
theorem d_LogFs_unlink_47 : decode b_LogFs_unlink 47 = .ok (.iconst 0, 1) := by decide +kernel
theorem d_LogFs_unlink_48 : decode b_LogFs_unlink 48 = .ok (.ireturn, 1) := by decide +kernel
theorem d_LogFs_unlink_49 : decode b_LogFs_unlink 49 = .ok (.aload_n 0, 1) := by decide +kernel
theorem d_LogFs_unlink_50 : decode b_LogFs_unlink 50 = .ok (.invokevirtual 55, 3) := by decide +kernel
theorem d_LogFs_unlink_53 : decode b_LogFs_unlink 53 = .ok (.aload_n 0, 1) := by decide +kernel
theorem d_LogFs_unlink_54 : decode b_LogFs_unlink 54 = .ok (.getfield 28, 3) := by decide +kernel
theorem d_LogFs_unlink_57 : decode b_LogFs_unlink 57 = .ok (.iload_n 1, 1) := by decide +kernel
theorem d_LogFs_unlink_58 : decode b_LogFs_unlink 58 = .ok (.iload 4, 2) := by decide +kernel
theorem d_LogFs_unlink_60 : decode b_LogFs_unlink 60 = .ok (.lconst 0, 1) := by decide +kernel
theorem d_LogFs_unlink_61 : decode b_LogFs_unlink 61 = .ok (.bipush 8, 2) := by decide +kernel
theorem d_LogFs_unlink_63 : decode b_LogFs_unlink 63 = .ok (.invokevirtual 70, 3) := by decide +kernel
theorem d_LogFs_unlink_66 : decode b_LogFs_unlink 66 = .ok (.aload_n 0, 1) := by decide +kernel
theorem d_LogFs_unlink_67 : decode b_LogFs_unlink 67 = .ok (.getfield 28, 3) := by decide +kernel
theorem d_LogFs_unlink_70 : decode b_LogFs_unlink 70 = .ok (.iload 5, 2) := by decide +kernel
theorem d_LogFs_unlink_72 : decode b_LogFs_unlink 72 = .ok (.invokevirtual 96, 3) := by decide +kernel
theorem d_LogFs_unlink_75 : decode b_LogFs_unlink 75 = .ok (.iconst 1, 1) := by decide +kernel
theorem d_LogFs_unlink_76 : decode b_LogFs_unlink 76 = .ok (.ireturn, 1) := by decide +kernel
theorem d_LogFs_write_0 : decode b_LogFs_write 0 = .ok (.aload_n 0, 1) := by decide +kernel
theorem d_LogFs_write_1 : decode b_LogFs_write 1 = .ok (.invokevirtual 44, 3) := by decide +kernel
theorem d_LogFs_write_4 : decode b_LogFs_write 4 = .ok (.iload 5, 2) := by decide +kernel
theorem d_LogFs_write_6 : decode b_LogFs_write 6 = .ok (.iconst 1, 1) := by decide +kernel
theorem d_LogFs_write_7 : decode b_LogFs_write 7 = .ok (.if_icmp .lt 24, 3) := by decide +kernel
theorem d_LogFs_write_10 : decode b_LogFs_write 10 = .ok (.iload 5, 2) := by decide +kernel
theorem d_LogFs_write_12 : decode b_LogFs_write 12 = .ok (.bipush 8, 2) := by decide +kernel
theorem d_LogFs_write_14 : decode b_LogFs_write 14 = .ok (.if_icmp .gt 17, 3) := by decide +kernel
theorem d_LogFs_write_17 : decode b_LogFs_write 17 = .ok (.aload_n 0, 1) := by decide +kernel
theorem d_LogFs_write_18 : decode b_LogFs_write 18 = .ok (.getfield 28, 3) := by decide +kernel
theorem d_LogFs_write_21 : decode b_LogFs_write 21 = .ok (.iload_n 1, 1) := by decide +kernel
theorem d_LogFs_write_22 : decode b_LogFs_write 22 = .ok (.iload_n 2, 1) := by decide +kernel
theorem d_LogFs_write_23 : decode b_LogFs_write 23 = .ok (.iload 5, 2) := by decide +kernel
theorem d_LogFs_write_25 : decode b_LogFs_write 25 = .ok (.invokevirtual 99, 3) := by decide +kernel
theorem d_LogFs_write_28 : decode b_LogFs_write 28 = .ok (.ifCond .ne 5, 3) := by decide +kernel
theorem d_LogFs_write_31 : decode b_LogFs_write 31 = .ok (.iconst (-1), 1) := by decide +kernel
theorem d_LogFs_write_32 : decode b_LogFs_write 32 = .ok (.ireturn, 1) := by decide +kernel
theorem d_LogFs_write_33 : decode b_LogFs_write 33 = .ok (.aload_n 0, 1) := by decide +kernel
theorem d_LogFs_write_34 : decode b_LogFs_write 34 = .ok (.invokevirtual 55, 3) := by decide +kernel
theorem d_LogFs_write_37 : decode b_LogFs_write 37 = .ok (.aload_n 0, 1) := by decide +kernel
theorem d_LogFs_write_38 : decode b_LogFs_write 38 = .ok (.getfield 28, 3) := by decide +kernel
theorem d_LogFs_write_41 : decode b_LogFs_write 41 = .ok (.iload_n 1, 1) := by decide +kernel
theorem d_LogFs_write_42 : decode b_LogFs_write 42 = .ok (.iload_n 2, 1) := by decide +kernel
theorem d_LogFs_write_43 : decode b_LogFs_write 43 = .ok (.lload_n 3, 1) := by decide +kernel
theorem d_LogFs_write_44 : decode b_LogFs_write 44 = .ok (.iload 5, 2) := by decide +kernel
theorem d_LogFs_write_46 : decode b_LogFs_write 46 = .ok (.invokevirtual 70, 3) := by decide +kernel
theorem d_LogFs_write_49 : decode b_LogFs_write 49 = .ok (.aload_n 0, 1) := by decide +kernel
theorem d_LogFs_write_50 : decode b_LogFs_write 50 = .ok (.getfield 28, 3) := by decide +kernel
theorem d_LogFs_write_53 : decode b_LogFs_write 53 = .ok (.iload_n 1, 1) := by decide +kernel
theorem d_LogFs_write_54 : decode b_LogFs_write 54 = .ok (.invokevirtual 103, 3) := by decide +kernel
theorem d_LogFs_write_57 : decode b_LogFs_write 57 = .ok (.ireturn, 1) := by decide +kernel
theorem d_LogFs_fill_0 : decode b_LogFs_fill 0 = .ok (.aload_n 0, 1) := by decide +kernel
theorem d_LogFs_fill_1 : decode b_LogFs_fill 1 = .ok (.invokevirtual 44, 3) := by decide +kernel
theorem d_LogFs_fill_4 : decode b_LogFs_fill 4 = .ok (.iload_n 3, 1) := by decide +kernel
theorem d_LogFs_fill_5 : decode b_LogFs_fill 5 = .ok (.ifCond .lt 37, 3) := by decide +kernel
theorem d_LogFs_fill_8 : decode b_LogFs_fill 8 = .ok (.iload_n 3, 1) := by decide +kernel
theorem d_LogFs_fill_9 : decode b_LogFs_fill 9 = .ok (.sipush 255, 3) := by decide +kernel
theorem d_LogFs_fill_12 : decode b_LogFs_fill 12 = .ok (.if_icmp .gt 30, 3) := by decide +kernel
theorem d_LogFs_fill_15 : decode b_LogFs_fill 15 = .ok (.iload 4, 2) := by decide +kernel
theorem d_LogFs_fill_17 : decode b_LogFs_fill 17 = .ok (.iconst 1, 1) := by decide +kernel
theorem d_LogFs_fill_18 : decode b_LogFs_fill 18 = .ok (.if_icmp .lt 24, 3) := by decide +kernel
theorem d_LogFs_fill_21 : decode b_LogFs_fill 21 = .ok (.iload 4, 2) := by decide +kernel
theorem d_LogFs_fill_23 : decode b_LogFs_fill 23 = .ok (.bipush 64, 2) := by decide +kernel
theorem d_LogFs_fill_25 : decode b_LogFs_fill 25 = .ok (.if_icmp .gt 17, 3) := by decide +kernel
theorem d_LogFs_fill_28 : decode b_LogFs_fill 28 = .ok (.aload_n 0, 1) := by decide +kernel
theorem d_LogFs_fill_29 : decode b_LogFs_fill 29 = .ok (.getfield 28, 3) := by decide +kernel
theorem d_LogFs_fill_32 : decode b_LogFs_fill 32 = .ok (.iload_n 1, 1) := by decide +kernel
theorem d_LogFs_fill_33 : decode b_LogFs_fill 33 = .ok (.iload_n 2, 1) := by decide +kernel
theorem d_LogFs_fill_34 : decode b_LogFs_fill 34 = .ok (.iload 4, 2) := by decide +kernel
theorem d_LogFs_fill_36 : decode b_LogFs_fill 36 = .ok (.invokevirtual 99, 3) := by decide +kernel
theorem d_LogFs_fill_39 : decode b_LogFs_fill 39 = .ok (.ifCond .ne 5, 3) := by decide +kernel
theorem d_LogFs_fill_42 : decode b_LogFs_fill 42 = .ok (.iconst (-1), 1) := by decide +kernel
theorem d_LogFs_fill_43 : decode b_LogFs_fill 43 = .ok (.ireturn, 1) := by decide +kernel
theorem d_LogFs_fill_44 : decode b_LogFs_fill 44 = .ok (.aload_n 0, 1) := by decide +kernel
theorem d_LogFs_fill_45 : decode b_LogFs_fill 45 = .ok (.invokevirtual 55, 3) := by decide +kernel
theorem d_LogFs_fill_48 : decode b_LogFs_fill 48 = .ok (.aload_n 0, 1) := by decide +kernel
theorem d_LogFs_fill_49 : decode b_LogFs_fill 49 = .ok (.getfield 28, 3) := by decide +kernel
theorem d_LogFs_fill_52 : decode b_LogFs_fill 52 = .ok (.iload_n 1, 1) := by decide +kernel
theorem d_LogFs_fill_53 : decode b_LogFs_fill 53 = .ok (.iload_n 2, 1) := by decide +kernel
theorem d_LogFs_fill_54 : decode b_LogFs_fill 54 = .ok (.iload_n 3, 1) := by decide +kernel
theorem d_LogFs_fill_55 : decode b_LogFs_fill 55 = .ok (.iload 4, 2) := by decide +kernel
theorem d_LogFs_fill_57 : decode b_LogFs_fill 57 = .ok (.invokevirtual 106, 3) := by decide +kernel
theorem d_LogFs_fill_60 : decode b_LogFs_fill 60 = .ok (.aload_n 0, 1) := by decide +kernel
theorem d_LogFs_fill_61 : decode b_LogFs_fill 61 = .ok (.getfield 28, 3) := by decide +kernel
theorem d_LogFs_fill_64 : decode b_LogFs_fill 64 = .ok (.iload_n 1, 1) := by decide +kernel
theorem d_LogFs_fill_65 : decode b_LogFs_fill 65 = .ok (.invokevirtual 103, 3) := by decide +kernel
theorem d_LogFs_fill_68 : decode b_LogFs_fill 68 = .ok (.ireturn, 1) := by decide +kernel
theorem d_LogFs_truncate_0 : decode b_LogFs_truncate 0 = .ok (.aload_n 0, 1) := by decide +kernel
theorem d_LogFs_truncate_1 : decode b_LogFs_truncate 1 = .ok (.invokevirtual 44, 3) := by decide +kernel
theorem d_LogFs_truncate_4 : decode b_LogFs_truncate 4 = .ok (.aload_n 0, 1) := by decide +kernel
theorem d_LogFs_truncate_5 : decode b_LogFs_truncate 5 = .ok (.getfield 28, 3) := by decide +kernel
theorem d_LogFs_truncate_8 : decode b_LogFs_truncate 8 = .ok (.iload_n 1, 1) := by decide +kernel
theorem d_LogFs_truncate_9 : decode b_LogFs_truncate 9 = .ok (.invokevirtual 74, 3) := by decide +kernel
theorem d_LogFs_truncate_12 : decode b_LogFs_truncate 12 = .ok (.ifCond .eq 14, 3) := by decide +kernel
theorem d_LogFs_truncate_15 : decode b_LogFs_truncate 15 = .ok (.aload_n 0, 1) := by decide +kernel
theorem d_LogFs_truncate_16 : decode b_LogFs_truncate 16 = .ok (.getfield 28, 3) := by decide +kernel
theorem d_LogFs_truncate_19 : decode b_LogFs_truncate 19 = .ok (.iload_n 1, 1) := by decide +kernel
theorem d_LogFs_truncate_20 : decode b_LogFs_truncate 20 = .ok (.invokevirtual 103, 3) := by decide +kernel
theorem d_LogFs_truncate_23 : decode b_LogFs_truncate 23 = .ok (.ifCond .ne 5, 3) := by decide +kernel
theorem d_LogFs_truncate_26 : decode b_LogFs_truncate 26 = .ok (.iconst 0, 1) := by decide +kernel
theorem d_LogFs_truncate_27 : decode b_LogFs_truncate 27 = .ok (.ireturn, 1) := by decide +kernel
theorem d_LogFs_truncate_28 : decode b_LogFs_truncate 28 = .ok (.aload_n 0, 1) := by decide +kernel
theorem d_LogFs_truncate_29 : decode b_LogFs_truncate 29 = .ok (.invokevirtual 55, 3) := by decide +kernel
theorem d_LogFs_truncate_32 : decode b_LogFs_truncate 32 = .ok (.aload_n 0, 1) := by decide +kernel
theorem d_LogFs_truncate_33 : decode b_LogFs_truncate 33 = .ok (.getfield 28, 3) := by decide +kernel
theorem d_LogFs_truncate_36 : decode b_LogFs_truncate 36 = .ok (.iload_n 1, 1) := by decide +kernel
theorem d_LogFs_truncate_37 : decode b_LogFs_truncate 37 = .ok (.invokevirtual 110, 3) := by decide +kernel
theorem d_LogFs_truncate_40 : decode b_LogFs_truncate 40 = .ok (.iconst 1, 1) := by decide +kernel
theorem d_LogFs_truncate_41 : decode b_LogFs_truncate 41 = .ok (.ireturn, 1) := by decide +kernel
theorem d_LogFs_sync_0 : decode b_LogFs_sync 0 = .ok (.aload_n 0, 1) := by decide +kernel
theorem d_LogFs_sync_1 : decode b_LogFs_sync 1 = .ok (.invokevirtual 44, 3) := by decide +kernel
theorem d_LogFs_sync_4 : decode b_LogFs_sync 4 = .ok (.aload_n 0, 1) := by decide +kernel
theorem d_LogFs_sync_5 : decode b_LogFs_sync 5 = .ok (.getfield 10, 3) := by decide +kernel
theorem d_LogFs_sync_8 : decode b_LogFs_sync 8 = .ok (.getfield 113, 3) := by decide +kernel
theorem d_LogFs_sync_11 : decode b_LogFs_sync 11 = .ok (.istore_n 1, 1) := by decide +kernel
theorem d_LogFs_sync_12 : decode b_LogFs_sync 12 = .ok (.aload_n 0, 1) := by decide +kernel
theorem d_LogFs_sync_13 : decode b_LogFs_sync 13 = .ok (.invokevirtual 116, 3) := by decide +kernel
theorem d_LogFs_sync_16 : decode b_LogFs_sync 16 = .ok (.aload_n 0, 1) := by decide +kernel
theorem d_LogFs_sync_17 : decode b_LogFs_sync 17 = .ok (.getfield 10, 3) := by decide +kernel
theorem d_LogFs_sync_20 : decode b_LogFs_sync 20 = .ok (.getfield 113, 3) := by decide +kernel
theorem d_LogFs_sync_23 : decode b_LogFs_sync 23 = .ok (.iload_n 1, 1) := by decide +kernel
theorem d_LogFs_sync_24 : decode b_LogFs_sync 24 = .ok (.isub, 1) := by decide +kernel
theorem d_LogFs_sync_25 : decode b_LogFs_sync 25 = .ok (.ireturn, 1) := by decide +kernel
theorem d_LogFs_mount_0 : decode b_LogFs_mount 0 = .ok (.aload_n 0, 1) := by decide +kernel
theorem d_LogFs_mount_1 : decode b_LogFs_mount 1 = .ok (.getfield 10, 3) := by decide +kernel
theorem d_LogFs_mount_4 : decode b_LogFs_mount 4 = .ok (.iconst 0, 1) := by decide +kernel
theorem d_LogFs_mount_5 : decode b_LogFs_mount 5 = .ok (.putfield 122, 3) := by decide +kernel
theorem d_LogFs_mount_8 : decode b_LogFs_mount 8 = .ok (.aload_n 0, 1) := by decide +kernel
theorem d_LogFs_mount_9 : decode b_LogFs_mount 9 = .ok (.getfield 10, 3) := by decide +kernel
theorem d_LogFs_mount_12 : decode b_LogFs_mount 12 = .ok (.getfield 36, 3) := by decide +kernel
theorem d_LogFs_mount_15 : decode b_LogFs_mount 15 = .ok (.iconst 1, 1) := by decide +kernel
theorem d_LogFs_mount_16 : decode b_LogFs_mount 16 = .ok (.iconst 0, 1) := by decide +kernel
theorem d_LogFs_mount_17 : decode b_LogFs_mount 17 = .ok (.invokevirtual 126, 3) := by decide +kernel
theorem d_LogFs_mount_20 : decode b_LogFs_mount 20 = .ok (.istore_n 1, 1) := by decide +kernel
theorem d_LogFs_mount_21 : decode b_LogFs_mount 21 = .ok (.iload_n 1, 1) := by decide +kernel
theorem d_LogFs_mount_22 : decode b_LogFs_mount 22 = .ok (.ifCond .le 24, 3) := by decide +kernel
theorem d_LogFs_mount_25 : decode b_LogFs_mount 25 = .ok (.aload_n 0, 1) := by decide +kernel
theorem d_LogFs_mount_26 : decode b_LogFs_mount 26 = .ok (.getfield 10, 3) := by decide +kernel
theorem d_LogFs_mount_29 : decode b_LogFs_mount 29 = .ok (.iload_n 1, 1) := by decide +kernel
theorem d_LogFs_mount_30 : decode b_LogFs_mount 30 = .ok (.invokevirtual 131, 3) := by decide +kernel
theorem d_LogFs_mount_33 : decode b_LogFs_mount 33 = .ok (.ifCond .ne 13, 3) := by decide +kernel
theorem d_LogFs_mount_36 : decode b_LogFs_mount 36 = .ok (.new 134, 3) := by decide +kernel
theorem d_LogFs_mount_39 : decode b_LogFs_mount 39 = .ok (.dup, 1) := by decide +kernel
theorem d_LogFs_mount_40 : decode b_LogFs_mount 40 = .ok (.ldc 136, 2) := by decide +kernel
theorem d_LogFs_mount_42 : decode b_LogFs_mount 42 = .ok (.invokespecial 138, 3) := by decide +kernel
theorem d_LogFs_mount_45 : decode b_LogFs_mount 45 = .ok (.athrow, 1) := by decide +kernel
theorem d_LogFs_mount_46 : decode b_LogFs_mount 46 = .ok (.aload_n 0, 1) := by decide +kernel
theorem d_LogFs_mount_47 : decode b_LogFs_mount 47 = .ok (.getfield 19, 3) := by decide +kernel
theorem d_LogFs_mount_50 : decode b_LogFs_mount 50 = .ok (.aload_n 0, 1) := by decide +kernel
theorem d_LogFs_mount_51 : decode b_LogFs_mount 51 = .ok (.getfield 10, 3) := by decide +kernel
theorem d_LogFs_mount_54 : decode b_LogFs_mount 54 = .ok (.getfield 36, 3) := by decide +kernel
theorem d_LogFs_mount_57 : decode b_LogFs_mount 57 = .ok (.invokevirtual 40, 3) := by decide +kernel
theorem d_LogFs_mount_60 : decode b_LogFs_mount 60 = .ok (.iload_n 1, 1) := by decide +kernel
theorem d_LogFs_mount_61 : decode b_LogFs_mount 61 = .ok (.ireturn, 1) := by decide +kernel
theorem d_LogFs_find_0 : decode b_LogFs_find 0 = .ok (.aload_n 0, 1) := by decide +kernel
theorem d_LogFs_find_1 : decode b_LogFs_find 1 = .ok (.invokevirtual 44, 3) := by decide +kernel
theorem d_LogFs_find_4 : decode b_LogFs_find 4 = .ok (.aload_n 0, 1) := by decide +kernel
theorem d_LogFs_find_5 : decode b_LogFs_find 5 = .ok (.getfield 28, 3) := by decide +kernel
theorem d_LogFs_find_8 : decode b_LogFs_find 8 = .ok (.iload_n 1, 1) := by decide +kernel
theorem d_LogFs_find_9 : decode b_LogFs_find 9 = .ok (.lload_n 2, 1) := by decide +kernel
theorem d_LogFs_find_10 : decode b_LogFs_find 10 = .ok (.invokevirtual 85, 3) := by decide +kernel
theorem d_LogFs_find_13 : decode b_LogFs_find 13 = .ok (.istore 4, 2) := by decide +kernel
theorem d_LogFs_find_15 : decode b_LogFs_find 15 = .ok (.iload 4, 2) := by decide +kernel
theorem d_LogFs_find_17 : decode b_LogFs_find 17 = .ok (.iconst (-1), 1) := by decide +kernel
theorem d_LogFs_find_18 : decode b_LogFs_find 18 = .ok (.if_icmp .ne 7, 3) := by decide +kernel
theorem d_LogFs_find_21 : decode b_LogFs_find 21 = .ok (.iconst (-1), 1) := by decide +kernel
theorem d_LogFs_find_22 : decode b_LogFs_find 22 = .ok (.goto 13, 3) := by decide +kernel
theorem d_LogFs_find_25 : decode b_LogFs_find 25 = .ok (.aload_n 0, 1) := by decide +kernel
theorem d_LogFs_find_26 : decode b_LogFs_find 26 = .ok (.getfield 28, 3) := by decide +kernel
theorem d_LogFs_find_29 : decode b_LogFs_find 29 = .ok (.iload_n 1, 1) := by decide +kernel
theorem d_LogFs_find_30 : decode b_LogFs_find 30 = .ok (.iload 4, 2) := by decide +kernel
theorem d_LogFs_find_32 : decode b_LogFs_find 32 = .ok (.invokevirtual 89, 3) := by decide +kernel
theorem d_LogFs_find_35 : decode b_LogFs_find 35 = .ok (.ireturn, 1) := by decide +kernel
theorem d_LogFs_read_0 : decode b_LogFs_read 0 = .ok (.aload_n 0, 1) := by decide +kernel
theorem d_LogFs_read_1 : decode b_LogFs_read 1 = .ok (.invokevirtual 44, 3) := by decide +kernel
theorem d_LogFs_read_4 : decode b_LogFs_read 4 = .ok (.iload_n 2, 1) := by decide +kernel
theorem d_LogFs_read_5 : decode b_LogFs_read 5 = .ok (.ifCond .lt 15, 3) := by decide +kernel
theorem d_LogFs_read_8 : decode b_LogFs_read 8 = .ok (.iload_n 2, 1) := by decide +kernel
theorem d_LogFs_read_9 : decode b_LogFs_read 9 = .ok (.aload_n 0, 1) := by decide +kernel
theorem d_LogFs_read_10 : decode b_LogFs_read 10 = .ok (.getfield 28, 3) := by decide +kernel
theorem d_LogFs_read_13 : decode b_LogFs_read 13 = .ok (.iload_n 1, 1) := by decide +kernel
theorem d_LogFs_read_14 : decode b_LogFs_read 14 = .ok (.invokevirtual 103, 3) := by decide +kernel
theorem d_LogFs_read_17 : decode b_LogFs_read 17 = .ok (.if_icmp .lt 13, 3) := by decide +kernel
theorem d_LogFs_read_20 : decode b_LogFs_read 20 = .ok (.new 141, 3) := by decide +kernel
theorem d_LogFs_read_23 : decode b_LogFs_read 23 = .ok (.dup, 1) := by decide +kernel
theorem d_LogFs_read_24 : decode b_LogFs_read 24 = .ok (.ldc 143, 2) := by decide +kernel
theorem d_LogFs_read_26 : decode b_LogFs_read 26 = .ok (.invokespecial 145, 3) := by decide +kernel
theorem d_LogFs_read_29 : decode b_LogFs_read 29 = .ok (.athrow, 1) := by decide +kernel
theorem d_LogFs_read_30 : decode b_LogFs_read 30 = .ok (.aload_n 0, 1) := by decide +kernel
theorem d_LogFs_read_31 : decode b_LogFs_read 31 = .ok (.getfield 28, 3) := by decide +kernel
theorem d_LogFs_read_34 : decode b_LogFs_read 34 = .ok (.iload_n 1, 1) := by decide +kernel
theorem d_LogFs_read_35 : decode b_LogFs_read 35 = .ok (.iload_n 2, 1) := by decide +kernel
theorem d_LogFs_read_36 : decode b_LogFs_read 36 = .ok (.invokevirtual 146, 3) := by decide +kernel
theorem d_LogFs_read_39 : decode b_LogFs_read 39 = .ok (.ireturn, 1) := by decide +kernel
theorem d_LogFs_look_0 : decode b_LogFs_look 0 = .ok (.aload_n 0, 1) := by decide +kernel
theorem d_LogFs_look_1 : decode b_LogFs_look 1 = .ok (.invokevirtual 44, 3) := by decide +kernel
theorem d_LogFs_look_4 : decode b_LogFs_look 4 = .ok (.iload_n 1, 1) := by decide +kernel
theorem d_LogFs_look_5 : decode b_LogFs_look 5 = .ok (.invokestatic 149, 3) := by decide +kernel
theorem d_LogFs_look_8 : decode b_LogFs_look 8 = .ok (.ifCond .ne 13, 3) := by decide +kernel
theorem d_LogFs_look_11 : decode b_LogFs_look 11 = .ok (.new 141, 3) := by decide +kernel
theorem d_LogFs_look_14 : decode b_LogFs_look 14 = .ok (.dup, 1) := by decide +kernel
theorem d_LogFs_look_15 : decode b_LogFs_look 15 = .ok (.ldc 152, 2) := by decide +kernel
theorem d_LogFs_look_17 : decode b_LogFs_look 17 = .ok (.invokespecial 145, 3) := by decide +kernel
theorem d_LogFs_look_20 : decode b_LogFs_look 20 = .ok (.athrow, 1) := by decide +kernel
theorem d_LogFs_look_21 : decode b_LogFs_look 21 = .ok (.iload_n 2, 1) := by decide +kernel
theorem d_LogFs_look_22 : decode b_LogFs_look 22 = .ok (.tableswitch 82 0 4 #[34, 43, 52, 61, 73], 34) := by decide +kernel
theorem d_LogFs_look_56 : decode b_LogFs_look 56 = .ok (.aload_n 0, 1) := by decide +kernel
theorem d_LogFs_look_57 : decode b_LogFs_look 57 = .ok (.getfield 28, 3) := by decide +kernel
theorem d_LogFs_look_60 : decode b_LogFs_look 60 = .ok (.iload_n 1, 1) := by decide +kernel
theorem d_LogFs_look_61 : decode b_LogFs_look 61 = .ok (.invokevirtual 154, 3) := by decide +kernel
theorem d_LogFs_look_64 : decode b_LogFs_look 64 = .ok (.ireturn, 1) := by decide +kernel
theorem d_LogFs_look_65 : decode b_LogFs_look 65 = .ok (.aload_n 0, 1) := by decide +kernel
theorem d_LogFs_look_66 : decode b_LogFs_look 66 = .ok (.getfield 28, 3) := by decide +kernel
theorem d_LogFs_look_69 : decode b_LogFs_look 69 = .ok (.iload_n 1, 1) := by decide +kernel
theorem d_LogFs_look_70 : decode b_LogFs_look 70 = .ok (.invokevirtual 78, 3) := by decide +kernel
theorem d_LogFs_look_73 : decode b_LogFs_look 73 = .ok (.ireturn, 1) := by decide +kernel
theorem d_LogFs_look_74 : decode b_LogFs_look 74 = .ok (.aload_n 0, 1) := by decide +kernel
theorem d_LogFs_look_75 : decode b_LogFs_look 75 = .ok (.getfield 28, 3) := by decide +kernel
theorem d_LogFs_look_78 : decode b_LogFs_look 78 = .ok (.iload_n 1, 1) := by decide +kernel
theorem d_LogFs_look_79 : decode b_LogFs_look 79 = .ok (.invokevirtual 103, 3) := by decide +kernel
theorem d_LogFs_look_82 : decode b_LogFs_look 82 = .ok (.ireturn, 1) := by decide +kernel
theorem d_LogFs_look_83 : decode b_LogFs_look 83 = .ok (.aload_n 0, 1) := by decide +kernel
theorem d_LogFs_look_84 : decode b_LogFs_look 84 = .ok (.getfield 28, 3) := by decide +kernel
theorem d_LogFs_look_87 : decode b_LogFs_look 87 = .ok (.iload_n 1, 1) := by decide +kernel
theorem d_LogFs_look_88 : decode b_LogFs_look 88 = .ok (.invokevirtual 103, 3) := by decide +kernel
theorem d_LogFs_look_91 : decode b_LogFs_look 91 = .ok (.invokestatic 157, 3) := by decide +kernel
theorem d_LogFs_look_94 : decode b_LogFs_look 94 = .ok (.ireturn, 1) := by decide +kernel
theorem d_LogFs_look_95 : decode b_LogFs_look 95 = .ok (.aload_n 0, 1) := by decide +kernel
theorem d_LogFs_look_96 : decode b_LogFs_look 96 = .ok (.getfield 28, 3) := by decide +kernel
theorem d_LogFs_look_99 : decode b_LogFs_look 99 = .ok (.iload_n 1, 1) := by decide +kernel
theorem d_LogFs_look_100 : decode b_LogFs_look 100 = .ok (.invokevirtual 93, 3) := by decide +kernel
theorem d_LogFs_look_103 : decode b_LogFs_look 103 = .ok (.ireturn, 1) := by decide +kernel
theorem d_LogFs_look_104 : decode b_LogFs_look 104 = .ok (.new 141, 3) := by decide +kernel
theorem d_LogFs_look_107 : decode b_LogFs_look 107 = .ok (.dup, 1) := by decide +kernel
theorem d_LogFs_look_108 : decode b_LogFs_look 108 = .ok (.ldc 160, 2) := by decide +kernel
theorem d_LogFs_look_110 : decode b_LogFs_look 110 = .ok (.invokespecial 145, 3) := by decide +kernel
theorem d_LogFs_look_113 : decode b_LogFs_look 113 = .ok (.athrow, 1) := by decide +kernel
theorem d_LogFs_disk_0 : decode b_LogFs_disk 0 = .ok (.iload_n 1, 1) := by decide +kernel
theorem d_LogFs_disk_1 : decode b_LogFs_disk 1 = .ok (.iload_n 2, 1) := by decide +kernel
theorem d_LogFs_disk_2 : decode b_LogFs_disk 2 = .ok (.invokestatic 162, 3) := by decide +kernel
theorem d_LogFs_disk_5 : decode b_LogFs_disk 5 = .ok (.aload_n 0, 1) := by decide +kernel
theorem d_LogFs_disk_6 : decode b_LogFs_disk 6 = .ok (.getfield 10, 3) := by decide +kernel
theorem d_LogFs_disk_9 : decode b_LogFs_disk 9 = .ok (.getfield 36, 3) := by decide +kernel
theorem d_LogFs_disk_12 : decode b_LogFs_disk 12 = .ok (.iload_n 1, 1) := by decide +kernel
theorem d_LogFs_disk_13 : decode b_LogFs_disk 13 = .ok (.iload_n 2, 1) := by decide +kernel
theorem d_LogFs_disk_14 : decode b_LogFs_disk 14 = .ok (.invokevirtual 126, 3) := by decide +kernel
theorem d_LogFs_disk_17 : decode b_LogFs_disk 17 = .ok (.ireturn, 1) := by decide +kernel
theorem d_LogFs_requireByte_0 : decode b_LogFs_requireByte 0 = .ok (.iload_n 0, 1) := by decide +kernel
theorem d_LogFs_requireByte_1 : decode b_LogFs_requireByte 1 = .ok (.ifCond .lt 20, 3) := by decide +kernel
theorem d_LogFs_requireByte_4 : decode b_LogFs_requireByte 4 = .ok (.iload_n 0, 1) := by decide +kernel
theorem d_LogFs_requireByte_5 : decode b_LogFs_requireByte 5 = .ok (.sipush 128, 3) := by decide +kernel
theorem d_LogFs_requireByte_8 : decode b_LogFs_requireByte 8 = .ok (.if_icmp .ge 13, 3) := by decide +kernel
theorem d_LogFs_requireByte_11 : decode b_LogFs_requireByte 11 = .ok (.iload_n 1, 1) := by decide +kernel
theorem d_LogFs_requireByte_12 : decode b_LogFs_requireByte 12 = .ok (.ifCond .lt 9, 3) := by decide +kernel
theorem d_LogFs_requireByte_15 : decode b_LogFs_requireByte 15 = .ok (.iload_n 1, 1) := by decide +kernel
theorem d_LogFs_requireByte_16 : decode b_LogFs_requireByte 16 = .ok (.bipush 64, 2) := by decide +kernel
theorem d_LogFs_requireByte_18 : decode b_LogFs_requireByte 18 = .ok (.if_icmp .lt 13, 3) := by decide +kernel
theorem d_LogFs_requireByte_21 : decode b_LogFs_requireByte 21 = .ok (.new 141, 3) := by decide +kernel
theorem d_LogFs_requireByte_24 : decode b_LogFs_requireByte 24 = .ok (.dup, 1) := by decide +kernel
theorem d_LogFs_requireByte_25 : decode b_LogFs_requireByte 25 = .ok (.ldc 186, 2) := by decide +kernel
theorem d_LogFs_requireByte_27 : decode b_LogFs_requireByte 27 = .ok (.invokespecial 145, 3) := by decide +kernel
theorem d_LogFs_requireByte_30 : decode b_LogFs_requireByte 30 = .ok (.athrow, 1) := by decide +kernel
theorem d_LogFs_requireByte_31 : decode b_LogFs_requireByte 31 = .ok (.return_, 1) := by decide +kernel
theorem d_LogFs_memory_0 : decode b_LogFs_memory 0 = .ok (.aload_n 0, 1) := by decide +kernel
theorem d_LogFs_memory_1 : decode b_LogFs_memory 1 = .ok (.invokevirtual 44, 3) := by decide +kernel
theorem d_LogFs_memory_4 : decode b_LogFs_memory 4 = .ok (.iload_n 1, 1) := by decide +kernel
theorem d_LogFs_memory_5 : decode b_LogFs_memory 5 = .ok (.iload_n 2, 1) := by decide +kernel
theorem d_LogFs_memory_6 : decode b_LogFs_memory 6 = .ok (.invokestatic 162, 3) := by decide +kernel
theorem d_LogFs_memory_9 : decode b_LogFs_memory 9 = .ok (.aload_n 0, 1) := by decide +kernel
theorem d_LogFs_memory_10 : decode b_LogFs_memory 10 = .ok (.getfield 19, 3) := by decide +kernel
theorem d_LogFs_memory_13 : decode b_LogFs_memory 13 = .ok (.getfield 165, 3) := by decide +kernel
theorem d_LogFs_memory_16 : decode b_LogFs_memory 16 = .ok (.iload_n 1, 1) := by decide +kernel
theorem d_LogFs_memory_17 : decode b_LogFs_memory 17 = .ok (.iload_n 2, 1) := by decide +kernel
theorem d_LogFs_memory_18 : decode b_LogFs_memory 18 = .ok (.invokevirtual 126, 3) := by decide +kernel
theorem d_LogFs_memory_21 : decode b_LogFs_memory 21 = .ok (.ireturn, 1) := by decide +kernel
theorem d_Volume_init_0 : decode b_Volume_init 0 = .ok (.aload_n 0, 1) := by decide +kernel
theorem d_Volume_init_1 : decode b_Volume_init 1 = .ok (.invokespecial 3, 3) := by decide +kernel
theorem d_Volume_init_4 : decode b_Volume_init 4 = .ok (.aload_n 0, 1) := by decide +kernel
theorem d_Volume_init_5 : decode b_Volume_init 5 = .ok (.aload_n 1, 1) := by decide +kernel
theorem d_Volume_init_6 : decode b_Volume_init 6 = .ok (.putfield 9, 3) := by decide +kernel
theorem d_Volume_init_9 : decode b_Volume_init 9 = .ok (.aload_n 0, 1) := by decide +kernel
theorem d_Volume_init_10 : decode b_Volume_init 10 = .ok (.aload_n 1, 1) := by decide +kernel
theorem d_Volume_init_11 : decode b_Volume_init 11 = .ok (.getfield 15, 3) := by decide +kernel
theorem d_Volume_init_14 : decode b_Volume_init 14 = .ok (.putfield 21, 3) := by decide +kernel
theorem d_Volume_init_17 : decode b_Volume_init 17 = .ok (.return_, 1) := by decide +kernel
theorem d_Volume_freeBlocks_0 : decode b_Volume_freeBlocks 0 = .ok (.sipush 128, 3) := by decide +kernel
theorem d_Volume_freeBlocks_3 : decode b_Volume_freeBlocks 3 = .ok (.istore_n 1, 1) := by decide +kernel
theorem d_Volume_freeBlocks_4 : decode b_Volume_freeBlocks 4 = .ok (.iconst 0, 1) := by decide +kernel
theorem d_Volume_freeBlocks_5 : decode b_Volume_freeBlocks 5 = .ok (.istore_n 2, 1) := by decide +kernel
theorem d_Volume_freeBlocks_6 : decode b_Volume_freeBlocks 6 = .ok (.iload_n 2, 1) := by decide +kernel
theorem d_Volume_freeBlocks_7 : decode b_Volume_freeBlocks 7 = .ok (.bipush 16, 2) := by decide +kernel
theorem d_Volume_freeBlocks_9 : decode b_Volume_freeBlocks 9 = .ok (.if_icmp .ge 25, 3) := by decide +kernel
theorem d_Volume_freeBlocks_12 : decode b_Volume_freeBlocks 12 = .ok (.iload_n 1, 1) := by decide +kernel
theorem d_Volume_freeBlocks_13 : decode b_Volume_freeBlocks 13 = .ok (.aload_n 0, 1) := by decide +kernel
theorem d_Volume_freeBlocks_14 : decode b_Volume_freeBlocks 14 = .ok (.getfield 21, 3) := by decide +kernel
theorem d_Volume_freeBlocks_17 : decode b_Volume_freeBlocks 17 = .ok (.bipush 25, 2) := by decide +kernel
theorem d_Volume_freeBlocks_19 : decode b_Volume_freeBlocks 19 = .ok (.iload_n 2, 1) := by decide +kernel
theorem d_Volume_freeBlocks_20 : decode b_Volume_freeBlocks 20 = .ok (.invokevirtual 30, 3) := by decide +kernel
theorem d_Volume_freeBlocks_23 : decode b_Volume_freeBlocks 23 = .ok (.invokestatic 35, 3) := by decide +kernel
theorem d_Volume_freeBlocks_26 : decode b_Volume_freeBlocks 26 = .ok (.isub, 1) := by decide +kernel
theorem d_Volume_freeBlocks_27 : decode b_Volume_freeBlocks 27 = .ok (.istore_n 1, 1) := by decide +kernel
theorem d_Volume_freeBlocks_28 : decode b_Volume_freeBlocks 28 = .ok (.iinc 2 1, 3) := by decide +kernel
theorem d_Volume_freeBlocks_31 : decode b_Volume_freeBlocks 31 = .ok (.goto (-25), 3) := by decide +kernel
theorem d_Volume_freeBlocks_34 : decode b_Volume_freeBlocks 34 = .ok (.iload_n 1, 1) := by decide +kernel
theorem d_Volume_freeBlocks_35 : decode b_Volume_freeBlocks 35 = .ok (.ireturn, 1) := by decide +kernel
theorem d_Volume_freeInodes_0 : decode b_Volume_freeInodes 0 = .ok (.iconst 0, 1) := by decide +kernel
theorem d_Volume_freeInodes_1 : decode b_Volume_freeInodes 1 = .ok (.istore_n 1, 1) := by decide +kernel
theorem d_Volume_freeInodes_2 : decode b_Volume_freeInodes 2 = .ok (.iconst 0, 1) := by decide +kernel
theorem d_Volume_freeInodes_3 : decode b_Volume_freeInodes 3 = .ok (.istore_n 2, 1) := by decide +kernel
theorem d_Volume_freeInodes_4 : decode b_Volume_freeInodes 4 = .ok (.iload_n 2, 1) := by decide +kernel
theorem d_Volume_freeInodes_5 : decode b_Volume_freeInodes 5 = .ok (.bipush 32, 2) := by decide +kernel
theorem d_Volume_freeInodes_7 : decode b_Volume_freeInodes 7 = .ok (.if_icmp .ge 20, 3) := by decide +kernel
theorem d_Volume_freeInodes_10 : decode b_Volume_freeInodes 10 = .ok (.aload_n 0, 1) := by decide +kernel
theorem d_Volume_freeInodes_11 : decode b_Volume_freeInodes 11 = .ok (.iload_n 2, 1) := by decide +kernel
theorem d_Volume_freeInodes_12 : decode b_Volume_freeInodes 12 = .ok (.invokevirtual 26, 3) := by decide +kernel
theorem d_Volume_freeInodes_15 : decode b_Volume_freeInodes 15 = .ok (.ifCond .ne 6, 3) := by decide +kernel
theorem d_Volume_freeInodes_18 : decode b_Volume_freeInodes 18 = .ok (.iinc 1 1, 3) := by decide +kernel
theorem d_Volume_freeInodes_21 : decode b_Volume_freeInodes 21 = .ok (.iinc 2 1, 3) := by decide +kernel
theorem d_Volume_freeInodes_24 : decode b_Volume_freeInodes 24 = .ok (.goto (-20), 3) := by decide +kernel
theorem d_Volume_freeInodes_27 : decode b_Volume_freeInodes 27 = .ok (.iload_n 1, 1) := by decide +kernel
theorem d_Volume_freeInodes_28 : decode b_Volume_freeInodes 28 = .ok (.ireturn, 1) := by decide +kernel
theorem d_Volume_type_0 : decode b_Volume_type 0 = .ok (.aload_n 0, 1) := by decide +kernel
theorem d_Volume_type_1 : decode b_Volume_type 1 = .ok (.iload_n 1, 1) := by decide +kernel
theorem d_Volume_type_2 : decode b_Volume_type 2 = .ok (.iconst 0, 1) := by decide +kernel
theorem d_Volume_type_3 : decode b_Volume_type 3 = .ok (.invokevirtual 22, 3) := by decide +kernel
theorem d_Volume_type_6 : decode b_Volume_type 6 = .ok (.ireturn, 1) := by decide +kernel
theorem d_Volume_inodeByte_0 : decode b_Volume_inodeByte 0 = .ok (.iload_n 1, 1) := by decide +kernel
theorem d_Volume_inodeByte_1 : decode b_Volume_inodeByte 1 = .ok (.invokestatic 100, 3) := by decide +kernel
theorem d_Volume_inodeByte_4 : decode b_Volume_inodeByte 4 = .ok (.ifCond .ne 5, 3) := by decide +kernel
theorem d_Volume_inodeByte_7 : decode b_Volume_inodeByte 7 = .ok (.iconst 0, 1) := by decide +kernel
theorem d_Volume_inodeByte_8 : decode b_Volume_inodeByte 8 = .ok (.ireturn, 1) := by decide +kernel
theorem d_Volume_inodeByte_9 : decode b_Volume_inodeByte 9 = .ok (.aload_n 0, 1) := by decide +kernel
theorem d_Volume_inodeByte_10 : decode b_Volume_inodeByte 10 = .ok (.getfield 21, 3) := by decide +kernel
theorem d_Volume_inodeByte_13 : decode b_Volume_inodeByte 13 = .ok (.bipush 17, 2) := by decide +kernel
theorem d_Volume_inodeByte_15 : decode b_Volume_inodeByte 15 = .ok (.iload_n 1, 1) := by decide +kernel
theorem d_Volume_inodeByte_16 : decode b_Volume_inodeByte 16 = .ok (.iconst 4, 1) := by decide +kernel
theorem d_Volume_inodeByte_17 : decode b_Volume_inodeByte 17 = .ok (.idiv, 1) := by decide +kernel
theorem d_Volume_inodeByte_18 : decode b_Volume_inodeByte 18 = .ok (.iadd, 1) := by decide +kernel
theorem d_Volume_inodeByte_19 : decode b_Volume_inodeByte 19 = .ok (.iload_n 1, 1) := by decide +kernel
theorem d_Volume_inodeByte_20 : decode b_Volume_inodeByte 20 = .ok (.iconst 4, 1) := by decide +kernel
theorem d_Volume_inodeByte_21 : decode b_Volume_inodeByte 21 = .ok (.irem, 1) := by decide +kernel
theorem d_Volume_inodeByte_22 : decode b_Volume_inodeByte 22 = .ok (.bipush 16, 2) := by decide +kernel
theorem d_Volume_inodeByte_24 : decode b_Volume_inodeByte 24 = .ok (.imul, 1) := by decide +kernel
theorem d_Volume_inodeByte_25 : decode b_Volume_inodeByte 25 = .ok (.iload_n 2, 1) := by decide +kernel
theorem d_Volume_inodeByte_26 : decode b_Volume_inodeByte 26 = .ok (.iadd, 1) := by decide +kernel
theorem d_Volume_inodeByte_27 : decode b_Volume_inodeByte 27 = .ok (.invokevirtual 30, 3) := by decide +kernel
theorem d_Volume_inodeByte_30 : decode b_Volume_inodeByte 30 = .ok (.ireturn, 1) := by decide +kernel
theorem d_Volume_leastFreeInode_0 : decode b_Volume_leastFreeInode 0 = .ok (.iconst 0, 1) := by decide +kernel
theorem d_Volume_leastFreeInode_1 : decode b_Volume_leastFreeInode 1 = .ok (.istore_n 1, 1) := by decide +kernel
theorem d_Volume_leastFreeInode_2 : decode b_Volume_leastFreeInode 2 = .ok (.iload_n 1, 1) := by decide +kernel
theorem d_Volume_leastFreeInode_3 : decode b_Volume_leastFreeInode 3 = .ok (.bipush 32, 2) := by decide +kernel
theorem d_Volume_leastFreeInode_5 : decode b_Volume_leastFreeInode 5 = .ok (.if_icmp .ge 19, 3) := by decide +kernel
theorem d_Volume_leastFreeInode_8 : decode b_Volume_leastFreeInode 8 = .ok (.aload_n 0, 1) := by decide +kernel
theorem d_Volume_leastFreeInode_9 : decode b_Volume_leastFreeInode 9 = .ok (.iload_n 1, 1) := by decide +kernel
theorem d_Volume_leastFreeInode_10 : decode b_Volume_leastFreeInode 10 = .ok (.invokevirtual 26, 3) := by decide +kernel
theorem d_Volume_leastFreeInode_13 : decode b_Volume_leastFreeInode 13 = .ok (.ifCond .ne 5, 3) := by decide +kernel
theorem d_Volume_leastFreeInode_16 : decode b_Volume_leastFreeInode 16 = .ok (.iload_n 1, 1) := by decide +kernel
theorem d_Volume_leastFreeInode_17 : decode b_Volume_leastFreeInode 17 = .ok (.ireturn, 1) := by decide +kernel
theorem d_Volume_leastFreeInode_18 : decode b_Volume_leastFreeInode 18 = .ok (.iinc 1 1, 3) := by decide +kernel
theorem d_Volume_leastFreeInode_21 : decode b_Volume_leastFreeInode 21 = .ok (.goto (-19), 3) := by decide +kernel
theorem d_Volume_leastFreeInode_24 : decode b_Volume_leastFreeInode 24 = .ok (.iconst (-1), 1) := by decide +kernel
theorem d_Volume_leastFreeInode_25 : decode b_Volume_leastFreeInode 25 = .ok (.ireturn, 1) := by decide +kernel
theorem d_Volume_canEnter_0 : decode b_Volume_canEnter 0 = .ok (.aload_n 0, 1) := by decide +kernel
theorem d_Volume_canEnter_1 : decode b_Volume_canEnter 1 = .ok (.iload_n 1, 1) := by decide +kernel
theorem d_Volume_canEnter_2 : decode b_Volume_canEnter 2 = .ok (.invokevirtual 43, 3) := by decide +kernel
theorem d_Volume_canEnter_5 : decode b_Volume_canEnter 5 = .ok (.ifCond .eq 40, 3) := by decide +kernel
theorem d_Volume_canEnter_8 : decode b_Volume_canEnter 8 = .ok (.lload_n 2, 1) := by decide +kernel
theorem d_Volume_canEnter_9 : decode b_Volume_canEnter 9 = .ok (.invokestatic 47, 3) := by decide +kernel
theorem d_Volume_canEnter_12 : decode b_Volume_canEnter 12 = .ok (.ifCond .eq 33, 3) := by decide +kernel
theorem d_Volume_canEnter_15 : decode b_Volume_canEnter 15 = .ok (.aload_n 0, 1) := by decide +kernel
theorem d_Volume_canEnter_16 : decode b_Volume_canEnter 16 = .ok (.iload_n 1, 1) := by decide +kernel
theorem d_Volume_canEnter_17 : decode b_Volume_canEnter 17 = .ok (.lload_n 2, 1) := by decide +kernel
theorem d_Volume_canEnter_18 : decode b_Volume_canEnter 18 = .ok (.invokevirtual 62, 3) := by decide +kernel
theorem d_Volume_canEnter_21 : decode b_Volume_canEnter 21 = .ok (.iconst (-1), 1) := by decide +kernel
theorem d_Volume_canEnter_22 : decode b_Volume_canEnter 22 = .ok (.if_icmp .ne 23, 3) := by decide +kernel
theorem d_Volume_canEnter_25 : decode b_Volume_canEnter 25 = .ok (.aload_n 0, 1) := by decide +kernel
theorem d_Volume_canEnter_26 : decode b_Volume_canEnter 26 = .ok (.iload_n 1, 1) := by decide +kernel
theorem d_Volume_canEnter_27 : decode b_Volume_canEnter 27 = .ok (.aload_n 0, 1) := by decide +kernel
theorem d_Volume_canEnter_28 : decode b_Volume_canEnter 28 = .ok (.iload_n 1, 1) := by decide +kernel
theorem d_Volume_canEnter_29 : decode b_Volume_canEnter 29 = .ok (.invokevirtual 66, 3) := by decide +kernel
theorem d_Volume_canEnter_32 : decode b_Volume_canEnter 32 = .ok (.bipush 8, 2) := by decide +kernel
theorem d_Volume_canEnter_34 : decode b_Volume_canEnter 34 = .ok (.iadd, 1) := by decide +kernel
theorem d_Volume_canEnter_35 : decode b_Volume_canEnter 35 = .ok (.invokevirtual 69, 3) := by decide +kernel
theorem d_Volume_canEnter_38 : decode b_Volume_canEnter 38 = .ok (.ifCond .eq 7, 3) := by decide +kernel
theorem d_Volume_canEnter_41 : decode b_Volume_canEnter 41 = .ok (.iconst 1, 1) := by decide +kernel
theorem d_Volume_canEnter_42 : decode b_Volume_canEnter 42 = .ok (.goto 4, 3) := by decide +kernel
theorem d_Volume_canEnter_45 : decode b_Volume_canEnter 45 = .ok (.iconst 0, 1) := by decide +kernel
theorem d_Volume_canEnter_46 : decode b_Volume_canEnter 46 = .ok (.ireturn, 1) := by decide +kernel
theorem d_Volume_isDirectory_0 : decode b_Volume_isDirectory 0 = .ok (.aload_n 0, 1) := by decide +kernel
theorem d_Volume_isDirectory_1 : decode b_Volume_isDirectory 1 = .ok (.iload_n 1, 1) := by decide +kernel
theorem d_Volume_isDirectory_2 : decode b_Volume_isDirectory 2 = .ok (.invokevirtual 26, 3) := by decide +kernel
theorem d_Volume_isDirectory_5 : decode b_Volume_isDirectory 5 = .ok (.iconst 2, 1) := by decide +kernel
theorem d_Volume_isDirectory_6 : decode b_Volume_isDirectory 6 = .ok (.if_icmp .ne 7, 3) := by decide +kernel
theorem d_Volume_isDirectory_9 : decode b_Volume_isDirectory 9 = .ok (.iconst 1, 1) := by decide +kernel
theorem d_Volume_isDirectory_10 : decode b_Volume_isDirectory 10 = .ok (.goto 4, 3) := by decide +kernel
theorem d_Volume_isDirectory_13 : decode b_Volume_isDirectory 13 = .ok (.iconst 0, 1) := by decide +kernel
theorem d_Volume_isDirectory_14 : decode b_Volume_isDirectory 14 = .ok (.ireturn, 1) := by decide +kernel
theorem d_Volume_placeOf_0 : decode b_Volume_placeOf 0 = .ok (.aload_n 0, 1) := by decide +kernel
theorem d_Volume_placeOf_1 : decode b_Volume_placeOf 1 = .ok (.iload_n 1, 1) := by decide +kernel
theorem d_Volume_placeOf_2 : decode b_Volume_placeOf 2 = .ok (.invokevirtual 43, 3) := by decide +kernel
theorem d_Volume_placeOf_5 : decode b_Volume_placeOf 5 = .ok (.ifCond .eq 10, 3) := by decide +kernel
theorem d_Volume_placeOf_8 : decode b_Volume_placeOf 8 = .ok (.lload_n 2, 1) := by decide +kernel
theorem d_Volume_placeOf_9 : decode b_Volume_placeOf 9 = .ok (.invokestatic 47, 3) := by decide +kernel
theorem d_Volume_placeOf_12 : decode b_Volume_placeOf 12 = .ok (.ifCond .ne 5, 3) := by decide +kernel
theorem d_Volume_placeOf_15 : decode b_Volume_placeOf 15 = .ok (.iconst (-1), 1) := by decide +kernel
theorem d_Volume_placeOf_16 : decode b_Volume_placeOf 16 = .ok (.ireturn, 1) := by decide +kernel
theorem d_Volume_placeOf_17 : decode b_Volume_placeOf 17 = .ok (.aload_n 0, 1) := by decide +kernel
theorem d_Volume_placeOf_18 : decode b_Volume_placeOf 18 = .ok (.iload_n 1, 1) := by decide +kernel
theorem d_Volume_placeOf_19 : decode b_Volume_placeOf 19 = .ok (.invokevirtual 51, 3) := by decide +kernel
theorem d_Volume_placeOf_22 : decode b_Volume_placeOf 22 = .ok (.istore 4, 2) := by decide +kernel
theorem d_Volume_placeOf_24 : decode b_Volume_placeOf 24 = .ok (.iconst 0, 1) := by decide +kernel
theorem d_Volume_placeOf_25 : decode b_Volume_placeOf 25 = .ok (.istore 5, 2) := by decide +kernel
theorem d_Volume_placeOf_27 : decode b_Volume_placeOf 27 = .ok (.iload 5, 2) := by decide +kernel
theorem d_Volume_placeOf_29 : decode b_Volume_placeOf 29 = .ok (.iload 4, 2) := by decide +kernel
theorem d_Volume_placeOf_31 : decode b_Volume_placeOf 31 = .ok (.if_icmp .ge 27, 3) := by decide +kernel
theorem d_Volume_placeOf_34 : decode b_Volume_placeOf 34 = .ok (.aload_n 0, 1) := by decide +kernel
theorem d_Volume_placeOf_35 : decode b_Volume_placeOf 35 = .ok (.iload_n 1, 1) := by decide +kernel
theorem d_Volume_placeOf_36 : decode b_Volume_placeOf 36 = .ok (.iload 5, 2) := by decide +kernel
theorem d_Volume_placeOf_38 : decode b_Volume_placeOf 38 = .ok (.invokevirtual 54, 3) := by decide +kernel
theorem d_Volume_placeOf_41 : decode b_Volume_placeOf 41 = .ok (.bipush 8, 2) := by decide +kernel
theorem d_Volume_placeOf_43 : decode b_Volume_placeOf 43 = .ok (.lshl, 1) := by decide +kernel
theorem d_Volume_placeOf_44 : decode b_Volume_placeOf 44 = .ok (.lload_n 2, 1) := by decide +kernel
theorem d_Volume_placeOf_45 : decode b_Volume_placeOf 45 = .ok (.lcmp, 1) := by decide +kernel
theorem d_Volume_placeOf_46 : decode b_Volume_placeOf 46 = .ok (.ifCond .ne 6, 3) := by decide +kernel
theorem d_Volume_placeOf_49 : decode b_Volume_placeOf 49 = .ok (.iload 5, 2) := by decide +kernel
theorem d_Volume_placeOf_51 : decode b_Volume_placeOf 51 = .ok (.ireturn, 1) := by decide +kernel
theorem d_Volume_placeOf_52 : decode b_Volume_placeOf 52 = .ok (.iinc 5 8, 3) := by decide +kernel
theorem d_Volume_placeOf_55 : decode b_Volume_placeOf 55 = .ok (.goto (-28), 3) := by decide +kernel
theorem d_Volume_placeOf_58 : decode b_Volume_placeOf 58 = .ok (.iconst (-1), 1) := by decide +kernel
theorem d_Volume_placeOf_59 : decode b_Volume_placeOf 59 = .ok (.ireturn, 1) := by decide +kernel
theorem d_Volume_size_0 : decode b_Volume_size 0 = .ok (.aload_n 0, 1) := by decide +kernel
theorem d_Volume_size_1 : decode b_Volume_size 1 = .ok (.iload_n 1, 1) := by decide +kernel
theorem d_Volume_size_2 : decode b_Volume_size 2 = .ok (.iconst 2, 1) := by decide +kernel
theorem d_Volume_size_3 : decode b_Volume_size 3 = .ok (.invokevirtual 22, 3) := by decide +kernel
theorem d_Volume_size_6 : decode b_Volume_size 6 = .ok (.bipush 8, 2) := by decide +kernel
theorem d_Volume_size_8 : decode b_Volume_size 8 = .ok (.ishl, 1) := by decide +kernel
theorem d_Volume_size_9 : decode b_Volume_size 9 = .ok (.aload_n 0, 1) := by decide +kernel
theorem d_Volume_size_10 : decode b_Volume_size 10 = .ok (.iload_n 1, 1) := by decide +kernel
theorem d_Volume_size_11 : decode b_Volume_size 11 = .ok (.iconst 3, 1) := by decide +kernel
theorem d_Volume_size_12 : decode b_Volume_size 12 = .ok (.invokevirtual 22, 3) := by decide +kernel
theorem d_Volume_size_15 : decode b_Volume_size 15 = .ok (.ior, 1) := by decide +kernel
theorem d_Volume_size_16 : decode b_Volume_size 16 = .ok (.ireturn, 1) := by decide +kernel
theorem d_Volume_entryAt_0 : decode b_Volume_entryAt 0 = .ok (.aload_n 0, 1) := by decide +kernel
theorem d_Volume_entryAt_1 : decode b_Volume_entryAt 1 = .ok (.iload_n 1, 1) := by decide +kernel
theorem d_Volume_entryAt_2 : decode b_Volume_entryAt 2 = .ok (.iload_n 2, 1) := by decide +kernel
theorem d_Volume_entryAt_3 : decode b_Volume_entryAt 3 = .ok (.bipush 64, 2) := by decide +kernel
theorem d_Volume_entryAt_5 : decode b_Volume_entryAt 5 = .ok (.idiv, 1) := by decide +kernel
theorem d_Volume_entryAt_6 : decode b_Volume_entryAt 6 = .ok (.invokevirtual 40, 3) := by decide +kernel
theorem d_Volume_entryAt_9 : decode b_Volume_entryAt 9 = .ok (.istore_n 3, 1) := by decide +kernel
theorem d_Volume_entryAt_10 : decode b_Volume_entryAt 10 = .ok (.lconst 0, 1) := by decide +kernel
theorem d_Volume_entryAt_11 : decode b_Volume_entryAt 11 = .ok (.lstore 4, 2) := by decide +kernel
theorem d_Volume_entryAt_13 : decode b_Volume_entryAt 13 = .ok (.iconst 0, 1) := by decide +kernel
theorem d_Volume_entryAt_14 : decode b_Volume_entryAt 14 = .ok (.istore 6, 2) := by decide +kernel
theorem d_Volume_entryAt_16 : decode b_Volume_entryAt 16 = .ok (.iload 6, 2) := by decide +kernel
theorem d_Volume_entryAt_18 : decode b_Volume_entryAt 18 = .ok (.bipush 8, 2) := by decide +kernel
theorem d_Volume_entryAt_20 : decode b_Volume_entryAt 20 = .ok (.if_icmp .ge 33, 3) := by decide +kernel
theorem d_Volume_entryAt_23 : decode b_Volume_entryAt 23 = .ok (.lload 4, 2) := by decide +kernel
theorem d_Volume_entryAt_25 : decode b_Volume_entryAt 25 = .ok (.bipush 8, 2) := by decide +kernel
theorem d_Volume_entryAt_27 : decode b_Volume_entryAt 27 = .ok (.lshl, 1) := by decide +kernel
theorem d_Volume_entryAt_28 : decode b_Volume_entryAt 28 = .ok (.aload_n 0, 1) := by decide +kernel
theorem d_Volume_entryAt_29 : decode b_Volume_entryAt 29 = .ok (.getfield 21, 3) := by decide +kernel
theorem d_Volume_entryAt_32 : decode b_Volume_entryAt 32 = .ok (.iload_n 3, 1) := by decide +kernel
theorem d_Volume_entryAt_33 : decode b_Volume_entryAt 33 = .ok (.iload_n 2, 1) := by decide +kernel
theorem d_Volume_entryAt_34 : decode b_Volume_entryAt 34 = .ok (.bipush 64, 2) := by decide +kernel
theorem d_Volume_entryAt_36 : decode b_Volume_entryAt 36 = .ok (.irem, 1) := by decide +kernel
theorem d_Volume_entryAt_37 : decode b_Volume_entryAt 37 = .ok (.iload 6, 2) := by decide +kernel
theorem d_Volume_entryAt_39 : decode b_Volume_entryAt 39 = .ok (.iadd, 1) := by decide +kernel
theorem d_Volume_entryAt_40 : decode b_Volume_entryAt 40 = .ok (.invokevirtual 30, 3) := by decide +kernel
theorem d_Volume_entryAt_43 : decode b_Volume_entryAt 43 = .ok (.i2l, 1) := by decide +kernel
theorem d_Volume_entryAt_44 : decode b_Volume_entryAt 44 = .ok (.lor, 1) := by decide +kernel
theorem d_Volume_entryAt_45 : decode b_Volume_entryAt 45 = .ok (.lstore 4, 2) := by decide +kernel
theorem d_Volume_entryAt_47 : decode b_Volume_entryAt 47 = .ok (.iinc 6 1, 3) := by decide +kernel
theorem d_Volume_entryAt_50 : decode b_Volume_entryAt 50 = .ok (.goto (-34), 3) := by decide +kernel
theorem d_Volume_entryAt_53 : decode b_Volume_entryAt 53 = .ok (.lload 4, 2) := by decide +kernel
theorem d_Volume_entryAt_55 : decode b_Volume_entryAt 55 = .ok (.lreturn, 1) := by decide +kernel
theorem d_Volume_contentBlock_0 : decode b_Volume_contentBlock 0 = .ok (.iload_n 2, 1) := by decide +kernel
theorem d_Volume_contentBlock_1 : decode b_Volume_contentBlock 1 = .ok (.bipush 10, 2) := by decide +kernel
theorem d_Volume_contentBlock_3 : decode b_Volume_contentBlock 3 = .ok (.if_icmp .ge 12, 3) := by decide +kernel
theorem d_Volume_contentBlock_6 : decode b_Volume_contentBlock 6 = .ok (.aload_n 0, 1) := by decide +kernel
theorem d_Volume_contentBlock_7 : decode b_Volume_contentBlock 7 = .ok (.iload_n 1, 1) := by decide +kernel
theorem d_Volume_contentBlock_8 : decode b_Volume_contentBlock 8 = .ok (.iconst 4, 1) := by decide +kernel
theorem d_Volume_contentBlock_9 : decode b_Volume_contentBlock 9 = .ok (.iload_n 2, 1) := by decide +kernel
theorem d_Volume_contentBlock_10 : decode b_Volume_contentBlock 10 = .ok (.iadd, 1) := by decide +kernel
theorem d_Volume_contentBlock_11 : decode b_Volume_contentBlock 11 = .ok (.invokevirtual 22, 3) := by decide +kernel
theorem d_Volume_contentBlock_14 : decode b_Volume_contentBlock 14 = .ok (.ireturn, 1) := by decide +kernel
theorem d_Volume_contentBlock_15 : decode b_Volume_contentBlock 15 = .ok (.aload_n 0, 1) := by decide +kernel
theorem d_Volume_contentBlock_16 : decode b_Volume_contentBlock 16 = .ok (.iload_n 1, 1) := by decide +kernel
theorem d_Volume_contentBlock_17 : decode b_Volume_contentBlock 17 = .ok (.bipush 14, 2) := by decide +kernel
theorem d_Volume_contentBlock_19 : decode b_Volume_contentBlock 19 = .ok (.invokevirtual 22, 3) := by decide +kernel
theorem d_Volume_contentBlock_22 : decode b_Volume_contentBlock 22 = .ok (.istore_n 3, 1) := by decide +kernel
theorem d_Volume_contentBlock_23 : decode b_Volume_contentBlock 23 = .ok (.iload_n 3, 1) := by decide +kernel
theorem d_Volume_contentBlock_24 : decode b_Volume_contentBlock 24 = .ok (.ifCond .ne 7, 3) := by decide +kernel
theorem d_Volume_contentBlock_27 : decode b_Volume_contentBlock 27 = .ok (.iconst 0, 1) := by decide +kernel
theorem d_Volume_contentBlock_28 : decode b_Volume_contentBlock 28 = .ok (.goto 15, 3) := by decide +kernel
theorem d_Volume_contentBlock_31 : decode b_Volume_contentBlock 31 = .ok (.aload_n 0, 1) := by decide +kernel
theorem d_Volume_contentBlock_32 : decode b_Volume_contentBlock 32 = .ok (.getfield 21, 3) := by decide +kernel
theorem d_Volume_contentBlock_35 : decode b_Volume_contentBlock 35 = .ok (.iload_n 3, 1) := by decide +kernel
theorem d_Volume_contentBlock_36 : decode b_Volume_contentBlock 36 = .ok (.iload_n 2, 1) := by decide +kernel
theorem d_Volume_contentBlock_37 : decode b_Volume_contentBlock 37 = .ok (.bipush 10, 2) := by decide +kernel
theorem d_Volume_contentBlock_39 : decode b_Volume_contentBlock 39 = .ok (.isub, 1) := by decide +kernel
theorem d_Volume_contentBlock_40 : decode b_Volume_contentBlock 40 = .ok (.invokevirtual 30, 3) := by decide +kernel
theorem d_Volume_contentBlock_43 : decode b_Volume_contentBlock 43 = .ok (.ireturn, 1) := by decide +kernel
theorem d_Volume_placeForEntry_0 : decode b_Volume_placeForEntry 0 = .ok (.aload_n 0, 1) := by decide +kernel
theorem d_Volume_placeForEntry_1 : decode b_Volume_placeForEntry 1 = .ok (.iload_n 1, 1) := by decide +kernel
theorem d_Volume_placeForEntry_2 : decode b_Volume_placeForEntry 2 = .ok (.invokevirtual 51, 3) := by decide +kernel
theorem d_Volume_placeForEntry_5 : decode b_Volume_placeForEntry 5 = .ok (.istore_n 2, 1) := by decide +kernel
theorem d_Volume_placeForEntry_6 : decode b_Volume_placeForEntry 6 = .ok (.iconst 0, 1) := by decide +kernel
theorem d_Volume_placeForEntry_7 : decode b_Volume_placeForEntry 7 = .ok (.istore_n 3, 1) := by decide +kernel
theorem d_Volume_placeForEntry_8 : decode b_Volume_placeForEntry 8 = .ok (.iload_n 3, 1) := by decide +kernel
theorem d_Volume_placeForEntry_9 : decode b_Volume_placeForEntry 9 = .ok (.iload_n 2, 1) := by decide +kernel
theorem d_Volume_placeForEntry_10 : decode b_Volume_placeForEntry 10 = .ok (.if_icmp .ge 22, 3) := by decide +kernel
theorem d_Volume_placeForEntry_13 : decode b_Volume_placeForEntry 13 = .ok (.aload_n 0, 1) := by decide +kernel
theorem d_Volume_placeForEntry_14 : decode b_Volume_placeForEntry 14 = .ok (.iload_n 1, 1) := by decide +kernel
theorem d_Volume_placeForEntry_15 : decode b_Volume_placeForEntry 15 = .ok (.iload_n 3, 1) := by decide +kernel
theorem d_Volume_placeForEntry_16 : decode b_Volume_placeForEntry 16 = .ok (.invokevirtual 54, 3) := by decide +kernel
theorem d_Volume_placeForEntry_19 : decode b_Volume_placeForEntry 19 = .ok (.lconst 0, 1) := by decide +kernel
theorem d_Volume_placeForEntry_20 : decode b_Volume_placeForEntry 20 = .ok (.lcmp, 1) := by decide +kernel
theorem d_Volume_placeForEntry_21 : decode b_Volume_placeForEntry 21 = .ok (.ifCond .ne 5, 3) := by decide +kernel
theorem d_Volume_placeForEntry_24 : decode b_Volume_placeForEntry 24 = .ok (.iload_n 3, 1) := by decide +kernel
theorem d_Volume_placeForEntry_25 : decode b_Volume_placeForEntry 25 = .ok (.ireturn, 1) := by decide +kernel
theorem d_Volume_placeForEntry_26 : decode b_Volume_placeForEntry 26 = .ok (.iinc 3 8, 3) := by decide +kernel
theorem d_Volume_placeForEntry_29 : decode b_Volume_placeForEntry 29 = .ok (.goto (-21), 3) := by decide +kernel
theorem d_Volume_placeForEntry_32 : decode b_Volume_placeForEntry 32 = .ok (.iload_n 2, 1) := by decide +kernel
theorem d_Volume_placeForEntry_33 : decode b_Volume_placeForEntry 33 = .ok (.ireturn, 1) := by decide +kernel
theorem d_Volume_fits_0 : decode b_Volume_fits 0 = .ok (.iload_n 2, 1) := by decide +kernel
theorem d_Volume_fits_1 : decode b_Volume_fits 1 = .ok (.sipush 1000, 3) := by decide +kernel
theorem d_Volume_fits_4 : decode b_Volume_fits 4 = .ok (.if_icmp .gt 20, 3) := by decide +kernel
theorem d_Volume_fits_7 : decode b_Volume_fits 7 = .ok (.aload_n 0, 1) := by decide +kernel
theorem d_Volume_fits_8 : decode b_Volume_fits 8 = .ok (.iload_n 1, 1) := by decide +kernel
theorem d_Volume_fits_9 : decode b_Volume_fits 9 = .ok (.iload_n 2, 1) := by decide +kernel
theorem d_Volume_fits_10 : decode b_Volume_fits 10 = .ok (.invokevirtual 106, 3) := by decide +kernel
theorem d_Volume_fits_13 : decode b_Volume_fits 13 = .ok (.aload_n 0, 1) := by decide +kernel
theorem d_Volume_fits_14 : decode b_Volume_fits 14 = .ok (.invokevirtual 109, 3) := by decide +kernel
theorem d_Volume_fits_17 : decode b_Volume_fits 17 = .ok (.if_icmp .gt 7, 3) := by decide +kernel
theorem d_Volume_fits_20 : decode b_Volume_fits 20 = .ok (.iconst 1, 1) := by decide +kernel
theorem d_Volume_fits_21 : decode b_Volume_fits 21 = .ok (.goto 4, 3) := by decide +kernel
theorem d_Volume_fits_24 : decode b_Volume_fits 24 = .ok (.iconst 0, 1) := by decide +kernel
theorem d_Volume_fits_25 : decode b_Volume_fits 25 = .ok (.ireturn, 1) := by decide +kernel
theorem d_Volume_blocksToTake_0 : decode b_Volume_blocksToTake 0 = .ok (.aload_n 0, 1) := by decide +kernel
theorem d_Volume_blocksToTake_1 : decode b_Volume_blocksToTake 1 = .ok (.iload_n 1, 1) := by decide +kernel
theorem d_Volume_blocksToTake_2 : decode b_Volume_blocksToTake 2 = .ok (.invokevirtual 51, 3) := by decide +kernel
theorem d_Volume_blocksToTake_5 : decode b_Volume_blocksToTake 5 = .ok (.invokestatic 94, 3) := by decide +kernel
theorem d_Volume_blocksToTake_8 : decode b_Volume_blocksToTake 8 = .ok (.istore_n 3, 1) := by decide +kernel
theorem d_Volume_blocksToTake_9 : decode b_Volume_blocksToTake 9 = .ok (.iload_n 2, 1) := by decide +kernel
theorem d_Volume_blocksToTake_10 : decode b_Volume_blocksToTake 10 = .ok (.invokestatic 94, 3) := by decide +kernel
theorem d_Volume_blocksToTake_13 : decode b_Volume_blocksToTake 13 = .ok (.istore 4, 2) := by decide +kernel
theorem d_Volume_blocksToTake_15 : decode b_Volume_blocksToTake 15 = .ok (.iload 4, 2) := by decide +kernel
theorem d_Volume_blocksToTake_17 : decode b_Volume_blocksToTake 17 = .ok (.iload_n 3, 1) := by decide +kernel
theorem d_Volume_blocksToTake_18 : decode b_Volume_blocksToTake 18 = .ok (.if_icmp .gt 5, 3) := by decide +kernel
theorem d_Volume_blocksToTake_21 : decode b_Volume_blocksToTake 21 = .ok (.iconst 0, 1) := by decide +kernel
theorem d_Volume_blocksToTake_22 : decode b_Volume_blocksToTake 22 = .ok (.ireturn, 1) := by decide +kernel
theorem d_Volume_blocksToTake_23 : decode b_Volume_blocksToTake 23 = .ok (.iload 4, 2) := by decide +kernel
theorem d_Volume_blocksToTake_25 : decode b_Volume_blocksToTake 25 = .ok (.bipush 10, 2) := by decide +kernel
theorem d_Volume_blocksToTake_27 : decode b_Volume_blocksToTake 27 = .ok (.if_icmp .le 13, 3) := by decide +kernel
theorem d_Volume_blocksToTake_30 : decode b_Volume_blocksToTake 30 = .ok (.iload_n 3, 1) := by decide +kernel
theorem d_Volume_blocksToTake_31 : decode b_Volume_blocksToTake 31 = .ok (.bipush 10, 2) := by decide +kernel
theorem d_Volume_blocksToTake_33 : decode b_Volume_blocksToTake 33 = .ok (.if_icmp .gt 7, 3) := by decide +kernel
theorem d_Volume_blocksToTake_36 : decode b_Volume_blocksToTake 36 = .ok (.iconst 1, 1) := by decide +kernel
theorem d_Volume_blocksToTake_37 : decode b_Volume_blocksToTake 37 = .ok (.goto 4, 3) := by decide +kernel
theorem d_Volume_blocksToTake_40 : decode b_Volume_blocksToTake 40 = .ok (.iconst 0, 1) := by decide +kernel
theorem d_Volume_blocksToTake_41 : decode b_Volume_blocksToTake 41 = .ok (.istore 5, 2) := by decide +kernel
theorem d_Volume_blocksToTake_43 : decode b_Volume_blocksToTake 43 = .ok (.iload 4, 2) := by decide +kernel
theorem d_Volume_blocksToTake_45 : decode b_Volume_blocksToTake 45 = .ok (.iload_n 3, 1) := by decide +kernel
theorem d_Volume_blocksToTake_46 : decode b_Volume_blocksToTake 46 = .ok (.isub, 1) := by decide +kernel
theorem d_Volume_blocksToTake_47 : decode b_Volume_blocksToTake 47 = .ok (.iload 5, 2) := by decide +kernel
theorem d_Volume_blocksToTake_49 : decode b_Volume_blocksToTake 49 = .ok (.ifCond .eq 7, 3) := by decide +kernel
theorem d_Volume_blocksToTake_52 : decode b_Volume_blocksToTake 52 = .ok (.iconst 1, 1) := by decide +kernel
theorem d_Volume_blocksToTake_53 : decode b_Volume_blocksToTake 53 = .ok (.goto 4, 3) := by decide +kernel
theorem d_Volume_blocksToTake_56 : decode b_Volume_blocksToTake 56 = .ok (.iconst 0, 1) := by decide +kernel
theorem d_Volume_blocksToTake_57 : decode b_Volume_blocksToTake 57 = .ok (.iadd, 1) := by decide +kernel
theorem d_Volume_blocksToTake_58 : decode b_Volume_blocksToTake 58 = .ok (.ireturn, 1) := by decide +kernel
theorem d_Volume_begin_0 : decode b_Volume_begin 0 = .ok (.aload_n 0, 1) := by decide +kernel
theorem d_Volume_begin_1 : decode b_Volume_begin 1 = .ok (.iload_n 1, 1) := by decide +kernel
theorem d_Volume_begin_2 : decode b_Volume_begin 2 = .ok (.iconst 0, 1) := by decide +kernel
theorem d_Volume_begin_3 : decode b_Volume_begin 3 = .ok (.iload_n 2, 1) := by decide +kernel
theorem d_Volume_begin_4 : decode b_Volume_begin 4 = .ok (.invokevirtual 76, 3) := by decide +kernel
theorem d_Volume_begin_7 : decode b_Volume_begin 7 = .ok (.aload_n 0, 1) := by decide +kernel
theorem d_Volume_begin_8 : decode b_Volume_begin 8 = .ok (.iload_n 1, 1) := by decide +kernel
theorem d_Volume_begin_9 : decode b_Volume_begin 9 = .ok (.iconst 1, 1) := by decide +kernel
theorem d_Volume_begin_10 : decode b_Volume_begin 10 = .ok (.iconst 1, 1) := by decide +kernel
theorem d_Volume_begin_11 : decode b_Volume_begin 11 = .ok (.invokevirtual 76, 3) := by decide +kernel
theorem d_Volume_begin_14 : decode b_Volume_begin 14 = .ok (.return_, 1) := by decide +kernel
theorem d_Volume_setInodeByte_0 : decode b_Volume_setInodeByte 0 = .ok (.iload_n 1, 1) := by decide +kernel
theorem d_Volume_setInodeByte_1 : decode b_Volume_setInodeByte 1 = .ok (.invokestatic 100, 3) := by decide +kernel
theorem d_Volume_setInodeByte_4 : decode b_Volume_setInodeByte 4 = .ok (.ifCond .eq 25, 3) := by decide +kernel
theorem d_Volume_setInodeByte_7 : decode b_Volume_setInodeByte 7 = .ok (.aload_n 0, 1) := by decide +kernel
theorem d_Volume_setInodeByte_8 : decode b_Volume_setInodeByte 8 = .ok (.getfield 9, 3) := by decide +kernel
theorem d_Volume_setInodeByte_11 : decode b_Volume_setInodeByte 11 = .ok (.bipush 17, 2) := by decide +kernel
theorem d_Volume_setInodeByte_13 : decode b_Volume_setInodeByte 13 = .ok (.iload_n 1, 1) := by decide +kernel
theorem d_Volume_setInodeByte_14 : decode b_Volume_setInodeByte 14 = .ok (.iconst 4, 1) := by decide +kernel
theorem d_Volume_setInodeByte_15 : decode b_Volume_setInodeByte 15 = .ok (.idiv, 1) := by decide +kernel
theorem d_Volume_setInodeByte_16 : decode b_Volume_setInodeByte 16 = .ok (.iadd, 1) := by decide +kernel
theorem d_Volume_setInodeByte_17 : decode b_Volume_setInodeByte 17 = .ok (.iload_n 1, 1) := by decide +kernel
theorem d_Volume_setInodeByte_18 : decode b_Volume_setInodeByte 18 = .ok (.iconst 4, 1) := by decide +kernel
theorem d_Volume_setInodeByte_19 : decode b_Volume_setInodeByte 19 = .ok (.irem, 1) := by decide +kernel
theorem d_Volume_setInodeByte_20 : decode b_Volume_setInodeByte 20 = .ok (.bipush 16, 2) := by decide +kernel
theorem d_Volume_setInodeByte_22 : decode b_Volume_setInodeByte 22 = .ok (.imul, 1) := by decide +kernel
theorem d_Volume_setInodeByte_23 : decode b_Volume_setInodeByte 23 = .ok (.iload_n 2, 1) := by decide +kernel
theorem d_Volume_setInodeByte_24 : decode b_Volume_setInodeByte 24 = .ok (.iadd, 1) := by decide +kernel
theorem d_Volume_setInodeByte_25 : decode b_Volume_setInodeByte 25 = .ok (.iload_n 3, 1) := by decide +kernel
theorem d_Volume_setInodeByte_26 : decode b_Volume_setInodeByte 26 = .ok (.invokevirtual 103, 3) := by decide +kernel
theorem d_Volume_setInodeByte_29 : decode b_Volume_setInodeByte 29 = .ok (.return_, 1) := by decide +kernel
theorem d_Volume_putLong_0 : decode b_Volume_putLong 0 = .ok (.iconst 0, 1) := by decide +kernel
theorem d_Volume_putLong_1 : decode b_Volume_putLong 1 = .ok (.istore 6, 2) := by decide +kernel
theorem d_Volume_putLong_3 : decode b_Volume_putLong 3 = .ok (.iload 6, 2) := by decide +kernel
theorem d_Volume_putLong_5 : decode b_Volume_putLong 5 = .ok (.iload 5, 2) := by decide +kernel
theorem d_Volume_putLong_7 : decode b_Volume_putLong 7 = .ok (.if_icmp .ge 24, 3) := by decide +kernel
theorem d_Volume_putLong_10 : decode b_Volume_putLong 10 = .ok (.aload_n 0, 1) := by decide +kernel
theorem d_Volume_putLong_11 : decode b_Volume_putLong 11 = .ok (.iload_n 1, 1) := by decide +kernel
theorem d_Volume_putLong_12 : decode b_Volume_putLong 12 = .ok (.iload_n 2, 1) := by decide +kernel
theorem d_Volume_putLong_13 : decode b_Volume_putLong 13 = .ok (.iload 6, 2) := by decide +kernel
theorem d_Volume_putLong_15 : decode b_Volume_putLong 15 = .ok (.iadd, 1) := by decide +kernel
theorem d_Volume_putLong_16 : decode b_Volume_putLong 16 = .ok (.lload_n 3, 1) := by decide +kernel
theorem d_Volume_putLong_17 : decode b_Volume_putLong 17 = .ok (.iload 6, 2) := by decide +kernel
theorem d_Volume_putLong_19 : decode b_Volume_putLong 19 = .ok (.invokestatic 58, 3) := by decide +kernel
theorem d_Volume_putLong_22 : decode b_Volume_putLong 22 = .ok (.invokevirtual 87, 3) := by decide +kernel
theorem d_Volume_putLong_25 : decode b_Volume_putLong 25 = .ok (.iinc 6 1, 3) := by decide +kernel
theorem d_Volume_putLong_28 : decode b_Volume_putLong 28 = .ok (.goto (-25), 3) := by decide +kernel
theorem d_Volume_putLong_31 : decode b_Volume_putLong 31 = .ok (.aload_n 0, 1) := by decide +kernel
theorem d_Volume_putLong_32 : decode b_Volume_putLong 32 = .ok (.iload_n 1, 1) := by decide +kernel
theorem d_Volume_putLong_33 : decode b_Volume_putLong 33 = .ok (.iload_n 2, 1) := by decide +kernel
theorem d_Volume_putLong_34 : decode b_Volume_putLong 34 = .ok (.iload 5, 2) := by decide +kernel
theorem d_Volume_putLong_36 : decode b_Volume_putLong 36 = .ok (.iadd, 1) := by decide +kernel
theorem d_Volume_putLong_37 : decode b_Volume_putLong 37 = .ok (.invokevirtual 90, 3) := by decide +kernel
theorem d_Volume_putLong_40 : decode b_Volume_putLong 40 = .ok (.return_, 1) := by decide +kernel
theorem d_Volume_putByte_0 : decode b_Volume_putByte 0 = .ok (.iload_n 2, 1) := by decide +kernel
theorem d_Volume_putByte_1 : decode b_Volume_putByte 1 = .ok (.bipush 64, 2) := by decide +kernel
theorem d_Volume_putByte_3 : decode b_Volume_putByte 3 = .ok (.idiv, 1) := by decide +kernel
theorem d_Volume_putByte_4 : decode b_Volume_putByte 4 = .ok (.istore 4, 2) := by decide +kernel
theorem d_Volume_putByte_6 : decode b_Volume_putByte 6 = .ok (.aload_n 0, 1) := by decide +kernel
theorem d_Volume_putByte_7 : decode b_Volume_putByte 7 = .ok (.iload_n 1, 1) := by decide +kernel
theorem d_Volume_putByte_8 : decode b_Volume_putByte 8 = .ok (.iload 4, 2) := by decide +kernel
theorem d_Volume_putByte_10 : decode b_Volume_putByte 10 = .ok (.invokevirtual 40, 3) := by decide +kernel
theorem d_Volume_putByte_13 : decode b_Volume_putByte 13 = .ok (.ifCond .ne 10, 3) := by decide +kernel
theorem d_Volume_putByte_16 : decode b_Volume_putByte 16 = .ok (.aload_n 0, 1) := by decide +kernel
theorem d_Volume_putByte_17 : decode b_Volume_putByte 17 = .ok (.iload_n 1, 1) := by decide +kernel
theorem d_Volume_putByte_18 : decode b_Volume_putByte 18 = .ok (.iload 4, 2) := by decide +kernel
theorem d_Volume_putByte_20 : decode b_Volume_putByte 20 = .ok (.invokevirtual 113, 3) := by decide +kernel
theorem d_Volume_putByte_23 : decode b_Volume_putByte 23 = .ok (.aload_n 0, 1) := by decide +kernel
theorem d_Volume_putByte_24 : decode b_Volume_putByte 24 = .ok (.getfield 9, 3) := by decide +kernel
theorem d_Volume_putByte_27 : decode b_Volume_putByte 27 = .ok (.aload_n 0, 1) := by decide +kernel
theorem d_Volume_putByte_28 : decode b_Volume_putByte 28 = .ok (.iload_n 1, 1) := by decide +kernel
theorem d_Volume_putByte_29 : decode b_Volume_putByte 29 = .ok (.iload 4, 2) := by decide +kernel
theorem d_Volume_putByte_31 : decode b_Volume_putByte 31 = .ok (.invokevirtual 40, 3) := by decide +kernel
theorem d_Volume_putByte_34 : decode b_Volume_putByte 34 = .ok (.iload_n 2, 1) := by decide +kernel
theorem d_Volume_putByte_35 : decode b_Volume_putByte 35 = .ok (.bipush 64, 2) := by decide +kernel
theorem d_Volume_putByte_37 : decode b_Volume_putByte 37 = .ok (.irem, 1) := by decide +kernel
theorem d_Volume_putByte_38 : decode b_Volume_putByte 38 = .ok (.iload_n 3, 1) := by decide +kernel
theorem d_Volume_putByte_39 : decode b_Volume_putByte 39 = .ok (.invokevirtual 103, 3) := by decide +kernel
theorem d_Volume_putByte_42 : decode b_Volume_putByte 42 = .ok (.return_, 1) := by decide +kernel
theorem d_Volume_addContentBlock_0 : decode b_Volume_addContentBlock 0 = .ok (.iload_n 2, 1) := by decide +kernel
theorem d_Volume_addContentBlock_1 : decode b_Volume_addContentBlock 1 = .ok (.bipush 10, 2) := by decide +kernel
theorem d_Volume_addContentBlock_3 : decode b_Volume_addContentBlock 3 = .ok (.if_icmp .ge 18, 3) := by decide +kernel
theorem d_Volume_addContentBlock_6 : decode b_Volume_addContentBlock 6 = .ok (.aload_n 0, 1) := by decide +kernel
theorem d_Volume_addContentBlock_7 : decode b_Volume_addContentBlock 7 = .ok (.invokevirtual 116, 3) := by decide +kernel
theorem d_Volume_addContentBlock_10 : decode b_Volume_addContentBlock 10 = .ok (.istore_n 3, 1) := by decide +kernel
theorem d_Volume_addContentBlock_11 : decode b_Volume_addContentBlock 11 = .ok (.aload_n 0, 1) := by decide +kernel
theorem d_Volume_addContentBlock_12 : decode b_Volume_addContentBlock 12 = .ok (.iload_n 1, 1) := by decide +kernel
theorem d_Volume_addContentBlock_13 : decode b_Volume_addContentBlock 13 = .ok (.iconst 4, 1) := by decide +kernel
theorem d_Volume_addContentBlock_14 : decode b_Volume_addContentBlock 14 = .ok (.iload_n 2, 1) := by decide +kernel
theorem d_Volume_addContentBlock_15 : decode b_Volume_addContentBlock 15 = .ok (.iadd, 1) := by decide +kernel
theorem d_Volume_addContentBlock_16 : decode b_Volume_addContentBlock 16 = .ok (.iload_n 3, 1) := by decide +kernel
theorem d_Volume_addContentBlock_17 : decode b_Volume_addContentBlock 17 = .ok (.invokevirtual 76, 3) := by decide +kernel
theorem d_Volume_addContentBlock_20 : decode b_Volume_addContentBlock 20 = .ok (.return_, 1) := by decide +kernel
theorem d_Volume_addContentBlock_21 : decode b_Volume_addContentBlock 21 = .ok (.aload_n 0, 1) := by decide +kernel
theorem d_Volume_addContentBlock_22 : decode b_Volume_addContentBlock 22 = .ok (.iload_n 1, 1) := by decide +kernel
theorem d_Volume_addContentBlock_23 : decode b_Volume_addContentBlock 23 = .ok (.bipush 14, 2) := by decide +kernel
theorem d_Volume_addContentBlock_25 : decode b_Volume_addContentBlock 25 = .ok (.invokevirtual 22, 3) := by decide +kernel
theorem d_Volume_addContentBlock_28 : decode b_Volume_addContentBlock 28 = .ok (.ifCond .ne 16, 3) := by decide +kernel
theorem d_Volume_addContentBlock_31 : decode b_Volume_addContentBlock 31 = .ok (.aload_n 0, 1) := by decide +kernel
theorem d_Volume_addContentBlock_32 : decode b_Volume_addContentBlock 32 = .ok (.invokevirtual 116, 3) := by decide +kernel
theorem d_Volume_addContentBlock_35 : decode b_Volume_addContentBlock 35 = .ok (.istore_n 3, 1) := by decide +kernel
theorem d_Volume_addContentBlock_36 : decode b_Volume_addContentBlock 36 = .ok (.aload_n 0, 1) := by decide +kernel
theorem d_Volume_addContentBlock_37 : decode b_Volume_addContentBlock 37 = .ok (.iload_n 1, 1) := by decide +kernel
theorem d_Volume_addContentBlock_38 : decode b_Volume_addContentBlock 38 = .ok (.bipush 14, 2) := by decide +kernel
theorem d_Volume_addContentBlock_40 : decode b_Volume_addContentBlock 40 = .ok (.iload_n 3, 1) := by decide +kernel
theorem d_Volume_addContentBlock_41 : decode b_Volume_addContentBlock 41 = .ok (.invokevirtual 76, 3) := by decide +kernel
theorem d_Volume_addContentBlock_44 : decode b_Volume_addContentBlock 44 = .ok (.aload_n 0, 1) := by decide +kernel
theorem d_Volume_addContentBlock_45 : decode b_Volume_addContentBlock 45 = .ok (.invokevirtual 116, 3) := by decide +kernel
theorem d_Volume_addContentBlock_48 : decode b_Volume_addContentBlock 48 = .ok (.istore_n 3, 1) := by decide +kernel
theorem d_Volume_addContentBlock_49 : decode b_Volume_addContentBlock 49 = .ok (.aload_n 0, 1) := by decide +kernel
theorem d_Volume_addContentBlock_50 : decode b_Volume_addContentBlock 50 = .ok (.getfield 9, 3) := by decide +kernel
theorem d_Volume_addContentBlock_53 : decode b_Volume_addContentBlock 53 = .ok (.aload_n 0, 1) := by decide +kernel
theorem d_Volume_addContentBlock_54 : decode b_Volume_addContentBlock 54 = .ok (.iload_n 1, 1) := by decide +kernel
theorem d_Volume_addContentBlock_55 : decode b_Volume_addContentBlock 55 = .ok (.bipush 14, 2) := by decide +kernel
theorem d_Volume_addContentBlock_57 : decode b_Volume_addContentBlock 57 = .ok (.invokevirtual 22, 3) := by decide +kernel
theorem d_Volume_addContentBlock_60 : decode b_Volume_addContentBlock 60 = .ok (.iload_n 2, 1) := by decide +kernel
theorem d_Volume_addContentBlock_61 : decode b_Volume_addContentBlock 61 = .ok (.bipush 10, 2) := by decide +kernel
theorem d_Volume_addContentBlock_63 : decode b_Volume_addContentBlock 63 = .ok (.isub, 1) := by decide +kernel
theorem d_Volume_addContentBlock_64 : decode b_Volume_addContentBlock 64 = .ok (.iload_n 3, 1) := by decide +kernel
theorem d_Volume_addContentBlock_65 : decode b_Volume_addContentBlock 65 = .ok (.invokevirtual 103, 3) := by decide +kernel
theorem d_Volume_addContentBlock_68 : decode b_Volume_addContentBlock 68 = .ok (.return_, 1) := by decide +kernel
theorem d_Volume_takeBlock_0 : decode b_Volume_takeBlock 0 = .ok (.aload_n 0, 1) := by decide +kernel
theorem d_Volume_takeBlock_1 : decode b_Volume_takeBlock 1 = .ok (.invokevirtual 119, 3) := by decide +kernel
theorem d_Volume_takeBlock_4 : decode b_Volume_takeBlock 4 = .ok (.istore_n 1, 1) := by decide +kernel
theorem d_Volume_takeBlock_5 : decode b_Volume_takeBlock 5 = .ok (.aload_n 0, 1) := by decide +kernel
theorem d_Volume_takeBlock_6 : decode b_Volume_takeBlock 6 = .ok (.getfield 9, 3) := by decide +kernel
theorem d_Volume_takeBlock_9 : decode b_Volume_takeBlock 9 = .ok (.bipush 25, 2) := by decide +kernel
theorem d_Volume_takeBlock_11 : decode b_Volume_takeBlock 11 = .ok (.iload_n 1, 1) := by decide +kernel
theorem d_Volume_takeBlock_12 : decode b_Volume_takeBlock 12 = .ok (.bipush 8, 2) := by decide +kernel
theorem d_Volume_takeBlock_14 : decode b_Volume_takeBlock 14 = .ok (.idiv, 1) := by decide +kernel
theorem d_Volume_takeBlock_15 : decode b_Volume_takeBlock 15 = .ok (.aload_n 0, 1) := by decide +kernel
theorem d_Volume_takeBlock_16 : decode b_Volume_takeBlock 16 = .ok (.getfield 21, 3) := by decide +kernel
theorem d_Volume_takeBlock_19 : decode b_Volume_takeBlock 19 = .ok (.bipush 25, 2) := by decide +kernel
theorem d_Volume_takeBlock_21 : decode b_Volume_takeBlock 21 = .ok (.iload_n 1, 1) := by decide +kernel
theorem d_Volume_takeBlock_22 : decode b_Volume_takeBlock 22 = .ok (.bipush 8, 2) := by decide +kernel
theorem d_Volume_takeBlock_24 : decode b_Volume_takeBlock 24 = .ok (.idiv, 1) := by decide +kernel
theorem d_Volume_takeBlock_25 : decode b_Volume_takeBlock 25 = .ok (.invokevirtual 30, 3) := by decide +kernel
theorem d_Volume_takeBlock_28 : decode b_Volume_takeBlock 28 = .ok (.iconst 1, 1) := by decide +kernel
theorem d_Volume_takeBlock_29 : decode b_Volume_takeBlock 29 = .ok (.iload_n 1, 1) := by decide +kernel
theorem d_Volume_takeBlock_30 : decode b_Volume_takeBlock 30 = .ok (.bipush 8, 2) := by decide +kernel
theorem d_Volume_takeBlock_32 : decode b_Volume_takeBlock 32 = .ok (.irem, 1) := by decide +kernel
theorem d_Volume_takeBlock_33 : decode b_Volume_takeBlock 33 = .ok (.ishl, 1) := by decide +kernel
theorem d_Volume_takeBlock_34 : decode b_Volume_takeBlock 34 = .ok (.ior, 1) := by decide +kernel
theorem d_Volume_takeBlock_35 : decode b_Volume_takeBlock 35 = .ok (.invokevirtual 103, 3) := by decide +kernel
theorem d_Volume_takeBlock_38 : decode b_Volume_takeBlock 38 = .ok (.aload_n 0, 1) := by decide +kernel
theorem d_Volume_takeBlock_39 : decode b_Volume_takeBlock 39 = .ok (.getfield 9, 3) := by decide +kernel
theorem d_Volume_takeBlock_42 : decode b_Volume_takeBlock 42 = .ok (.iload_n 1, 1) := by decide +kernel
theorem d_Volume_takeBlock_43 : decode b_Volume_takeBlock 43 = .ok (.invokevirtual 122, 3) := by decide +kernel
theorem d_Volume_takeBlock_46 : decode b_Volume_takeBlock 46 = .ok (.iload_n 1, 1) := by decide +kernel
theorem d_Volume_takeBlock_47 : decode b_Volume_takeBlock 47 = .ok (.ireturn, 1) := by decide +kernel
theorem d_Volume_leastFreeBlock_0 : decode b_Volume_leastFreeBlock 0 = .ok (.bipush 26, 2) := by decide +kernel
theorem d_Volume_leastFreeBlock_2 : decode b_Volume_leastFreeBlock 2 = .ok (.istore_n 1, 1) := by decide +kernel
theorem d_Volume_leastFreeBlock_3 : decode b_Volume_leastFreeBlock 3 = .ok (.iload_n 1, 1) := by decide +kernel
theorem d_Volume_leastFreeBlock_4 : decode b_Volume_leastFreeBlock 4 = .ok (.sipush 128, 3) := by decide +kernel
theorem d_Volume_leastFreeBlock_7 : decode b_Volume_leastFreeBlock 7 = .ok (.if_icmp .ge 34, 3) := by decide +kernel
theorem d_Volume_leastFreeBlock_10 : decode b_Volume_leastFreeBlock 10 = .ok (.aload_n 0, 1) := by decide +kernel
theorem d_Volume_leastFreeBlock_11 : decode b_Volume_leastFreeBlock 11 = .ok (.getfield 21, 3) := by decide +kernel
theorem d_Volume_leastFreeBlock_14 : decode b_Volume_leastFreeBlock 14 = .ok (.bipush 25, 2) := by decide +kernel
theorem d_Volume_leastFreeBlock_16 : decode b_Volume_leastFreeBlock 16 = .ok (.iload_n 1, 1) := by decide +kernel
theorem d_Volume_leastFreeBlock_17 : decode b_Volume_leastFreeBlock 17 = .ok (.bipush 8, 2) := by decide +kernel
theorem d_Volume_leastFreeBlock_19 : decode b_Volume_leastFreeBlock 19 = .ok (.idiv, 1) := by decide +kernel
theorem d_Volume_leastFreeBlock_20 : decode b_Volume_leastFreeBlock 20 = .ok (.invokevirtual 30, 3) := by decide +kernel
theorem d_Volume_leastFreeBlock_23 : decode b_Volume_leastFreeBlock 23 = .ok (.iload_n 1, 1) := by decide +kernel
theorem d_Volume_leastFreeBlock_24 : decode b_Volume_leastFreeBlock 24 = .ok (.bipush 8, 2) := by decide +kernel
theorem d_Volume_leastFreeBlock_26 : decode b_Volume_leastFreeBlock 26 = .ok (.irem, 1) := by decide +kernel
theorem d_Volume_leastFreeBlock_27 : decode b_Volume_leastFreeBlock 27 = .ok (.ishr, 1) := by decide +kernel
theorem d_Volume_leastFreeBlock_28 : decode b_Volume_leastFreeBlock 28 = .ok (.iconst 1, 1) := by decide +kernel
theorem d_Volume_leastFreeBlock_29 : decode b_Volume_leastFreeBlock 29 = .ok (.iand, 1) := by decide +kernel
theorem d_Volume_leastFreeBlock_30 : decode b_Volume_leastFreeBlock 30 = .ok (.ifCond .ne 5, 3) := by decide +kernel
theorem d_Volume_leastFreeBlock_33 : decode b_Volume_leastFreeBlock 33 = .ok (.iload_n 1, 1) := by decide +kernel
theorem d_Volume_leastFreeBlock_34 : decode b_Volume_leastFreeBlock 34 = .ok (.ireturn, 1) := by decide +kernel
theorem d_Volume_leastFreeBlock_35 : decode b_Volume_leastFreeBlock 35 = .ok (.iinc 1 1, 3) := by decide +kernel
theorem d_Volume_leastFreeBlock_38 : decode b_Volume_leastFreeBlock 38 = .ok (.goto (-35), 3) := by decide +kernel
theorem d_Volume_leastFreeBlock_41 : decode b_Volume_leastFreeBlock 41 = .ok (.iconst 0, 1) := by decide +kernel
theorem d_Volume_leastFreeBlock_42 : decode b_Volume_leastFreeBlock 42 = .ok (.ireturn, 1) := by decide +kernel
theorem d_Volume_growTo_0 : decode b_Volume_growTo 0 = .ok (.iload_n 2, 1) := by decide +kernel
theorem d_Volume_growTo_1 : decode b_Volume_growTo 1 = .ok (.aload_n 0, 1) := by decide +kernel
theorem d_Volume_growTo_2 : decode b_Volume_growTo 2 = .ok (.iload_n 1, 1) := by decide +kernel
theorem d_Volume_growTo_3 : decode b_Volume_growTo 3 = .ok (.invokevirtual 51, 3) := by decide +kernel
theorem d_Volume_growTo_6 : decode b_Volume_growTo 6 = .ok (.if_icmp .le 20, 3) := by decide +kernel
theorem d_Volume_growTo_9 : decode b_Volume_growTo 9 = .ok (.aload_n 0, 1) := by decide +kernel
theorem d_Volume_growTo_10 : decode b_Volume_growTo 10 = .ok (.iload_n 1, 1) := by decide +kernel
theorem d_Volume_growTo_11 : decode b_Volume_growTo 11 = .ok (.iconst 2, 1) := by decide +kernel
theorem d_Volume_growTo_12 : decode b_Volume_growTo 12 = .ok (.iload_n 2, 1) := by decide +kernel
theorem d_Volume_growTo_13 : decode b_Volume_growTo 13 = .ok (.bipush 8, 2) := by decide +kernel
theorem d_Volume_growTo_15 : decode b_Volume_growTo 15 = .ok (.ishr, 1) := by decide +kernel
theorem d_Volume_growTo_16 : decode b_Volume_growTo 16 = .ok (.invokevirtual 76, 3) := by decide +kernel
theorem d_Volume_growTo_19 : decode b_Volume_growTo 19 = .ok (.aload_n 0, 1) := by decide +kernel
theorem d_Volume_growTo_20 : decode b_Volume_growTo 20 = .ok (.iload_n 1, 1) := by decide +kernel
theorem d_Volume_growTo_21 : decode b_Volume_growTo 21 = .ok (.iconst 3, 1) := by decide +kernel
theorem d_Volume_growTo_22 : decode b_Volume_growTo 22 = .ok (.iload_n 2, 1) := by decide +kernel
theorem d_Volume_growTo_23 : decode b_Volume_growTo 23 = .ok (.invokevirtual 76, 3) := by decide +kernel
theorem d_Volume_growTo_26 : decode b_Volume_growTo 26 = .ok (.return_, 1) := by decide +kernel
theorem d_Volume_isFile_0 : decode b_Volume_isFile 0 = .ok (.aload_n 0, 1) := by decide +kernel
theorem d_Volume_isFile_1 : decode b_Volume_isFile 1 = .ok (.iload_n 1, 1) := by decide +kernel
theorem d_Volume_isFile_2 : decode b_Volume_isFile 2 = .ok (.invokevirtual 26, 3) := by decide +kernel
theorem d_Volume_isFile_5 : decode b_Volume_isFile 5 = .ok (.iconst 1, 1) := by decide +kernel
theorem d_Volume_isFile_6 : decode b_Volume_isFile 6 = .ok (.if_icmp .ne 7, 3) := by decide +kernel
theorem d_Volume_isFile_9 : decode b_Volume_isFile 9 = .ok (.iconst 1, 1) := by decide +kernel
theorem d_Volume_isFile_10 : decode b_Volume_isFile 10 = .ok (.goto 4, 3) := by decide +kernel
theorem d_Volume_isFile_13 : decode b_Volume_isFile 13 = .ok (.iconst 0, 1) := by decide +kernel
theorem d_Volume_isFile_14 : decode b_Volume_isFile 14 = .ok (.ireturn, 1) := by decide +kernel
theorem d_Volume_links_0 : decode b_Volume_links 0 = .ok (.aload_n 0, 1) := by decide +kernel
theorem d_Volume_links_1 : decode b_Volume_links 1 = .ok (.iload_n 1, 1) := by decide +kernel
theorem d_Volume_links_2 : decode b_Volume_links 2 = .ok (.iconst 1, 1) := by decide +kernel
theorem d_Volume_links_3 : decode b_Volume_links 3 = .ok (.invokevirtual 22, 3) := by decide +kernel
theorem d_Volume_links_6 : decode b_Volume_links 6 = .ok (.ireturn, 1) := by decide +kernel
theorem d_Volume_addLink_0 : decode b_Volume_addLink 0 = .ok (.aload_n 0, 1) := by decide +kernel
theorem d_Volume_addLink_1 : decode b_Volume_addLink 1 = .ok (.iload_n 1, 1) := by decide +kernel
theorem d_Volume_addLink_2 : decode b_Volume_addLink 2 = .ok (.iconst 1, 1) := by decide +kernel
theorem d_Volume_addLink_3 : decode b_Volume_addLink 3 = .ok (.aload_n 0, 1) := by decide +kernel
theorem d_Volume_addLink_4 : decode b_Volume_addLink 4 = .ok (.iload_n 1, 1) := by decide +kernel
theorem d_Volume_addLink_5 : decode b_Volume_addLink 5 = .ok (.invokevirtual 80, 3) := by decide +kernel
theorem d_Volume_addLink_8 : decode b_Volume_addLink 8 = .ok (.iconst 1, 1) := by decide +kernel
theorem d_Volume_addLink_9 : decode b_Volume_addLink 9 = .ok (.iadd, 1) := by decide +kernel
theorem d_Volume_addLink_10 : decode b_Volume_addLink 10 = .ok (.invokevirtual 76, 3) := by decide +kernel
theorem d_Volume_addLink_13 : decode b_Volume_addLink 13 = .ok (.return_, 1) := by decide +kernel
theorem d_Volume_inodeAt_0 : decode b_Volume_inodeAt 0 = .ok (.aload_n 0, 1) := by decide +kernel
theorem d_Volume_inodeAt_1 : decode b_Volume_inodeAt 1 = .ok (.iload_n 1, 1) := by decide +kernel
theorem d_Volume_inodeAt_2 : decode b_Volume_inodeAt 2 = .ok (.iload_n 2, 1) := by decide +kernel
theorem d_Volume_inodeAt_3 : decode b_Volume_inodeAt 3 = .ok (.invokevirtual 54, 3) := by decide +kernel
theorem d_Volume_inodeAt_6 : decode b_Volume_inodeAt 6 = .ok (.iconst 0, 1) := by decide +kernel
theorem d_Volume_inodeAt_7 : decode b_Volume_inodeAt 7 = .ok (.invokestatic 58, 3) := by decide +kernel
theorem d_Volume_inodeAt_10 : decode b_Volume_inodeAt 10 = .ok (.iconst 1, 1) := by decide +kernel
theorem d_Volume_inodeAt_11 : decode b_Volume_inodeAt 11 = .ok (.isub, 1) := by decide +kernel
theorem d_Volume_inodeAt_12 : decode b_Volume_inodeAt 12 = .ok (.ireturn, 1) := by decide +kernel
theorem d_Volume_entries_0 : decode b_Volume_entries 0 = .ok (.iconst 0, 1) := by decide +kernel
theorem d_Volume_entries_1 : decode b_Volume_entries 1 = .ok (.istore_n 2, 1) := by decide +kernel
theorem d_Volume_entries_2 : decode b_Volume_entries 2 = .ok (.aload_n 0, 1) := by decide +kernel
theorem d_Volume_entries_3 : decode b_Volume_entries 3 = .ok (.iload_n 1, 1) := by decide +kernel
theorem d_Volume_entries_4 : decode b_Volume_entries 4 = .ok (.invokevirtual 43, 3) := by decide +kernel
theorem d_Volume_entries_7 : decode b_Volume_entries 7 = .ok (.ifCond .eq 11, 3) := by decide +kernel
theorem d_Volume_entries_10 : decode b_Volume_entries 10 = .ok (.aload_n 0, 1) := by decide +kernel
theorem d_Volume_entries_11 : decode b_Volume_entries 11 = .ok (.iload_n 1, 1) := by decide +kernel
theorem d_Volume_entries_12 : decode b_Volume_entries 12 = .ok (.invokevirtual 51, 3) := by decide +kernel
theorem d_Volume_entries_15 : decode b_Volume_entries 15 = .ok (.goto 4, 3) := by decide +kernel
theorem d_Volume_entries_18 : decode b_Volume_entries 18 = .ok (.iconst 0, 1) := by decide +kernel
theorem d_Volume_entries_19 : decode b_Volume_entries 19 = .ok (.istore_n 3, 1) := by decide +kernel
theorem d_Volume_entries_20 : decode b_Volume_entries 20 = .ok (.iconst 0, 1) := by decide +kernel
theorem d_Volume_entries_21 : decode b_Volume_entries 21 = .ok (.istore 4, 2) := by decide +kernel
theorem d_Volume_entries_23 : decode b_Volume_entries 23 = .ok (.iload 4, 2) := by decide +kernel
theorem d_Volume_entries_25 : decode b_Volume_entries 25 = .ok (.iload_n 3, 1) := by decide +kernel
theorem d_Volume_entries_26 : decode b_Volume_entries 26 = .ok (.if_icmp .ge 24, 3) := by decide +kernel
theorem d_Volume_entries_29 : decode b_Volume_entries 29 = .ok (.aload_n 0, 1) := by decide +kernel
theorem d_Volume_entries_30 : decode b_Volume_entries 30 = .ok (.iload_n 1, 1) := by decide +kernel
theorem d_Volume_entries_31 : decode b_Volume_entries 31 = .ok (.iload 4, 2) := by decide +kernel
theorem d_Volume_entries_33 : decode b_Volume_entries 33 = .ok (.invokevirtual 54, 3) := by decide +kernel
theorem d_Volume_entries_36 : decode b_Volume_entries 36 = .ok (.lconst 0, 1) := by decide +kernel
theorem d_Volume_entries_37 : decode b_Volume_entries 37 = .ok (.lcmp, 1) := by decide +kernel
theorem d_Volume_entries_38 : decode b_Volume_entries 38 = .ok (.ifCond .eq 6, 3) := by decide +kernel
theorem d_Volume_entries_41 : decode b_Volume_entries 41 = .ok (.iinc 2 1, 3) := by decide +kernel
theorem d_Volume_entries_44 : decode b_Volume_entries 44 = .ok (.iinc 4 8, 3) := by decide +kernel
theorem d_Volume_entries_47 : decode b_Volume_entries 47 = .ok (.goto (-24), 3) := by decide +kernel
theorem d_Volume_entries_50 : decode b_Volume_entries 50 = .ok (.iload_n 2, 1) := by decide +kernel
theorem d_Volume_entries_51 : decode b_Volume_entries 51 = .ok (.ireturn, 1) := by decide +kernel
theorem d_Volume_dropLink_0 : decode b_Volume_dropLink 0 = .ok (.aload_n 0, 1) := by decide +kernel
theorem d_Volume_dropLink_1 : decode b_Volume_dropLink 1 = .ok (.iload_n 1, 1) := by decide +kernel
theorem d_Volume_dropLink_2 : decode b_Volume_dropLink 2 = .ok (.invokevirtual 80, 3) := by decide +kernel
theorem d_Volume_dropLink_5 : decode b_Volume_dropLink 5 = .ok (.iconst 1, 1) := by decide +kernel
theorem d_Volume_dropLink_6 : decode b_Volume_dropLink 6 = .ok (.if_icmp .le 17, 3) := by decide +kernel
theorem d_Volume_dropLink_9 : decode b_Volume_dropLink 9 = .ok (.aload_n 0, 1) := by decide +kernel
theorem d_Volume_dropLink_10 : decode b_Volume_dropLink 10 = .ok (.iload_n 1, 1) := by decide +kernel
theorem d_Volume_dropLink_11 : decode b_Volume_dropLink 11 = .ok (.iconst 1, 1) := by decide +kernel
theorem d_Volume_dropLink_12 : decode b_Volume_dropLink 12 = .ok (.aload_n 0, 1) := by decide +kernel
theorem d_Volume_dropLink_13 : decode b_Volume_dropLink 13 = .ok (.iload_n 1, 1) := by decide +kernel
theorem d_Volume_dropLink_14 : decode b_Volume_dropLink 14 = .ok (.invokevirtual 80, 3) := by decide +kernel
theorem d_Volume_dropLink_17 : decode b_Volume_dropLink 17 = .ok (.iconst 1, 1) := by decide +kernel
theorem d_Volume_dropLink_18 : decode b_Volume_dropLink 18 = .ok (.isub, 1) := by decide +kernel
theorem d_Volume_dropLink_19 : decode b_Volume_dropLink 19 = .ok (.invokevirtual 76, 3) := by decide +kernel
theorem d_Volume_dropLink_22 : decode b_Volume_dropLink 22 = .ok (.return_, 1) := by decide +kernel
theorem d_Volume_dropLink_23 : decode b_Volume_dropLink 23 = .ok (.aload_n 0, 1) := by decide +kernel
theorem d_Volume_dropLink_24 : decode b_Volume_dropLink 24 = .ok (.iload_n 1, 1) := by decide +kernel
theorem d_Volume_dropLink_25 : decode b_Volume_dropLink 25 = .ok (.invokevirtual 83, 3) := by decide +kernel
theorem d_Volume_dropLink_28 : decode b_Volume_dropLink 28 = .ok (.aload_n 0, 1) := by decide +kernel
theorem d_Volume_dropLink_29 : decode b_Volume_dropLink 29 = .ok (.iload_n 1, 1) := by decide +kernel
theorem d_Volume_dropLink_30 : decode b_Volume_dropLink 30 = .ok (.iconst 0, 1) := by decide +kernel
theorem d_Volume_dropLink_31 : decode b_Volume_dropLink 31 = .ok (.iconst 0, 1) := by decide +kernel
theorem d_Volume_dropLink_32 : decode b_Volume_dropLink 32 = .ok (.invokevirtual 76, 3) := by decide +kernel
theorem d_Volume_dropLink_35 : decode b_Volume_dropLink 35 = .ok (.aload_n 0, 1) := by decide +kernel
theorem d_Volume_dropLink_36 : decode b_Volume_dropLink 36 = .ok (.iload_n 1, 1) := by decide +kernel
theorem d_Volume_dropLink_37 : decode b_Volume_dropLink 37 = .ok (.iconst 1, 1) := by decide +kernel
theorem d_Volume_dropLink_38 : decode b_Volume_dropLink 38 = .ok (.iconst 0, 1) := by decide +kernel
theorem d_Volume_dropLink_39 : decode b_Volume_dropLink 39 = .ok (.invokevirtual 76, 3) := by decide +kernel
theorem d_Volume_dropLink_42 : decode b_Volume_dropLink 42 = .ok (.return_, 1) := by decide +kernel
theorem d_Volume_empty_0 : decode b_Volume_empty 0 = .ok (.aload_n 0, 1) := by decide +kernel
theorem d_Volume_empty_1 : decode b_Volume_empty 1 = .ok (.iload_n 1, 1) := by decide +kernel
theorem d_Volume_empty_2 : decode b_Volume_empty 2 = .ok (.invokevirtual 51, 3) := by decide +kernel
theorem d_Volume_empty_5 : decode b_Volume_empty 5 = .ok (.invokestatic 94, 3) := by decide +kernel
theorem d_Volume_empty_8 : decode b_Volume_empty 8 = .ok (.istore_n 2, 1) := by decide +kernel
theorem d_Volume_empty_9 : decode b_Volume_empty 9 = .ok (.iconst 0, 1) := by decide +kernel
theorem d_Volume_empty_10 : decode b_Volume_empty 10 = .ok (.istore_n 3, 1) := by decide +kernel
theorem d_Volume_empty_11 : decode b_Volume_empty 11 = .ok (.iload_n 3, 1) := by decide +kernel
theorem d_Volume_empty_12 : decode b_Volume_empty 12 = .ok (.iload_n 2, 1) := by decide +kernel
theorem d_Volume_empty_13 : decode b_Volume_empty 13 = .ok (.if_icmp .ge 19, 3) := by decide +kernel
theorem d_Volume_empty_16 : decode b_Volume_empty 16 = .ok (.aload_n 0, 1) := by decide +kernel
theorem d_Volume_empty_17 : decode b_Volume_empty 17 = .ok (.aload_n 0, 1) := by decide +kernel
theorem d_Volume_empty_18 : decode b_Volume_empty 18 = .ok (.iload_n 1, 1) := by decide +kernel
theorem d_Volume_empty_19 : decode b_Volume_empty 19 = .ok (.iload_n 3, 1) := by decide +kernel
theorem d_Volume_empty_20 : decode b_Volume_empty 20 = .ok (.invokevirtual 40, 3) := by decide +kernel
theorem d_Volume_empty_23 : decode b_Volume_empty 23 = .ok (.invokevirtual 97, 3) := by decide +kernel
theorem d_Volume_empty_26 : decode b_Volume_empty 26 = .ok (.iinc 3 1, 3) := by decide +kernel
theorem d_Volume_empty_29 : decode b_Volume_empty 29 = .ok (.goto (-18), 3) := by decide +kernel
theorem d_Volume_empty_32 : decode b_Volume_empty 32 = .ok (.aload_n 0, 1) := by decide +kernel
theorem d_Volume_empty_33 : decode b_Volume_empty 33 = .ok (.iload_n 1, 1) := by decide +kernel
theorem d_Volume_empty_34 : decode b_Volume_empty 34 = .ok (.bipush 14, 2) := by decide +kernel
theorem d_Volume_empty_36 : decode b_Volume_empty 36 = .ok (.invokevirtual 22, 3) := by decide +kernel
theorem d_Volume_empty_39 : decode b_Volume_empty 39 = .ok (.istore_n 3, 1) := by decide +kernel
theorem d_Volume_empty_40 : decode b_Volume_empty 40 = .ok (.iload_n 3, 1) := by decide +kernel
theorem d_Volume_empty_41 : decode b_Volume_empty 41 = .ok (.ifCond .eq 8, 3) := by decide +kernel
theorem d_Volume_empty_44 : decode b_Volume_empty 44 = .ok (.aload_n 0, 1) := by decide +kernel
theorem d_Volume_empty_45 : decode b_Volume_empty 45 = .ok (.iload_n 3, 1) := by decide +kernel
theorem d_Volume_empty_46 : decode b_Volume_empty 46 = .ok (.invokevirtual 97, 3) := by decide +kernel
theorem d_Volume_empty_49 : decode b_Volume_empty 49 = .ok (.iconst 2, 1) := by decide +kernel
theorem d_Volume_empty_50 : decode b_Volume_empty 50 = .ok (.istore 4, 2) := by decide +kernel
theorem d_Volume_empty_52 : decode b_Volume_empty 52 = .ok (.iload 4, 2) := by decide +kernel
theorem d_Volume_empty_54 : decode b_Volume_empty 54 = .ok (.bipush 16, 2) := by decide +kernel
theorem d_Volume_empty_56 : decode b_Volume_empty 56 = .ok (.if_icmp .ge 17, 3) := by decide +kernel
theorem d_Volume_empty_59 : decode b_Volume_empty 59 = .ok (.aload_n 0, 1) := by decide +kernel
theorem d_Volume_empty_60 : decode b_Volume_empty 60 = .ok (.iload_n 1, 1) := by decide +kernel
theorem d_Volume_empty_61 : decode b_Volume_empty 61 = .ok (.iload 4, 2) := by decide +kernel
theorem d_Volume_empty_63 : decode b_Volume_empty 63 = .ok (.iconst 0, 1) := by decide +kernel
theorem d_Volume_empty_64 : decode b_Volume_empty 64 = .ok (.invokevirtual 76, 3) := by decide +kernel
theorem d_Volume_empty_67 : decode b_Volume_empty 67 = .ok (.iinc 4 1, 3) := by decide +kernel
theorem d_Volume_empty_70 : decode b_Volume_empty 70 = .ok (.goto (-18), 3) := by decide +kernel
theorem d_Volume_empty_73 : decode b_Volume_empty 73 = .ok (.return_, 1) := by decide +kernel
theorem d_Volume_giveBack_0 : decode b_Volume_giveBack 0 = .ok (.aload_n 0, 1) := by decide +kernel
theorem d_Volume_giveBack_1 : decode b_Volume_giveBack 1 = .ok (.getfield 9, 3) := by decide +kernel
theorem d_Volume_giveBack_4 : decode b_Volume_giveBack 4 = .ok (.bipush 25, 2) := by decide +kernel
theorem d_Volume_giveBack_6 : decode b_Volume_giveBack 6 = .ok (.iload_n 1, 1) := by decide +kernel
theorem d_Volume_giveBack_7 : decode b_Volume_giveBack 7 = .ok (.bipush 8, 2) := by decide +kernel
theorem d_Volume_giveBack_9 : decode b_Volume_giveBack 9 = .ok (.idiv, 1) := by decide +kernel
theorem d_Volume_giveBack_10 : decode b_Volume_giveBack 10 = .ok (.aload_n 0, 1) := by decide +kernel
theorem d_Volume_giveBack_11 : decode b_Volume_giveBack 11 = .ok (.getfield 21, 3) := by decide +kernel
theorem d_Volume_giveBack_14 : decode b_Volume_giveBack 14 = .ok (.bipush 25, 2) := by decide +kernel
theorem d_Volume_giveBack_16 : decode b_Volume_giveBack 16 = .ok (.iload_n 1, 1) := by decide +kernel
theorem d_Volume_giveBack_17 : decode b_Volume_giveBack 17 = .ok (.bipush 8, 2) := by decide +kernel
theorem d_Volume_giveBack_19 : decode b_Volume_giveBack 19 = .ok (.idiv, 1) := by decide +kernel
theorem d_Volume_giveBack_20 : decode b_Volume_giveBack 20 = .ok (.invokevirtual 30, 3) := by decide +kernel
theorem d_Volume_giveBack_23 : decode b_Volume_giveBack 23 = .ok (.iconst 1, 1) := by decide +kernel
theorem d_Volume_giveBack_24 : decode b_Volume_giveBack 24 = .ok (.iload_n 1, 1) := by decide +kernel
theorem d_Volume_giveBack_25 : decode b_Volume_giveBack 25 = .ok (.bipush 8, 2) := by decide +kernel
theorem d_Volume_giveBack_27 : decode b_Volume_giveBack 27 = .ok (.irem, 1) := by decide +kernel
theorem d_Volume_giveBack_28 : decode b_Volume_giveBack 28 = .ok (.ishl, 1) := by decide +kernel
theorem d_Volume_giveBack_29 : decode b_Volume_giveBack 29 = .ok (.iconst (-1), 1) := by decide +kernel
theorem d_Volume_giveBack_30 : decode b_Volume_giveBack 30 = .ok (.ixor, 1) := by decide +kernel
theorem d_Volume_giveBack_31 : decode b_Volume_giveBack 31 = .ok (.iand, 1) := by decide +kernel
theorem d_Volume_giveBack_32 : decode b_Volume_giveBack 32 = .ok (.invokevirtual 103, 3) := by decide +kernel
theorem d_Volume_giveBack_35 : decode b_Volume_giveBack 35 = .ok (.return_, 1) := by decide +kernel
theorem d_Volume_canPut_0 : decode b_Volume_canPut 0 = .ok (.aload_n 0, 1) := by decide +kernel
theorem d_Volume_canPut_1 : decode b_Volume_canPut 1 = .ok (.iload_n 1, 1) := by decide +kernel
theorem d_Volume_canPut_2 : decode b_Volume_canPut 2 = .ok (.invokevirtual 73, 3) := by decide +kernel
theorem d_Volume_canPut_5 : decode b_Volume_canPut 5 = .ok (.ifCond .eq 31, 3) := by decide +kernel
theorem d_Volume_canPut_8 : decode b_Volume_canPut 8 = .ok (.iload_n 2, 1) := by decide +kernel
theorem d_Volume_canPut_9 : decode b_Volume_canPut 9 = .ok (.ifCond .lt 27, 3) := by decide +kernel
theorem d_Volume_canPut_12 : decode b_Volume_canPut 12 = .ok (.iload_n 2, 1) := by decide +kernel
theorem d_Volume_canPut_13 : decode b_Volume_canPut 13 = .ok (.aload_n 0, 1) := by decide +kernel
theorem d_Volume_canPut_14 : decode b_Volume_canPut 14 = .ok (.iload_n 1, 1) := by decide +kernel
theorem d_Volume_canPut_15 : decode b_Volume_canPut 15 = .ok (.invokevirtual 51, 3) := by decide +kernel
theorem d_Volume_canPut_18 : decode b_Volume_canPut 18 = .ok (.if_icmp .gt 18, 3) := by decide +kernel
theorem d_Volume_canPut_21 : decode b_Volume_canPut 21 = .ok (.aload_n 0, 1) := by decide +kernel
theorem d_Volume_canPut_22 : decode b_Volume_canPut 22 = .ok (.iload_n 1, 1) := by decide +kernel
theorem d_Volume_canPut_23 : decode b_Volume_canPut 23 = .ok (.iload_n 2, 1) := by decide +kernel
theorem d_Volume_canPut_24 : decode b_Volume_canPut 24 = .ok (.iload_n 3, 1) := by decide +kernel
theorem d_Volume_canPut_25 : decode b_Volume_canPut 25 = .ok (.iadd, 1) := by decide +kernel
theorem d_Volume_canPut_26 : decode b_Volume_canPut 26 = .ok (.invokevirtual 69, 3) := by decide +kernel
theorem d_Volume_canPut_29 : decode b_Volume_canPut 29 = .ok (.ifCond .eq 7, 3) := by decide +kernel
theorem d_Volume_canPut_32 : decode b_Volume_canPut 32 = .ok (.iconst 1, 1) := by decide +kernel
theorem d_Volume_canPut_33 : decode b_Volume_canPut 33 = .ok (.goto 4, 3) := by decide +kernel
theorem d_Volume_canPut_36 : decode b_Volume_canPut 36 = .ok (.iconst 0, 1) := by decide +kernel
theorem d_Volume_canPut_37 : decode b_Volume_canPut 37 = .ok (.ireturn, 1) := by decide +kernel
theorem d_Volume_putSame_0 : decode b_Volume_putSame 0 = .ok (.iconst 0, 1) := by decide +kernel
theorem d_Volume_putSame_1 : decode b_Volume_putSame 1 = .ok (.istore 5, 2) := by decide +kernel
theorem d_Volume_putSame_3 : decode b_Volume_putSame 3 = .ok (.iload 5, 2) := by decide +kernel
theorem d_Volume_putSame_5 : decode b_Volume_putSame 5 = .ok (.iload 4, 2) := by decide +kernel
theorem d_Volume_putSame_7 : decode b_Volume_putSame 7 = .ok (.if_icmp .ge 19, 3) := by decide +kernel
theorem d_Volume_putSame_10 : decode b_Volume_putSame 10 = .ok (.aload_n 0, 1) := by decide +kernel
theorem d_Volume_putSame_11 : decode b_Volume_putSame 11 = .ok (.iload_n 1, 1) := by decide +kernel
theorem d_Volume_putSame_12 : decode b_Volume_putSame 12 = .ok (.iload_n 2, 1) := by decide +kernel
theorem d_Volume_putSame_13 : decode b_Volume_putSame 13 = .ok (.iload 5, 2) := by decide +kernel
theorem d_Volume_putSame_15 : decode b_Volume_putSame 15 = .ok (.iadd, 1) := by decide +kernel
theorem d_Volume_putSame_16 : decode b_Volume_putSame 16 = .ok (.iload_n 3, 1) := by decide +kernel
theorem d_Volume_putSame_17 : decode b_Volume_putSame 17 = .ok (.invokevirtual 87, 3) := by decide +kernel
theorem d_Volume_putSame_20 : decode b_Volume_putSame 20 = .ok (.iinc 5 1, 3) := by decide +kernel
theorem d_Volume_putSame_23 : decode b_Volume_putSame 23 = .ok (.goto (-20), 3) := by decide +kernel
theorem d_Volume_putSame_26 : decode b_Volume_putSame 26 = .ok (.aload_n 0, 1) := by decide +kernel
theorem d_Volume_putSame_27 : decode b_Volume_putSame 27 = .ok (.iload_n 1, 1) := by decide +kernel
theorem d_Volume_putSame_28 : decode b_Volume_putSame 28 = .ok (.iload_n 2, 1) := by decide +kernel
theorem d_Volume_putSame_29 : decode b_Volume_putSame 29 = .ok (.iload 4, 2) := by decide +kernel
theorem d_Volume_putSame_31 : decode b_Volume_putSame 31 = .ok (.iadd, 1) := by decide +kernel
theorem d_Volume_putSame_32 : decode b_Volume_putSame 32 = .ok (.invokevirtual 90, 3) := by decide +kernel
theorem d_Volume_putSame_35 : decode b_Volume_putSame 35 = .ok (.return_, 1) := by decide +kernel
theorem d_Volume_contentByte_0 : decode b_Volume_contentByte 0 = .ok (.aload_n 0, 1) := by decide +kernel
theorem d_Volume_contentByte_1 : decode b_Volume_contentByte 1 = .ok (.getfield 21, 3) := by decide +kernel
theorem d_Volume_contentByte_4 : decode b_Volume_contentByte 4 = .ok (.aload_n 0, 1) := by decide +kernel
theorem d_Volume_contentByte_5 : decode b_Volume_contentByte 5 = .ok (.iload_n 1, 1) := by decide +kernel
theorem d_Volume_contentByte_6 : decode b_Volume_contentByte 6 = .ok (.iload_n 2, 1) := by decide +kernel
theorem d_Volume_contentByte_7 : decode b_Volume_contentByte 7 = .ok (.bipush 64, 2) := by decide +kernel
theorem d_Volume_contentByte_9 : decode b_Volume_contentByte 9 = .ok (.idiv, 1) := by decide +kernel
theorem d_Volume_contentByte_10 : decode b_Volume_contentByte 10 = .ok (.invokevirtual 40, 3) := by decide +kernel
theorem d_Volume_contentByte_13 : decode b_Volume_contentByte 13 = .ok (.iload_n 2, 1) := by decide +kernel
theorem d_Volume_contentByte_14 : decode b_Volume_contentByte 14 = .ok (.bipush 64, 2) := by decide +kernel
theorem d_Volume_contentByte_16 : decode b_Volume_contentByte 16 = .ok (.irem, 1) := by decide +kernel
theorem d_Volume_contentByte_17 : decode b_Volume_contentByte 17 = .ok (.invokevirtual 30, 3) := by decide +kernel
theorem d_Volume_contentByte_20 : decode b_Volume_contentByte 20 = .ok (.ireturn, 1) := by decide +kernel
