theorem dX10_addNode_0 : decode cX10_addNode 0 = .ok (.iload_n 1, 1) := by decide +kernel
theorem dX10_addNode_1 : decode cX10_addNode 1 = .ok (.iconst 0, 1) := by decide +kernel
theorem dX10_addNode_2 : decode cX10_addNode 2 = .ok (.bipush 6, 2) := by decide +kernel
theorem dX10_addNode_4 : decode cX10_addNode 4 = .ok (.invokestatic 69, 3) := by decide +kernel
theorem dX10_addNode_7 : decode cX10_addNode 7 = .ok (.ifCond .ne 7, 3) := by decide +kernel
theorem dX10_addNode_10 : decode cX10_addNode 10 = .ok (.sipush (-1002), 3) := by decide +kernel
theorem dX10_addNode_13 : decode cX10_addNode 13 = .ok (.ireturn, 1) := by decide +kernel
theorem dX10_addNode_14 : decode cX10_addNode 14 = .ok (.aload_n 0, 1) := by decide +kernel
theorem dX10_addNode_15 : decode cX10_addNode 15 = .ok (.getfield 7, 3) := by decide +kernel
theorem dX10_addNode_18 : decode cX10_addNode 18 = .ok (.iconst 0, 1) := by decide +kernel
theorem dX10_addNode_19 : decode cX10_addNode 19 = .ok (.iaload, 1) := by decide +kernel
theorem dX10_addNode_20 : decode cX10_addNode 20 = .ok (.bipush 12, 2) := by decide +kernel
theorem dX10_addNode_22 : decode cX10_addNode 22 = .ok (.if_icmp .ne 9, 3) := by decide +kernel
theorem dX10_addNode_25 : decode cX10_addNode 25 = .ok (.sipush (-1004), 3) := by decide +kernel
theorem dX10_addNode_28 : decode cX10_addNode 28 = .ok (.goto 8, 3) := by decide +kernel
theorem dX10_addNode_31 : decode cX10_addNode 31 = .ok (.aload_n 0, 1) := by decide +kernel
theorem dX10_addNode_32 : decode cX10_addNode 32 = .ok (.iload_n 1, 1) := by decide +kernel
theorem dX10_addNode_33 : decode cX10_addNode 33 = .ok (.invokevirtual 91, 3) := by decide +kernel
theorem dX10_addNode_36 : decode cX10_addNode 36 = .ok (.ireturn, 1) := by decide +kernel
theorem dX10_adds_0 : decode cX10_adds 0 = .ok (.aload_n 0, 1) := by decide +kernel
theorem dX10_adds_1 : decode cX10_adds 1 = .ok (.getfield 7, 3) := by decide +kernel
theorem dX10_adds_4 : decode cX10_adds 4 = .ok (.iconst 0, 1) := by decide +kernel
theorem dX10_adds_5 : decode cX10_adds 5 = .ok (.iaload, 1) := by decide +kernel
theorem dX10_adds_6 : decode cX10_adds 6 = .ok (.istore_n 2, 1) := by decide +kernel
theorem dX10_adds_7 : decode cX10_adds 7 = .ok (.aload_n 0, 1) := by decide +kernel
theorem dX10_adds_8 : decode cX10_adds 8 = .ok (.getfield 7, 3) := by decide +kernel
theorem dX10_adds_11 : decode cX10_adds 11 = .ok (.iload_n 2, 1) := by decide +kernel
theorem dX10_adds_12 : decode cX10_adds 12 = .ok (.iconst 0, 1) := by decide +kernel
theorem dX10_adds_13 : decode cX10_adds 13 = .ok (.invokestatic 73, 3) := by decide +kernel
theorem dX10_adds_16 : decode cX10_adds 16 = .ok (.iload_n 1, 1) := by decide +kernel
theorem dX10_adds_17 : decode cX10_adds 17 = .ok (.iastore, 1) := by decide +kernel
theorem dX10_adds_18 : decode cX10_adds 18 = .ok (.aload_n 0, 1) := by decide +kernel
theorem dX10_adds_19 : decode cX10_adds 19 = .ok (.getfield 7, 3) := by decide +kernel
theorem dX10_adds_22 : decode cX10_adds 22 = .ok (.iload_n 2, 1) := by decide +kernel
theorem dX10_adds_23 : decode cX10_adds 23 = .ok (.iconst 1, 1) := by decide +kernel
theorem dX10_adds_24 : decode cX10_adds 24 = .ok (.invokestatic 73, 3) := by decide +kernel
theorem dX10_adds_27 : decode cX10_adds 27 = .ok (.iconst 0, 1) := by decide +kernel
theorem dX10_adds_28 : decode cX10_adds 28 = .ok (.iastore, 1) := by decide +kernel
theorem dX10_adds_29 : decode cX10_adds 29 = .ok (.aload_n 0, 1) := by decide +kernel
theorem dX10_adds_30 : decode cX10_adds 30 = .ok (.getfield 7, 3) := by decide +kernel
theorem dX10_adds_33 : decode cX10_adds 33 = .ok (.iload_n 2, 1) := by decide +kernel
theorem dX10_adds_34 : decode cX10_adds 34 = .ok (.iconst 2, 1) := by decide +kernel
theorem dX10_adds_35 : decode cX10_adds 35 = .ok (.invokestatic 73, 3) := by decide +kernel
theorem dX10_adds_38 : decode cX10_adds 38 = .ok (.bipush 99, 2) := by decide +kernel
theorem dX10_adds_40 : decode cX10_adds 40 = .ok (.iastore, 1) := by decide +kernel
theorem dX10_adds_41 : decode cX10_adds 41 = .ok (.iconst 0, 1) := by decide +kernel
theorem dX10_adds_42 : decode cX10_adds 42 = .ok (.istore_n 3, 1) := by decide +kernel
theorem dX10_adds_43 : decode cX10_adds 43 = .ok (.iload_n 3, 1) := by decide +kernel
theorem dX10_adds_44 : decode cX10_adds 44 = .ok (.iconst 3, 1) := by decide +kernel
theorem dX10_adds_45 : decode cX10_adds 45 = .ok (.if_icmp .ge 24, 3) := by decide +kernel
theorem dX10_adds_48 : decode cX10_adds 48 = .ok (.aload_n 0, 1) := by decide +kernel
theorem dX10_adds_49 : decode cX10_adds 49 = .ok (.getfield 7, 3) := by decide +kernel
theorem dX10_adds_52 : decode cX10_adds 52 = .ok (.iload_n 2, 1) := by decide +kernel
theorem dX10_adds_53 : decode cX10_adds 53 = .ok (.iconst 3, 1) := by decide +kernel
theorem dX10_adds_54 : decode cX10_adds 54 = .ok (.iload_n 3, 1) := by decide +kernel
theorem dX10_adds_55 : decode cX10_adds 55 = .ok (.iadd, 1) := by decide +kernel
theorem dX10_adds_56 : decode cX10_adds 56 = .ok (.invokestatic 73, 3) := by decide +kernel
theorem dX10_adds_59 : decode cX10_adds 59 = .ok (.sipush (-1005), 3) := by decide +kernel
theorem dX10_adds_62 : decode cX10_adds 62 = .ok (.iastore, 1) := by decide +kernel
theorem dX10_adds_63 : decode cX10_adds 63 = .ok (.iinc 3 1, 3) := by decide +kernel
theorem dX10_adds_66 : decode cX10_adds 66 = .ok (.goto (-23), 3) := by decide +kernel
theorem dX10_adds_69 : decode cX10_adds 69 = .ok (.iconst 0, 1) := by decide +kernel
theorem dX10_adds_70 : decode cX10_adds 70 = .ok (.istore_n 3, 1) := by decide +kernel
theorem dX10_adds_71 : decode cX10_adds 71 = .ok (.iload_n 3, 1) := by decide +kernel
theorem dX10_adds_72 : decode cX10_adds 72 = .ok (.iconst 4, 1) := by decide +kernel
theorem dX10_adds_73 : decode cX10_adds 73 = .ok (.if_icmp .ge 27, 3) := by decide +kernel
theorem dX10_adds_76 : decode cX10_adds 76 = .ok (.aload_n 0, 1) := by decide +kernel
theorem dX10_adds_77 : decode cX10_adds 77 = .ok (.getfield 7, 3) := by decide +kernel
theorem dX10_adds_80 : decode cX10_adds 80 = .ok (.iload_n 2, 1) := by decide +kernel
theorem dX10_adds_81 : decode cX10_adds 81 = .ok (.bipush 6, 2) := by decide +kernel
theorem dX10_adds_83 : decode cX10_adds 83 = .ok (.iload_n 3, 1) := by decide +kernel
theorem dX10_adds_84 : decode cX10_adds 84 = .ok (.iadd, 1) := by decide +kernel
theorem dX10_adds_85 : decode cX10_adds 85 = .ok (.invokestatic 73, 3) := by decide +kernel
theorem dX10_adds_88 : decode cX10_adds 88 = .ok (.iload_n 1, 1) := by decide +kernel
theorem dX10_adds_89 : decode cX10_adds 89 = .ok (.iload_n 3, 1) := by decide +kernel
theorem dX10_adds_90 : decode cX10_adds 90 = .ok (.invokestatic 88, 3) := by decide +kernel
theorem dX10_adds_93 : decode cX10_adds 93 = .ok (.iastore, 1) := by decide +kernel
theorem dX10_adds_94 : decode cX10_adds 94 = .ok (.iinc 3 1, 3) := by decide +kernel
theorem dX10_adds_97 : decode cX10_adds 97 = .ok (.goto (-26), 3) := by decide +kernel
theorem dX10_adds_100 : decode cX10_adds 100 = .ok (.aload_n 0, 1) := by decide +kernel
theorem dX10_adds_101 : decode cX10_adds 101 = .ok (.getfield 7, 3) := by decide +kernel
theorem dX10_adds_104 : decode cX10_adds 104 = .ok (.iconst 0, 1) := by decide +kernel
theorem dX10_adds_105 : decode cX10_adds 105 = .ok (.dup2, 1) := by decide +kernel
theorem dX10_adds_106 : decode cX10_adds 106 = .ok (.iaload, 1) := by decide +kernel
theorem dX10_adds_107 : decode cX10_adds 107 = .ok (.iconst 1, 1) := by decide +kernel
theorem dX10_adds_108 : decode cX10_adds 108 = .ok (.iadd, 1) := by decide +kernel
theorem dX10_adds_109 : decode cX10_adds 109 = .ok (.iastore, 1) := by decide +kernel
theorem dX10_adds_110 : decode cX10_adds 110 = .ok (.iload_n 2, 1) := by decide +kernel
theorem dX10_adds_111 : decode cX10_adds 111 = .ok (.ireturn, 1) := by decide +kernel
theorem dX10_append_0 : decode cX10_append 0 = .ok (.iload_n 1, 1) := by decide +kernel
theorem dX10_append_1 : decode cX10_append 1 = .ok (.iconst 0, 1) := by decide +kernel
theorem dX10_append_2 : decode cX10_append 2 = .ok (.bipush 127, 2) := by decide +kernel
theorem dX10_append_4 : decode cX10_append 4 = .ok (.invokestatic 69, 3) := by decide +kernel
theorem dX10_append_7 : decode cX10_append 7 = .ok (.ifCond .ne 7, 3) := by decide +kernel
theorem dX10_append_10 : decode cX10_append 10 = .ok (.sipush (-1002), 3) := by decide +kernel
theorem dX10_append_13 : decode cX10_append 13 = .ok (.ireturn, 1) := by decide +kernel
theorem dX10_append_14 : decode cX10_append 14 = .ok (.aload_n 0, 1) := by decide +kernel
theorem dX10_append_15 : decode cX10_append 15 = .ok (.getfield 190, 3) := by decide +kernel
theorem dX10_append_18 : decode cX10_append 18 = .ok (.bipush 80, 2) := by decide +kernel
theorem dX10_append_20 : decode cX10_append 20 = .ok (.if_icmp .ne 7, 3) := by decide +kernel
theorem dX10_append_23 : decode cX10_append 23 = .ok (.sipush (-1004), 3) := by decide +kernel
theorem dX10_append_26 : decode cX10_append 26 = .ok (.ireturn, 1) := by decide +kernel
theorem dX10_append_27 : decode cX10_append 27 = .ok (.aload_n 0, 1) := by decide +kernel
theorem dX10_append_28 : decode cX10_append 28 = .ok (.getfield 39, 3) := by decide +kernel
theorem dX10_append_31 : decode cX10_append 31 = .ok (.aload_n 0, 1) := by decide +kernel
theorem dX10_append_32 : decode cX10_append 32 = .ok (.getfield 190, 3) := by decide +kernel
theorem dX10_append_35 : decode cX10_append 35 = .ok (.iload_n 1, 1) := by decide +kernel
theorem dX10_append_36 : decode cX10_append 36 = .ok (.iastore, 1) := by decide +kernel
theorem dX10_append_37 : decode cX10_append 37 = .ok (.aload_n 0, 1) := by decide +kernel
theorem dX10_append_38 : decode cX10_append 38 = .ok (.dup, 1) := by decide +kernel
theorem dX10_append_39 : decode cX10_append 39 = .ok (.getfield 190, 3) := by decide +kernel
theorem dX10_append_42 : decode cX10_append 42 = .ok (.iconst 1, 1) := by decide +kernel
theorem dX10_append_43 : decode cX10_append 43 = .ok (.iadd, 1) := by decide +kernel
theorem dX10_append_44 : decode cX10_append 44 = .ok (.putfield 190, 3) := by decide +kernel
theorem dX10_append_47 : decode cX10_append 47 = .ok (.aload_n 0, 1) := by decide +kernel
theorem dX10_append_48 : decode cX10_append 48 = .ok (.getfield 190, 3) := by decide +kernel
theorem dX10_append_51 : decode cX10_append 51 = .ok (.ireturn, 1) := by decide +kernel
theorem dX10_asks_0 : decode cX10_asks 0 = .ok (.aload_n 0, 1) := by decide +kernel
theorem dX10_asks_1 : decode cX10_asks 1 = .ok (.iload_n 1, 1) := by decide +kernel
theorem dX10_asks_2 : decode cX10_asks 2 = .ok (.iload_n 2, 1) := by decide +kernel
theorem dX10_asks_3 : decode cX10_asks 3 = .ok (.invokevirtual 140, 3) := by decide +kernel
theorem dX10_asks_6 : decode cX10_asks 6 = .ok (.istore_n 3, 1) := by decide +kernel
theorem dX10_asks_7 : decode cX10_asks 7 = .ok (.iload_n 3, 1) := by decide +kernel
theorem dX10_asks_8 : decode cX10_asks 8 = .ok (.ifCond .lt 21, 3) := by decide +kernel
theorem dX10_asks_11 : decode cX10_asks 11 = .ok (.aload_n 0, 1) := by decide +kernel
theorem dX10_asks_12 : decode cX10_asks 12 = .ok (.getfield 36, 3) := by decide +kernel
theorem dX10_asks_15 : decode cX10_asks 15 = .ok (.iconst 1, 1) := by decide +kernel
theorem dX10_asks_16 : decode cX10_asks 16 = .ok (.dup2, 1) := by decide +kernel
theorem dX10_asks_17 : decode cX10_asks 17 = .ok (.iaload, 1) := by decide +kernel
theorem dX10_asks_18 : decode cX10_asks 18 = .ok (.iconst 1, 1) := by decide +kernel
theorem dX10_asks_19 : decode cX10_asks 19 = .ok (.iadd, 1) := by decide +kernel
theorem dX10_asks_20 : decode cX10_asks 20 = .ok (.iastore, 1) := by decide +kernel
theorem dX10_asks_21 : decode cX10_asks 21 = .ok (.aload_n 0, 1) := by decide +kernel
theorem dX10_asks_22 : decode cX10_asks 22 = .ok (.iload_n 3, 1) := by decide +kernel
theorem dX10_asks_23 : decode cX10_asks 23 = .ok (.invokevirtual 143, 3) := by decide +kernel
theorem dX10_asks_26 : decode cX10_asks 26 = .ok (.goto 43, 3) := by decide +kernel
theorem dX10_asks_29 : decode cX10_asks 29 = .ok (.aload_n 0, 1) := by decide +kernel
theorem dX10_asks_30 : decode cX10_asks 30 = .ok (.getfield 36, 3) := by decide +kernel
theorem dX10_asks_33 : decode cX10_asks 33 = .ok (.iconst 2, 1) := by decide +kernel
theorem dX10_asks_34 : decode cX10_asks 34 = .ok (.dup2, 1) := by decide +kernel
theorem dX10_asks_35 : decode cX10_asks 35 = .ok (.iaload, 1) := by decide +kernel
theorem dX10_asks_36 : decode cX10_asks 36 = .ok (.iconst 1, 1) := by decide +kernel
theorem dX10_asks_37 : decode cX10_asks 37 = .ok (.iadd, 1) := by decide +kernel
theorem dX10_asks_38 : decode cX10_asks 38 = .ok (.iastore, 1) := by decide +kernel
theorem dX10_asks_39 : decode cX10_asks 39 = .ok (.aload_n 0, 1) := by decide +kernel
theorem dX10_asks_40 : decode cX10_asks 40 = .ok (.getfield 51, 3) := by decide +kernel
theorem dX10_asks_43 : decode cX10_asks 43 = .ok (.aload_n 0, 1) := by decide +kernel
theorem dX10_asks_44 : decode cX10_asks 44 = .ok (.getfield 145, 3) := by decide +kernel
theorem dX10_asks_47 : decode cX10_asks 47 = .ok (.iload_n 1, 1) := by decide +kernel
theorem dX10_asks_48 : decode cX10_asks 48 = .ok (.iastore, 1) := by decide +kernel
theorem dX10_asks_49 : decode cX10_asks 49 = .ok (.aload_n 0, 1) := by decide +kernel
theorem dX10_asks_50 : decode cX10_asks 50 = .ok (.getfield 54, 3) := by decide +kernel
theorem dX10_asks_53 : decode cX10_asks 53 = .ok (.aload_n 0, 1) := by decide +kernel
theorem dX10_asks_54 : decode cX10_asks 54 = .ok (.getfield 145, 3) := by decide +kernel
theorem dX10_asks_57 : decode cX10_asks 57 = .ok (.iconst 0, 1) := by decide +kernel
theorem dX10_asks_58 : decode cX10_asks 58 = .ok (.iastore, 1) := by decide +kernel
theorem dX10_asks_59 : decode cX10_asks 59 = .ok (.aload_n 0, 1) := by decide +kernel
theorem dX10_asks_60 : decode cX10_asks 60 = .ok (.dup, 1) := by decide +kernel
theorem dX10_asks_61 : decode cX10_asks 61 = .ok (.getfield 145, 3) := by decide +kernel
theorem dX10_asks_64 : decode cX10_asks 64 = .ok (.iconst 1, 1) := by decide +kernel
theorem dX10_asks_65 : decode cX10_asks 65 = .ok (.iadd, 1) := by decide +kernel
theorem dX10_asks_66 : decode cX10_asks 66 = .ok (.putfield 145, 3) := by decide +kernel
theorem dX10_asks_69 : decode cX10_asks 69 = .ok (.return_, 1) := by decide +kernel
theorem dX10_at_0 : decode cX10_at 0 = .ok (.iconst 1, 1) := by decide +kernel
theorem dX10_at_1 : decode cX10_at 1 = .ok (.bipush 10, 2) := by decide +kernel
theorem dX10_at_3 : decode cX10_at 3 = .ok (.iload_n 0, 1) := by decide +kernel
theorem dX10_at_4 : decode cX10_at 4 = .ok (.imul, 1) := by decide +kernel
theorem dX10_at_5 : decode cX10_at 5 = .ok (.iadd, 1) := by decide +kernel
theorem dX10_at_6 : decode cX10_at 6 = .ok (.iload_n 1, 1) := by decide +kernel
theorem dX10_at_7 : decode cX10_at 7 = .ok (.iadd, 1) := by decide +kernel
theorem dX10_at_8 : decode cX10_at 8 = .ok (.ireturn, 1) := by decide +kernel
theorem dX10_begins_0 : decode cX10_begins 0 = .ok (.aload_n 0, 1) := by decide +kernel
theorem dX10_begins_1 : decode cX10_begins 1 = .ok (.invokevirtual 220, 3) := by decide +kernel
theorem dX10_begins_4 : decode cX10_begins 4 = .ok (.istore_n 1, 1) := by decide +kernel
theorem dX10_begins_5 : decode cX10_begins 5 = .ok (.iload_n 1, 1) := by decide +kernel
theorem dX10_begins_6 : decode cX10_begins 6 = .ok (.ifCond .lt 12, 3) := by decide +kernel
theorem dX10_begins_9 : decode cX10_begins 9 = .ok (.aload_n 0, 1) := by decide +kernel
theorem dX10_begins_10 : decode cX10_begins 10 = .ok (.getfield 223, 3) := by decide +kernel
theorem dX10_begins_13 : decode cX10_begins 13 = .ok (.bipush 6, 2) := by decide +kernel
theorem dX10_begins_15 : decode cX10_begins 15 = .ok (.if_icmp .ne 5, 3) := by decide +kernel
theorem dX10_begins_18 : decode cX10_begins 18 = .ok (.iconst 0, 1) := by decide +kernel
theorem dX10_begins_19 : decode cX10_begins 19 = .ok (.ireturn, 1) := by decide +kernel
theorem dX10_begins_20 : decode cX10_begins 20 = .ok (.aload_n 0, 1) := by decide +kernel
theorem dX10_begins_21 : decode cX10_begins 21 = .ok (.dup, 1) := by decide +kernel
theorem dX10_begins_22 : decode cX10_begins 22 = .ok (.getfield 193, 3) := by decide +kernel
theorem dX10_begins_25 : decode cX10_begins 25 = .ok (.iconst 1, 1) := by decide +kernel
theorem dX10_begins_26 : decode cX10_begins 26 = .ok (.iadd, 1) := by decide +kernel
theorem dX10_begins_27 : decode cX10_begins 27 = .ok (.putfield 193, 3) := by decide +kernel
theorem dX10_begins_30 : decode cX10_begins 30 = .ok (.aload_n 0, 1) := by decide +kernel
theorem dX10_begins_31 : decode cX10_begins 31 = .ok (.bipush 40, 2) := by decide +kernel
theorem dX10_begins_33 : decode cX10_begins 33 = .ok (.invokevirtual 214, 3) := by decide +kernel
theorem dX10_begins_36 : decode cX10_begins 36 = .ok (.ifCond .ne 5, 3) := by decide +kernel
theorem dX10_begins_39 : decode cX10_begins 39 = .ok (.iconst 0, 1) := by decide +kernel
theorem dX10_begins_40 : decode cX10_begins 40 = .ok (.ireturn, 1) := by decide +kernel
theorem dX10_begins_41 : decode cX10_begins 41 = .ok (.aload_n 0, 1) := by decide +kernel
theorem dX10_begins_42 : decode cX10_begins 42 = .ok (.getfield 57, 3) := by decide +kernel
theorem dX10_begins_45 : decode cX10_begins 45 = .ok (.aload_n 0, 1) := by decide +kernel
theorem dX10_begins_46 : decode cX10_begins 46 = .ok (.getfield 223, 3) := by decide +kernel
theorem dX10_begins_49 : decode cX10_begins 49 = .ok (.iload_n 1, 1) := by decide +kernel
theorem dX10_begins_50 : decode cX10_begins 50 = .ok (.iastore, 1) := by decide +kernel
theorem dX10_begins_51 : decode cX10_begins 51 = .ok (.aload_n 0, 1) := by decide +kernel
theorem dX10_begins_52 : decode cX10_begins 52 = .ok (.getfield 60, 3) := by decide +kernel
theorem dX10_begins_55 : decode cX10_begins 55 = .ok (.aload_n 0, 1) := by decide +kernel
theorem dX10_begins_56 : decode cX10_begins 56 = .ok (.getfield 223, 3) := by decide +kernel
theorem dX10_begins_59 : decode cX10_begins 59 = .ok (.iconst 0, 1) := by decide +kernel
theorem dX10_begins_60 : decode cX10_begins 60 = .ok (.iastore, 1) := by decide +kernel
theorem dX10_begins_61 : decode cX10_begins 61 = .ok (.aload_n 0, 1) := by decide +kernel
theorem dX10_begins_62 : decode cX10_begins 62 = .ok (.dup, 1) := by decide +kernel
theorem dX10_begins_63 : decode cX10_begins 63 = .ok (.getfield 223, 3) := by decide +kernel
theorem dX10_begins_66 : decode cX10_begins 66 = .ok (.iconst 1, 1) := by decide +kernel
theorem dX10_begins_67 : decode cX10_begins 67 = .ok (.iadd, 1) := by decide +kernel
theorem dX10_begins_68 : decode cX10_begins 68 = .ok (.putfield 223, 3) := by decide +kernel
theorem dX10_begins_71 : decode cX10_begins 71 = .ok (.iconst 1, 1) := by decide +kernel
theorem dX10_begins_72 : decode cX10_begins 72 = .ok (.ireturn, 1) := by decide +kernel
theorem dX10_blurred_0 : decode cX10_blurred 0 = .ok (.iconst 0, 1) := by decide +kernel
theorem dX10_blurred_1 : decode cX10_blurred 1 = .ok (.istore 5, 2) := by decide +kernel
theorem dX10_blurred_3 : decode cX10_blurred 3 = .ok (.iconst 0, 1) := by decide +kernel
theorem dX10_blurred_4 : decode cX10_blurred 4 = .ok (.istore 6, 2) := by decide +kernel
theorem dX10_blurred_6 : decode cX10_blurred 6 = .ok (.iload_n 3, 1) := by decide +kernel
theorem dX10_blurred_7 : decode cX10_blurred 7 = .ok (.bipush 8, 2) := by decide +kernel
theorem dX10_blurred_9 : decode cX10_blurred 9 = .ok (.irem, 1) := by decide +kernel
theorem dX10_blurred_10 : decode cX10_blurred 10 = .ok (.iload 4, 2) := by decide +kernel
theorem dX10_blurred_12 : decode cX10_blurred 12 = .ok (.isub, 1) := by decide +kernel
theorem dX10_blurred_13 : decode cX10_blurred 13 = .ok (.istore 7, 2) := by decide +kernel
theorem dX10_blurred_15 : decode cX10_blurred 15 = .ok (.iload 7, 2) := by decide +kernel
theorem dX10_blurred_17 : decode cX10_blurred 17 = .ok (.iload_n 3, 1) := by decide +kernel
theorem dX10_blurred_18 : decode cX10_blurred 18 = .ok (.bipush 8, 2) := by decide +kernel
theorem dX10_blurred_20 : decode cX10_blurred 20 = .ok (.irem, 1) := by decide +kernel
theorem dX10_blurred_21 : decode cX10_blurred 21 = .ok (.iload 4, 2) := by decide +kernel
theorem dX10_blurred_23 : decode cX10_blurred 23 = .ok (.iadd, 1) := by decide +kernel
theorem dX10_blurred_24 : decode cX10_blurred 24 = .ok (.if_icmp .gt 44, 3) := by decide +kernel
theorem dX10_blurred_27 : decode cX10_blurred 27 = .ok (.iload 7, 2) := by decide +kernel
theorem dX10_blurred_29 : decode cX10_blurred 29 = .ok (.iconst 0, 1) := by decide +kernel
theorem dX10_blurred_30 : decode cX10_blurred 30 = .ok (.bipush 7, 2) := by decide +kernel
theorem dX10_blurred_32 : decode cX10_blurred 32 = .ok (.invokestatic 69, 3) := by decide +kernel
theorem dX10_blurred_35 : decode cX10_blurred 35 = .ok (.ifCond .eq 27, 3) := by decide +kernel
theorem dX10_blurred_38 : decode cX10_blurred 38 = .ok (.iload 5, 2) := by decide +kernel
theorem dX10_blurred_40 : decode cX10_blurred 40 = .ok (.aload_n 0, 1) := by decide +kernel
theorem dX10_blurred_41 : decode cX10_blurred 41 = .ok (.iload_n 1, 1) := by decide +kernel
theorem dX10_blurred_42 : decode cX10_blurred 42 = .ok (.iconst 0, 1) := by decide +kernel
theorem dX10_blurred_43 : decode cX10_blurred 43 = .ok (.iload_n 2, 1) := by decide +kernel
theorem dX10_blurred_44 : decode cX10_blurred 44 = .ok (.iload_n 3, 1) := by decide +kernel
theorem dX10_blurred_45 : decode cX10_blurred 45 = .ok (.iload_n 3, 1) := by decide +kernel
theorem dX10_blurred_46 : decode cX10_blurred 46 = .ok (.bipush 8, 2) := by decide +kernel
theorem dX10_blurred_48 : decode cX10_blurred 48 = .ok (.irem, 1) := by decide +kernel
theorem dX10_blurred_49 : decode cX10_blurred 49 = .ok (.isub, 1) := by decide +kernel
theorem dX10_blurred_50 : decode cX10_blurred 50 = .ok (.iload 7, 2) := by decide +kernel
theorem dX10_blurred_52 : decode cX10_blurred 52 = .ok (.iadd, 1) := by decide +kernel
theorem dX10_blurred_53 : decode cX10_blurred 53 = .ok (.invokevirtual 165, 3) := by decide +kernel
theorem dX10_blurred_56 : decode cX10_blurred 56 = .ok (.iadd, 1) := by decide +kernel
theorem dX10_blurred_57 : decode cX10_blurred 57 = .ok (.istore 5, 2) := by decide +kernel
theorem dX10_blurred_59 : decode cX10_blurred 59 = .ok (.iinc 6 1, 3) := by decide +kernel
theorem dX10_blurred_62 : decode cX10_blurred 62 = .ok (.iinc 7 1, 3) := by decide +kernel
theorem dX10_blurred_65 : decode cX10_blurred 65 = .ok (.goto (-50), 3) := by decide +kernel
theorem dX10_blurred_68 : decode cX10_blurred 68 = .ok (.iload 5, 2) := by decide +kernel
theorem dX10_blurred_70 : decode cX10_blurred 70 = .ok (.iload 6, 2) := by decide +kernel
theorem dX10_blurred_72 : decode cX10_blurred 72 = .ok (.idiv, 1) := by decide +kernel
theorem dX10_blurred_73 : decode cX10_blurred 73 = .ok (.ireturn, 1) := by decide +kernel
theorem dX10_build_0 : decode cX10_build 0 = .ok (.aload_n 0, 1) := by decide +kernel
theorem dX10_build_1 : decode cX10_build 1 = .ok (.invokevirtual 232, 3) := by decide +kernel
theorem dX10_build_4 : decode cX10_build 4 = .ok (.ifCond .ne 7, 3) := by decide +kernel
theorem dX10_build_7 : decode cX10_build 7 = .ok (.sipush (-1003), 3) := by decide +kernel
theorem dX10_build_10 : decode cX10_build 10 = .ok (.ireturn, 1) := by decide +kernel
theorem dX10_build_11 : decode cX10_build 11 = .ok (.aload_n 0, 1) := by decide +kernel
theorem dX10_build_12 : decode cX10_build 12 = .ok (.getfield 7, 3) := by decide +kernel
theorem dX10_build_15 : decode cX10_build 15 = .ok (.iconst 0, 1) := by decide +kernel
theorem dX10_build_16 : decode cX10_build 16 = .ok (.iaload, 1) := by decide +kernel
theorem dX10_build_17 : decode cX10_build 17 = .ok (.aload_n 0, 1) := by decide +kernel
theorem dX10_build_18 : decode cX10_build 18 = .ok (.getfield 206, 3) := by decide +kernel
theorem dX10_build_21 : decode cX10_build 21 = .ok (.iadd, 1) := by decide +kernel
theorem dX10_build_22 : decode cX10_build 22 = .ok (.bipush 12, 2) := by decide +kernel
theorem dX10_build_24 : decode cX10_build 24 = .ok (.if_icmp .le 7, 3) := by decide +kernel
theorem dX10_build_27 : decode cX10_build 27 = .ok (.sipush (-1004), 3) := by decide +kernel
theorem dX10_build_30 : decode cX10_build 30 = .ok (.ireturn, 1) := by decide +kernel
theorem dX10_build_31 : decode cX10_build 31 = .ok (.aload_n 0, 1) := by decide +kernel
theorem dX10_build_32 : decode cX10_build 32 = .ok (.getfield 7, 3) := by decide +kernel
theorem dX10_build_35 : decode cX10_build 35 = .ok (.iconst 0, 1) := by decide +kernel
theorem dX10_build_36 : decode cX10_build 36 = .ok (.iaload, 1) := by decide +kernel
theorem dX10_build_37 : decode cX10_build 37 = .ok (.istore_n 1, 1) := by decide +kernel
theorem dX10_build_38 : decode cX10_build 38 = .ok (.iconst 0, 1) := by decide +kernel
theorem dX10_build_39 : decode cX10_build 39 = .ok (.istore_n 2, 1) := by decide +kernel
theorem dX10_build_40 : decode cX10_build 40 = .ok (.iload_n 2, 1) := by decide +kernel
theorem dX10_build_41 : decode cX10_build 41 = .ok (.aload_n 0, 1) := by decide +kernel
theorem dX10_build_42 : decode cX10_build 42 = .ok (.getfield 206, 3) := by decide +kernel
theorem dX10_build_45 : decode cX10_build 45 = .ok (.if_icmp .ge 129, 3) := by decide +kernel
theorem dX10_build_48 : decode cX10_build 48 = .ok (.aload_n 0, 1) := by decide +kernel
theorem dX10_build_49 : decode cX10_build 49 = .ok (.aload_n 0, 1) := by decide +kernel
theorem dX10_build_50 : decode cX10_build 50 = .ok (.getfield 63, 3) := by decide +kernel
theorem dX10_build_53 : decode cX10_build 53 = .ok (.bipush 8, 2) := by decide +kernel
theorem dX10_build_55 : decode cX10_build 55 = .ok (.iload_n 2, 1) := by decide +kernel
theorem dX10_build_56 : decode cX10_build 56 = .ok (.imul, 1) := by decide +kernel
theorem dX10_build_57 : decode cX10_build 57 = .ok (.iaload, 1) := by decide +kernel
theorem dX10_build_58 : decode cX10_build 58 = .ok (.invokevirtual 91, 3) := by decide +kernel
theorem dX10_build_61 : decode cX10_build 61 = .ok (.istore_n 3, 1) := by decide +kernel
theorem dX10_build_62 : decode cX10_build 62 = .ok (.iconst 0, 1) := by decide +kernel
theorem dX10_build_63 : decode cX10_build 63 = .ok (.istore 4, 2) := by decide +kernel
theorem dX10_build_65 : decode cX10_build 65 = .ok (.iload 4, 2) := by decide +kernel
theorem dX10_build_67 : decode cX10_build 67 = .ok (.iconst 3, 1) := by decide +kernel
theorem dX10_build_68 : decode cX10_build 68 = .ok (.if_icmp .ge 57, 3) := by decide +kernel
theorem dX10_build_71 : decode cX10_build 71 = .ok (.aload_n 0, 1) := by decide +kernel
theorem dX10_build_72 : decode cX10_build 72 = .ok (.getfield 63, 3) := by decide +kernel
theorem dX10_build_75 : decode cX10_build 75 = .ok (.bipush 8, 2) := by decide +kernel
theorem dX10_build_77 : decode cX10_build 77 = .ok (.iload_n 2, 1) := by decide +kernel
theorem dX10_build_78 : decode cX10_build 78 = .ok (.imul, 1) := by decide +kernel
theorem dX10_build_79 : decode cX10_build 79 = .ok (.iconst 1, 1) := by decide +kernel
theorem dX10_build_80 : decode cX10_build 80 = .ok (.iadd, 1) := by decide +kernel
theorem dX10_build_81 : decode cX10_build 81 = .ok (.iload 4, 2) := by decide +kernel
theorem dX10_build_83 : decode cX10_build 83 = .ok (.iadd, 1) := by decide +kernel
theorem dX10_build_84 : decode cX10_build 84 = .ok (.iaload, 1) := by decide +kernel
theorem dX10_build_85 : decode cX10_build 85 = .ok (.istore 5, 2) := by decide +kernel
theorem dX10_build_87 : decode cX10_build 87 = .ok (.aload_n 0, 1) := by decide +kernel
theorem dX10_build_88 : decode cX10_build 88 = .ok (.getfield 7, 3) := by decide +kernel
theorem dX10_build_91 : decode cX10_build 91 = .ok (.iload_n 3, 1) := by decide +kernel
theorem dX10_build_92 : decode cX10_build 92 = .ok (.iconst 3, 1) := by decide +kernel
theorem dX10_build_93 : decode cX10_build 93 = .ok (.iload 4, 2) := by decide +kernel
theorem dX10_build_95 : decode cX10_build 95 = .ok (.iadd, 1) := by decide +kernel
theorem dX10_build_96 : decode cX10_build 96 = .ok (.invokestatic 73, 3) := by decide +kernel
theorem dX10_build_99 : decode cX10_build 99 = .ok (.iload 5, 2) := by decide +kernel
theorem dX10_build_101 : decode cX10_build 101 = .ok (.bipush 100, 2) := by decide +kernel
theorem dX10_build_103 : decode cX10_build 103 = .ok (.if_icmp .lt 13, 3) := by decide +kernel
theorem dX10_build_106 : decode cX10_build 106 = .ok (.iload_n 1, 1) := by decide +kernel
theorem dX10_build_107 : decode cX10_build 107 = .ok (.iload 5, 2) := by decide +kernel
theorem dX10_build_109 : decode cX10_build 109 = .ok (.iadd, 1) := by decide +kernel
theorem dX10_build_110 : decode cX10_build 110 = .ok (.bipush 100, 2) := by decide +kernel
theorem dX10_build_112 : decode cX10_build 112 = .ok (.isub, 1) := by decide +kernel
theorem dX10_build_113 : decode cX10_build 113 = .ok (.goto 5, 3) := by decide +kernel
theorem dX10_build_116 : decode cX10_build 116 = .ok (.iload 5, 2) := by decide +kernel
theorem dX10_build_118 : decode cX10_build 118 = .ok (.iastore, 1) := by decide +kernel
theorem dX10_build_119 : decode cX10_build 119 = .ok (.iinc 4 1, 3) := by decide +kernel
theorem dX10_build_122 : decode cX10_build 122 = .ok (.goto (-57), 3) := by decide +kernel
theorem dX10_build_125 : decode cX10_build 125 = .ok (.iconst 0, 1) := by decide +kernel
theorem dX10_build_126 : decode cX10_build 126 = .ok (.istore 4, 2) := by decide +kernel
theorem dX10_build_128 : decode cX10_build 128 = .ok (.iload 4, 2) := by decide +kernel
theorem dX10_build_130 : decode cX10_build 130 = .ok (.iconst 4, 1) := by decide +kernel
theorem dX10_build_131 : decode cX10_build 131 = .ok (.if_icmp .ge 37, 3) := by decide +kernel
theorem dX10_build_134 : decode cX10_build 134 = .ok (.aload_n 0, 1) := by decide +kernel
theorem dX10_build_135 : decode cX10_build 135 = .ok (.getfield 7, 3) := by decide +kernel
theorem dX10_build_138 : decode cX10_build 138 = .ok (.iload_n 3, 1) := by decide +kernel
theorem dX10_build_139 : decode cX10_build 139 = .ok (.bipush 6, 2) := by decide +kernel
theorem dX10_build_141 : decode cX10_build 141 = .ok (.iload 4, 2) := by decide +kernel
theorem dX10_build_143 : decode cX10_build 143 = .ok (.iadd, 1) := by decide +kernel
theorem dX10_build_144 : decode cX10_build 144 = .ok (.invokestatic 73, 3) := by decide +kernel
theorem dX10_build_147 : decode cX10_build 147 = .ok (.aload_n 0, 1) := by decide +kernel
theorem dX10_build_148 : decode cX10_build 148 = .ok (.getfield 63, 3) := by decide +kernel
theorem dX10_build_151 : decode cX10_build 151 = .ok (.bipush 8, 2) := by decide +kernel
theorem dX10_build_153 : decode cX10_build 153 = .ok (.iload_n 2, 1) := by decide +kernel
theorem dX10_build_154 : decode cX10_build 154 = .ok (.imul, 1) := by decide +kernel
theorem dX10_build_155 : decode cX10_build 155 = .ok (.iconst 4, 1) := by decide +kernel
theorem dX10_build_156 : decode cX10_build 156 = .ok (.iadd, 1) := by decide +kernel
theorem dX10_build_157 : decode cX10_build 157 = .ok (.iload 4, 2) := by decide +kernel
theorem dX10_build_159 : decode cX10_build 159 = .ok (.iadd, 1) := by decide +kernel
theorem dX10_build_160 : decode cX10_build 160 = .ok (.iaload, 1) := by decide +kernel
theorem dX10_build_161 : decode cX10_build 161 = .ok (.iastore, 1) := by decide +kernel
theorem dX10_build_162 : decode cX10_build 162 = .ok (.iinc 4 1, 3) := by decide +kernel
theorem dX10_build_165 : decode cX10_build 165 = .ok (.goto (-37), 3) := by decide +kernel
theorem dX10_build_168 : decode cX10_build 168 = .ok (.iinc 2 1, 3) := by decide +kernel
theorem dX10_build_171 : decode cX10_build 171 = .ok (.goto (-131), 3) := by decide +kernel
theorem dX10_build_174 : decode cX10_build 174 = .ok (.aload_n 0, 1) := by decide +kernel
theorem dX10_build_175 : decode cX10_build 175 = .ok (.getfield 66, 3) := by decide +kernel
theorem dX10_build_178 : decode cX10_build 178 = .ok (.iconst 0, 1) := by decide +kernel
theorem dX10_build_179 : decode cX10_build 179 = .ok (.iaload, 1) := by decide +kernel
theorem dX10_build_180 : decode cX10_build 180 = .ok (.bipush 100, 2) := by decide +kernel
theorem dX10_build_182 : decode cX10_build 182 = .ok (.if_icmp .lt 17, 3) := by decide +kernel
theorem dX10_build_185 : decode cX10_build 185 = .ok (.iload_n 1, 1) := by decide +kernel
theorem dX10_build_186 : decode cX10_build 186 = .ok (.aload_n 0, 1) := by decide +kernel
theorem dX10_build_187 : decode cX10_build 187 = .ok (.getfield 66, 3) := by decide +kernel
theorem dX10_build_190 : decode cX10_build 190 = .ok (.iconst 0, 1) := by decide +kernel
theorem dX10_build_191 : decode cX10_build 191 = .ok (.iaload, 1) := by decide +kernel
theorem dX10_build_192 : decode cX10_build 192 = .ok (.iadd, 1) := by decide +kernel
theorem dX10_build_193 : decode cX10_build 193 = .ok (.bipush 100, 2) := by decide +kernel
theorem dX10_build_195 : decode cX10_build 195 = .ok (.isub, 1) := by decide +kernel
theorem dX10_build_196 : decode cX10_build 196 = .ok (.goto 9, 3) := by decide +kernel
theorem dX10_build_199 : decode cX10_build 199 = .ok (.aload_n 0, 1) := by decide +kernel
theorem dX10_build_200 : decode cX10_build 200 = .ok (.getfield 66, 3) := by decide +kernel
theorem dX10_build_203 : decode cX10_build 203 = .ok (.iconst 0, 1) := by decide +kernel
theorem dX10_build_204 : decode cX10_build 204 = .ok (.iaload, 1) := by decide +kernel
theorem dX10_build_205 : decode cX10_build 205 = .ok (.ireturn, 1) := by decide +kernel
theorem dX10_checksum_0 : decode cX10_checksum 0 = .ok (.ldc2_w 237, 3) := by decide +kernel
theorem dX10_checksum_3 : decode cX10_checksum 3 = .ok (.aload_n 0, 1) := by decide +kernel
theorem dX10_checksum_4 : decode cX10_checksum 4 = .ok (.getfield 7, 3) := by decide +kernel
theorem dX10_checksum_7 : decode cX10_checksum 7 = .ok (.iconst 0, 1) := by decide +kernel
theorem dX10_checksum_8 : decode cX10_checksum 8 = .ok (.iaload, 1) := by decide +kernel
theorem dX10_checksum_9 : decode cX10_checksum 9 = .ok (.invokestatic 239, 3) := by decide +kernel
theorem dX10_checksum_12 : decode cX10_checksum 12 = .ok (.lstore_n 1, 1) := by decide +kernel
theorem dX10_checksum_13 : decode cX10_checksum 13 = .ok (.iconst 0, 1) := by decide +kernel
theorem dX10_checksum_14 : decode cX10_checksum 14 = .ok (.istore_n 3, 1) := by decide +kernel
theorem dX10_checksum_15 : decode cX10_checksum 15 = .ok (.iload_n 3, 1) := by decide +kernel
theorem dX10_checksum_16 : decode cX10_checksum 16 = .ok (.aload_n 0, 1) := by decide +kernel
theorem dX10_checksum_17 : decode cX10_checksum 17 = .ok (.getfield 7, 3) := by decide +kernel
theorem dX10_checksum_20 : decode cX10_checksum 20 = .ok (.iconst 0, 1) := by decide +kernel
theorem dX10_checksum_21 : decode cX10_checksum 21 = .ok (.iaload, 1) := by decide +kernel
theorem dX10_checksum_22 : decode cX10_checksum 22 = .ok (.if_icmp .ge 122, 3) := by decide +kernel
theorem dX10_checksum_25 : decode cX10_checksum 25 = .ok (.iconst 0, 1) := by decide +kernel
theorem dX10_checksum_26 : decode cX10_checksum 26 = .ok (.istore 4, 2) := by decide +kernel
theorem dX10_checksum_28 : decode cX10_checksum 28 = .ok (.iload 4, 2) := by decide +kernel
theorem dX10_checksum_30 : decode cX10_checksum 30 = .ok (.bipush 6, 2) := by decide +kernel
theorem dX10_checksum_32 : decode cX10_checksum 32 = .ok (.if_icmp .ge 21, 3) := by decide +kernel
theorem dX10_checksum_35 : decode cX10_checksum 35 = .ok (.lload_n 1, 1) := by decide +kernel
theorem dX10_checksum_36 : decode cX10_checksum 36 = .ok (.aload_n 0, 1) := by decide +kernel
theorem dX10_checksum_37 : decode cX10_checksum 37 = .ok (.iload_n 3, 1) := by decide +kernel
theorem dX10_checksum_38 : decode cX10_checksum 38 = .ok (.iload 4, 2) := by decide +kernel
theorem dX10_checksum_40 : decode cX10_checksum 40 = .ok (.invokevirtual 130, 3) := by decide +kernel
theorem dX10_checksum_43 : decode cX10_checksum 43 = .ok (.invokestatic 239, 3) := by decide +kernel
theorem dX10_checksum_46 : decode cX10_checksum 46 = .ok (.lstore_n 1, 1) := by decide +kernel
theorem dX10_checksum_47 : decode cX10_checksum 47 = .ok (.iinc 4 1, 3) := by decide +kernel
theorem dX10_checksum_50 : decode cX10_checksum 50 = .ok (.goto (-22), 3) := by decide +kernel
theorem dX10_checksum_53 : decode cX10_checksum 53 = .ok (.iconst 0, 1) := by decide +kernel
theorem dX10_checksum_54 : decode cX10_checksum 54 = .ok (.istore 4, 2) := by decide +kernel
theorem dX10_checksum_56 : decode cX10_checksum 56 = .ok (.iload 4, 2) := by decide +kernel
theorem dX10_checksum_58 : decode cX10_checksum 58 = .ok (.aload_n 0, 1) := by decide +kernel
theorem dX10_checksum_59 : decode cX10_checksum 59 = .ok (.getfield 42, 3) := by decide +kernel
theorem dX10_checksum_62 : decode cX10_checksum 62 = .ok (.aload_n 0, 1) := by decide +kernel
theorem dX10_checksum_63 : decode cX10_checksum 63 = .ok (.iload_n 3, 1) := by decide +kernel
theorem dX10_checksum_64 : decode cX10_checksum 64 = .ok (.invokevirtual 81, 3) := by decide +kernel
theorem dX10_checksum_67 : decode cX10_checksum 67 = .ok (.iaload, 1) := by decide +kernel
theorem dX10_checksum_68 : decode cX10_checksum 68 = .ok (.if_icmp .ge 27, 3) := by decide +kernel
theorem dX10_checksum_71 : decode cX10_checksum 71 = .ok (.lload_n 1, 1) := by decide +kernel
theorem dX10_checksum_72 : decode cX10_checksum 72 = .ok (.aload_n 0, 1) := by decide +kernel
theorem dX10_checksum_73 : decode cX10_checksum 73 = .ok (.getfield 7, 3) := by decide +kernel
theorem dX10_checksum_76 : decode cX10_checksum 76 = .ok (.iload_n 3, 1) := by decide +kernel
theorem dX10_checksum_77 : decode cX10_checksum 77 = .ok (.iconst 3, 1) := by decide +kernel
theorem dX10_checksum_78 : decode cX10_checksum 78 = .ok (.iload 4, 2) := by decide +kernel
theorem dX10_checksum_80 : decode cX10_checksum 80 = .ok (.iadd, 1) := by decide +kernel
theorem dX10_checksum_81 : decode cX10_checksum 81 = .ok (.invokestatic 73, 3) := by decide +kernel
theorem dX10_checksum_84 : decode cX10_checksum 84 = .ok (.iaload, 1) := by decide +kernel
theorem dX10_checksum_85 : decode cX10_checksum 85 = .ok (.invokestatic 239, 3) := by decide +kernel
theorem dX10_checksum_88 : decode cX10_checksum 88 = .ok (.lstore_n 1, 1) := by decide +kernel
theorem dX10_checksum_89 : decode cX10_checksum 89 = .ok (.iinc 4 1, 3) := by decide +kernel
theorem dX10_checksum_92 : decode cX10_checksum 92 = .ok (.goto (-36), 3) := by decide +kernel
theorem dX10_checksum_95 : decode cX10_checksum 95 = .ok (.iconst 0, 1) := by decide +kernel
theorem dX10_checksum_96 : decode cX10_checksum 96 = .ok (.istore 4, 2) := by decide +kernel
theorem dX10_checksum_98 : decode cX10_checksum 98 = .ok (.iload 4, 2) := by decide +kernel
theorem dX10_checksum_100 : decode cX10_checksum 100 = .ok (.aload_n 0, 1) := by decide +kernel
theorem dX10_checksum_101 : decode cX10_checksum 101 = .ok (.getfield 45, 3) := by decide +kernel
theorem dX10_checksum_104 : decode cX10_checksum 104 = .ok (.aload_n 0, 1) := by decide +kernel
theorem dX10_checksum_105 : decode cX10_checksum 105 = .ok (.iload_n 3, 1) := by decide +kernel
theorem dX10_checksum_106 : decode cX10_checksum 106 = .ok (.invokevirtual 81, 3) := by decide +kernel
theorem dX10_checksum_109 : decode cX10_checksum 109 = .ok (.iaload, 1) := by decide +kernel
theorem dX10_checksum_110 : decode cX10_checksum 110 = .ok (.if_icmp .ge 28, 3) := by decide +kernel
theorem dX10_checksum_113 : decode cX10_checksum 113 = .ok (.lload_n 1, 1) := by decide +kernel
theorem dX10_checksum_114 : decode cX10_checksum 114 = .ok (.aload_n 0, 1) := by decide +kernel
theorem dX10_checksum_115 : decode cX10_checksum 115 = .ok (.getfield 7, 3) := by decide +kernel
theorem dX10_checksum_118 : decode cX10_checksum 118 = .ok (.iload_n 3, 1) := by decide +kernel
theorem dX10_checksum_119 : decode cX10_checksum 119 = .ok (.bipush 6, 2) := by decide +kernel
theorem dX10_checksum_121 : decode cX10_checksum 121 = .ok (.iload 4, 2) := by decide +kernel
theorem dX10_checksum_123 : decode cX10_checksum 123 = .ok (.iadd, 1) := by decide +kernel
theorem dX10_checksum_124 : decode cX10_checksum 124 = .ok (.invokestatic 73, 3) := by decide +kernel
theorem dX10_checksum_127 : decode cX10_checksum 127 = .ok (.iaload, 1) := by decide +kernel
theorem dX10_checksum_128 : decode cX10_checksum 128 = .ok (.invokestatic 239, 3) := by decide +kernel
theorem dX10_checksum_131 : decode cX10_checksum 131 = .ok (.lstore_n 1, 1) := by decide +kernel
theorem dX10_checksum_132 : decode cX10_checksum 132 = .ok (.iinc 4 1, 3) := by decide +kernel
theorem dX10_checksum_135 : decode cX10_checksum 135 = .ok (.goto (-37), 3) := by decide +kernel
theorem dX10_checksum_138 : decode cX10_checksum 138 = .ok (.iinc 3 1, 3) := by decide +kernel
theorem dX10_checksum_141 : decode cX10_checksum 141 = .ok (.goto (-126), 3) := by decide +kernel
theorem dX10_checksum_144 : decode cX10_checksum 144 = .ok (.iconst 0, 1) := by decide +kernel
theorem dX10_checksum_145 : decode cX10_checksum 145 = .ok (.istore_n 3, 1) := by decide +kernel
theorem dX10_checksum_146 : decode cX10_checksum 146 = .ok (.iload_n 3, 1) := by decide +kernel
theorem dX10_checksum_147 : decode cX10_checksum 147 = .ok (.iconst 5, 1) := by decide +kernel
theorem dX10_checksum_148 : decode cX10_checksum 148 = .ok (.if_icmp .ge 19, 3) := by decide +kernel
theorem dX10_checksum_151 : decode cX10_checksum 151 = .ok (.lload_n 1, 1) := by decide +kernel
theorem dX10_checksum_152 : decode cX10_checksum 152 = .ok (.aload_n 0, 1) := by decide +kernel
theorem dX10_checksum_153 : decode cX10_checksum 153 = .ok (.iload_n 3, 1) := by decide +kernel
theorem dX10_checksum_154 : decode cX10_checksum 154 = .ok (.invokevirtual 187, 3) := by decide +kernel
theorem dX10_checksum_157 : decode cX10_checksum 157 = .ok (.invokestatic 239, 3) := by decide +kernel
theorem dX10_checksum_160 : decode cX10_checksum 160 = .ok (.lstore_n 1, 1) := by decide +kernel
theorem dX10_checksum_161 : decode cX10_checksum 161 = .ok (.iinc 3 1, 3) := by decide +kernel
theorem dX10_checksum_164 : decode cX10_checksum 164 = .ok (.goto (-18), 3) := by decide +kernel
theorem dX10_checksum_167 : decode cX10_checksum 167 = .ok (.iconst 0, 1) := by decide +kernel
theorem dX10_checksum_168 : decode cX10_checksum 168 = .ok (.istore_n 3, 1) := by decide +kernel
theorem dX10_checksum_169 : decode cX10_checksum 169 = .ok (.iload_n 3, 1) := by decide +kernel
theorem dX10_checksum_170 : decode cX10_checksum 170 = .ok (.aload_n 0, 1) := by decide +kernel
theorem dX10_checksum_171 : decode cX10_checksum 171 = .ok (.getfield 7, 3) := by decide +kernel
theorem dX10_checksum_174 : decode cX10_checksum 174 = .ok (.iconst 0, 1) := by decide +kernel
theorem dX10_checksum_175 : decode cX10_checksum 175 = .ok (.iaload, 1) := by decide +kernel
theorem dX10_checksum_176 : decode cX10_checksum 176 = .ok (.if_icmp .ge 45, 3) := by decide +kernel
theorem dX10_checksum_179 : decode cX10_checksum 179 = .ok (.iconst 0, 1) := by decide +kernel
theorem dX10_checksum_180 : decode cX10_checksum 180 = .ok (.istore 4, 2) := by decide +kernel
theorem dX10_checksum_182 : decode cX10_checksum 182 = .ok (.iload 4, 2) := by decide +kernel
theorem dX10_checksum_184 : decode cX10_checksum 184 = .ok (.bipush 10, 2) := by decide +kernel
theorem dX10_checksum_186 : decode cX10_checksum 186 = .ok (.if_icmp .ge 29, 3) := by decide +kernel
theorem dX10_checksum_189 : decode cX10_checksum 189 = .ok (.lload_n 1, 1) := by decide +kernel
theorem dX10_checksum_190 : decode cX10_checksum 190 = .ok (.aload_n 0, 1) := by decide +kernel
theorem dX10_checksum_191 : decode cX10_checksum 191 = .ok (.iload_n 3, 1) := by decide +kernel
theorem dX10_checksum_192 : decode cX10_checksum 192 = .ok (.iload 4, 2) := by decide +kernel
theorem dX10_checksum_194 : decode cX10_checksum 194 = .ok (.invokevirtual 140, 3) := by decide +kernel
theorem dX10_checksum_197 : decode cX10_checksum 197 = .ok (.ifCond .ge 7, 3) := by decide +kernel
theorem dX10_checksum_200 : decode cX10_checksum 200 = .ok (.iconst 0, 1) := by decide +kernel
theorem dX10_checksum_201 : decode cX10_checksum 201 = .ok (.goto 4, 3) := by decide +kernel
theorem dX10_checksum_204 : decode cX10_checksum 204 = .ok (.iconst 1, 1) := by decide +kernel
theorem dX10_checksum_205 : decode cX10_checksum 205 = .ok (.invokestatic 239, 3) := by decide +kernel
theorem dX10_checksum_208 : decode cX10_checksum 208 = .ok (.lstore_n 1, 1) := by decide +kernel
theorem dX10_checksum_209 : decode cX10_checksum 209 = .ok (.iinc 4 1, 3) := by decide +kernel
theorem dX10_checksum_212 : decode cX10_checksum 212 = .ok (.goto (-30), 3) := by decide +kernel
theorem dX10_checksum_215 : decode cX10_checksum 215 = .ok (.iinc 3 1, 3) := by decide +kernel
theorem dX10_checksum_218 : decode cX10_checksum 218 = .ok (.goto (-49), 3) := by decide +kernel
theorem dX10_checksum_221 : decode cX10_checksum 221 = .ok (.lload_n 1, 1) := by decide +kernel
theorem dX10_checksum_222 : decode cX10_checksum 222 = .ok (.lreturn, 1) := by decide +kernel
theorem dX10_clear_0 : decode cX10_clear 0 = .ok (.aload_n 0, 1) := by decide +kernel
theorem dX10_clear_1 : decode cX10_clear 1 = .ok (.getfield 7, 3) := by decide +kernel
theorem dX10_clear_4 : decode cX10_clear 4 = .ok (.iconst 0, 1) := by decide +kernel
theorem dX10_clear_5 : decode cX10_clear 5 = .ok (.iaload, 1) := by decide +kernel
theorem dX10_clear_6 : decode cX10_clear 6 = .ok (.istore_n 1, 1) := by decide +kernel
theorem dX10_clear_7 : decode cX10_clear 7 = .ok (.aload_n 0, 1) := by decide +kernel
theorem dX10_clear_8 : decode cX10_clear 8 = .ok (.getfield 7, 3) := by decide +kernel
theorem dX10_clear_11 : decode cX10_clear 11 = .ok (.iconst 0, 1) := by decide +kernel
theorem dX10_clear_12 : decode cX10_clear 12 = .ok (.iconst 0, 1) := by decide +kernel
theorem dX10_clear_13 : decode cX10_clear 13 = .ok (.iastore, 1) := by decide +kernel
theorem dX10_clear_14 : decode cX10_clear 14 = .ok (.aload_n 0, 1) := by decide +kernel
theorem dX10_clear_15 : decode cX10_clear 15 = .ok (.iconst 0, 1) := by decide +kernel
theorem dX10_clear_16 : decode cX10_clear 16 = .ok (.putfield 85, 3) := by decide +kernel
theorem dX10_clear_19 : decode cX10_clear 19 = .ok (.iload_n 1, 1) := by decide +kernel
theorem dX10_clear_20 : decode cX10_clear 20 = .ok (.ireturn, 1) := by decide +kernel
theorem dX10_clearText_0 : decode cX10_clearText 0 = .ok (.aload_n 0, 1) := by decide +kernel
theorem dX10_clearText_1 : decode cX10_clearText 1 = .ok (.getfield 190, 3) := by decide +kernel
theorem dX10_clearText_4 : decode cX10_clearText 4 = .ok (.istore_n 1, 1) := by decide +kernel
theorem dX10_clearText_5 : decode cX10_clearText 5 = .ok (.aload_n 0, 1) := by decide +kernel
theorem dX10_clearText_6 : decode cX10_clearText 6 = .ok (.iconst 0, 1) := by decide +kernel
theorem dX10_clearText_7 : decode cX10_clearText 7 = .ok (.putfield 190, 3) := by decide +kernel
theorem dX10_clearText_10 : decode cX10_clearText 10 = .ok (.iload_n 1, 1) := by decide +kernel
theorem dX10_clearText_11 : decode cX10_clearText 11 = .ok (.ireturn, 1) := by decide +kernel
theorem dX10_compare_0 : decode cX10_compare 0 = .ok (.aload_n 0, 1) := by decide +kernel
theorem dX10_compare_1 : decode cX10_compare 1 = .ok (.iload_n 1, 1) := by decide +kernel
theorem dX10_compare_2 : decode cX10_compare 2 = .ok (.iload_n 3, 1) := by decide +kernel
theorem dX10_compare_3 : decode cX10_compare 3 = .ok (.invokevirtual 178, 3) := by decide +kernel
theorem dX10_compare_6 : decode cX10_compare 6 = .ok (.ifCond .eq 11, 3) := by decide +kernel
theorem dX10_compare_9 : decode cX10_compare 9 = .ok (.aload_n 0, 1) := by decide +kernel
theorem dX10_compare_10 : decode cX10_compare 10 = .ok (.iload_n 2, 1) := by decide +kernel
theorem dX10_compare_11 : decode cX10_compare 11 = .ok (.invokevirtual 77, 3) := by decide +kernel
theorem dX10_compare_14 : decode cX10_compare 14 = .ok (.ifCond .ne 7, 3) := by decide +kernel
theorem dX10_compare_17 : decode cX10_compare 17 = .ok (.sipush (-1001), 3) := by decide +kernel
theorem dX10_compare_20 : decode cX10_compare 20 = .ok (.ireturn, 1) := by decide +kernel
theorem dX10_compare_21 : decode cX10_compare 21 = .ok (.aload_n 0, 1) := by decide +kernel
theorem dX10_compare_22 : decode cX10_compare 22 = .ok (.iload_n 1, 1) := by decide +kernel
theorem dX10_compare_23 : decode cX10_compare 23 = .ok (.iload_n 3, 1) := by decide +kernel
theorem dX10_compare_24 : decode cX10_compare 24 = .ok (.invokevirtual 181, 3) := by decide +kernel
theorem dX10_compare_27 : decode cX10_compare 27 = .ok (.istore 4, 2) := by decide +kernel
theorem dX10_compare_29 : decode cX10_compare 29 = .ok (.bipush 96, 2) := by decide +kernel
theorem dX10_compare_31 : decode cX10_compare 31 = .ok (.aload_n 0, 1) := by decide +kernel
theorem dX10_compare_32 : decode cX10_compare 32 = .ok (.iload_n 2, 1) := by decide +kernel
theorem dX10_compare_33 : decode cX10_compare 33 = .ok (.iload_n 3, 1) := by decide +kernel
theorem dX10_compare_34 : decode cX10_compare 34 = .ok (.invokevirtual 181, 3) := by decide +kernel
theorem dX10_compare_37 : decode cX10_compare 37 = .ok (.imul, 1) := by decide +kernel
theorem dX10_compare_38 : decode cX10_compare 38 = .ok (.istore 5, 2) := by decide +kernel
theorem dX10_compare_40 : decode cX10_compare 40 = .ok (.bipush 96, 2) := by decide +kernel
theorem dX10_compare_42 : decode cX10_compare 42 = .ok (.aload_n 0, 1) := by decide +kernel
theorem dX10_compare_43 : decode cX10_compare 43 = .ok (.iload_n 1, 1) := by decide +kernel
theorem dX10_compare_44 : decode cX10_compare 44 = .ok (.iload_n 3, 1) := by decide +kernel
theorem dX10_compare_45 : decode cX10_compare 45 = .ok (.invokevirtual 140, 3) := by decide +kernel
theorem dX10_compare_48 : decode cX10_compare 48 = .ok (.imul, 1) := by decide +kernel
theorem dX10_compare_49 : decode cX10_compare 49 = .ok (.istore 6, 2) := by decide +kernel
theorem dX10_compare_51 : decode cX10_compare 51 = .ok (.iconst 0, 1) := by decide +kernel
theorem dX10_compare_52 : decode cX10_compare 52 = .ok (.istore 7, 2) := by decide +kernel
theorem dX10_compare_54 : decode cX10_compare 54 = .ok (.iconst 0, 1) := by decide +kernel
theorem dX10_compare_55 : decode cX10_compare 55 = .ok (.istore 8, 2) := by decide +kernel
theorem dX10_compare_57 : decode cX10_compare 57 = .ok (.iload 8, 2) := by decide +kernel
theorem dX10_compare_59 : decode cX10_compare 59 = .ok (.bipush 96, 2) := by decide +kernel
theorem dX10_compare_61 : decode cX10_compare 61 = .ok (.if_icmp .ge 63, 3) := by decide +kernel
theorem dX10_compare_64 : decode cX10_compare 64 = .ok (.aload_n 0, 1) := by decide +kernel
theorem dX10_compare_65 : decode cX10_compare 65 = .ok (.getfield 33, 3) := by decide +kernel
theorem dX10_compare_68 : decode cX10_compare 68 = .ok (.iload 6, 2) := by decide +kernel
theorem dX10_compare_70 : decode cX10_compare 70 = .ok (.iload 8, 2) := by decide +kernel
theorem dX10_compare_72 : decode cX10_compare 72 = .ok (.iadd, 1) := by decide +kernel
theorem dX10_compare_73 : decode cX10_compare 73 = .ok (.iaload, 1) := by decide +kernel
theorem dX10_compare_74 : decode cX10_compare 74 = .ok (.aload_n 0, 1) := by decide +kernel
theorem dX10_compare_75 : decode cX10_compare 75 = .ok (.getfield 33, 3) := by decide +kernel
theorem dX10_compare_78 : decode cX10_compare 78 = .ok (.iload 5, 2) := by decide +kernel
theorem dX10_compare_80 : decode cX10_compare 80 = .ok (.iload 8, 2) := by decide +kernel
theorem dX10_compare_82 : decode cX10_compare 82 = .ok (.iadd, 1) := by decide +kernel
theorem dX10_compare_83 : decode cX10_compare 83 = .ok (.iaload, 1) := by decide +kernel
theorem dX10_compare_84 : decode cX10_compare 84 = .ok (.isub, 1) := by decide +kernel
theorem dX10_compare_85 : decode cX10_compare 85 = .ok (.istore 9, 2) := by decide +kernel
theorem dX10_compare_87 : decode cX10_compare 87 = .ok (.iload 9, 2) := by decide +kernel
theorem dX10_compare_89 : decode cX10_compare 89 = .ok (.ifCond .ge 9, 3) := by decide +kernel
theorem dX10_compare_92 : decode cX10_compare 92 = .ok (.iload 9, 2) := by decide +kernel
theorem dX10_compare_94 : decode cX10_compare 94 = .ok (.ineg, 1) := by decide +kernel
theorem dX10_compare_95 : decode cX10_compare 95 = .ok (.goto 5, 3) := by decide +kernel
theorem dX10_compare_98 : decode cX10_compare 98 = .ok (.iload 9, 2) := by decide +kernel
theorem dX10_compare_100 : decode cX10_compare 100 = .ok (.istore 9, 2) := by decide +kernel
theorem dX10_compare_102 : decode cX10_compare 102 = .ok (.iload 9, 2) := by decide +kernel
theorem dX10_compare_104 : decode cX10_compare 104 = .ok (.iload 7, 2) := by decide +kernel
theorem dX10_compare_106 : decode cX10_compare 106 = .ok (.if_icmp .le 8, 3) := by decide +kernel
theorem dX10_compare_109 : decode cX10_compare 109 = .ok (.iload 9, 2) := by decide +kernel
theorem dX10_compare_111 : decode cX10_compare 111 = .ok (.goto 5, 3) := by decide +kernel
theorem dX10_compare_114 : decode cX10_compare 114 = .ok (.iload 7, 2) := by decide +kernel
theorem dX10_compare_116 : decode cX10_compare 116 = .ok (.istore 7, 2) := by decide +kernel
theorem dX10_compare_118 : decode cX10_compare 118 = .ok (.iinc 8 1, 3) := by decide +kernel
theorem dX10_compare_121 : decode cX10_compare 121 = .ok (.goto (-64), 3) := by decide +kernel
theorem dX10_compare_124 : decode cX10_compare 124 = .ok (.iload 7, 2) := by decide +kernel
theorem dX10_compare_126 : decode cX10_compare 126 = .ok (.ireturn, 1) := by decide +kernel
theorem dX10_connect_0 : decode cX10_connect 0 = .ok (.aload_n 0, 1) := by decide +kernel
theorem dX10_connect_1 : decode cX10_connect 1 = .ok (.iload_n 1, 1) := by decide +kernel
theorem dX10_connect_2 : decode cX10_connect 2 = .ok (.iload_n 2, 1) := by decide +kernel
theorem dX10_connect_3 : decode cX10_connect 3 = .ok (.invokevirtual 101, 3) := by decide +kernel
theorem dX10_connect_6 : decode cX10_connect 6 = .ok (.ifCond .eq 18, 3) := by decide +kernel
theorem dX10_connect_9 : decode cX10_connect 9 = .ok (.iload_n 3, 1) := by decide +kernel
theorem dX10_connect_10 : decode cX10_connect 10 = .ok (.sipush (-1005), 3) := by decide +kernel
theorem dX10_connect_13 : decode cX10_connect 13 = .ok (.if_icmp .eq 15, 3) := by decide +kernel
theorem dX10_connect_16 : decode cX10_connect 16 = .ok (.aload_n 0, 1) := by decide +kernel
theorem dX10_connect_17 : decode cX10_connect 17 = .ok (.iload_n 3, 1) := by decide +kernel
theorem dX10_connect_18 : decode cX10_connect 18 = .ok (.invokevirtual 77, 3) := by decide +kernel
theorem dX10_connect_21 : decode cX10_connect 21 = .ok (.ifCond .ne 7, 3) := by decide +kernel
theorem dX10_connect_24 : decode cX10_connect 24 = .ok (.sipush (-1001), 3) := by decide +kernel
theorem dX10_connect_27 : decode cX10_connect 27 = .ok (.ireturn, 1) := by decide +kernel
theorem dX10_connect_28 : decode cX10_connect 28 = .ok (.iload_n 3, 1) := by decide +kernel
theorem dX10_connect_29 : decode cX10_connect 29 = .ok (.sipush (-1005), 3) := by decide +kernel
theorem dX10_connect_32 : decode cX10_connect 32 = .ok (.if_icmp .eq 20, 3) := by decide +kernel
theorem dX10_connect_35 : decode cX10_connect 35 = .ok (.aload_n 0, 1) := by decide +kernel
theorem dX10_connect_36 : decode cX10_connect 36 = .ok (.iload_n 1, 1) := by decide +kernel
theorem dX10_connect_37 : decode cX10_connect 37 = .ok (.invokevirtual 94, 3) := by decide +kernel
theorem dX10_connect_40 : decode cX10_connect 40 = .ok (.iload_n 3, 1) := by decide +kernel
theorem dX10_connect_41 : decode cX10_connect 41 = .ok (.ishr, 1) := by decide +kernel
theorem dX10_connect_42 : decode cX10_connect 42 = .ok (.iconst 1, 1) := by decide +kernel
theorem dX10_connect_43 : decode cX10_connect 43 = .ok (.iand, 1) := by decide +kernel
theorem dX10_connect_44 : decode cX10_connect 44 = .ok (.iconst 1, 1) := by decide +kernel
theorem dX10_connect_45 : decode cX10_connect 45 = .ok (.if_icmp .ne 7, 3) := by decide +kernel
theorem dX10_connect_48 : decode cX10_connect 48 = .ok (.sipush (-1003), 3) := by decide +kernel
theorem dX10_connect_51 : decode cX10_connect 51 = .ok (.ireturn, 1) := by decide +kernel
theorem dX10_connect_52 : decode cX10_connect 52 = .ok (.aload_n 0, 1) := by decide +kernel
theorem dX10_connect_53 : decode cX10_connect 53 = .ok (.getfield 7, 3) := by decide +kernel
theorem dX10_connect_56 : decode cX10_connect 56 = .ok (.iload_n 1, 1) := by decide +kernel
theorem dX10_connect_57 : decode cX10_connect 57 = .ok (.iconst 3, 1) := by decide +kernel
theorem dX10_connect_58 : decode cX10_connect 58 = .ok (.iload_n 2, 1) := by decide +kernel
theorem dX10_connect_59 : decode cX10_connect 59 = .ok (.iadd, 1) := by decide +kernel
theorem dX10_connect_60 : decode cX10_connect 60 = .ok (.invokestatic 73, 3) := by decide +kernel
theorem dX10_connect_63 : decode cX10_connect 63 = .ok (.iload_n 3, 1) := by decide +kernel
theorem dX10_connect_64 : decode cX10_connect 64 = .ok (.iastore, 1) := by decide +kernel
theorem dX10_connect_65 : decode cX10_connect 65 = .ok (.iload_n 2, 1) := by decide +kernel
theorem dX10_connect_66 : decode cX10_connect 66 = .ok (.ifCond .ne 16, 3) := by decide +kernel
theorem dX10_connect_69 : decode cX10_connect 69 = .ok (.aload_n 0, 1) := by decide +kernel
theorem dX10_connect_70 : decode cX10_connect 70 = .ok (.iload_n 1, 1) := by decide +kernel
theorem dX10_connect_71 : decode cX10_connect 71 = .ok (.iconst 0, 1) := by decide +kernel
theorem dX10_connect_72 : decode cX10_connect 72 = .ok (.bipush 99, 2) := by decide +kernel
theorem dX10_connect_74 : decode cX10_connect 74 = .ok (.iconst 1, 1) := by decide +kernel
theorem dX10_connect_75 : decode cX10_connect 75 = .ok (.iconst 0, 1) := by decide +kernel
theorem dX10_connect_76 : decode cX10_connect 76 = .ok (.invokevirtual 105, 3) := by decide +kernel
theorem dX10_connect_79 : decode cX10_connect 79 = .ok (.goto 30, 3) := by decide +kernel
theorem dX10_connect_82 : decode cX10_connect 82 = .ok (.aload_n 0, 1) := by decide +kernel
theorem dX10_connect_83 : decode cX10_connect 83 = .ok (.iload_n 1, 1) := by decide +kernel
theorem dX10_connect_84 : decode cX10_connect 84 = .ok (.aload_n 0, 1) := by decide +kernel
theorem dX10_connect_85 : decode cX10_connect 85 = .ok (.getfield 7, 3) := by decide +kernel
theorem dX10_connect_88 : decode cX10_connect 88 = .ok (.iload_n 1, 1) := by decide +kernel
theorem dX10_connect_89 : decode cX10_connect 89 = .ok (.iconst 1, 1) := by decide +kernel
theorem dX10_connect_90 : decode cX10_connect 90 = .ok (.invokestatic 73, 3) := by decide +kernel
theorem dX10_connect_93 : decode cX10_connect 93 = .ok (.iaload, 1) := by decide +kernel
theorem dX10_connect_94 : decode cX10_connect 94 = .ok (.aload_n 0, 1) := by decide +kernel
theorem dX10_connect_95 : decode cX10_connect 95 = .ok (.getfield 7, 3) := by decide +kernel
theorem dX10_connect_98 : decode cX10_connect 98 = .ok (.iload_n 1, 1) := by decide +kernel
theorem dX10_connect_99 : decode cX10_connect 99 = .ok (.iconst 2, 1) := by decide +kernel
theorem dX10_connect_100 : decode cX10_connect 100 = .ok (.invokestatic 73, 3) := by decide +kernel
theorem dX10_connect_103 : decode cX10_connect 103 = .ok (.iaload, 1) := by decide +kernel
theorem dX10_connect_104 : decode cX10_connect 104 = .ok (.iconst 1, 1) := by decide +kernel
theorem dX10_connect_105 : decode cX10_connect 105 = .ok (.iconst 0, 1) := by decide +kernel
theorem dX10_connect_106 : decode cX10_connect 106 = .ok (.invokevirtual 105, 3) := by decide +kernel
theorem dX10_connect_109 : decode cX10_connect 109 = .ok (.ireturn, 1) := by decide +kernel
theorem dX10_count_0 : decode cX10_count 0 = .ok (.iload_n 1, 1) := by decide +kernel
theorem dX10_count_1 : decode cX10_count 1 = .ok (.iconst 0, 1) := by decide +kernel
theorem dX10_count_2 : decode cX10_count 2 = .ok (.iconst 4, 1) := by decide +kernel
theorem dX10_count_3 : decode cX10_count 3 = .ok (.invokestatic 69, 3) := by decide +kernel
theorem dX10_count_6 : decode cX10_count 6 = .ok (.ifCond .eq 11, 3) := by decide +kernel
theorem dX10_count_9 : decode cX10_count 9 = .ok (.aload_n 0, 1) := by decide +kernel
theorem dX10_count_10 : decode cX10_count 10 = .ok (.iload_n 1, 1) := by decide +kernel
theorem dX10_count_11 : decode cX10_count 11 = .ok (.invokevirtual 187, 3) := by decide +kernel
theorem dX10_count_14 : decode cX10_count 14 = .ok (.goto 6, 3) := by decide +kernel
theorem dX10_count_17 : decode cX10_count 17 = .ok (.sipush (-1001), 3) := by decide +kernel
theorem dX10_count_20 : decode cX10_count 20 = .ok (.ireturn, 1) := by decide +kernel
theorem dX10_countOf_0 : decode cX10_countOf 0 = .ok (.iload_n 1, 1) := by decide +kernel
theorem dX10_countOf_1 : decode cX10_countOf 1 = .ok (.ifCond .ne 10, 3) := by decide +kernel
theorem dX10_countOf_4 : decode cX10_countOf 4 = .ok (.aload_n 0, 1) := by decide +kernel
theorem dX10_countOf_5 : decode cX10_countOf 5 = .ok (.getfield 85, 3) := by decide +kernel
theorem dX10_countOf_8 : decode cX10_countOf 8 = .ok (.goto 9, 3) := by decide +kernel
theorem dX10_countOf_11 : decode cX10_countOf 11 = .ok (.aload_n 0, 1) := by decide +kernel
theorem dX10_countOf_12 : decode cX10_countOf 12 = .ok (.getfield 36, 3) := by decide +kernel
theorem dX10_countOf_15 : decode cX10_countOf 15 = .ok (.iload_n 1, 1) := by decide +kernel
theorem dX10_countOf_16 : decode cX10_countOf 16 = .ok (.iaload, 1) := by decide +kernel
theorem dX10_countOf_17 : decode cX10_countOf 17 = .ok (.ireturn, 1) := by decide +kernel
theorem dX10_dependents_0 : decode cX10_dependents 0 = .ok (.iconst 1, 1) := by decide +kernel
theorem dX10_dependents_1 : decode cX10_dependents 1 = .ok (.iload_n 1, 1) := by decide +kernel
theorem dX10_dependents_2 : decode cX10_dependents 2 = .ok (.ishl, 1) := by decide +kernel
theorem dX10_dependents_3 : decode cX10_dependents 3 = .ok (.istore_n 2, 1) := by decide +kernel
theorem dX10_dependents_4 : decode cX10_dependents 4 = .ok (.iconst 0, 1) := by decide +kernel
theorem dX10_dependents_5 : decode cX10_dependents 5 = .ok (.istore_n 3, 1) := by decide +kernel
theorem dX10_dependents_6 : decode cX10_dependents 6 = .ok (.iload_n 3, 1) := by decide +kernel
theorem dX10_dependents_7 : decode cX10_dependents 7 = .ok (.bipush 12, 2) := by decide +kernel
theorem dX10_dependents_9 : decode cX10_dependents 9 = .ok (.if_icmp .ge 86, 3) := by decide +kernel
theorem dX10_dependents_12 : decode cX10_dependents 12 = .ok (.iconst 0, 1) := by decide +kernel
theorem dX10_dependents_13 : decode cX10_dependents 13 = .ok (.istore 4, 2) := by decide +kernel
theorem dX10_dependents_15 : decode cX10_dependents 15 = .ok (.iload 4, 2) := by decide +kernel
theorem dX10_dependents_17 : decode cX10_dependents 17 = .ok (.aload_n 0, 1) := by decide +kernel
theorem dX10_dependents_18 : decode cX10_dependents 18 = .ok (.getfield 7, 3) := by decide +kernel
theorem dX10_dependents_21 : decode cX10_dependents 21 = .ok (.iconst 0, 1) := by decide +kernel
theorem dX10_dependents_22 : decode cX10_dependents 22 = .ok (.iaload, 1) := by decide +kernel
theorem dX10_dependents_23 : decode cX10_dependents 23 = .ok (.if_icmp .ge 66, 3) := by decide +kernel
theorem dX10_dependents_26 : decode cX10_dependents 26 = .ok (.iconst 0, 1) := by decide +kernel
theorem dX10_dependents_27 : decode cX10_dependents 27 = .ok (.istore 5, 2) := by decide +kernel
theorem dX10_dependents_29 : decode cX10_dependents 29 = .ok (.iload 5, 2) := by decide +kernel
theorem dX10_dependents_31 : decode cX10_dependents 31 = .ok (.iconst 3, 1) := by decide +kernel
theorem dX10_dependents_32 : decode cX10_dependents 32 = .ok (.if_icmp .ge 51, 3) := by decide +kernel
theorem dX10_dependents_35 : decode cX10_dependents 35 = .ok (.aload_n 0, 1) := by decide +kernel
theorem dX10_dependents_36 : decode cX10_dependents 36 = .ok (.getfield 7, 3) := by decide +kernel
theorem dX10_dependents_39 : decode cX10_dependents 39 = .ok (.iload 4, 2) := by decide +kernel
theorem dX10_dependents_41 : decode cX10_dependents 41 = .ok (.iconst 3, 1) := by decide +kernel
theorem dX10_dependents_42 : decode cX10_dependents 42 = .ok (.iload 5, 2) := by decide +kernel
theorem dX10_dependents_44 : decode cX10_dependents 44 = .ok (.iadd, 1) := by decide +kernel
theorem dX10_dependents_45 : decode cX10_dependents 45 = .ok (.invokestatic 73, 3) := by decide +kernel
theorem dX10_dependents_48 : decode cX10_dependents 48 = .ok (.iaload, 1) := by decide +kernel
theorem dX10_dependents_49 : decode cX10_dependents 49 = .ok (.istore 6, 2) := by decide +kernel
theorem dX10_dependents_51 : decode cX10_dependents 51 = .ok (.iload_n 2, 1) := by decide +kernel
theorem dX10_dependents_52 : decode cX10_dependents 52 = .ok (.iload 6, 2) := by decide +kernel
theorem dX10_dependents_54 : decode cX10_dependents 54 = .ok (.ifCond .lt 20, 3) := by decide +kernel
theorem dX10_dependents_57 : decode cX10_dependents 57 = .ok (.iload_n 2, 1) := by decide +kernel
theorem dX10_dependents_58 : decode cX10_dependents 58 = .ok (.iload 6, 2) := by decide +kernel
theorem dX10_dependents_60 : decode cX10_dependents 60 = .ok (.ishr, 1) := by decide +kernel
theorem dX10_dependents_61 : decode cX10_dependents 61 = .ok (.iconst 1, 1) := by decide +kernel
theorem dX10_dependents_62 : decode cX10_dependents 62 = .ok (.iand, 1) := by decide +kernel
theorem dX10_dependents_63 : decode cX10_dependents 63 = .ok (.iconst 1, 1) := by decide +kernel
theorem dX10_dependents_64 : decode cX10_dependents 64 = .ok (.if_icmp .ne 10, 3) := by decide +kernel
theorem dX10_dependents_67 : decode cX10_dependents 67 = .ok (.iconst 1, 1) := by decide +kernel
theorem dX10_dependents_68 : decode cX10_dependents 68 = .ok (.iload 4, 2) := by decide +kernel
theorem dX10_dependents_70 : decode cX10_dependents 70 = .ok (.ishl, 1) := by decide +kernel
theorem dX10_dependents_71 : decode cX10_dependents 71 = .ok (.goto 4, 3) := by decide +kernel
theorem dX10_dependents_74 : decode cX10_dependents 74 = .ok (.iconst 0, 1) := by decide +kernel
theorem dX10_dependents_75 : decode cX10_dependents 75 = .ok (.ior, 1) := by decide +kernel
theorem dX10_dependents_76 : decode cX10_dependents 76 = .ok (.istore_n 2, 1) := by decide +kernel
theorem dX10_dependents_77 : decode cX10_dependents 77 = .ok (.iinc 5 1, 3) := by decide +kernel
theorem dX10_dependents_80 : decode cX10_dependents 80 = .ok (.goto (-51), 3) := by decide +kernel
theorem dX10_dependents_83 : decode cX10_dependents 83 = .ok (.iinc 4 1, 3) := by decide +kernel
theorem dX10_dependents_86 : decode cX10_dependents 86 = .ok (.goto (-71), 3) := by decide +kernel
theorem dX10_dependents_89 : decode cX10_dependents 89 = .ok (.iinc 3 1, 3) := by decide +kernel
theorem dX10_dependents_92 : decode cX10_dependents 92 = .ok (.goto (-86), 3) := by decide +kernel
theorem dX10_dependents_95 : decode cX10_dependents 95 = .ok (.iload_n 2, 1) := by decide +kernel
theorem dX10_dependents_96 : decode cX10_dependents 96 = .ok (.ireturn, 1) := by decide +kernel
theorem dX10_depthOf_0 : decode cX10_depthOf 0 = .ok (.iconst 0, 1) := by decide +kernel
theorem dX10_depthOf_1 : decode cX10_depthOf 1 = .ok (.istore_n 2, 1) := by decide +kernel
theorem dX10_depthOf_2 : decode cX10_depthOf 2 = .ok (.iload_n 2, 1) := by decide +kernel
theorem dX10_depthOf_3 : decode cX10_depthOf 3 = .ok (.aload_n 0, 1) := by decide +kernel
theorem dX10_depthOf_4 : decode cX10_depthOf 4 = .ok (.getfield 7, 3) := by decide +kernel
theorem dX10_depthOf_7 : decode cX10_depthOf 7 = .ok (.iconst 0, 1) := by decide +kernel
theorem dX10_depthOf_8 : decode cX10_depthOf 8 = .ok (.iaload, 1) := by decide +kernel
theorem dX10_depthOf_9 : decode cX10_depthOf 9 = .ok (.if_icmp .ge 16, 3) := by decide +kernel
theorem dX10_depthOf_12 : decode cX10_depthOf 12 = .ok (.aload_n 0, 1) := by decide +kernel
theorem dX10_depthOf_13 : decode cX10_depthOf 13 = .ok (.getfield 48, 3) := by decide +kernel
theorem dX10_depthOf_16 : decode cX10_depthOf 16 = .ok (.iload_n 2, 1) := by decide +kernel
theorem dX10_depthOf_17 : decode cX10_depthOf 17 = .ok (.iconst 0, 1) := by decide +kernel
theorem dX10_depthOf_18 : decode cX10_depthOf 18 = .ok (.iastore, 1) := by decide +kernel
theorem dX10_depthOf_19 : decode cX10_depthOf 19 = .ok (.iinc 2 1, 3) := by decide +kernel
theorem dX10_depthOf_22 : decode cX10_depthOf 22 = .ok (.goto (-20), 3) := by decide +kernel
theorem dX10_depthOf_25 : decode cX10_depthOf 25 = .ok (.iconst 0, 1) := by decide +kernel
theorem dX10_depthOf_26 : decode cX10_depthOf 26 = .ok (.istore_n 2, 1) := by decide +kernel
theorem dX10_depthOf_27 : decode cX10_depthOf 27 = .ok (.iload_n 2, 1) := by decide +kernel
theorem dX10_depthOf_28 : decode cX10_depthOf 28 = .ok (.bipush 12, 2) := by decide +kernel
theorem dX10_depthOf_30 : decode cX10_depthOf 30 = .ok (.if_icmp .ge 102, 3) := by decide +kernel
theorem dX10_depthOf_33 : decode cX10_depthOf 33 = .ok (.iconst 0, 1) := by decide +kernel
theorem dX10_depthOf_34 : decode cX10_depthOf 34 = .ok (.istore_n 3, 1) := by decide +kernel
theorem dX10_depthOf_35 : decode cX10_depthOf 35 = .ok (.iload_n 3, 1) := by decide +kernel
theorem dX10_depthOf_36 : decode cX10_depthOf 36 = .ok (.aload_n 0, 1) := by decide +kernel
theorem dX10_depthOf_37 : decode cX10_depthOf 37 = .ok (.getfield 7, 3) := by decide +kernel
theorem dX10_depthOf_40 : decode cX10_depthOf 40 = .ok (.iconst 0, 1) := by decide +kernel
theorem dX10_depthOf_41 : decode cX10_depthOf 41 = .ok (.iaload, 1) := by decide +kernel
theorem dX10_depthOf_42 : decode cX10_depthOf 42 = .ok (.if_icmp .ge 84, 3) := by decide +kernel
theorem dX10_depthOf_45 : decode cX10_depthOf 45 = .ok (.iconst 0, 1) := by decide +kernel
theorem dX10_depthOf_46 : decode cX10_depthOf 46 = .ok (.istore 4, 2) := by decide +kernel
theorem dX10_depthOf_48 : decode cX10_depthOf 48 = .ok (.iload 4, 2) := by decide +kernel
theorem dX10_depthOf_50 : decode cX10_depthOf 50 = .ok (.iconst 3, 1) := by decide +kernel
theorem dX10_depthOf_51 : decode cX10_depthOf 51 = .ok (.if_icmp .ge 69, 3) := by decide +kernel
theorem dX10_depthOf_54 : decode cX10_depthOf 54 = .ok (.aload_n 0, 1) := by decide +kernel
theorem dX10_depthOf_55 : decode cX10_depthOf 55 = .ok (.getfield 7, 3) := by decide +kernel
theorem dX10_depthOf_58 : decode cX10_depthOf 58 = .ok (.iload_n 3, 1) := by decide +kernel
theorem dX10_depthOf_59 : decode cX10_depthOf 59 = .ok (.iconst 3, 1) := by decide +kernel
theorem dX10_depthOf_60 : decode cX10_depthOf 60 = .ok (.iload 4, 2) := by decide +kernel
theorem dX10_depthOf_62 : decode cX10_depthOf 62 = .ok (.iadd, 1) := by decide +kernel
theorem dX10_depthOf_63 : decode cX10_depthOf 63 = .ok (.invokestatic 73, 3) := by decide +kernel
theorem dX10_depthOf_66 : decode cX10_depthOf 66 = .ok (.iaload, 1) := by decide +kernel
theorem dX10_depthOf_67 : decode cX10_depthOf 67 = .ok (.istore 5, 2) := by decide +kernel
theorem dX10_depthOf_69 : decode cX10_depthOf 69 = .ok (.aload_n 0, 1) := by decide +kernel
theorem dX10_depthOf_70 : decode cX10_depthOf 70 = .ok (.getfield 48, 3) := by decide +kernel
theorem dX10_depthOf_73 : decode cX10_depthOf 73 = .ok (.iload_n 3, 1) := by decide +kernel
theorem dX10_depthOf_74 : decode cX10_depthOf 74 = .ok (.iload 5, 2) := by decide +kernel
theorem dX10_depthOf_76 : decode cX10_depthOf 76 = .ok (.ifCond .lt 31, 3) := by decide +kernel
theorem dX10_depthOf_79 : decode cX10_depthOf 79 = .ok (.aload_n 0, 1) := by decide +kernel
theorem dX10_depthOf_80 : decode cX10_depthOf 80 = .ok (.getfield 48, 3) := by decide +kernel
theorem dX10_depthOf_83 : decode cX10_depthOf 83 = .ok (.iload 5, 2) := by decide +kernel
theorem dX10_depthOf_85 : decode cX10_depthOf 85 = .ok (.iaload, 1) := by decide +kernel
theorem dX10_depthOf_86 : decode cX10_depthOf 86 = .ok (.aload_n 0, 1) := by decide +kernel
theorem dX10_depthOf_87 : decode cX10_depthOf 87 = .ok (.getfield 48, 3) := by decide +kernel
theorem dX10_depthOf_90 : decode cX10_depthOf 90 = .ok (.iload_n 3, 1) := by decide +kernel
theorem dX10_depthOf_91 : decode cX10_depthOf 91 = .ok (.iaload, 1) := by decide +kernel
theorem dX10_depthOf_92 : decode cX10_depthOf 92 = .ok (.if_icmp .lt 15, 3) := by decide +kernel
theorem dX10_depthOf_95 : decode cX10_depthOf 95 = .ok (.aload_n 0, 1) := by decide +kernel
theorem dX10_depthOf_96 : decode cX10_depthOf 96 = .ok (.getfield 48, 3) := by decide +kernel
theorem dX10_depthOf_99 : decode cX10_depthOf 99 = .ok (.iload 5, 2) := by decide +kernel
theorem dX10_depthOf_101 : decode cX10_depthOf 101 = .ok (.iaload, 1) := by decide +kernel
theorem dX10_depthOf_102 : decode cX10_depthOf 102 = .ok (.iconst 1, 1) := by decide +kernel
theorem dX10_depthOf_103 : decode cX10_depthOf 103 = .ok (.iadd, 1) := by decide +kernel
theorem dX10_depthOf_104 : decode cX10_depthOf 104 = .ok (.goto 9, 3) := by decide +kernel
theorem dX10_depthOf_107 : decode cX10_depthOf 107 = .ok (.aload_n 0, 1) := by decide +kernel
theorem dX10_depthOf_108 : decode cX10_depthOf 108 = .ok (.getfield 48, 3) := by decide +kernel
theorem dX10_depthOf_111 : decode cX10_depthOf 111 = .ok (.iload_n 3, 1) := by decide +kernel
theorem dX10_depthOf_112 : decode cX10_depthOf 112 = .ok (.iaload, 1) := by decide +kernel
theorem dX10_depthOf_113 : decode cX10_depthOf 113 = .ok (.iastore, 1) := by decide +kernel
theorem dX10_depthOf_114 : decode cX10_depthOf 114 = .ok (.iinc 4 1, 3) := by decide +kernel
theorem dX10_depthOf_117 : decode cX10_depthOf 117 = .ok (.goto (-69), 3) := by decide +kernel
theorem dX10_depthOf_120 : decode cX10_depthOf 120 = .ok (.iinc 3 1, 3) := by decide +kernel
theorem dX10_depthOf_123 : decode cX10_depthOf 123 = .ok (.goto (-88), 3) := by decide +kernel
theorem dX10_depthOf_126 : decode cX10_depthOf 126 = .ok (.iinc 2 1, 3) := by decide +kernel
theorem dX10_depthOf_129 : decode cX10_depthOf 129 = .ok (.goto (-102), 3) := by decide +kernel
theorem dX10_depthOf_132 : decode cX10_depthOf 132 = .ok (.aload_n 0, 1) := by decide +kernel
theorem dX10_depthOf_133 : decode cX10_depthOf 133 = .ok (.getfield 48, 3) := by decide +kernel
theorem dX10_depthOf_136 : decode cX10_depthOf 136 = .ok (.iload_n 1, 1) := by decide +kernel
theorem dX10_depthOf_137 : decode cX10_depthOf 137 = .ok (.iaload, 1) := by decide +kernel
theorem dX10_depthOf_138 : decode cX10_depthOf 138 = .ok (.ireturn, 1) := by decide +kernel
theorem dX10_drops_0 : decode cX10_drops 0 = .ok (.aload_n 0, 1) := by decide +kernel
theorem dX10_drops_1 : decode cX10_drops 1 = .ok (.dup, 1) := by decide +kernel
theorem dX10_drops_2 : decode cX10_drops 2 = .ok (.getfield 85, 3) := by decide +kernel
theorem dX10_drops_5 : decode cX10_drops 5 = .ok (.iconst 1, 1) := by decide +kernel
theorem dX10_drops_6 : decode cX10_drops 6 = .ok (.isub, 1) := by decide +kernel
theorem dX10_drops_7 : decode cX10_drops 7 = .ok (.putfield 85, 3) := by decide +kernel
theorem dX10_drops_10 : decode cX10_drops 10 = .ok (.aload_n 0, 1) := by decide +kernel
theorem dX10_drops_11 : decode cX10_drops 11 = .ok (.getfield 24, 3) := by decide +kernel
theorem dX10_drops_14 : decode cX10_drops 14 = .ok (.iload_n 1, 1) := by decide +kernel
theorem dX10_drops_15 : decode cX10_drops 15 = .ok (.aload_n 0, 1) := by decide +kernel
theorem dX10_drops_16 : decode cX10_drops 16 = .ok (.getfield 24, 3) := by decide +kernel
theorem dX10_drops_19 : decode cX10_drops 19 = .ok (.aload_n 0, 1) := by decide +kernel
theorem dX10_drops_20 : decode cX10_drops 20 = .ok (.getfield 85, 3) := by decide +kernel
theorem dX10_drops_23 : decode cX10_drops 23 = .ok (.iaload, 1) := by decide +kernel
theorem dX10_drops_24 : decode cX10_drops 24 = .ok (.iastore, 1) := by decide +kernel
theorem dX10_drops_25 : decode cX10_drops 25 = .ok (.aload_n 0, 1) := by decide +kernel
theorem dX10_drops_26 : decode cX10_drops 26 = .ok (.getfield 27, 3) := by decide +kernel
theorem dX10_drops_29 : decode cX10_drops 29 = .ok (.iload_n 1, 1) := by decide +kernel
theorem dX10_drops_30 : decode cX10_drops 30 = .ok (.aload_n 0, 1) := by decide +kernel
theorem dX10_drops_31 : decode cX10_drops 31 = .ok (.getfield 27, 3) := by decide +kernel
theorem dX10_drops_34 : decode cX10_drops 34 = .ok (.aload_n 0, 1) := by decide +kernel
theorem dX10_drops_35 : decode cX10_drops 35 = .ok (.getfield 85, 3) := by decide +kernel
theorem dX10_drops_38 : decode cX10_drops 38 = .ok (.iaload, 1) := by decide +kernel
theorem dX10_drops_39 : decode cX10_drops 39 = .ok (.iastore, 1) := by decide +kernel
theorem dX10_drops_40 : decode cX10_drops 40 = .ok (.aload_n 0, 1) := by decide +kernel
theorem dX10_drops_41 : decode cX10_drops 41 = .ok (.getfield 30, 3) := by decide +kernel
theorem dX10_drops_44 : decode cX10_drops 44 = .ok (.iload_n 1, 1) := by decide +kernel
theorem dX10_drops_45 : decode cX10_drops 45 = .ok (.aload_n 0, 1) := by decide +kernel
theorem dX10_drops_46 : decode cX10_drops 46 = .ok (.getfield 30, 3) := by decide +kernel
theorem dX10_drops_49 : decode cX10_drops 49 = .ok (.aload_n 0, 1) := by decide +kernel
theorem dX10_drops_50 : decode cX10_drops 50 = .ok (.getfield 85, 3) := by decide +kernel
theorem dX10_drops_53 : decode cX10_drops 53 = .ok (.iaload, 1) := by decide +kernel
theorem dX10_drops_54 : decode cX10_drops 54 = .ok (.iastore, 1) := by decide +kernel
theorem dX10_drops_55 : decode cX10_drops 55 = .ok (.iconst 0, 1) := by decide +kernel
theorem dX10_drops_56 : decode cX10_drops 56 = .ok (.istore_n 2, 1) := by decide +kernel
theorem dX10_drops_57 : decode cX10_drops 57 = .ok (.iload_n 2, 1) := by decide +kernel
theorem dX10_drops_58 : decode cX10_drops 58 = .ok (.bipush 96, 2) := by decide +kernel
theorem dX10_drops_60 : decode cX10_drops 60 = .ok (.if_icmp .ge 34, 3) := by decide +kernel
theorem dX10_drops_63 : decode cX10_drops 63 = .ok (.aload_n 0, 1) := by decide +kernel
theorem dX10_drops_64 : decode cX10_drops 64 = .ok (.getfield 33, 3) := by decide +kernel
theorem dX10_drops_67 : decode cX10_drops 67 = .ok (.bipush 96, 2) := by decide +kernel
theorem dX10_drops_69 : decode cX10_drops 69 = .ok (.iload_n 1, 1) := by decide +kernel
theorem dX10_drops_70 : decode cX10_drops 70 = .ok (.imul, 1) := by decide +kernel
theorem dX10_drops_71 : decode cX10_drops 71 = .ok (.iload_n 2, 1) := by decide +kernel
theorem dX10_drops_72 : decode cX10_drops 72 = .ok (.iadd, 1) := by decide +kernel
theorem dX10_drops_73 : decode cX10_drops 73 = .ok (.aload_n 0, 1) := by decide +kernel
theorem dX10_drops_74 : decode cX10_drops 74 = .ok (.getfield 33, 3) := by decide +kernel
theorem dX10_drops_77 : decode cX10_drops 77 = .ok (.bipush 96, 2) := by decide +kernel
theorem dX10_drops_79 : decode cX10_drops 79 = .ok (.aload_n 0, 1) := by decide +kernel
theorem dX10_drops_80 : decode cX10_drops 80 = .ok (.getfield 85, 3) := by decide +kernel
theorem dX10_drops_83 : decode cX10_drops 83 = .ok (.imul, 1) := by decide +kernel
theorem dX10_drops_84 : decode cX10_drops 84 = .ok (.iload_n 2, 1) := by decide +kernel
theorem dX10_drops_85 : decode cX10_drops 85 = .ok (.iadd, 1) := by decide +kernel
theorem dX10_drops_86 : decode cX10_drops 86 = .ok (.iaload, 1) := by decide +kernel
theorem dX10_drops_87 : decode cX10_drops 87 = .ok (.iastore, 1) := by decide +kernel
theorem dX10_drops_88 : decode cX10_drops 88 = .ok (.iinc 2 1, 3) := by decide +kernel
theorem dX10_drops_91 : decode cX10_drops 91 = .ok (.goto (-34), 3) := by decide +kernel
theorem dX10_drops_94 : decode cX10_drops 94 = .ok (.return_, 1) := by decide +kernel
theorem dX10_ends_0 : decode cX10_ends 0 = .ok (.iload_n 1, 1) := by decide +kernel
theorem dX10_ends_1 : decode cX10_ends 1 = .ok (.bipush 7, 2) := by decide +kernel
theorem dX10_ends_3 : decode cX10_ends 3 = .ok (.if_icmp .ne 55, 3) := by decide +kernel
theorem dX10_ends_6 : decode cX10_ends 6 = .ok (.aload_n 0, 1) := by decide +kernel
theorem dX10_ends_7 : decode cX10_ends 7 = .ok (.iconst 0, 1) := by decide +kernel
theorem dX10_ends_8 : decode cX10_ends 8 = .ok (.aload_n 0, 1) := by decide +kernel
theorem dX10_ends_9 : decode cX10_ends 9 = .ok (.getfield 7, 3) := by decide +kernel
theorem dX10_ends_12 : decode cX10_ends 12 = .ok (.iconst 0, 1) := by decide +kernel
theorem dX10_ends_13 : decode cX10_ends 13 = .ok (.iaload, 1) := by decide +kernel
theorem dX10_ends_14 : decode cX10_ends 14 = .ok (.iconst 1, 1) := by decide +kernel
theorem dX10_ends_15 : decode cX10_ends 15 = .ok (.isub, 1) := by decide +kernel
theorem dX10_ends_16 : decode cX10_ends 16 = .ok (.invokevirtual 212, 3) := by decide +kernel
theorem dX10_ends_19 : decode cX10_ends 19 = .ok (.ifCond .eq 12, 3) := by decide +kernel
theorem dX10_ends_22 : decode cX10_ends 22 = .ok (.aload_n 0, 1) := by decide +kernel
theorem dX10_ends_23 : decode cX10_ends 23 = .ok (.bipush 41, 2) := by decide +kernel
theorem dX10_ends_25 : decode cX10_ends 25 = .ok (.invokevirtual 214, 3) := by decide +kernel
theorem dX10_ends_28 : decode cX10_ends 28 = .ok (.ifCond .ne 5, 3) := by decide +kernel
theorem dX10_ends_31 : decode cX10_ends 31 = .ok (.iconst 0, 1) := by decide +kernel
theorem dX10_ends_32 : decode cX10_ends 32 = .ok (.ireturn, 1) := by decide +kernel
theorem dX10_ends_33 : decode cX10_ends 33 = .ok (.aload_n 0, 1) := by decide +kernel
theorem dX10_ends_34 : decode cX10_ends 34 = .ok (.getfield 66, 3) := by decide +kernel
theorem dX10_ends_37 : decode cX10_ends 37 = .ok (.aload_n 0, 1) := by decide +kernel
theorem dX10_ends_38 : decode cX10_ends 38 = .ok (.getfield 209, 3) := by decide +kernel
theorem dX10_ends_41 : decode cX10_ends 41 = .ok (.aload_n 0, 1) := by decide +kernel
theorem dX10_ends_42 : decode cX10_ends 42 = .ok (.getfield 203, 3) := by decide +kernel
theorem dX10_ends_45 : decode cX10_ends 45 = .ok (.iastore, 1) := by decide +kernel
theorem dX10_ends_46 : decode cX10_ends 46 = .ok (.aload_n 0, 1) := by decide +kernel
theorem dX10_ends_47 : decode cX10_ends 47 = .ok (.dup, 1) := by decide +kernel
theorem dX10_ends_48 : decode cX10_ends 48 = .ok (.getfield 209, 3) := by decide +kernel
theorem dX10_ends_51 : decode cX10_ends 51 = .ok (.iconst 1, 1) := by decide +kernel
theorem dX10_ends_52 : decode cX10_ends 52 = .ok (.iadd, 1) := by decide +kernel
theorem dX10_ends_53 : decode cX10_ends 53 = .ok (.putfield 209, 3) := by decide +kernel
theorem dX10_ends_56 : decode cX10_ends 56 = .ok (.iconst 1, 1) := by decide +kernel
theorem dX10_ends_57 : decode cX10_ends 57 = .ok (.ireturn, 1) := by decide +kernel
theorem dX10_ends_58 : decode cX10_ends 58 = .ok (.iconst 0, 1) := by decide +kernel
theorem dX10_ends_59 : decode cX10_ends 59 = .ok (.istore_n 2, 1) := by decide +kernel
theorem dX10_ends_60 : decode cX10_ends 60 = .ok (.iconst 0, 1) := by decide +kernel
theorem dX10_ends_61 : decode cX10_ends 61 = .ok (.istore_n 3, 1) := by decide +kernel
theorem dX10_ends_62 : decode cX10_ends 62 = .ok (.iconst 0, 1) := by decide +kernel
theorem dX10_ends_63 : decode cX10_ends 63 = .ok (.istore 4, 2) := by decide +kernel
theorem dX10_ends_65 : decode cX10_ends 65 = .ok (.iconst 0, 1) := by decide +kernel
theorem dX10_ends_66 : decode cX10_ends 66 = .ok (.istore 5, 2) := by decide +kernel
theorem dX10_ends_68 : decode cX10_ends 68 = .ok (.iload_n 1, 1) := by decide +kernel
theorem dX10_ends_69 : decode cX10_ends 69 = .ok (.iconst 5, 1) := by decide +kernel
theorem dX10_ends_70 : decode cX10_ends 70 = .ok (.if_icmp .ne 7, 3) := by decide +kernel
theorem dX10_ends_73 : decode cX10_ends 73 = .ok (.iconst 4, 1) := by decide +kernel
theorem dX10_ends_74 : decode cX10_ends 74 = .ok (.goto 19, 3) := by decide +kernel
theorem dX10_ends_77 : decode cX10_ends 77 = .ok (.iload_n 1, 1) := by decide +kernel
theorem dX10_ends_78 : decode cX10_ends 78 = .ok (.iconst 3, 1) := by decide +kernel
theorem dX10_ends_79 : decode cX10_ends 79 = .ok (.if_icmp .eq 9, 3) := by decide +kernel
theorem dX10_ends_82 : decode cX10_ends 82 = .ok (.iload_n 1, 1) := by decide +kernel
theorem dX10_ends_83 : decode cX10_ends 83 = .ok (.bipush 6, 2) := by decide +kernel
theorem dX10_ends_85 : decode cX10_ends 85 = .ok (.if_icmp .ne 7, 3) := by decide +kernel
theorem dX10_ends_88 : decode cX10_ends 88 = .ok (.iconst 0, 1) := by decide +kernel
theorem dX10_ends_89 : decode cX10_ends 89 = .ok (.goto 4, 3) := by decide +kernel
theorem dX10_ends_92 : decode cX10_ends 92 = .ok (.iconst 1, 1) := by decide +kernel
theorem dX10_ends_93 : decode cX10_ends 93 = .ok (.istore 6, 2) := by decide +kernel
theorem dX10_ends_95 : decode cX10_ends 95 = .ok (.iconst 0, 1) := by decide +kernel
theorem dX10_ends_96 : decode cX10_ends 96 = .ok (.istore 7, 2) := by decide +kernel
theorem dX10_ends_98 : decode cX10_ends 98 = .ok (.iload 7, 2) := by decide +kernel
theorem dX10_ends_100 : decode cX10_ends 100 = .ok (.iload 6, 2) := by decide +kernel
theorem dX10_ends_102 : decode cX10_ends 102 = .ok (.if_icmp .ge 144, 3) := by decide +kernel
theorem dX10_ends_105 : decode cX10_ends 105 = .ok (.iload_n 1, 1) := by decide +kernel
theorem dX10_ends_106 : decode cX10_ends 106 = .ok (.ifCond .eq 14, 3) := by decide +kernel
theorem dX10_ends_109 : decode cX10_ends 109 = .ok (.aload_n 0, 1) := by decide +kernel
theorem dX10_ends_110 : decode cX10_ends 110 = .ok (.bipush 44, 2) := by decide +kernel
theorem dX10_ends_112 : decode cX10_ends 112 = .ok (.invokevirtual 214, 3) := by decide +kernel
theorem dX10_ends_115 : decode cX10_ends 115 = .ok (.ifCond .ne 5, 3) := by decide +kernel
theorem dX10_ends_118 : decode cX10_ends 118 = .ok (.iconst 0, 1) := by decide +kernel
theorem dX10_ends_119 : decode cX10_ends 119 = .ok (.ireturn, 1) := by decide +kernel
theorem dX10_ends_120 : decode cX10_ends 120 = .ok (.iload_n 1, 1) := by decide +kernel
theorem dX10_ends_121 : decode cX10_ends 121 = .ok (.iconst 2, 1) := by decide +kernel
theorem dX10_ends_122 : decode cX10_ends 122 = .ok (.if_icmp .ne 16, 3) := by decide +kernel
theorem dX10_ends_125 : decode cX10_ends 125 = .ok (.aload_n 0, 1) := by decide +kernel
theorem dX10_ends_126 : decode cX10_ends 126 = .ok (.bipush 45, 2) := by decide +kernel
theorem dX10_ends_128 : decode cX10_ends 128 = .ok (.invokevirtual 214, 3) := by decide +kernel
theorem dX10_ends_131 : decode cX10_ends 131 = .ok (.ifCond .eq 7, 3) := by decide +kernel
theorem dX10_ends_134 : decode cX10_ends 134 = .ok (.iconst 1, 1) := by decide +kernel
theorem dX10_ends_135 : decode cX10_ends 135 = .ok (.goto 4, 3) := by decide +kernel
theorem dX10_ends_138 : decode cX10_ends 138 = .ok (.iconst 0, 1) := by decide +kernel
theorem dX10_ends_139 : decode cX10_ends 139 = .ok (.istore 8, 2) := by decide +kernel
theorem dX10_ends_141 : decode cX10_ends 141 = .ok (.aload_n 0, 1) := by decide +kernel
theorem dX10_ends_142 : decode cX10_ends 142 = .ok (.iload 8, 2) := by decide +kernel
theorem dX10_ends_144 : decode cX10_ends 144 = .ok (.ifCond .eq 7, 3) := by decide +kernel
theorem dX10_ends_147 : decode cX10_ends 147 = .ok (.iconst 1, 1) := by decide +kernel
theorem dX10_ends_148 : decode cX10_ends 148 = .ok (.goto 4, 3) := by decide +kernel
theorem dX10_ends_151 : decode cX10_ends 151 = .ok (.iconst 0, 1) := by decide +kernel
theorem dX10_ends_152 : decode cX10_ends 152 = .ok (.iload_n 1, 1) := by decide +kernel
theorem dX10_ends_153 : decode cX10_ends 153 = .ok (.iload 7, 2) := by decide +kernel
theorem dX10_ends_155 : decode cX10_ends 155 = .ok (.invokestatic 115, 3) := by decide +kernel
theorem dX10_ends_158 : decode cX10_ends 158 = .ok (.invokevirtual 212, 3) := by decide +kernel
theorem dX10_ends_161 : decode cX10_ends 161 = .ok (.ifCond .ne 5, 3) := by decide +kernel
theorem dX10_ends_164 : decode cX10_ends 164 = .ok (.iconst 0, 1) := by decide +kernel
theorem dX10_ends_165 : decode cX10_ends 165 = .ok (.ireturn, 1) := by decide +kernel
theorem dX10_ends_166 : decode cX10_ends 166 = .ok (.iload 8, 2) := by decide +kernel
theorem dX10_ends_168 : decode cX10_ends 168 = .ok (.ifCond .eq 11, 3) := by decide +kernel
theorem dX10_ends_171 : decode cX10_ends 171 = .ok (.aload_n 0, 1) := by decide +kernel
theorem dX10_ends_172 : decode cX10_ends 172 = .ok (.getfield 203, 3) := by decide +kernel
theorem dX10_ends_175 : decode cX10_ends 175 = .ok (.ineg, 1) := by decide +kernel
theorem dX10_ends_176 : decode cX10_ends 176 = .ok (.goto 7, 3) := by decide +kernel
theorem dX10_ends_179 : decode cX10_ends 179 = .ok (.aload_n 0, 1) := by decide +kernel
theorem dX10_ends_180 : decode cX10_ends 180 = .ok (.getfield 203, 3) := by decide +kernel
theorem dX10_ends_183 : decode cX10_ends 183 = .ok (.istore 9, 2) := by decide +kernel
theorem dX10_ends_185 : decode cX10_ends 185 = .ok (.iload 7, 2) := by decide +kernel
theorem dX10_ends_187 : decode cX10_ends 187 = .ok (.ifCond .ne 8, 3) := by decide +kernel
theorem dX10_ends_190 : decode cX10_ends 190 = .ok (.iload 9, 2) := by decide +kernel
theorem dX10_ends_192 : decode cX10_ends 192 = .ok (.goto 4, 3) := by decide +kernel
theorem dX10_ends_195 : decode cX10_ends 195 = .ok (.iload_n 2, 1) := by decide +kernel
theorem dX10_ends_196 : decode cX10_ends 196 = .ok (.istore_n 2, 1) := by decide +kernel
theorem dX10_ends_197 : decode cX10_ends 197 = .ok (.iload 7, 2) := by decide +kernel
theorem dX10_ends_199 : decode cX10_ends 199 = .ok (.iconst 1, 1) := by decide +kernel
theorem dX10_ends_200 : decode cX10_ends 200 = .ok (.if_icmp .ne 8, 3) := by decide +kernel
theorem dX10_ends_203 : decode cX10_ends 203 = .ok (.iload 9, 2) := by decide +kernel
theorem dX10_ends_205 : decode cX10_ends 205 = .ok (.goto 4, 3) := by decide +kernel
theorem dX10_ends_208 : decode cX10_ends 208 = .ok (.iload_n 3, 1) := by decide +kernel
theorem dX10_ends_209 : decode cX10_ends 209 = .ok (.istore_n 3, 1) := by decide +kernel
theorem dX10_ends_210 : decode cX10_ends 210 = .ok (.iload 7, 2) := by decide +kernel
theorem dX10_ends_212 : decode cX10_ends 212 = .ok (.iconst 2, 1) := by decide +kernel
theorem dX10_ends_213 : decode cX10_ends 213 = .ok (.if_icmp .ne 8, 3) := by decide +kernel
theorem dX10_ends_216 : decode cX10_ends 216 = .ok (.iload 9, 2) := by decide +kernel
theorem dX10_ends_218 : decode cX10_ends 218 = .ok (.goto 5, 3) := by decide +kernel
theorem dX10_ends_221 : decode cX10_ends 221 = .ok (.iload 4, 2) := by decide +kernel
theorem dX10_ends_223 : decode cX10_ends 223 = .ok (.istore 4, 2) := by decide +kernel
theorem dX10_ends_225 : decode cX10_ends 225 = .ok (.iload 7, 2) := by decide +kernel
theorem dX10_ends_227 : decode cX10_ends 227 = .ok (.iconst 3, 1) := by decide +kernel
theorem dX10_ends_228 : decode cX10_ends 228 = .ok (.if_icmp .ne 8, 3) := by decide +kernel
theorem dX10_ends_231 : decode cX10_ends 231 = .ok (.iload 9, 2) := by decide +kernel
theorem dX10_ends_233 : decode cX10_ends 233 = .ok (.goto 5, 3) := by decide +kernel
theorem dX10_ends_236 : decode cX10_ends 236 = .ok (.iload 5, 2) := by decide +kernel
theorem dX10_ends_238 : decode cX10_ends 238 = .ok (.istore 5, 2) := by decide +kernel
theorem dX10_ends_240 : decode cX10_ends 240 = .ok (.iinc 7 1, 3) := by decide +kernel
theorem dX10_ends_243 : decode cX10_ends 243 = .ok (.goto (-145), 3) := by decide +kernel
theorem dX10_ends_246 : decode cX10_ends 246 = .ok (.aload_n 0, 1) := by decide +kernel
theorem dX10_ends_247 : decode cX10_ends 247 = .ok (.bipush 41, 2) := by decide +kernel
theorem dX10_ends_249 : decode cX10_ends 249 = .ok (.invokevirtual 214, 3) := by decide +kernel
theorem dX10_ends_252 : decode cX10_ends 252 = .ok (.ifCond .ne 5, 3) := by decide +kernel
theorem dX10_ends_255 : decode cX10_ends 255 = .ok (.iconst 0, 1) := by decide +kernel
theorem dX10_ends_256 : decode cX10_ends 256 = .ok (.ireturn, 1) := by decide +kernel
theorem dX10_ends_257 : decode cX10_ends 257 = .ok (.aload_n 0, 1) := by decide +kernel
theorem dX10_ends_258 : decode cX10_ends 258 = .ok (.iload_n 1, 1) := by decide +kernel
theorem dX10_ends_259 : decode cX10_ends 259 = .ok (.invokevirtual 217, 3) := by decide +kernel
theorem dX10_ends_262 : decode cX10_ends 262 = .ok (.bipush 8, 2) := by decide +kernel
theorem dX10_ends_264 : decode cX10_ends 264 = .ok (.aload_n 0, 1) := by decide +kernel
theorem dX10_ends_265 : decode cX10_ends 265 = .ok (.getfield 206, 3) := by decide +kernel
theorem dX10_ends_268 : decode cX10_ends 268 = .ok (.imul, 1) := by decide +kernel
theorem dX10_ends_269 : decode cX10_ends 269 = .ok (.iconst 4, 1) := by decide +kernel
theorem dX10_ends_270 : decode cX10_ends 270 = .ok (.isub, 1) := by decide +kernel
theorem dX10_ends_271 : decode cX10_ends 271 = .ok (.istore 7, 2) := by decide +kernel
theorem dX10_ends_273 : decode cX10_ends 273 = .ok (.iload_n 1, 1) := by decide +kernel
theorem dX10_ends_274 : decode cX10_ends 274 = .ok (.iconst 1, 1) := by decide +kernel
theorem dX10_ends_275 : decode cX10_ends 275 = .ok (.if_icmp .eq 8, 3) := by decide +kernel
theorem dX10_ends_278 : decode cX10_ends 278 = .ok (.iload_n 1, 1) := by decide +kernel
theorem dX10_ends_279 : decode cX10_ends 279 = .ok (.iconst 2, 1) := by decide +kernel
theorem dX10_ends_280 : decode cX10_ends 280 = .ok (.if_icmp .ne 7, 3) := by decide +kernel
theorem dX10_ends_283 : decode cX10_ends 283 = .ok (.iconst 1, 1) := by decide +kernel
theorem dX10_ends_284 : decode cX10_ends 284 = .ok (.goto 4, 3) := by decide +kernel
theorem dX10_ends_287 : decode cX10_ends 287 = .ok (.iconst 0, 1) := by decide +kernel
theorem dX10_ends_288 : decode cX10_ends 288 = .ok (.istore 8, 2) := by decide +kernel
theorem dX10_ends_290 : decode cX10_ends 290 = .ok (.aload_n 0, 1) := by decide +kernel
theorem dX10_ends_291 : decode cX10_ends 291 = .ok (.getfield 63, 3) := by decide +kernel
theorem dX10_ends_294 : decode cX10_ends 294 = .ok (.iload 7, 2) := by decide +kernel
theorem dX10_ends_296 : decode cX10_ends 296 = .ok (.iload 6, 2) := by decide +kernel
theorem dX10_ends_298 : decode cX10_ends 298 = .ok (.ifCond .le 7, 3) := by decide +kernel
theorem dX10_ends_301 : decode cX10_ends 301 = .ok (.iload_n 2, 1) := by decide +kernel
theorem dX10_ends_302 : decode cX10_ends 302 = .ok (.goto 10, 3) := by decide +kernel
theorem dX10_ends_305 : decode cX10_ends 305 = .ok (.aload_n 0, 1) := by decide +kernel
theorem dX10_ends_306 : decode cX10_ends 306 = .ok (.getfield 63, 3) := by decide +kernel
theorem dX10_ends_309 : decode cX10_ends 309 = .ok (.iload 7, 2) := by decide +kernel
theorem dX10_ends_311 : decode cX10_ends 311 = .ok (.iaload, 1) := by decide +kernel
theorem dX10_ends_312 : decode cX10_ends 312 = .ok (.iastore, 1) := by decide +kernel
theorem dX10_ends_313 : decode cX10_ends 313 = .ok (.aload_n 0, 1) := by decide +kernel
theorem dX10_ends_314 : decode cX10_ends 314 = .ok (.getfield 63, 3) := by decide +kernel
theorem dX10_ends_317 : decode cX10_ends 317 = .ok (.iload 7, 2) := by decide +kernel
theorem dX10_ends_319 : decode cX10_ends 319 = .ok (.iconst 1, 1) := by decide +kernel
theorem dX10_ends_320 : decode cX10_ends 320 = .ok (.iadd, 1) := by decide +kernel
theorem dX10_ends_321 : decode cX10_ends 321 = .ok (.iload 8, 2) := by decide +kernel
theorem dX10_ends_323 : decode cX10_ends 323 = .ok (.ifCond .eq 7, 3) := by decide +kernel
theorem dX10_ends_326 : decode cX10_ends 326 = .ok (.iload_n 2, 1) := by decide +kernel
theorem dX10_ends_327 : decode cX10_ends 327 = .ok (.goto 22, 3) := by decide +kernel
theorem dX10_ends_330 : decode cX10_ends 330 = .ok (.iload 6, 2) := by decide +kernel
theorem dX10_ends_332 : decode cX10_ends 332 = .ok (.iconst 1, 1) := by decide +kernel
theorem dX10_ends_333 : decode cX10_ends 333 = .ok (.if_icmp .le 7, 3) := by decide +kernel
theorem dX10_ends_336 : decode cX10_ends 336 = .ok (.iload_n 3, 1) := by decide +kernel
theorem dX10_ends_337 : decode cX10_ends 337 = .ok (.goto 12, 3) := by decide +kernel
theorem dX10_ends_340 : decode cX10_ends 340 = .ok (.aload_n 0, 1) := by decide +kernel
theorem dX10_ends_341 : decode cX10_ends 341 = .ok (.getfield 63, 3) := by decide +kernel
theorem dX10_ends_344 : decode cX10_ends 344 = .ok (.iload 7, 2) := by decide +kernel
theorem dX10_ends_346 : decode cX10_ends 346 = .ok (.iconst 1, 1) := by decide +kernel
theorem dX10_ends_347 : decode cX10_ends 347 = .ok (.iadd, 1) := by decide +kernel
theorem dX10_ends_348 : decode cX10_ends 348 = .ok (.iaload, 1) := by decide +kernel
theorem dX10_ends_349 : decode cX10_ends 349 = .ok (.iastore, 1) := by decide +kernel
theorem dX10_ends_350 : decode cX10_ends 350 = .ok (.aload_n 0, 1) := by decide +kernel
theorem dX10_ends_351 : decode cX10_ends 351 = .ok (.getfield 63, 3) := by decide +kernel
theorem dX10_ends_354 : decode cX10_ends 354 = .ok (.iload 7, 2) := by decide +kernel
theorem dX10_ends_356 : decode cX10_ends 356 = .ok (.iconst 2, 1) := by decide +kernel
theorem dX10_ends_357 : decode cX10_ends 357 = .ok (.iadd, 1) := by decide +kernel
theorem dX10_ends_358 : decode cX10_ends 358 = .ok (.iload 8, 2) := by decide +kernel
theorem dX10_ends_360 : decode cX10_ends 360 = .ok (.ifCond .eq 7, 3) := by decide +kernel
theorem dX10_ends_363 : decode cX10_ends 363 = .ok (.iload_n 2, 1) := by decide +kernel
theorem dX10_ends_364 : decode cX10_ends 364 = .ok (.goto 23, 3) := by decide +kernel
theorem dX10_ends_367 : decode cX10_ends 367 = .ok (.iload 6, 2) := by decide +kernel
theorem dX10_ends_369 : decode cX10_ends 369 = .ok (.iconst 1, 1) := by decide +kernel
theorem dX10_ends_370 : decode cX10_ends 370 = .ok (.if_icmp .le 8, 3) := by decide +kernel
theorem dX10_ends_373 : decode cX10_ends 373 = .ok (.iload 4, 2) := by decide +kernel
theorem dX10_ends_375 : decode cX10_ends 375 = .ok (.goto 12, 3) := by decide +kernel
theorem dX10_ends_378 : decode cX10_ends 378 = .ok (.aload_n 0, 1) := by decide +kernel
theorem dX10_ends_379 : decode cX10_ends 379 = .ok (.getfield 63, 3) := by decide +kernel
theorem dX10_ends_382 : decode cX10_ends 382 = .ok (.iload 7, 2) := by decide +kernel
theorem dX10_ends_384 : decode cX10_ends 384 = .ok (.iconst 2, 1) := by decide +kernel
theorem dX10_ends_385 : decode cX10_ends 385 = .ok (.iadd, 1) := by decide +kernel
theorem dX10_ends_386 : decode cX10_ends 386 = .ok (.iaload, 1) := by decide +kernel
theorem dX10_ends_387 : decode cX10_ends 387 = .ok (.iastore, 1) := by decide +kernel
theorem dX10_ends_388 : decode cX10_ends 388 = .ok (.aload_n 0, 1) := by decide +kernel
theorem dX10_ends_389 : decode cX10_ends 389 = .ok (.getfield 63, 3) := by decide +kernel
theorem dX10_ends_392 : decode cX10_ends 392 = .ok (.iload 7, 2) := by decide +kernel
theorem dX10_ends_394 : decode cX10_ends 394 = .ok (.iconst 3, 1) := by decide +kernel
theorem dX10_ends_395 : decode cX10_ends 395 = .ok (.iadd, 1) := by decide +kernel
theorem dX10_ends_396 : decode cX10_ends 396 = .ok (.iload 6, 2) := by decide +kernel
theorem dX10_ends_398 : decode cX10_ends 398 = .ok (.iconst 1, 1) := by decide +kernel
theorem dX10_ends_399 : decode cX10_ends 399 = .ok (.if_icmp .le 8, 3) := by decide +kernel
theorem dX10_ends_402 : decode cX10_ends 402 = .ok (.iload 5, 2) := by decide +kernel
theorem dX10_ends_404 : decode cX10_ends 404 = .ok (.goto 12, 3) := by decide +kernel
theorem dX10_ends_407 : decode cX10_ends 407 = .ok (.aload_n 0, 1) := by decide +kernel
theorem dX10_ends_408 : decode cX10_ends 408 = .ok (.getfield 63, 3) := by decide +kernel
theorem dX10_ends_411 : decode cX10_ends 411 = .ok (.iload 7, 2) := by decide +kernel
theorem dX10_ends_413 : decode cX10_ends 413 = .ok (.iconst 3, 1) := by decide +kernel
theorem dX10_ends_414 : decode cX10_ends 414 = .ok (.iadd, 1) := by decide +kernel
theorem dX10_ends_415 : decode cX10_ends 415 = .ok (.iaload, 1) := by decide +kernel
theorem dX10_ends_416 : decode cX10_ends 416 = .ok (.iastore, 1) := by decide +kernel
theorem dX10_ends_417 : decode cX10_ends 417 = .ok (.iconst 1, 1) := by decide +kernel
theorem dX10_ends_418 : decode cX10_ends 418 = .ok (.ireturn, 1) := by decide +kernel
theorem dX10_faultDepth_0 : decode cX10_faultDepth 0 = .ok (.aload_n 0, 1) := by decide +kernel
theorem dX10_faultDepth_1 : decode cX10_faultDepth 1 = .ok (.invokevirtual 232, 3) := by decide +kernel
theorem dX10_faultDepth_4 : decode cX10_faultDepth 4 = .ok (.ifCond .eq 9, 3) := by decide +kernel
theorem dX10_faultDepth_7 : decode cX10_faultDepth 7 = .ok (.sipush (-1005), 3) := by decide +kernel
theorem dX10_faultDepth_10 : decode cX10_faultDepth 10 = .ok (.goto 7, 3) := by decide +kernel
theorem dX10_faultDepth_13 : decode cX10_faultDepth 13 = .ok (.aload_n 0, 1) := by decide +kernel
theorem dX10_faultDepth_14 : decode cX10_faultDepth 14 = .ok (.getfield 223, 3) := by decide +kernel
theorem dX10_faultDepth_17 : decode cX10_faultDepth 17 = .ok (.ireturn, 1) := by decide +kernel
theorem dX10_faultPosition_0 : decode cX10_faultPosition 0 = .ok (.aload_n 0, 1) := by decide +kernel
theorem dX10_faultPosition_1 : decode cX10_faultPosition 1 = .ok (.invokevirtual 232, 3) := by decide +kernel
theorem dX10_faultPosition_4 : decode cX10_faultPosition 4 = .ok (.ifCond .eq 9, 3) := by decide +kernel
theorem dX10_faultPosition_7 : decode cX10_faultPosition 7 = .ok (.sipush (-1005), 3) := by decide +kernel
theorem dX10_faultPosition_10 : decode cX10_faultPosition 10 = .ok (.goto 7, 3) := by decide +kernel
theorem dX10_faultPosition_13 : decode cX10_faultPosition 13 = .ok (.aload_n 0, 1) := by decide +kernel
theorem dX10_faultPosition_14 : decode cX10_faultPosition 14 = .ok (.getfield 193, 3) := by decide +kernel
theorem dX10_faultPosition_17 : decode cX10_faultPosition 17 = .ok (.ireturn, 1) := by decide +kernel
theorem dX10_find_0 : decode cX10_find 0 = .ok (.iconst 0, 1) := by decide +kernel
theorem dX10_find_1 : decode cX10_find 1 = .ok (.istore_n 3, 1) := by decide +kernel
theorem dX10_find_2 : decode cX10_find 2 = .ok (.iload_n 3, 1) := by decide +kernel
theorem dX10_find_3 : decode cX10_find 3 = .ok (.aload_n 0, 1) := by decide +kernel
theorem dX10_find_4 : decode cX10_find 4 = .ok (.getfield 85, 3) := by decide +kernel
theorem dX10_find_7 : decode cX10_find 7 = .ok (.if_icmp .ge 31, 3) := by decide +kernel
theorem dX10_find_10 : decode cX10_find 10 = .ok (.aload_n 0, 1) := by decide +kernel
theorem dX10_find_11 : decode cX10_find 11 = .ok (.getfield 24, 3) := by decide +kernel
theorem dX10_find_14 : decode cX10_find 14 = .ok (.iload_n 3, 1) := by decide +kernel
theorem dX10_find_15 : decode cX10_find 15 = .ok (.iaload, 1) := by decide +kernel
theorem dX10_find_16 : decode cX10_find 16 = .ok (.iload_n 1, 1) := by decide +kernel
theorem dX10_find_17 : decode cX10_find 17 = .ok (.if_icmp .ne 15, 3) := by decide +kernel
theorem dX10_find_20 : decode cX10_find 20 = .ok (.aload_n 0, 1) := by decide +kernel
theorem dX10_find_21 : decode cX10_find 21 = .ok (.getfield 27, 3) := by decide +kernel
theorem dX10_find_24 : decode cX10_find 24 = .ok (.iload_n 3, 1) := by decide +kernel
theorem dX10_find_25 : decode cX10_find 25 = .ok (.iaload, 1) := by decide +kernel
theorem dX10_find_26 : decode cX10_find 26 = .ok (.iload_n 2, 1) := by decide +kernel
theorem dX10_find_27 : decode cX10_find 27 = .ok (.if_icmp .ne 5, 3) := by decide +kernel
theorem dX10_find_30 : decode cX10_find 30 = .ok (.iload_n 3, 1) := by decide +kernel
theorem dX10_find_31 : decode cX10_find 31 = .ok (.ireturn, 1) := by decide +kernel
theorem dX10_find_32 : decode cX10_find 32 = .ok (.iinc 3 1, 3) := by decide +kernel
theorem dX10_find_35 : decode cX10_find 35 = .ok (.goto (-33), 3) := by decide +kernel
theorem dX10_find_38 : decode cX10_find 38 = .ok (.iconst (-1), 1) := by decide +kernel
theorem dX10_find_39 : decode cX10_find 39 = .ok (.ireturn, 1) := by decide +kernel
theorem dX10_first_0 : decode cX10_first 0 = .ok (.iload_n 0, 1) := by decide +kernel
theorem dX10_first_1 : decode cX10_first 1 = .ok (.iconst 1, 1) := by decide +kernel
theorem dX10_first_2 : decode cX10_first 2 = .ok (.if_icmp .ne 8, 3) := by decide +kernel
theorem dX10_first_5 : decode cX10_first 5 = .ok (.bipush 16, 2) := by decide +kernel
theorem dX10_first_7 : decode cX10_first 7 = .ok (.goto 29, 3) := by decide +kernel
theorem dX10_first_10 : decode cX10_first 10 = .ok (.iload_n 0, 1) := by decide +kernel
theorem dX10_first_11 : decode cX10_first 11 = .ok (.iconst 4, 1) := by decide +kernel
theorem dX10_first_12 : decode cX10_first 12 = .ok (.if_icmp .ne 7, 3) := by decide +kernel
theorem dX10_first_15 : decode cX10_first 15 = .ok (.iconst 1, 1) := by decide +kernel
theorem dX10_first_16 : decode cX10_first 16 = .ok (.goto 20, 3) := by decide +kernel
theorem dX10_first_19 : decode cX10_first 19 = .ok (.iload_n 0, 1) := by decide +kernel
theorem dX10_first_20 : decode cX10_first 20 = .ok (.iconst 5, 1) := by decide +kernel
theorem dX10_first_21 : decode cX10_first 21 = .ok (.if_icmp .ne 14, 3) := by decide +kernel
theorem dX10_first_24 : decode cX10_first 24 = .ok (.iload_n 1, 1) := by decide +kernel
theorem dX10_first_25 : decode cX10_first 25 = .ok (.iconst 2, 1) := by decide +kernel
theorem dX10_first_26 : decode cX10_first 26 = .ok (.if_icmp .ne 9, 3) := by decide +kernel
theorem dX10_first_29 : decode cX10_first 29 = .ok (.sipush 255, 3) := by decide +kernel
theorem dX10_first_32 : decode cX10_first 32 = .ok (.goto 4, 3) := by decide +kernel
theorem dX10_first_35 : decode cX10_first 35 = .ok (.iconst 0, 1) := by decide +kernel
theorem dX10_first_36 : decode cX10_first 36 = .ok (.ireturn, 1) := by decide +kernel
theorem dX10_here_0 : decode cX10_here 0 = .ok (.aload_n 0, 1) := by decide +kernel
theorem dX10_here_1 : decode cX10_here 1 = .ok (.getfield 193, 3) := by decide +kernel
theorem dX10_here_4 : decode cX10_here 4 = .ok (.aload_n 0, 1) := by decide +kernel
theorem dX10_here_5 : decode cX10_here 5 = .ok (.getfield 190, 3) := by decide +kernel
theorem dX10_here_8 : decode cX10_here 8 = .ok (.if_icmp .ge 15, 3) := by decide +kernel
theorem dX10_here_11 : decode cX10_here 11 = .ok (.aload_n 0, 1) := by decide +kernel
theorem dX10_here_12 : decode cX10_here 12 = .ok (.getfield 39, 3) := by decide +kernel
theorem dX10_here_15 : decode cX10_here 15 = .ok (.aload_n 0, 1) := by decide +kernel
theorem dX10_here_16 : decode cX10_here 16 = .ok (.getfield 193, 3) := by decide +kernel
theorem dX10_here_19 : decode cX10_here 19 = .ok (.iaload, 1) := by decide +kernel
theorem dX10_here_20 : decode cX10_here 20 = .ok (.goto 4, 3) := by decide +kernel
theorem dX10_here_23 : decode cX10_here 23 = .ok (.iconst (-1), 1) := by decide +kernel
theorem dX10_here_24 : decode cX10_here 24 = .ok (.ireturn, 1) := by decide +kernel
theorem dX10_high_0 : decode cX10_high 0 = .ok (.iload_n 0, 1) := by decide +kernel
theorem dX10_high_1 : decode cX10_high 1 = .ok (.tableswitch 70 0 5 #[39, 43, 70, 70, 46, 48], 39) := by decide +kernel
theorem dX10_high_40 : decode cX10_high 40 = .ok (.sipush 999, 3) := by decide +kernel
theorem dX10_high_43 : decode cX10_high 43 = .ok (.ireturn, 1) := by decide +kernel
theorem dX10_high_44 : decode cX10_high 44 = .ok (.bipush 64, 2) := by decide +kernel
theorem dX10_high_46 : decode cX10_high 46 = .ok (.ireturn, 1) := by decide +kernel
theorem dX10_high_47 : decode cX10_high 47 = .ok (.iconst 3, 1) := by decide +kernel
theorem dX10_high_48 : decode cX10_high 48 = .ok (.ireturn, 1) := by decide +kernel
theorem dX10_high_49 : decode cX10_high 49 = .ok (.iload_n 1, 1) := by decide +kernel
theorem dX10_high_50 : decode cX10_high 50 = .ok (.ifCond .ne 7, 3) := by decide +kernel
theorem dX10_high_53 : decode cX10_high 53 = .ok (.iconst 2, 1) := by decide +kernel
theorem dX10_high_54 : decode cX10_high 54 = .ok (.goto 16, 3) := by decide +kernel
theorem dX10_high_57 : decode cX10_high 57 = .ok (.iload_n 1, 1) := by decide +kernel
theorem dX10_high_58 : decode cX10_high 58 = .ok (.iconst 3, 1) := by decide +kernel
theorem dX10_high_59 : decode cX10_high 59 = .ok (.if_icmp .ne 8, 3) := by decide +kernel
theorem dX10_high_62 : decode cX10_high 62 = .ok (.bipush 99, 2) := by decide +kernel
theorem dX10_high_64 : decode cX10_high 64 = .ok (.goto 6, 3) := by decide +kernel
theorem dX10_high_67 : decode cX10_high 67 = .ok (.sipush 255, 3) := by decide +kernel
theorem dX10_high_70 : decode cX10_high 70 = .ok (.ireturn, 1) := by decide +kernel
theorem dX10_high_71 : decode cX10_high 71 = .ok (.sipush 255, 3) := by decide +kernel
theorem dX10_high_74 : decode cX10_high 74 = .ok (.ireturn, 1) := by decide +kernel
theorem dX10_in_0 : decode cX10_in 0 = .ok (.iload_n 0, 1) := by decide +kernel
theorem dX10_in_1 : decode cX10_in 1 = .ok (.iload_n 1, 1) := by decide +kernel
theorem dX10_in_2 : decode cX10_in 2 = .ok (.if_icmp .lt 12, 3) := by decide +kernel
theorem dX10_in_5 : decode cX10_in 5 = .ok (.iload_n 0, 1) := by decide +kernel
theorem dX10_in_6 : decode cX10_in 6 = .ok (.iload_n 2, 1) := by decide +kernel
theorem dX10_in_7 : decode cX10_in 7 = .ok (.if_icmp .gt 7, 3) := by decide +kernel
theorem dX10_in_10 : decode cX10_in 10 = .ok (.iconst 1, 1) := by decide +kernel
theorem dX10_in_11 : decode cX10_in 11 = .ok (.goto 4, 3) := by decide +kernel
theorem dX10_in_14 : decode cX10_in 14 = .ok (.iconst 0, 1) := by decide +kernel
theorem dX10_in_15 : decode cX10_in 15 = .ok (.ireturn, 1) := by decide +kernel
theorem dX10_init_0 : decode cX10_init 0 = .ok (.aload_n 0, 1) := by decide +kernel
theorem dX10_init_1 : decode cX10_init 1 = .ok (.invokespecial 1, 3) := by decide +kernel
theorem dX10_init_4 : decode cX10_init 4 = .ok (.aload_n 0, 1) := by decide +kernel
theorem dX10_init_5 : decode cX10_init 5 = .ok (.bipush 121, 2) := by decide +kernel
theorem dX10_init_7 : decode cX10_init 7 = .ok (.newarray .int, 2) := by decide +kernel
theorem dX10_init_9 : decode cX10_init 9 = .ok (.putfield 7, 3) := by decide +kernel
theorem dX10_init_12 : decode cX10_init 12 = .ok (.aload_n 0, 1) := by decide +kernel
theorem dX10_init_13 : decode cX10_init 13 = .ok (.sipush 242, 3) := by decide +kernel
theorem dX10_init_16 : decode cX10_init 16 = .ok (.newarray .int, 2) := by decide +kernel
theorem dX10_init_18 : decode cX10_init 18 = .ok (.putfield 13, 3) := by decide +kernel
theorem dX10_init_21 : decode cX10_init 21 = .ok (.aload_n 0, 1) := by decide +kernel
theorem dX10_init_22 : decode cX10_init 22 = .ok (.iconst 2, 1) := by decide +kernel
theorem dX10_init_23 : decode cX10_init 23 = .ok (.newarray .boolean, 2) := by decide +kernel
theorem dX10_init_25 : decode cX10_init 25 = .ok (.putfield 16, 3) := by decide +kernel
theorem dX10_init_28 : decode cX10_init 28 = .ok (.aload_n 0, 1) := by decide +kernel
theorem dX10_init_29 : decode cX10_init 29 = .ok (.bipush 16, 2) := by decide +kernel
theorem dX10_init_31 : decode cX10_init 31 = .ok (.putfield 20, 3) := by decide +kernel
theorem dX10_init_34 : decode cX10_init 34 = .ok (.aload_n 0, 1) := by decide +kernel
theorem dX10_init_35 : decode cX10_init 35 = .ok (.bipush 48, 2) := by decide +kernel
theorem dX10_init_37 : decode cX10_init 37 = .ok (.newarray .int, 2) := by decide +kernel
theorem dX10_init_39 : decode cX10_init 39 = .ok (.putfield 24, 3) := by decide +kernel
theorem dX10_init_42 : decode cX10_init 42 = .ok (.aload_n 0, 1) := by decide +kernel
theorem dX10_init_43 : decode cX10_init 43 = .ok (.bipush 48, 2) := by decide +kernel
theorem dX10_init_45 : decode cX10_init 45 = .ok (.newarray .int, 2) := by decide +kernel
theorem dX10_init_47 : decode cX10_init 47 = .ok (.putfield 27, 3) := by decide +kernel
theorem dX10_init_50 : decode cX10_init 50 = .ok (.aload_n 0, 1) := by decide +kernel
theorem dX10_init_51 : decode cX10_init 51 = .ok (.bipush 48, 2) := by decide +kernel
theorem dX10_init_53 : decode cX10_init 53 = .ok (.newarray .int, 2) := by decide +kernel
theorem dX10_init_55 : decode cX10_init 55 = .ok (.putfield 30, 3) := by decide +kernel
theorem dX10_init_58 : decode cX10_init 58 = .ok (.aload_n 0, 1) := by decide +kernel
theorem dX10_init_59 : decode cX10_init 59 = .ok (.sipush 4608, 3) := by decide +kernel
theorem dX10_init_62 : decode cX10_init 62 = .ok (.newarray .int, 2) := by decide +kernel
theorem dX10_init_64 : decode cX10_init 64 = .ok (.putfield 33, 3) := by decide +kernel
theorem dX10_init_67 : decode cX10_init 67 = .ok (.aload_n 0, 1) := by decide +kernel
theorem dX10_init_68 : decode cX10_init 68 = .ok (.iconst 5, 1) := by decide +kernel
theorem dX10_init_69 : decode cX10_init 69 = .ok (.newarray .int, 2) := by decide +kernel
theorem dX10_init_71 : decode cX10_init 71 = .ok (.putfield 36, 3) := by decide +kernel
theorem dX10_init_74 : decode cX10_init 74 = .ok (.aload_n 0, 1) := by decide +kernel
theorem dX10_init_75 : decode cX10_init 75 = .ok (.bipush 80, 2) := by decide +kernel
theorem dX10_init_77 : decode cX10_init 77 = .ok (.newarray .int, 2) := by decide +kernel
theorem dX10_init_79 : decode cX10_init 79 = .ok (.putfield 39, 3) := by decide +kernel
theorem dX10_init_82 : decode cX10_init 82 = .ok (.aload_n 0, 1) := by decide +kernel
theorem dX10_init_83 : decode cX10_init 83 = .ok (.bipush 7, 2) := by decide +kernel
theorem dX10_init_85 : decode cX10_init 85 = .ok (.newarray .int, 2) := by decide +kernel
theorem dX10_init_87 : decode cX10_init 87 = .ok (.dup, 1) := by decide +kernel
theorem dX10_init_88 : decode cX10_init 88 = .ok (.iconst 0, 1) := by decide +kernel
theorem dX10_init_89 : decode cX10_init 89 = .ok (.iconst 0, 1) := by decide +kernel
theorem dX10_init_90 : decode cX10_init 90 = .ok (.iastore, 1) := by decide +kernel
theorem dX10_init_91 : decode cX10_init 91 = .ok (.dup, 1) := by decide +kernel
theorem dX10_init_92 : decode cX10_init 92 = .ok (.iconst 1, 1) := by decide +kernel
theorem dX10_init_93 : decode cX10_init 93 = .ok (.iconst 1, 1) := by decide +kernel
theorem dX10_init_94 : decode cX10_init 94 = .ok (.iastore, 1) := by decide +kernel
theorem dX10_init_95 : decode cX10_init 95 = .ok (.dup, 1) := by decide +kernel
theorem dX10_init_96 : decode cX10_init 96 = .ok (.iconst 2, 1) := by decide +kernel
theorem dX10_init_97 : decode cX10_init 97 = .ok (.iconst 1, 1) := by decide +kernel
theorem dX10_init_98 : decode cX10_init 98 = .ok (.iastore, 1) := by decide +kernel
theorem dX10_init_99 : decode cX10_init 99 = .ok (.dup, 1) := by decide +kernel
theorem dX10_init_100 : decode cX10_init 100 = .ok (.iconst 3, 1) := by decide +kernel
theorem dX10_init_101 : decode cX10_init 101 = .ok (.iconst 1, 1) := by decide +kernel
theorem dX10_init_102 : decode cX10_init 102 = .ok (.iastore, 1) := by decide +kernel
theorem dX10_init_103 : decode cX10_init 103 = .ok (.dup, 1) := by decide +kernel
theorem dX10_init_104 : decode cX10_init 104 = .ok (.iconst 4, 1) := by decide +kernel
theorem dX10_init_105 : decode cX10_init 105 = .ok (.iconst 1, 1) := by decide +kernel
theorem dX10_init_106 : decode cX10_init 106 = .ok (.iastore, 1) := by decide +kernel
theorem dX10_init_107 : decode cX10_init 107 = .ok (.dup, 1) := by decide +kernel
theorem dX10_init_108 : decode cX10_init 108 = .ok (.iconst 5, 1) := by decide +kernel
theorem dX10_init_109 : decode cX10_init 109 = .ok (.iconst 1, 1) := by decide +kernel
theorem dX10_init_110 : decode cX10_init 110 = .ok (.iastore, 1) := by decide +kernel
theorem dX10_init_111 : decode cX10_init 111 = .ok (.dup, 1) := by decide +kernel
theorem dX10_init_112 : decode cX10_init 112 = .ok (.bipush 6, 2) := by decide +kernel
theorem dX10_init_114 : decode cX10_init 114 = .ok (.iconst 3, 1) := by decide +kernel
theorem dX10_init_115 : decode cX10_init 115 = .ok (.iastore, 1) := by decide +kernel
theorem dX10_init_116 : decode cX10_init 116 = .ok (.putfield 42, 3) := by decide +kernel
theorem dX10_init_119 : decode cX10_init 119 = .ok (.aload_n 0, 1) := by decide +kernel
theorem dX10_init_120 : decode cX10_init 120 = .ok (.bipush 7, 2) := by decide +kernel
theorem dX10_init_122 : decode cX10_init 122 = .ok (.newarray .int, 2) := by decide +kernel
theorem dX10_init_124 : decode cX10_init 124 = .ok (.dup, 1) := by decide +kernel
theorem dX10_init_125 : decode cX10_init 125 = .ok (.iconst 0, 1) := by decide +kernel
theorem dX10_init_126 : decode cX10_init 126 = .ok (.iconst 1, 1) := by decide +kernel
theorem dX10_init_127 : decode cX10_init 127 = .ok (.iastore, 1) := by decide +kernel
theorem dX10_init_128 : decode cX10_init 128 = .ok (.dup, 1) := by decide +kernel
theorem dX10_init_129 : decode cX10_init 129 = .ok (.iconst 1, 1) := by decide +kernel
theorem dX10_init_130 : decode cX10_init 130 = .ok (.iconst 3, 1) := by decide +kernel
theorem dX10_init_131 : decode cX10_init 131 = .ok (.iastore, 1) := by decide +kernel
theorem dX10_init_132 : decode cX10_init 132 = .ok (.dup, 1) := by decide +kernel
theorem dX10_init_133 : decode cX10_init 133 = .ok (.iconst 2, 1) := by decide +kernel
theorem dX10_init_134 : decode cX10_init 134 = .ok (.iconst 3, 1) := by decide +kernel
theorem dX10_init_135 : decode cX10_init 135 = .ok (.iastore, 1) := by decide +kernel
theorem dX10_init_136 : decode cX10_init 136 = .ok (.dup, 1) := by decide +kernel
theorem dX10_init_137 : decode cX10_init 137 = .ok (.iconst 3, 1) := by decide +kernel
theorem dX10_init_138 : decode cX10_init 138 = .ok (.iconst 0, 1) := by decide +kernel
theorem dX10_init_139 : decode cX10_init 139 = .ok (.iastore, 1) := by decide +kernel
theorem dX10_init_140 : decode cX10_init 140 = .ok (.dup, 1) := by decide +kernel
theorem dX10_init_141 : decode cX10_init 141 = .ok (.iconst 4, 1) := by decide +kernel
theorem dX10_init_142 : decode cX10_init 142 = .ok (.iconst 1, 1) := by decide +kernel
theorem dX10_init_143 : decode cX10_init 143 = .ok (.iastore, 1) := by decide +kernel
theorem dX10_init_144 : decode cX10_init 144 = .ok (.dup, 1) := by decide +kernel
theorem dX10_init_145 : decode cX10_init 145 = .ok (.iconst 5, 1) := by decide +kernel
theorem dX10_init_146 : decode cX10_init 146 = .ok (.iconst 4, 1) := by decide +kernel
theorem dX10_init_147 : decode cX10_init 147 = .ok (.iastore, 1) := by decide +kernel
theorem dX10_init_148 : decode cX10_init 148 = .ok (.dup, 1) := by decide +kernel
theorem dX10_init_149 : decode cX10_init 149 = .ok (.bipush 6, 2) := by decide +kernel
theorem dX10_init_151 : decode cX10_init 151 = .ok (.iconst 0, 1) := by decide +kernel
theorem dX10_init_152 : decode cX10_init 152 = .ok (.iastore, 1) := by decide +kernel
theorem dX10_init_153 : decode cX10_init 153 = .ok (.putfield 45, 3) := by decide +kernel
theorem dX10_init_156 : decode cX10_init 156 = .ok (.aload_n 0, 1) := by decide +kernel
theorem dX10_init_157 : decode cX10_init 157 = .ok (.bipush 12, 2) := by decide +kernel
theorem dX10_init_159 : decode cX10_init 159 = .ok (.newarray .int, 2) := by decide +kernel
theorem dX10_init_161 : decode cX10_init 161 = .ok (.putfield 48, 3) := by decide +kernel
theorem dX10_init_164 : decode cX10_init 164 = .ok (.aload_n 0, 1) := by decide +kernel
theorem dX10_init_165 : decode cX10_init 165 = .ok (.bipush 13, 2) := by decide +kernel
theorem dX10_init_167 : decode cX10_init 167 = .ok (.newarray .int, 2) := by decide +kernel
theorem dX10_init_169 : decode cX10_init 169 = .ok (.putfield 51, 3) := by decide +kernel
theorem dX10_init_172 : decode cX10_init 172 = .ok (.aload_n 0, 1) := by decide +kernel
theorem dX10_init_173 : decode cX10_init 173 = .ok (.bipush 13, 2) := by decide +kernel
theorem dX10_init_175 : decode cX10_init 175 = .ok (.newarray .int, 2) := by decide +kernel
theorem dX10_init_177 : decode cX10_init 177 = .ok (.putfield 54, 3) := by decide +kernel
theorem dX10_init_180 : decode cX10_init 180 = .ok (.aload_n 0, 1) := by decide +kernel
theorem dX10_init_181 : decode cX10_init 181 = .ok (.bipush 7, 2) := by decide +kernel
theorem dX10_init_183 : decode cX10_init 183 = .ok (.newarray .int, 2) := by decide +kernel
theorem dX10_init_185 : decode cX10_init 185 = .ok (.putfield 57, 3) := by decide +kernel
theorem dX10_init_188 : decode cX10_init 188 = .ok (.aload_n 0, 1) := by decide +kernel
theorem dX10_init_189 : decode cX10_init 189 = .ok (.bipush 7, 2) := by decide +kernel
theorem dX10_init_191 : decode cX10_init 191 = .ok (.newarray .int, 2) := by decide +kernel
theorem dX10_init_193 : decode cX10_init 193 = .ok (.putfield 60, 3) := by decide +kernel
theorem dX10_init_196 : decode cX10_init 196 = .ok (.aload_n 0, 1) := by decide +kernel
theorem dX10_init_197 : decode cX10_init 197 = .ok (.sipush 240, 3) := by decide +kernel
theorem dX10_init_200 : decode cX10_init 200 = .ok (.newarray .int, 2) := by decide +kernel
theorem dX10_init_202 : decode cX10_init 202 = .ok (.putfield 63, 3) := by decide +kernel
theorem dX10_init_205 : decode cX10_init 205 = .ok (.aload_n 0, 1) := by decide +kernel
theorem dX10_init_206 : decode cX10_init 206 = .ok (.bipush 40, 2) := by decide +kernel
theorem dX10_init_208 : decode cX10_init 208 = .ok (.newarray .int, 2) := by decide +kernel
theorem dX10_init_210 : decode cX10_init 210 = .ok (.putfield 66, 3) := by decide +kernel
theorem dX10_init_213 : decode cX10_init 213 = .ok (.return_, 1) := by decide +kernel
theorem dX10_input_0 : decode cX10_input 0 = .ok (.aload_n 0, 1) := by decide +kernel
theorem dX10_input_1 : decode cX10_input 1 = .ok (.iload_n 1, 1) := by decide +kernel
theorem dX10_input_2 : decode cX10_input 2 = .ok (.iload_n 2, 1) := by decide +kernel
theorem dX10_input_3 : decode cX10_input 3 = .ok (.invokevirtual 101, 3) := by decide +kernel
theorem dX10_input_6 : decode cX10_input 6 = .ok (.ifCond .eq 18, 3) := by decide +kernel
theorem dX10_input_9 : decode cX10_input 9 = .ok (.aload_n 0, 1) := by decide +kernel
theorem dX10_input_10 : decode cX10_input 10 = .ok (.getfield 7, 3) := by decide +kernel
theorem dX10_input_13 : decode cX10_input 13 = .ok (.iload_n 1, 1) := by decide +kernel
theorem dX10_input_14 : decode cX10_input 14 = .ok (.iconst 3, 1) := by decide +kernel
theorem dX10_input_15 : decode cX10_input 15 = .ok (.iload_n 2, 1) := by decide +kernel
theorem dX10_input_16 : decode cX10_input 16 = .ok (.iadd, 1) := by decide +kernel
theorem dX10_input_17 : decode cX10_input 17 = .ok (.invokestatic 73, 3) := by decide +kernel
theorem dX10_input_20 : decode cX10_input 20 = .ok (.iaload, 1) := by decide +kernel
theorem dX10_input_21 : decode cX10_input 21 = .ok (.goto 6, 3) := by decide +kernel
theorem dX10_input_24 : decode cX10_input 24 = .ok (.sipush (-1001), 3) := by decide +kernel
theorem dX10_input_27 : decode cX10_input 27 = .ok (.ireturn, 1) := by decide +kernel
theorem dX10_isCached_0 : decode cX10_isCached 0 = .ok (.aload_n 0, 1) := by decide +kernel
theorem dX10_isCached_1 : decode cX10_isCached 1 = .ok (.iload_n 1, 1) := by decide +kernel
theorem dX10_isCached_2 : decode cX10_isCached 2 = .ok (.iload_n 2, 1) := by decide +kernel
theorem dX10_isCached_3 : decode cX10_isCached 3 = .ok (.invokevirtual 178, 3) := by decide +kernel
theorem dX10_isCached_6 : decode cX10_isCached 6 = .ok (.ifCond .ne 9, 3) := by decide +kernel
theorem dX10_isCached_9 : decode cX10_isCached 9 = .ok (.sipush (-1001), 3) := by decide +kernel
theorem dX10_isCached_12 : decode cX10_isCached 12 = .ok (.goto 17, 3) := by decide +kernel
theorem dX10_isCached_15 : decode cX10_isCached 15 = .ok (.aload_n 0, 1) := by decide +kernel
theorem dX10_isCached_16 : decode cX10_isCached 16 = .ok (.iload_n 1, 1) := by decide +kernel
theorem dX10_isCached_17 : decode cX10_isCached 17 = .ok (.iload_n 2, 1) := by decide +kernel
theorem dX10_isCached_18 : decode cX10_isCached 18 = .ok (.invokevirtual 140, 3) := by decide +kernel
theorem dX10_isCached_21 : decode cX10_isCached 21 = .ok (.ifCond .ge 7, 3) := by decide +kernel
theorem dX10_isCached_24 : decode cX10_isCached 24 = .ok (.iconst 0, 1) := by decide +kernel
theorem dX10_isCached_25 : decode cX10_isCached 25 = .ok (.goto 4, 3) := by decide +kernel
theorem dX10_isCached_28 : decode cX10_isCached 28 = .ok (.iconst 1, 1) := by decide +kernel
theorem dX10_isCached_29 : decode cX10_isCached 29 = .ok (.ireturn, 1) := by decide +kernel
theorem dX10_isDigit_0 : decode cX10_isDigit 0 = .ok (.aload_n 0, 1) := by decide +kernel
theorem dX10_isDigit_1 : decode cX10_isDigit 1 = .ok (.invokevirtual 196, 3) := by decide +kernel
theorem dX10_isDigit_4 : decode cX10_isDigit 4 = .ok (.bipush 48, 2) := by decide +kernel
theorem dX10_isDigit_6 : decode cX10_isDigit 6 = .ok (.bipush 57, 2) := by decide +kernel
theorem dX10_isDigit_8 : decode cX10_isDigit 8 = .ok (.invokestatic 69, 3) := by decide +kernel
theorem dX10_isDigit_11 : decode cX10_isDigit 11 = .ok (.ireturn, 1) := by decide +kernel
theorem dX10_isInRange_0 : decode cX10_isInRange 0 = .ok (.iload_n 2, 1) := by decide +kernel
theorem dX10_isInRange_1 : decode cX10_isInRange 1 = .ok (.aload_n 0, 1) := by decide +kernel
theorem dX10_isInRange_2 : decode cX10_isInRange 2 = .ok (.getfield 7, 3) := by decide +kernel
theorem dX10_isInRange_5 : decode cX10_isInRange 5 = .ok (.iload_n 1, 1) := by decide +kernel
theorem dX10_isInRange_6 : decode cX10_isInRange 6 = .ok (.iconst 1, 1) := by decide +kernel
theorem dX10_isInRange_7 : decode cX10_isInRange 7 = .ok (.invokestatic 73, 3) := by decide +kernel
theorem dX10_isInRange_10 : decode cX10_isInRange 10 = .ok (.iaload, 1) := by decide +kernel
theorem dX10_isInRange_11 : decode cX10_isInRange 11 = .ok (.aload_n 0, 1) := by decide +kernel
theorem dX10_isInRange_12 : decode cX10_isInRange 12 = .ok (.getfield 7, 3) := by decide +kernel
theorem dX10_isInRange_15 : decode cX10_isInRange 15 = .ok (.iload_n 1, 1) := by decide +kernel
theorem dX10_isInRange_16 : decode cX10_isInRange 16 = .ok (.iconst 2, 1) := by decide +kernel
theorem dX10_isInRange_17 : decode cX10_isInRange 17 = .ok (.invokestatic 73, 3) := by decide +kernel
theorem dX10_isInRange_20 : decode cX10_isInRange 20 = .ok (.iaload, 1) := by decide +kernel
theorem dX10_isInRange_21 : decode cX10_isInRange 21 = .ok (.invokestatic 69, 3) := by decide +kernel
theorem dX10_isInRange_24 : decode cX10_isInRange 24 = .ok (.ireturn, 1) := by decide +kernel
theorem dX10_isInput_0 : decode cX10_isInput 0 = .ok (.aload_n 0, 1) := by decide +kernel
theorem dX10_isInput_1 : decode cX10_isInput 1 = .ok (.iload_n 1, 1) := by decide +kernel
theorem dX10_isInput_2 : decode cX10_isInput 2 = .ok (.invokevirtual 77, 3) := by decide +kernel
theorem dX10_isInput_5 : decode cX10_isInput 5 = .ok (.ifCond .eq 27, 3) := by decide +kernel
theorem dX10_isInput_8 : decode cX10_isInput 8 = .ok (.iload_n 2, 1) := by decide +kernel
theorem dX10_isInput_9 : decode cX10_isInput 9 = .ok (.iconst 0, 1) := by decide +kernel
theorem dX10_isInput_10 : decode cX10_isInput 10 = .ok (.aload_n 0, 1) := by decide +kernel
theorem dX10_isInput_11 : decode cX10_isInput 11 = .ok (.getfield 42, 3) := by decide +kernel
theorem dX10_isInput_14 : decode cX10_isInput 14 = .ok (.aload_n 0, 1) := by decide +kernel
theorem dX10_isInput_15 : decode cX10_isInput 15 = .ok (.iload_n 1, 1) := by decide +kernel
theorem dX10_isInput_16 : decode cX10_isInput 16 = .ok (.invokevirtual 81, 3) := by decide +kernel
theorem dX10_isInput_19 : decode cX10_isInput 19 = .ok (.iaload, 1) := by decide +kernel
theorem dX10_isInput_20 : decode cX10_isInput 20 = .ok (.iconst 1, 1) := by decide +kernel
theorem dX10_isInput_21 : decode cX10_isInput 21 = .ok (.isub, 1) := by decide +kernel
theorem dX10_isInput_22 : decode cX10_isInput 22 = .ok (.invokestatic 69, 3) := by decide +kernel
theorem dX10_isInput_25 : decode cX10_isInput 25 = .ok (.ifCond .eq 7, 3) := by decide +kernel
theorem dX10_isInput_28 : decode cX10_isInput 28 = .ok (.iconst 1, 1) := by decide +kernel
theorem dX10_isInput_29 : decode cX10_isInput 29 = .ok (.goto 4, 3) := by decide +kernel
theorem dX10_isInput_32 : decode cX10_isInput 32 = .ok (.iconst 0, 1) := by decide +kernel
theorem dX10_isInput_33 : decode cX10_isInput 33 = .ok (.ireturn, 1) := by decide +kernel
theorem dX10_isNode_0 : decode cX10_isNode 0 = .ok (.iload_n 1, 1) := by decide +kernel
theorem dX10_isNode_1 : decode cX10_isNode 1 = .ok (.iconst 0, 1) := by decide +kernel
theorem dX10_isNode_2 : decode cX10_isNode 2 = .ok (.aload_n 0, 1) := by decide +kernel
theorem dX10_isNode_3 : decode cX10_isNode 3 = .ok (.getfield 7, 3) := by decide +kernel
theorem dX10_isNode_6 : decode cX10_isNode 6 = .ok (.iconst 0, 1) := by decide +kernel
theorem dX10_isNode_7 : decode cX10_isNode 7 = .ok (.iaload, 1) := by decide +kernel
theorem dX10_isNode_8 : decode cX10_isNode 8 = .ok (.iconst 1, 1) := by decide +kernel
theorem dX10_isNode_9 : decode cX10_isNode 9 = .ok (.isub, 1) := by decide +kernel
theorem dX10_isNode_10 : decode cX10_isNode 10 = .ok (.invokestatic 69, 3) := by decide +kernel
theorem dX10_isNode_13 : decode cX10_isNode 13 = .ok (.ireturn, 1) := by decide +kernel
theorem dX10_isParameter_0 : decode cX10_isParameter 0 = .ok (.aload_n 0, 1) := by decide +kernel
theorem dX10_isParameter_1 : decode cX10_isParameter 1 = .ok (.iload_n 1, 1) := by decide +kernel
theorem dX10_isParameter_2 : decode cX10_isParameter 2 = .ok (.invokevirtual 77, 3) := by decide +kernel
theorem dX10_isParameter_5 : decode cX10_isParameter 5 = .ok (.ifCond .eq 27, 3) := by decide +kernel
theorem dX10_isParameter_8 : decode cX10_isParameter 8 = .ok (.iload_n 2, 1) := by decide +kernel
theorem dX10_isParameter_9 : decode cX10_isParameter 9 = .ok (.iconst 0, 1) := by decide +kernel
theorem dX10_isParameter_10 : decode cX10_isParameter 10 = .ok (.aload_n 0, 1) := by decide +kernel
theorem dX10_isParameter_11 : decode cX10_isParameter 11 = .ok (.getfield 45, 3) := by decide +kernel
theorem dX10_isParameter_14 : decode cX10_isParameter 14 = .ok (.aload_n 0, 1) := by decide +kernel
theorem dX10_isParameter_15 : decode cX10_isParameter 15 = .ok (.iload_n 1, 1) := by decide +kernel
theorem dX10_isParameter_16 : decode cX10_isParameter 16 = .ok (.invokevirtual 81, 3) := by decide +kernel
theorem dX10_isParameter_19 : decode cX10_isParameter 19 = .ok (.iaload, 1) := by decide +kernel
theorem dX10_isParameter_20 : decode cX10_isParameter 20 = .ok (.iconst 1, 1) := by decide +kernel
theorem dX10_isParameter_21 : decode cX10_isParameter 21 = .ok (.isub, 1) := by decide +kernel
theorem dX10_isParameter_22 : decode cX10_isParameter 22 = .ok (.invokestatic 69, 3) := by decide +kernel
theorem dX10_isParameter_25 : decode cX10_isParameter 25 = .ok (.ifCond .eq 7, 3) := by decide +kernel
theorem dX10_isParameter_28 : decode cX10_isParameter 28 = .ok (.iconst 1, 1) := by decide +kernel
theorem dX10_isParameter_29 : decode cX10_isParameter 29 = .ok (.goto 4, 3) := by decide +kernel
theorem dX10_isParameter_32 : decode cX10_isParameter 32 = .ok (.iconst 0, 1) := by decide +kernel
theorem dX10_isParameter_33 : decode cX10_isParameter 33 = .ok (.ireturn, 1) := by decide +kernel
theorem dX10_isPicture_0 : decode cX10_isPicture 0 = .ok (.aload_n 0, 1) := by decide +kernel
theorem dX10_isPicture_1 : decode cX10_isPicture 1 = .ok (.iload_n 1, 1) := by decide +kernel
theorem dX10_isPicture_2 : decode cX10_isPicture 2 = .ok (.invokevirtual 77, 3) := by decide +kernel
theorem dX10_isPicture_5 : decode cX10_isPicture 5 = .ok (.ifCond .eq 17, 3) := by decide +kernel
theorem dX10_isPicture_8 : decode cX10_isPicture 8 = .ok (.iload_n 2, 1) := by decide +kernel
theorem dX10_isPicture_9 : decode cX10_isPicture 9 = .ok (.iconst 0, 1) := by decide +kernel
theorem dX10_isPicture_10 : decode cX10_isPicture 10 = .ok (.bipush 99, 2) := by decide +kernel
theorem dX10_isPicture_12 : decode cX10_isPicture 12 = .ok (.invokestatic 69, 3) := by decide +kernel
theorem dX10_isPicture_15 : decode cX10_isPicture 15 = .ok (.ifCond .eq 7, 3) := by decide +kernel
theorem dX10_isPicture_18 : decode cX10_isPicture 18 = .ok (.iconst 1, 1) := by decide +kernel
theorem dX10_isPicture_19 : decode cX10_isPicture 19 = .ok (.goto 4, 3) := by decide +kernel
theorem dX10_isPicture_22 : decode cX10_isPicture 22 = .ok (.iconst 0, 1) := by decide +kernel
theorem dX10_isPicture_23 : decode cX10_isPicture 23 = .ok (.ireturn, 1) := by decide +kernel
theorem dX10_isReady_0 : decode cX10_isReady 0 = .ok (.iconst 1, 1) := by decide +kernel
theorem dX10_isReady_1 : decode cX10_isReady 1 = .ok (.istore_n 3, 1) := by decide +kernel
theorem dX10_isReady_2 : decode cX10_isReady 2 = .ok (.iconst 0, 1) := by decide +kernel
theorem dX10_isReady_3 : decode cX10_isReady 3 = .ok (.istore 4, 2) := by decide +kernel
theorem dX10_isReady_5 : decode cX10_isReady 5 = .ok (.iload 4, 2) := by decide +kernel
theorem dX10_isReady_7 : decode cX10_isReady 7 = .ok (.iconst 3, 1) := by decide +kernel
theorem dX10_isReady_8 : decode cX10_isReady 8 = .ok (.if_icmp .ge 49, 3) := by decide +kernel
theorem dX10_isReady_11 : decode cX10_isReady 11 = .ok (.aload_n 0, 1) := by decide +kernel
theorem dX10_isReady_12 : decode cX10_isReady 12 = .ok (.getfield 7, 3) := by decide +kernel
theorem dX10_isReady_15 : decode cX10_isReady 15 = .ok (.iload_n 1, 1) := by decide +kernel
theorem dX10_isReady_16 : decode cX10_isReady 16 = .ok (.iconst 3, 1) := by decide +kernel
theorem dX10_isReady_17 : decode cX10_isReady 17 = .ok (.iload 4, 2) := by decide +kernel
theorem dX10_isReady_19 : decode cX10_isReady 19 = .ok (.iadd, 1) := by decide +kernel
theorem dX10_isReady_20 : decode cX10_isReady 20 = .ok (.invokestatic 73, 3) := by decide +kernel
theorem dX10_isReady_23 : decode cX10_isReady 23 = .ok (.iaload, 1) := by decide +kernel
theorem dX10_isReady_24 : decode cX10_isReady 24 = .ok (.istore 5, 2) := by decide +kernel
theorem dX10_isReady_26 : decode cX10_isReady 26 = .ok (.iload_n 3, 1) := by decide +kernel
theorem dX10_isReady_27 : decode cX10_isReady 27 = .ok (.ifCond .eq 22, 3) := by decide +kernel
theorem dX10_isReady_30 : decode cX10_isReady 30 = .ok (.iload 5, 2) := by decide +kernel
theorem dX10_isReady_32 : decode cX10_isReady 32 = .ok (.ifCond .lt 13, 3) := by decide +kernel
theorem dX10_isReady_35 : decode cX10_isReady 35 = .ok (.iload_n 2, 1) := by decide +kernel
theorem dX10_isReady_36 : decode cX10_isReady 36 = .ok (.iload 5, 2) := by decide +kernel
theorem dX10_isReady_38 : decode cX10_isReady 38 = .ok (.ishr, 1) := by decide +kernel
theorem dX10_isReady_39 : decode cX10_isReady 39 = .ok (.iconst 1, 1) := by decide +kernel
theorem dX10_isReady_40 : decode cX10_isReady 40 = .ok (.iand, 1) := by decide +kernel
theorem dX10_isReady_41 : decode cX10_isReady 41 = .ok (.iconst 1, 1) := by decide +kernel
theorem dX10_isReady_42 : decode cX10_isReady 42 = .ok (.if_icmp .ne 7, 3) := by decide +kernel
theorem dX10_isReady_45 : decode cX10_isReady 45 = .ok (.iconst 1, 1) := by decide +kernel
theorem dX10_isReady_46 : decode cX10_isReady 46 = .ok (.goto 4, 3) := by decide +kernel
theorem dX10_isReady_49 : decode cX10_isReady 49 = .ok (.iconst 0, 1) := by decide +kernel
theorem dX10_isReady_50 : decode cX10_isReady 50 = .ok (.istore_n 3, 1) := by decide +kernel
theorem dX10_isReady_51 : decode cX10_isReady 51 = .ok (.iinc 4 1, 3) := by decide +kernel
theorem dX10_isReady_54 : decode cX10_isReady 54 = .ok (.goto (-49), 3) := by decide +kernel
theorem dX10_isReady_57 : decode cX10_isReady 57 = .ok (.iload_n 3, 1) := by decide +kernel
theorem dX10_isReady_58 : decode cX10_isReady 58 = .ok (.ireturn, 1) := by decide +kernel
theorem dX10_isText_0 : decode cX10_isText 0 = .ok (.aload_n 0, 1) := by decide +kernel
theorem dX10_isText_1 : decode cX10_isText 1 = .ok (.iconst 0, 1) := by decide +kernel
theorem dX10_isText_2 : decode cX10_isText 2 = .ok (.putfield 193, 3) := by decide +kernel
theorem dX10_isText_5 : decode cX10_isText 5 = .ok (.aload_n 0, 1) := by decide +kernel
theorem dX10_isText_6 : decode cX10_isText 6 = .ok (.iconst 0, 1) := by decide +kernel
theorem dX10_isText_7 : decode cX10_isText 7 = .ok (.putfield 223, 3) := by decide +kernel
theorem dX10_isText_10 : decode cX10_isText 10 = .ok (.aload_n 0, 1) := by decide +kernel
theorem dX10_isText_11 : decode cX10_isText 11 = .ok (.iconst 0, 1) := by decide +kernel
theorem dX10_isText_12 : decode cX10_isText 12 = .ok (.putfield 206, 3) := by decide +kernel
theorem dX10_isText_15 : decode cX10_isText 15 = .ok (.aload_n 0, 1) := by decide +kernel
theorem dX10_isText_16 : decode cX10_isText 16 = .ok (.iconst 0, 1) := by decide +kernel
theorem dX10_isText_17 : decode cX10_isText 17 = .ok (.putfield 209, 3) := by decide +kernel
theorem dX10_isText_20 : decode cX10_isText 20 = .ok (.aload_n 0, 1) := by decide +kernel
theorem dX10_isText_21 : decode cX10_isText 21 = .ok (.invokevirtual 226, 3) := by decide +kernel
theorem dX10_isText_24 : decode cX10_isText 24 = .ok (.istore_n 1, 1) := by decide +kernel
theorem dX10_isText_25 : decode cX10_isText 25 = .ok (.iload_n 1, 1) := by decide +kernel
theorem dX10_isText_26 : decode cX10_isText 26 = .ok (.ifCond .eq 137, 3) := by decide +kernel
theorem dX10_isText_29 : decode cX10_isText 29 = .ok (.aload_n 0, 1) := by decide +kernel
theorem dX10_isText_30 : decode cX10_isText 30 = .ok (.getfield 223, 3) := by decide +kernel
theorem dX10_isText_33 : decode cX10_isText 33 = .ok (.ifCond .le 130, 3) := by decide +kernel
theorem dX10_isText_36 : decode cX10_isText 36 = .ok (.aload_n 0, 1) := by decide +kernel
theorem dX10_isText_37 : decode cX10_isText 37 = .ok (.getfield 57, 3) := by decide +kernel
theorem dX10_isText_40 : decode cX10_isText 40 = .ok (.aload_n 0, 1) := by decide +kernel
theorem dX10_isText_41 : decode cX10_isText 41 = .ok (.getfield 223, 3) := by decide +kernel
theorem dX10_isText_44 : decode cX10_isText 44 = .ok (.iconst 1, 1) := by decide +kernel
theorem dX10_isText_45 : decode cX10_isText 45 = .ok (.isub, 1) := by decide +kernel
theorem dX10_isText_46 : decode cX10_isText 46 = .ok (.iaload, 1) := by decide +kernel
theorem dX10_isText_47 : decode cX10_isText 47 = .ok (.istore_n 2, 1) := by decide +kernel
theorem dX10_isText_48 : decode cX10_isText 48 = .ok (.iload_n 2, 1) := by decide +kernel
theorem dX10_isText_49 : decode cX10_isText 49 = .ok (.bipush 7, 2) := by decide +kernel
theorem dX10_isText_51 : decode cX10_isText 51 = .ok (.if_icmp .ne 7, 3) := by decide +kernel
theorem dX10_isText_54 : decode cX10_isText 54 = .ok (.iconst 0, 1) := by decide +kernel
theorem dX10_isText_55 : decode cX10_isText 55 = .ok (.goto 9, 3) := by decide +kernel
theorem dX10_isText_58 : decode cX10_isText 58 = .ok (.aload_n 0, 1) := by decide +kernel
theorem dX10_isText_59 : decode cX10_isText 59 = .ok (.getfield 42, 3) := by decide +kernel
theorem dX10_isText_62 : decode cX10_isText 62 = .ok (.iload_n 2, 1) := by decide +kernel
theorem dX10_isText_63 : decode cX10_isText 63 = .ok (.iaload, 1) := by decide +kernel
theorem dX10_isText_64 : decode cX10_isText 64 = .ok (.istore_n 3, 1) := by decide +kernel
theorem dX10_isText_65 : decode cX10_isText 65 = .ok (.aload_n 0, 1) := by decide +kernel
theorem dX10_isText_66 : decode cX10_isText 66 = .ok (.getfield 60, 3) := by decide +kernel
theorem dX10_isText_69 : decode cX10_isText 69 = .ok (.aload_n 0, 1) := by decide +kernel
theorem dX10_isText_70 : decode cX10_isText 70 = .ok (.getfield 223, 3) := by decide +kernel
theorem dX10_isText_73 : decode cX10_isText 73 = .ok (.iconst 1, 1) := by decide +kernel
theorem dX10_isText_74 : decode cX10_isText 74 = .ok (.isub, 1) := by decide +kernel
theorem dX10_isText_75 : decode cX10_isText 75 = .ok (.iaload, 1) := by decide +kernel
theorem dX10_isText_76 : decode cX10_isText 76 = .ok (.iload_n 3, 1) := by decide +kernel
theorem dX10_isText_77 : decode cX10_isText 77 = .ok (.if_icmp .ge 59, 3) := by decide +kernel
theorem dX10_isText_80 : decode cX10_isText 80 = .ok (.aload_n 0, 1) := by decide +kernel
theorem dX10_isText_81 : decode cX10_isText 81 = .ok (.getfield 60, 3) := by decide +kernel
theorem dX10_isText_84 : decode cX10_isText 84 = .ok (.aload_n 0, 1) := by decide +kernel
theorem dX10_isText_85 : decode cX10_isText 85 = .ok (.getfield 223, 3) := by decide +kernel
theorem dX10_isText_88 : decode cX10_isText 88 = .ok (.iconst 1, 1) := by decide +kernel
theorem dX10_isText_89 : decode cX10_isText 89 = .ok (.isub, 1) := by decide +kernel
theorem dX10_isText_90 : decode cX10_isText 90 = .ok (.iaload, 1) := by decide +kernel
theorem dX10_isText_91 : decode cX10_isText 91 = .ok (.ifCond .eq 12, 3) := by decide +kernel
theorem dX10_isText_94 : decode cX10_isText 94 = .ok (.aload_n 0, 1) := by decide +kernel
theorem dX10_isText_95 : decode cX10_isText 95 = .ok (.bipush 44, 2) := by decide +kernel
theorem dX10_isText_97 : decode cX10_isText 97 = .ok (.invokevirtual 214, 3) := by decide +kernel
theorem dX10_isText_100 : decode cX10_isText 100 = .ok (.ifCond .eq 7, 3) := by decide +kernel
theorem dX10_isText_103 : decode cX10_isText 103 = .ok (.iconst 1, 1) := by decide +kernel
theorem dX10_isText_104 : decode cX10_isText 104 = .ok (.goto 4, 3) := by decide +kernel
theorem dX10_isText_107 : decode cX10_isText 107 = .ok (.iconst 0, 1) := by decide +kernel
theorem dX10_isText_108 : decode cX10_isText 108 = .ok (.istore_n 1, 1) := by decide +kernel
theorem dX10_isText_109 : decode cX10_isText 109 = .ok (.iload_n 1, 1) := by decide +kernel
theorem dX10_isText_110 : decode cX10_isText 110 = .ok (.ifCond .eq 50, 3) := by decide +kernel
theorem dX10_isText_113 : decode cX10_isText 113 = .ok (.aload_n 0, 1) := by decide +kernel
theorem dX10_isText_114 : decode cX10_isText 114 = .ok (.getfield 60, 3) := by decide +kernel
theorem dX10_isText_117 : decode cX10_isText 117 = .ok (.aload_n 0, 1) := by decide +kernel
theorem dX10_isText_118 : decode cX10_isText 118 = .ok (.getfield 223, 3) := by decide +kernel
theorem dX10_isText_121 : decode cX10_isText 121 = .ok (.iconst 1, 1) := by decide +kernel
theorem dX10_isText_122 : decode cX10_isText 122 = .ok (.isub, 1) := by decide +kernel
theorem dX10_isText_123 : decode cX10_isText 123 = .ok (.dup2, 1) := by decide +kernel
theorem dX10_isText_124 : decode cX10_isText 124 = .ok (.iaload, 1) := by decide +kernel
theorem dX10_isText_125 : decode cX10_isText 125 = .ok (.iconst 1, 1) := by decide +kernel
theorem dX10_isText_126 : decode cX10_isText 126 = .ok (.iadd, 1) := by decide +kernel
theorem dX10_isText_127 : decode cX10_isText 127 = .ok (.iastore, 1) := by decide +kernel
theorem dX10_isText_128 : decode cX10_isText 128 = .ok (.aload_n 0, 1) := by decide +kernel
theorem dX10_isText_129 : decode cX10_isText 129 = .ok (.invokevirtual 226, 3) := by decide +kernel
theorem dX10_isText_132 : decode cX10_isText 132 = .ok (.istore_n 1, 1) := by decide +kernel
theorem dX10_isText_133 : decode cX10_isText 133 = .ok (.goto 27, 3) := by decide +kernel
theorem dX10_isText_136 : decode cX10_isText 136 = .ok (.aload_n 0, 1) := by decide +kernel
theorem dX10_isText_137 : decode cX10_isText 137 = .ok (.iload_n 2, 1) := by decide +kernel
theorem dX10_isText_138 : decode cX10_isText 138 = .ok (.invokevirtual 229, 3) := by decide +kernel
theorem dX10_isText_141 : decode cX10_isText 141 = .ok (.istore_n 1, 1) := by decide +kernel
theorem dX10_isText_142 : decode cX10_isText 142 = .ok (.aload_n 0, 1) := by decide +kernel
theorem dX10_isText_143 : decode cX10_isText 143 = .ok (.dup, 1) := by decide +kernel
theorem dX10_isText_144 : decode cX10_isText 144 = .ok (.getfield 223, 3) := by decide +kernel
theorem dX10_isText_147 : decode cX10_isText 147 = .ok (.iload_n 1, 1) := by decide +kernel
theorem dX10_isText_148 : decode cX10_isText 148 = .ok (.ifCond .eq 7, 3) := by decide +kernel
theorem dX10_isText_151 : decode cX10_isText 151 = .ok (.iconst 1, 1) := by decide +kernel
theorem dX10_isText_152 : decode cX10_isText 152 = .ok (.goto 4, 3) := by decide +kernel
theorem dX10_isText_155 : decode cX10_isText 155 = .ok (.iconst 0, 1) := by decide +kernel
theorem dX10_isText_156 : decode cX10_isText 156 = .ok (.isub, 1) := by decide +kernel
theorem dX10_isText_157 : decode cX10_isText 157 = .ok (.putfield 223, 3) := by decide +kernel
theorem dX10_isText_160 : decode cX10_isText 160 = .ok (.goto (-135), 3) := by decide +kernel
theorem dX10_isText_163 : decode cX10_isText 163 = .ok (.iload_n 1, 1) := by decide +kernel
theorem dX10_isText_164 : decode cX10_isText 164 = .ok (.ifCond .eq 18, 3) := by decide +kernel
theorem dX10_isText_167 : decode cX10_isText 167 = .ok (.aload_n 0, 1) := by decide +kernel
theorem dX10_isText_168 : decode cX10_isText 168 = .ok (.getfield 193, 3) := by decide +kernel
theorem dX10_isText_171 : decode cX10_isText 171 = .ok (.aload_n 0, 1) := by decide +kernel
theorem dX10_isText_172 : decode cX10_isText 172 = .ok (.getfield 190, 3) := by decide +kernel
theorem dX10_isText_175 : decode cX10_isText 175 = .ok (.if_icmp .ne 7, 3) := by decide +kernel
theorem dX10_isText_178 : decode cX10_isText 178 = .ok (.iconst 1, 1) := by decide +kernel
theorem dX10_isText_179 : decode cX10_isText 179 = .ok (.goto 4, 3) := by decide +kernel
theorem dX10_isText_182 : decode cX10_isText 182 = .ok (.iconst 0, 1) := by decide +kernel
theorem dX10_isText_183 : decode cX10_isText 183 = .ok (.ireturn, 1) := by decide +kernel
theorem dX10_keyed_0 : decode cX10_keyed 0 = .ok (.iload_n 1, 1) := by decide +kernel
theorem dX10_keyed_1 : decode cX10_keyed 1 = .ok (.iload_n 2, 1) := by decide +kernel
theorem dX10_keyed_2 : decode cX10_keyed 2 = .ok (.if_icmp .le 5, 3) := by decide +kernel
theorem dX10_keyed_5 : decode cX10_keyed 5 = .ok (.iconst 0, 1) := by decide +kernel
theorem dX10_keyed_6 : decode cX10_keyed 6 = .ok (.ireturn, 1) := by decide +kernel
theorem dX10_keyed_7 : decode cX10_keyed 7 = .ok (.iload_n 0, 1) := by decide +kernel
theorem dX10_keyed_8 : decode cX10_keyed 8 = .ok (.iload_n 1, 1) := by decide +kernel
theorem dX10_keyed_9 : decode cX10_keyed 9 = .ok (.if_icmp .ge 9, 3) := by decide +kernel
theorem dX10_keyed_12 : decode cX10_keyed 12 = .ok (.iload_n 1, 1) := by decide +kernel
theorem dX10_keyed_13 : decode cX10_keyed 13 = .ok (.iload_n 0, 1) := by decide +kernel
theorem dX10_keyed_14 : decode cX10_keyed 14 = .ok (.isub, 1) := by decide +kernel
theorem dX10_keyed_15 : decode cX10_keyed 15 = .ok (.goto 15, 3) := by decide +kernel
theorem dX10_keyed_18 : decode cX10_keyed 18 = .ok (.iload_n 0, 1) := by decide +kernel
theorem dX10_keyed_19 : decode cX10_keyed 19 = .ok (.iload_n 2, 1) := by decide +kernel
theorem dX10_keyed_20 : decode cX10_keyed 20 = .ok (.if_icmp .le 9, 3) := by decide +kernel
theorem dX10_keyed_23 : decode cX10_keyed 23 = .ok (.iload_n 0, 1) := by decide +kernel
theorem dX10_keyed_24 : decode cX10_keyed 24 = .ok (.iload_n 2, 1) := by decide +kernel
theorem dX10_keyed_25 : decode cX10_keyed 25 = .ok (.isub, 1) := by decide +kernel
theorem dX10_keyed_26 : decode cX10_keyed 26 = .ok (.goto 4, 3) := by decide +kernel
theorem dX10_keyed_29 : decode cX10_keyed 29 = .ok (.iconst 0, 1) := by decide +kernel
theorem dX10_keyed_30 : decode cX10_keyed 30 = .ok (.istore 4, 2) := by decide +kernel
theorem dX10_keyed_32 : decode cX10_keyed 32 = .ok (.iload 4, 2) := by decide +kernel
theorem dX10_keyed_34 : decode cX10_keyed 34 = .ok (.ifCond .ne 9, 3) := by decide +kernel
theorem dX10_keyed_37 : decode cX10_keyed 37 = .ok (.sipush 255, 3) := by decide +kernel
theorem dX10_keyed_40 : decode cX10_keyed 40 = .ok (.goto 27, 3) := by decide +kernel
theorem dX10_keyed_43 : decode cX10_keyed 43 = .ok (.iload 4, 2) := by decide +kernel
theorem dX10_keyed_45 : decode cX10_keyed 45 = .ok (.iload_n 3, 1) := by decide +kernel
theorem dX10_keyed_46 : decode cX10_keyed 46 = .ok (.if_icmp .le 7, 3) := by decide +kernel
theorem dX10_keyed_49 : decode cX10_keyed 49 = .ok (.iconst 0, 1) := by decide +kernel
theorem dX10_keyed_50 : decode cX10_keyed 50 = .ok (.goto 17, 3) := by decide +kernel
theorem dX10_keyed_53 : decode cX10_keyed 53 = .ok (.sipush 255, 3) := by decide +kernel
theorem dX10_keyed_56 : decode cX10_keyed 56 = .ok (.sipush 255, 3) := by decide +kernel
theorem dX10_keyed_59 : decode cX10_keyed 59 = .ok (.iload 4, 2) := by decide +kernel
theorem dX10_keyed_61 : decode cX10_keyed 61 = .ok (.imul, 1) := by decide +kernel
theorem dX10_keyed_62 : decode cX10_keyed 62 = .ok (.iload_n 3, 1) := by decide +kernel
theorem dX10_keyed_63 : decode cX10_keyed 63 = .ok (.iconst 1, 1) := by decide +kernel
theorem dX10_keyed_64 : decode cX10_keyed 64 = .ok (.iadd, 1) := by decide +kernel
theorem dX10_keyed_65 : decode cX10_keyed 65 = .ok (.idiv, 1) := by decide +kernel
theorem dX10_keyed_66 : decode cX10_keyed 66 = .ok (.isub, 1) := by decide +kernel
theorem dX10_keyed_67 : decode cX10_keyed 67 = .ok (.ireturn, 1) := by decide +kernel
theorem dX10_kind_0 : decode cX10_kind 0 = .ok (.aload_n 0, 1) := by decide +kernel
theorem dX10_kind_1 : decode cX10_kind 1 = .ok (.getfield 7, 3) := by decide +kernel
theorem dX10_kind_4 : decode cX10_kind 4 = .ok (.iload_n 1, 1) := by decide +kernel
theorem dX10_kind_5 : decode cX10_kind 5 = .ok (.iconst 0, 1) := by decide +kernel
theorem dX10_kind_6 : decode cX10_kind 6 = .ok (.invokestatic 73, 3) := by decide +kernel
theorem dX10_kind_9 : decode cX10_kind 9 = .ok (.iaload, 1) := by decide +kernel
theorem dX10_kind_10 : decode cX10_kind 10 = .ok (.ireturn, 1) := by decide +kernel
theorem dX10_kindHere_0 : decode cX10_kindHere 0 = .ok (.aload_n 0, 1) := by decide +kernel
theorem dX10_kindHere_1 : decode cX10_kindHere 1 = .ok (.invokevirtual 196, 3) := by decide +kernel
theorem dX10_kindHere_4 : decode cX10_kindHere 4 = .ok (.tableswitch 110 98 116 #[104, 110, 110, 110, 110, 94, 110, 98, 110, 102, 100, 110, 107, 110, 110, 110, 110, 92, 96], 92) := by decide +kernel
theorem dX10_kindHere_96 : decode cX10_kindHere 96 = .ok (.iconst 0, 1) := by decide +kernel
theorem dX10_kindHere_97 : decode cX10_kindHere 97 = .ok (.ireturn, 1) := by decide +kernel
theorem dX10_kindHere_98 : decode cX10_kindHere 98 = .ok (.iconst 1, 1) := by decide +kernel
theorem dX10_kindHere_99 : decode cX10_kindHere 99 = .ok (.ireturn, 1) := by decide +kernel
theorem dX10_kindHere_100 : decode cX10_kindHere 100 = .ok (.iconst 2, 1) := by decide +kernel
theorem dX10_kindHere_101 : decode cX10_kindHere 101 = .ok (.ireturn, 1) := by decide +kernel
theorem dX10_kindHere_102 : decode cX10_kindHere 102 = .ok (.iconst 3, 1) := by decide +kernel
theorem dX10_kindHere_103 : decode cX10_kindHere 103 = .ok (.ireturn, 1) := by decide +kernel
theorem dX10_kindHere_104 : decode cX10_kindHere 104 = .ok (.iconst 4, 1) := by decide +kernel
theorem dX10_kindHere_105 : decode cX10_kindHere 105 = .ok (.ireturn, 1) := by decide +kernel
theorem dX10_kindHere_106 : decode cX10_kindHere 106 = .ok (.iconst 5, 1) := by decide +kernel
theorem dX10_kindHere_107 : decode cX10_kindHere 107 = .ok (.ireturn, 1) := by decide +kernel
theorem dX10_kindHere_108 : decode cX10_kindHere 108 = .ok (.bipush 6, 2) := by decide +kernel
theorem dX10_kindHere_110 : decode cX10_kindHere 110 = .ok (.ireturn, 1) := by decide +kernel
theorem dX10_kindHere_111 : decode cX10_kindHere 111 = .ok (.bipush 7, 2) := by decide +kernel
theorem dX10_kindHere_113 : decode cX10_kindHere 113 = .ok (.ireturn, 1) := by decide +kernel
theorem dX10_kindHere_114 : decode cX10_kindHere 114 = .ok (.iconst (-1), 1) := by decide +kernel
theorem dX10_kindHere_115 : decode cX10_kindHere 115 = .ok (.ireturn, 1) := by decide +kernel
theorem dX10_limit_0 : decode cX10_limit 0 = .ok (.iload_n 0, 1) := by decide +kernel
theorem dX10_limit_1 : decode cX10_limit 1 = .ok (.ifCond .ge 7, 3) := by decide +kernel
theorem dX10_limit_4 : decode cX10_limit 4 = .ok (.iconst 0, 1) := by decide +kernel
theorem dX10_limit_5 : decode cX10_limit 5 = .ok (.goto 17, 3) := by decide +kernel
theorem dX10_limit_8 : decode cX10_limit 8 = .ok (.iload_n 0, 1) := by decide +kernel
theorem dX10_limit_9 : decode cX10_limit 9 = .ok (.sipush 255, 3) := by decide +kernel
theorem dX10_limit_12 : decode cX10_limit 12 = .ok (.if_icmp .le 9, 3) := by decide +kernel
theorem dX10_limit_15 : decode cX10_limit 15 = .ok (.sipush 255, 3) := by decide +kernel
theorem dX10_limit_18 : decode cX10_limit 18 = .ok (.goto 4, 3) := by decide +kernel
theorem dX10_limit_21 : decode cX10_limit 21 = .ok (.iload_n 0, 1) := by decide +kernel
theorem dX10_limit_22 : decode cX10_limit 22 = .ok (.ireturn, 1) := by decide +kernel
theorem dX10_low_0 : decode cX10_low 0 = .ok (.iload_n 0, 1) := by decide +kernel
theorem dX10_low_1 : decode cX10_low 1 = .ok (.iconst 2, 1) := by decide +kernel
theorem dX10_low_2 : decode cX10_low 2 = .ok (.if_icmp .ne 9, 3) := by decide +kernel
theorem dX10_low_5 : decode cX10_low 5 = .ok (.sipush (-255), 3) := by decide +kernel
theorem dX10_low_8 : decode cX10_low 8 = .ok (.goto 4, 3) := by decide +kernel
theorem dX10_low_11 : decode cX10_low 11 = .ok (.iconst 0, 1) := by decide +kernel
theorem dX10_low_12 : decode cX10_low 12 = .ok (.ireturn, 1) := by decide +kernel
theorem dX10_made_0 : decode cX10_made 0 = .ok (.aload_n 0, 1) := by decide +kernel
theorem dX10_made_1 : decode cX10_made 1 = .ok (.iload_n 1, 1) := by decide +kernel
theorem dX10_made_2 : decode cX10_made 2 = .ok (.invokevirtual 81, 3) := by decide +kernel
theorem dX10_made_5 : decode cX10_made 5 = .ok (.istore 4, 2) := by decide +kernel
theorem dX10_made_7 : decode cX10_made 7 = .ok (.aload_n 0, 1) := by decide +kernel
theorem dX10_made_8 : decode cX10_made 8 = .ok (.iload_n 1, 1) := by decide +kernel
theorem dX10_made_9 : decode cX10_made 9 = .ok (.iload_n 2, 1) := by decide +kernel
theorem dX10_made_10 : decode cX10_made 10 = .ok (.invokevirtual 152, 3) := by decide +kernel
theorem dX10_made_13 : decode cX10_made 13 = .ok (.ifCond .ne 21, 3) := by decide +kernel
theorem dX10_made_16 : decode cX10_made 16 = .ok (.iload 4, 2) := by decide +kernel
theorem dX10_made_18 : decode cX10_made 18 = .ok (.ifCond .ne 7, 3) := by decide +kernel
theorem dX10_made_21 : decode cX10_made 21 = .ok (.iconst 0, 1) := by decide +kernel
theorem dX10_made_22 : decode cX10_made 22 = .ok (.goto 11, 3) := by decide +kernel
theorem dX10_made_25 : decode cX10_made 25 = .ok (.aload_n 0, 1) := by decide +kernel
theorem dX10_made_26 : decode cX10_made 26 = .ok (.iload_n 1, 1) := by decide +kernel
theorem dX10_made_27 : decode cX10_made 27 = .ok (.iconst 0, 1) := by decide +kernel
theorem dX10_made_28 : decode cX10_made 28 = .ok (.iload_n 2, 1) := by decide +kernel
theorem dX10_made_29 : decode cX10_made 29 = .ok (.iload_n 3, 1) := by decide +kernel
theorem dX10_made_30 : decode cX10_made 30 = .ok (.invokevirtual 165, 3) := by decide +kernel
theorem dX10_made_33 : decode cX10_made 33 = .ok (.ireturn, 1) := by decide +kernel
theorem dX10_made_34 : decode cX10_made 34 = .ok (.iload_n 3, 1) := by decide +kernel
theorem dX10_made_35 : decode cX10_made 35 = .ok (.bipush 32, 2) := by decide +kernel
theorem dX10_made_37 : decode cX10_made 37 = .ok (.idiv, 1) := by decide +kernel
theorem dX10_made_38 : decode cX10_made 38 = .ok (.istore 5, 2) := by decide +kernel
theorem dX10_made_40 : decode cX10_made 40 = .ok (.iload_n 1, 1) := by decide +kernel
theorem dX10_made_41 : decode cX10_made 41 = .ok (.bipush 6, 2) := by decide +kernel
theorem dX10_made_43 : decode cX10_made 43 = .ok (.invokestatic 73, 3) := by decide +kernel
theorem dX10_made_46 : decode cX10_made 46 = .ok (.istore 6, 2) := by decide +kernel
theorem dX10_made_48 : decode cX10_made 48 = .ok (.iload 4, 2) := by decide +kernel
theorem dX10_made_50 : decode cX10_made 50 = .ok (.tableswitch 226 0 5 #[38, 96, 122, 145, 158, 173], 38) := by decide +kernel
theorem dX10_made_88 : decode cX10_made 88 = .ok (.bipush 7, 2) := by decide +kernel
theorem dX10_made_90 : decode cX10_made 90 = .ok (.aload_n 0, 1) := by decide +kernel
theorem dX10_made_91 : decode cX10_made 91 = .ok (.getfield 7, 3) := by decide +kernel
theorem dX10_made_94 : decode cX10_made 94 = .ok (.iload 6, 2) := by decide +kernel
theorem dX10_made_96 : decode cX10_made 96 = .ok (.iaload, 1) := by decide +kernel
theorem dX10_made_97 : decode cX10_made 97 = .ok (.imul, 1) := by decide +kernel
theorem dX10_made_98 : decode cX10_made 98 = .ok (.bipush 31, 2) := by decide +kernel
theorem dX10_made_100 : decode cX10_made 100 = .ok (.iload_n 3, 1) := by decide +kernel
theorem dX10_made_101 : decode cX10_made 101 = .ok (.bipush 8, 2) := by decide +kernel
theorem dX10_made_103 : decode cX10_made 103 = .ok (.irem, 1) := by decide +kernel
theorem dX10_made_104 : decode cX10_made 104 = .ok (.imul, 1) := by decide +kernel
theorem dX10_made_105 : decode cX10_made 105 = .ok (.iadd, 1) := by decide +kernel
theorem dX10_made_106 : decode cX10_made 106 = .ok (.bipush 17, 2) := by decide +kernel
theorem dX10_made_108 : decode cX10_made 108 = .ok (.iload_n 3, 1) := by decide +kernel
theorem dX10_made_109 : decode cX10_made 109 = .ok (.bipush 8, 2) := by decide +kernel
theorem dX10_made_111 : decode cX10_made 111 = .ok (.idiv, 1) := by decide +kernel
theorem dX10_made_112 : decode cX10_made 112 = .ok (.iconst 4, 1) := by decide +kernel
theorem dX10_made_113 : decode cX10_made 113 = .ok (.irem, 1) := by decide +kernel
theorem dX10_made_114 : decode cX10_made 114 = .ok (.imul, 1) := by decide +kernel
theorem dX10_made_115 : decode cX10_made 115 = .ok (.iadd, 1) := by decide +kernel
theorem dX10_made_116 : decode cX10_made 116 = .ok (.bipush 11, 2) := by decide +kernel
theorem dX10_made_118 : decode cX10_made 118 = .ok (.iload_n 2, 1) := by decide +kernel
theorem dX10_made_119 : decode cX10_made 119 = .ok (.imul, 1) := by decide +kernel
theorem dX10_made_120 : decode cX10_made 120 = .ok (.iadd, 1) := by decide +kernel
theorem dX10_made_121 : decode cX10_made 121 = .ok (.bipush 53, 2) := by decide +kernel
theorem dX10_made_123 : decode cX10_made 123 = .ok (.iload 5, 2) := by decide +kernel
theorem dX10_made_125 : decode cX10_made 125 = .ok (.imul, 1) := by decide +kernel
theorem dX10_made_126 : decode cX10_made 126 = .ok (.iadd, 1) := by decide +kernel
theorem dX10_made_127 : decode cX10_made 127 = .ok (.iload_n 3, 1) := by decide +kernel
theorem dX10_made_128 : decode cX10_made 128 = .ok (.bipush 8, 2) := by decide +kernel
theorem dX10_made_130 : decode cX10_made 130 = .ok (.irem, 1) := by decide +kernel
theorem dX10_made_131 : decode cX10_made 131 = .ok (.iload_n 3, 1) := by decide +kernel
theorem dX10_made_132 : decode cX10_made 132 = .ok (.bipush 8, 2) := by decide +kernel
theorem dX10_made_134 : decode cX10_made 134 = .ok (.idiv, 1) := by decide +kernel
theorem dX10_made_135 : decode cX10_made 135 = .ok (.iconst 4, 1) := by decide +kernel
theorem dX10_made_136 : decode cX10_made 136 = .ok (.irem, 1) := by decide +kernel
theorem dX10_made_137 : decode cX10_made 137 = .ok (.imul, 1) := by decide +kernel
theorem dX10_made_138 : decode cX10_made 138 = .ok (.iload_n 2, 1) := by decide +kernel
theorem dX10_made_139 : decode cX10_made 139 = .ok (.imul, 1) := by decide +kernel
theorem dX10_made_140 : decode cX10_made 140 = .ok (.iadd, 1) := by decide +kernel
theorem dX10_made_141 : decode cX10_made 141 = .ok (.sipush 256, 3) := by decide +kernel
theorem dX10_made_144 : decode cX10_made 144 = .ok (.irem, 1) := by decide +kernel
theorem dX10_made_145 : decode cX10_made 145 = .ok (.ireturn, 1) := by decide +kernel
theorem dX10_made_146 : decode cX10_made 146 = .ok (.aload_n 0, 1) := by decide +kernel
theorem dX10_made_147 : decode cX10_made 147 = .ok (.iload_n 1, 1) := by decide +kernel
theorem dX10_made_148 : decode cX10_made 148 = .ok (.iconst 0, 1) := by decide +kernel
theorem dX10_made_149 : decode cX10_made 149 = .ok (.iload_n 2, 1) := by decide +kernel
theorem dX10_made_150 : decode cX10_made 150 = .ok (.iload_n 3, 1) := by decide +kernel
theorem dX10_made_151 : decode cX10_made 151 = .ok (.invokevirtual 165, 3) := by decide +kernel
theorem dX10_made_154 : decode cX10_made 154 = .ok (.aload_n 0, 1) := by decide +kernel
theorem dX10_made_155 : decode cX10_made 155 = .ok (.getfield 7, 3) := by decide +kernel
theorem dX10_made_158 : decode cX10_made 158 = .ok (.iload 6, 2) := by decide +kernel
theorem dX10_made_160 : decode cX10_made 160 = .ok (.iload 5, 2) := by decide +kernel
theorem dX10_made_162 : decode cX10_made 162 = .ok (.iadd, 1) := by decide +kernel
theorem dX10_made_163 : decode cX10_made 163 = .ok (.iaload, 1) := by decide +kernel
theorem dX10_made_164 : decode cX10_made 164 = .ok (.imul, 1) := by decide +kernel
theorem dX10_made_165 : decode cX10_made 165 = .ok (.bipush 16, 2) := by decide +kernel
theorem dX10_made_167 : decode cX10_made 167 = .ok (.idiv, 1) := by decide +kernel
theorem dX10_made_168 : decode cX10_made 168 = .ok (.invokestatic 169, 3) := by decide +kernel
theorem dX10_made_171 : decode cX10_made 171 = .ok (.ireturn, 1) := by decide +kernel
theorem dX10_made_172 : decode cX10_made 172 = .ok (.aload_n 0, 1) := by decide +kernel
theorem dX10_made_173 : decode cX10_made 173 = .ok (.iload_n 1, 1) := by decide +kernel
theorem dX10_made_174 : decode cX10_made 174 = .ok (.iconst 0, 1) := by decide +kernel
theorem dX10_made_175 : decode cX10_made 175 = .ok (.iload_n 2, 1) := by decide +kernel
theorem dX10_made_176 : decode cX10_made 176 = .ok (.iload_n 3, 1) := by decide +kernel
theorem dX10_made_177 : decode cX10_made 177 = .ok (.invokevirtual 165, 3) := by decide +kernel
theorem dX10_made_180 : decode cX10_made 180 = .ok (.aload_n 0, 1) := by decide +kernel
theorem dX10_made_181 : decode cX10_made 181 = .ok (.getfield 7, 3) := by decide +kernel
theorem dX10_made_184 : decode cX10_made 184 = .ok (.iload 6, 2) := by decide +kernel
theorem dX10_made_186 : decode cX10_made 186 = .ok (.iload 5, 2) := by decide +kernel
theorem dX10_made_188 : decode cX10_made 188 = .ok (.iadd, 1) := by decide +kernel
theorem dX10_made_189 : decode cX10_made 189 = .ok (.iaload, 1) := by decide +kernel
theorem dX10_made_190 : decode cX10_made 190 = .ok (.iadd, 1) := by decide +kernel
theorem dX10_made_191 : decode cX10_made 191 = .ok (.invokestatic 169, 3) := by decide +kernel
theorem dX10_made_194 : decode cX10_made 194 = .ok (.ireturn, 1) := by decide +kernel
theorem dX10_made_195 : decode cX10_made 195 = .ok (.sipush 255, 3) := by decide +kernel
theorem dX10_made_198 : decode cX10_made 198 = .ok (.aload_n 0, 1) := by decide +kernel
theorem dX10_made_199 : decode cX10_made 199 = .ok (.iload_n 1, 1) := by decide +kernel
theorem dX10_made_200 : decode cX10_made 200 = .ok (.iconst 0, 1) := by decide +kernel
theorem dX10_made_201 : decode cX10_made 201 = .ok (.iload_n 2, 1) := by decide +kernel
theorem dX10_made_202 : decode cX10_made 202 = .ok (.iload_n 3, 1) := by decide +kernel
theorem dX10_made_203 : decode cX10_made 203 = .ok (.invokevirtual 165, 3) := by decide +kernel
theorem dX10_made_206 : decode cX10_made 206 = .ok (.isub, 1) := by decide +kernel
theorem dX10_made_207 : decode cX10_made 207 = .ok (.ireturn, 1) := by decide +kernel
theorem dX10_made_208 : decode cX10_made 208 = .ok (.aload_n 0, 1) := by decide +kernel
theorem dX10_made_209 : decode cX10_made 209 = .ok (.iload_n 1, 1) := by decide +kernel
theorem dX10_made_210 : decode cX10_made 210 = .ok (.iload_n 2, 1) := by decide +kernel
theorem dX10_made_211 : decode cX10_made 211 = .ok (.iload_n 3, 1) := by decide +kernel
theorem dX10_made_212 : decode cX10_made 212 = .ok (.aload_n 0, 1) := by decide +kernel
theorem dX10_made_213 : decode cX10_made 213 = .ok (.getfield 7, 3) := by decide +kernel
theorem dX10_made_216 : decode cX10_made 216 = .ok (.iload 6, 2) := by decide +kernel
theorem dX10_made_218 : decode cX10_made 218 = .ok (.iaload, 1) := by decide +kernel
theorem dX10_made_219 : decode cX10_made 219 = .ok (.invokevirtual 172, 3) := by decide +kernel
theorem dX10_made_222 : decode cX10_made 222 = .ok (.ireturn, 1) := by decide +kernel
theorem dX10_made_223 : decode cX10_made 223 = .ok (.aload_n 0, 1) := by decide +kernel
theorem dX10_made_224 : decode cX10_made 224 = .ok (.iload_n 1, 1) := by decide +kernel
theorem dX10_made_225 : decode cX10_made 225 = .ok (.iconst 0, 1) := by decide +kernel
theorem dX10_made_226 : decode cX10_made 226 = .ok (.iload_n 2, 1) := by decide +kernel
theorem dX10_made_227 : decode cX10_made 227 = .ok (.bipush 32, 2) := by decide +kernel
theorem dX10_made_229 : decode cX10_made 229 = .ok (.aload_n 0, 1) := by decide +kernel
theorem dX10_made_230 : decode cX10_made 230 = .ok (.getfield 7, 3) := by decide +kernel
theorem dX10_made_233 : decode cX10_made 233 = .ok (.iload 6, 2) := by decide +kernel
theorem dX10_made_235 : decode cX10_made 235 = .ok (.iaload, 1) := by decide +kernel
theorem dX10_made_236 : decode cX10_made 236 = .ok (.imul, 1) := by decide +kernel
theorem dX10_made_237 : decode cX10_made 237 = .ok (.iload_n 3, 1) := by decide +kernel
theorem dX10_made_238 : decode cX10_made 238 = .ok (.bipush 32, 2) := by decide +kernel
theorem dX10_made_240 : decode cX10_made 240 = .ok (.irem, 1) := by decide +kernel
theorem dX10_made_241 : decode cX10_made 241 = .ok (.iadd, 1) := by decide +kernel
theorem dX10_made_242 : decode cX10_made 242 = .ok (.invokevirtual 165, 3) := by decide +kernel
theorem dX10_made_245 : decode cX10_made 245 = .ok (.aload_n 0, 1) := by decide +kernel
theorem dX10_made_246 : decode cX10_made 246 = .ok (.getfield 7, 3) := by decide +kernel
theorem dX10_made_249 : decode cX10_made 249 = .ok (.iload 6, 2) := by decide +kernel
theorem dX10_made_251 : decode cX10_made 251 = .ok (.iconst 1, 1) := by decide +kernel
theorem dX10_made_252 : decode cX10_made 252 = .ok (.iadd, 1) := by decide +kernel
theorem dX10_made_253 : decode cX10_made 253 = .ok (.iaload, 1) := by decide +kernel
theorem dX10_made_254 : decode cX10_made 254 = .ok (.aload_n 0, 1) := by decide +kernel
theorem dX10_made_255 : decode cX10_made 255 = .ok (.getfield 7, 3) := by decide +kernel
theorem dX10_made_258 : decode cX10_made 258 = .ok (.iload 6, 2) := by decide +kernel
theorem dX10_made_260 : decode cX10_made 260 = .ok (.iconst 2, 1) := by decide +kernel
theorem dX10_made_261 : decode cX10_made 261 = .ok (.iadd, 1) := by decide +kernel
theorem dX10_made_262 : decode cX10_made 262 = .ok (.iaload, 1) := by decide +kernel
theorem dX10_made_263 : decode cX10_made 263 = .ok (.aload_n 0, 1) := by decide +kernel
theorem dX10_made_264 : decode cX10_made 264 = .ok (.getfield 7, 3) := by decide +kernel
theorem dX10_made_267 : decode cX10_made 267 = .ok (.iload 6, 2) := by decide +kernel
theorem dX10_made_269 : decode cX10_made 269 = .ok (.iconst 3, 1) := by decide +kernel
theorem dX10_made_270 : decode cX10_made 270 = .ok (.iadd, 1) := by decide +kernel
theorem dX10_made_271 : decode cX10_made 271 = .ok (.iaload, 1) := by decide +kernel
theorem dX10_made_272 : decode cX10_made 272 = .ok (.invokestatic 175, 3) := by decide +kernel
theorem dX10_made_275 : decode cX10_made 275 = .ok (.ireturn, 1) := by decide +kernel
theorem dX10_made_276 : decode cX10_made 276 = .ok (.aload_n 0, 1) := by decide +kernel
theorem dX10_made_277 : decode cX10_made 277 = .ok (.iload_n 1, 1) := by decide +kernel
theorem dX10_made_278 : decode cX10_made 278 = .ok (.iconst 0, 1) := by decide +kernel
theorem dX10_made_279 : decode cX10_made 279 = .ok (.iload_n 2, 1) := by decide +kernel
theorem dX10_made_280 : decode cX10_made 280 = .ok (.iload_n 3, 1) := by decide +kernel
theorem dX10_made_281 : decode cX10_made 281 = .ok (.invokevirtual 165, 3) := by decide +kernel
theorem dX10_made_284 : decode cX10_made 284 = .ok (.sipush 255, 3) := by decide +kernel
theorem dX10_made_287 : decode cX10_made 287 = .ok (.aload_n 0, 1) := by decide +kernel
theorem dX10_made_288 : decode cX10_made 288 = .ok (.iload_n 1, 1) := by decide +kernel
theorem dX10_made_289 : decode cX10_made 289 = .ok (.iconst 2, 1) := by decide +kernel
theorem dX10_made_290 : decode cX10_made 290 = .ok (.iload_n 2, 1) := by decide +kernel
theorem dX10_made_291 : decode cX10_made 291 = .ok (.iload_n 3, 1) := by decide +kernel
theorem dX10_made_292 : decode cX10_made 292 = .ok (.invokevirtual 165, 3) := by decide +kernel
theorem dX10_made_295 : decode cX10_made 295 = .ok (.isub, 1) := by decide +kernel
theorem dX10_made_296 : decode cX10_made 296 = .ok (.imul, 1) := by decide +kernel
theorem dX10_made_297 : decode cX10_made 297 = .ok (.aload_n 0, 1) := by decide +kernel
theorem dX10_made_298 : decode cX10_made 298 = .ok (.iload_n 1, 1) := by decide +kernel
theorem dX10_made_299 : decode cX10_made 299 = .ok (.iconst 1, 1) := by decide +kernel
theorem dX10_made_300 : decode cX10_made 300 = .ok (.iload_n 2, 1) := by decide +kernel
theorem dX10_made_301 : decode cX10_made 301 = .ok (.iload_n 3, 1) := by decide +kernel
theorem dX10_made_302 : decode cX10_made 302 = .ok (.invokevirtual 165, 3) := by decide +kernel
theorem dX10_made_305 : decode cX10_made 305 = .ok (.aload_n 0, 1) := by decide +kernel
theorem dX10_made_306 : decode cX10_made 306 = .ok (.iload_n 1, 1) := by decide +kernel
theorem dX10_made_307 : decode cX10_made 307 = .ok (.iconst 2, 1) := by decide +kernel
theorem dX10_made_308 : decode cX10_made 308 = .ok (.iload_n 2, 1) := by decide +kernel
theorem dX10_made_309 : decode cX10_made 309 = .ok (.iload_n 3, 1) := by decide +kernel
theorem dX10_made_310 : decode cX10_made 310 = .ok (.invokevirtual 165, 3) := by decide +kernel
theorem dX10_made_313 : decode cX10_made 313 = .ok (.imul, 1) := by decide +kernel
theorem dX10_made_314 : decode cX10_made 314 = .ok (.iadd, 1) := by decide +kernel
theorem dX10_made_315 : decode cX10_made 315 = .ok (.sipush 255, 3) := by decide +kernel
theorem dX10_made_318 : decode cX10_made 318 = .ok (.idiv, 1) := by decide +kernel
theorem dX10_made_319 : decode cX10_made 319 = .ok (.ireturn, 1) := by decide +kernel
theorem dX10_makes_0 : decode cX10_makes 0 = .ok (.aload_n 0, 1) := by decide +kernel
theorem dX10_makes_1 : decode cX10_makes 1 = .ok (.aload_n 0, 1) := by decide +kernel
theorem dX10_makes_2 : decode cX10_makes 2 = .ok (.getfield 20, 3) := by decide +kernel
theorem dX10_makes_5 : decode cX10_makes 5 = .ok (.iconst 1, 1) := by decide +kernel
theorem dX10_makes_6 : decode cX10_makes 6 = .ok (.isub, 1) := by decide +kernel
theorem dX10_makes_7 : decode cX10_makes 7 = .ok (.invokevirtual 158, 3) := by decide +kernel
theorem dX10_makes_10 : decode cX10_makes 10 = .ok (.aload_n 0, 1) := by decide +kernel
theorem dX10_makes_11 : decode cX10_makes 11 = .ok (.getfield 85, 3) := by decide +kernel
theorem dX10_makes_14 : decode cX10_makes 14 = .ok (.istore_n 3, 1) := by decide +kernel
theorem dX10_makes_15 : decode cX10_makes 15 = .ok (.aload_n 0, 1) := by decide +kernel
theorem dX10_makes_16 : decode cX10_makes 16 = .ok (.getfield 24, 3) := by decide +kernel
theorem dX10_makes_19 : decode cX10_makes 19 = .ok (.iload_n 3, 1) := by decide +kernel
theorem dX10_makes_20 : decode cX10_makes 20 = .ok (.iload_n 1, 1) := by decide +kernel
theorem dX10_makes_21 : decode cX10_makes 21 = .ok (.iastore, 1) := by decide +kernel
theorem dX10_makes_22 : decode cX10_makes 22 = .ok (.aload_n 0, 1) := by decide +kernel
theorem dX10_makes_23 : decode cX10_makes 23 = .ok (.getfield 27, 3) := by decide +kernel
theorem dX10_makes_26 : decode cX10_makes 26 = .ok (.iload_n 3, 1) := by decide +kernel
theorem dX10_makes_27 : decode cX10_makes 27 = .ok (.iload_n 2, 1) := by decide +kernel
theorem dX10_makes_28 : decode cX10_makes 28 = .ok (.iastore, 1) := by decide +kernel
theorem dX10_makes_29 : decode cX10_makes 29 = .ok (.aload_n 0, 1) := by decide +kernel
theorem dX10_makes_30 : decode cX10_makes 30 = .ok (.dup, 1) := by decide +kernel
theorem dX10_makes_31 : decode cX10_makes 31 = .ok (.getfield 85, 3) := by decide +kernel
theorem dX10_makes_34 : decode cX10_makes 34 = .ok (.iconst 1, 1) := by decide +kernel
theorem dX10_makes_35 : decode cX10_makes 35 = .ok (.iadd, 1) := by decide +kernel
theorem dX10_makes_36 : decode cX10_makes 36 = .ok (.putfield 85, 3) := by decide +kernel
theorem dX10_makes_39 : decode cX10_makes 39 = .ok (.iconst 0, 1) := by decide +kernel
theorem dX10_makes_40 : decode cX10_makes 40 = .ok (.istore 4, 2) := by decide +kernel
theorem dX10_makes_42 : decode cX10_makes 42 = .ok (.iload 4, 2) := by decide +kernel
theorem dX10_makes_44 : decode cX10_makes 44 = .ok (.bipush 96, 2) := by decide +kernel
theorem dX10_makes_46 : decode cX10_makes 46 = .ok (.if_icmp .ge 29, 3) := by decide +kernel
theorem dX10_makes_49 : decode cX10_makes 49 = .ok (.aload_n 0, 1) := by decide +kernel
theorem dX10_makes_50 : decode cX10_makes 50 = .ok (.getfield 33, 3) := by decide +kernel
theorem dX10_makes_53 : decode cX10_makes 53 = .ok (.bipush 96, 2) := by decide +kernel
theorem dX10_makes_55 : decode cX10_makes 55 = .ok (.iload_n 3, 1) := by decide +kernel
theorem dX10_makes_56 : decode cX10_makes 56 = .ok (.imul, 1) := by decide +kernel
theorem dX10_makes_57 : decode cX10_makes 57 = .ok (.iload 4, 2) := by decide +kernel
theorem dX10_makes_59 : decode cX10_makes 59 = .ok (.iadd, 1) := by decide +kernel
theorem dX10_makes_60 : decode cX10_makes 60 = .ok (.aload_n 0, 1) := by decide +kernel
theorem dX10_makes_61 : decode cX10_makes 61 = .ok (.iload_n 1, 1) := by decide +kernel
theorem dX10_makes_62 : decode cX10_makes 62 = .ok (.iload_n 2, 1) := by decide +kernel
theorem dX10_makes_63 : decode cX10_makes 63 = .ok (.iload 4, 2) := by decide +kernel
theorem dX10_makes_65 : decode cX10_makes 65 = .ok (.invokevirtual 161, 3) := by decide +kernel
theorem dX10_makes_68 : decode cX10_makes 68 = .ok (.iastore, 1) := by decide +kernel
theorem dX10_makes_69 : decode cX10_makes 69 = .ok (.iinc 4 1, 3) := by decide +kernel
theorem dX10_makes_72 : decode cX10_makes 72 = .ok (.goto (-30), 3) := by decide +kernel
theorem dX10_makes_75 : decode cX10_makes 75 = .ok (.aload_n 0, 1) := by decide +kernel
theorem dX10_makes_76 : decode cX10_makes 76 = .ok (.iload_n 3, 1) := by decide +kernel
theorem dX10_makes_77 : decode cX10_makes 77 = .ok (.invokevirtual 143, 3) := by decide +kernel
theorem dX10_makes_80 : decode cX10_makes 80 = .ok (.return_, 1) := by decide +kernel
theorem dX10_makesRoom_0 : decode cX10_makesRoom 0 = .ok (.aload_n 0, 1) := by decide +kernel
theorem dX10_makesRoom_1 : decode cX10_makesRoom 1 = .ok (.getfield 85, 3) := by decide +kernel
theorem dX10_makesRoom_4 : decode cX10_makesRoom 4 = .ok (.iload_n 1, 1) := by decide +kernel
theorem dX10_makesRoom_5 : decode cX10_makesRoom 5 = .ok (.if_icmp .le 24, 3) := by decide +kernel
theorem dX10_makesRoom_8 : decode cX10_makesRoom 8 = .ok (.aload_n 0, 1) := by decide +kernel
theorem dX10_makesRoom_9 : decode cX10_makesRoom 9 = .ok (.aload_n 0, 1) := by decide +kernel
theorem dX10_makesRoom_10 : decode cX10_makesRoom 10 = .ok (.invokevirtual 136, 3) := by decide +kernel
theorem dX10_makesRoom_13 : decode cX10_makesRoom 13 = .ok (.invokevirtual 97, 3) := by decide +kernel
theorem dX10_makesRoom_16 : decode cX10_makesRoom 16 = .ok (.aload_n 0, 1) := by decide +kernel
theorem dX10_makesRoom_17 : decode cX10_makesRoom 17 = .ok (.getfield 36, 3) := by decide +kernel
theorem dX10_makesRoom_20 : decode cX10_makesRoom 20 = .ok (.iconst 3, 1) := by decide +kernel
theorem dX10_makesRoom_21 : decode cX10_makesRoom 21 = .ok (.dup2, 1) := by decide +kernel
theorem dX10_makesRoom_22 : decode cX10_makesRoom 22 = .ok (.iaload, 1) := by decide +kernel
theorem dX10_makesRoom_23 : decode cX10_makesRoom 23 = .ok (.iconst 1, 1) := by decide +kernel
theorem dX10_makesRoom_24 : decode cX10_makesRoom 24 = .ok (.iadd, 1) := by decide +kernel
theorem dX10_makesRoom_25 : decode cX10_makesRoom 25 = .ok (.iastore, 1) := by decide +kernel
theorem dX10_makesRoom_26 : decode cX10_makesRoom 26 = .ok (.goto (-26), 3) := by decide +kernel
theorem dX10_makesRoom_29 : decode cX10_makesRoom 29 = .ok (.return_, 1) := by decide +kernel
theorem dX10_more_0 : decode cX10_more 0 = .ok (.ldc2_w 235, 3) := by decide +kernel
theorem dX10_more_3 : decode cX10_more 3 = .ok (.lload_n 0, 1) := by decide +kernel
theorem dX10_more_4 : decode cX10_more 4 = .ok (.lmul, 1) := by decide +kernel
theorem dX10_more_5 : decode cX10_more 5 = .ok (.iload_n 2, 1) := by decide +kernel
theorem dX10_more_6 : decode cX10_more 6 = .ok (.i2l, 1) := by decide +kernel
theorem dX10_more_7 : decode cX10_more 7 = .ok (.ladd, 1) := by decide +kernel
theorem dX10_more_8 : decode cX10_more 8 = .ok (.lreturn, 1) := by decide +kernel
theorem dX10_node_0 : decode cX10_node 0 = .ok (.aload_n 0, 1) := by decide +kernel
theorem dX10_node_1 : decode cX10_node 1 = .ok (.iload_n 1, 1) := by decide +kernel
theorem dX10_node_2 : decode cX10_node 2 = .ok (.invokevirtual 77, 3) := by decide +kernel
theorem dX10_node_5 : decode cX10_node 5 = .ok (.ifCond .ne 7, 3) := by decide +kernel
theorem dX10_node_8 : decode cX10_node 8 = .ok (.sipush (-1001), 3) := by decide +kernel
theorem dX10_node_11 : decode cX10_node 11 = .ok (.ireturn, 1) := by decide +kernel
theorem dX10_node_12 : decode cX10_node 12 = .ok (.iload_n 2, 1) := by decide +kernel
theorem dX10_node_13 : decode cX10_node 13 = .ok (.iconst 0, 1) := by decide +kernel
theorem dX10_node_14 : decode cX10_node 14 = .ok (.iconst 5, 1) := by decide +kernel
theorem dX10_node_15 : decode cX10_node 15 = .ok (.invokestatic 69, 3) := by decide +kernel
theorem dX10_node_18 : decode cX10_node 18 = .ok (.ifCond .eq 12, 3) := by decide +kernel
theorem dX10_node_21 : decode cX10_node 21 = .ok (.aload_n 0, 1) := by decide +kernel
theorem dX10_node_22 : decode cX10_node 22 = .ok (.iload_n 1, 1) := by decide +kernel
theorem dX10_node_23 : decode cX10_node 23 = .ok (.iload_n 2, 1) := by decide +kernel
theorem dX10_node_24 : decode cX10_node 24 = .ok (.invokevirtual 130, 3) := by decide +kernel
theorem dX10_node_27 : decode cX10_node 27 = .ok (.goto 6, 3) := by decide +kernel
theorem dX10_node_30 : decode cX10_node 30 = .ok (.sipush (-1002), 3) := by decide +kernel
theorem dX10_node_33 : decode cX10_node 33 = .ok (.ireturn, 1) := by decide +kernel
theorem dX10_nodeTells_0 : decode cX10_nodeTells 0 = .ok (.iload_n 2, 1) := by decide +kernel
theorem dX10_nodeTells_1 : decode cX10_nodeTells 1 = .ok (.iconst 3, 1) := by decide +kernel
theorem dX10_nodeTells_2 : decode cX10_nodeTells 2 = .ok (.if_icmp .ge 16, 3) := by decide +kernel
theorem dX10_nodeTells_5 : decode cX10_nodeTells 5 = .ok (.aload_n 0, 1) := by decide +kernel
theorem dX10_nodeTells_6 : decode cX10_nodeTells 6 = .ok (.getfield 7, 3) := by decide +kernel
theorem dX10_nodeTells_9 : decode cX10_nodeTells 9 = .ok (.iload_n 1, 1) := by decide +kernel
theorem dX10_nodeTells_10 : decode cX10_nodeTells 10 = .ok (.iload_n 2, 1) := by decide +kernel
theorem dX10_nodeTells_11 : decode cX10_nodeTells 11 = .ok (.invokestatic 73, 3) := by decide +kernel
theorem dX10_nodeTells_14 : decode cX10_nodeTells 14 = .ok (.iaload, 1) := by decide +kernel
theorem dX10_nodeTells_15 : decode cX10_nodeTells 15 = .ok (.goto 37, 3) := by decide +kernel
theorem dX10_nodeTells_18 : decode cX10_nodeTells 18 = .ok (.iload_n 2, 1) := by decide +kernel
theorem dX10_nodeTells_19 : decode cX10_nodeTells 19 = .ok (.iconst 3, 1) := by decide +kernel
theorem dX10_nodeTells_20 : decode cX10_nodeTells 20 = .ok (.if_icmp .ne 14, 3) := by decide +kernel
theorem dX10_nodeTells_23 : decode cX10_nodeTells 23 = .ok (.aload_n 0, 1) := by decide +kernel
theorem dX10_nodeTells_24 : decode cX10_nodeTells 24 = .ok (.iload_n 1, 1) := by decide +kernel
theorem dX10_nodeTells_25 : decode cX10_nodeTells 25 = .ok (.invokevirtual 94, 3) := by decide +kernel
theorem dX10_nodeTells_28 : decode cX10_nodeTells 28 = .ok (.invokestatic 121, 3) := by decide +kernel
theorem dX10_nodeTells_31 : decode cX10_nodeTells 31 = .ok (.goto 21, 3) := by decide +kernel
theorem dX10_nodeTells_34 : decode cX10_nodeTells 34 = .ok (.iload_n 2, 1) := by decide +kernel
theorem dX10_nodeTells_35 : decode cX10_nodeTells 35 = .ok (.iconst 4, 1) := by decide +kernel
theorem dX10_nodeTells_36 : decode cX10_nodeTells 36 = .ok (.if_icmp .ne 11, 3) := by decide +kernel
theorem dX10_nodeTells_39 : decode cX10_nodeTells 39 = .ok (.aload_n 0, 1) := by decide +kernel
theorem dX10_nodeTells_40 : decode cX10_nodeTells 40 = .ok (.iload_n 1, 1) := by decide +kernel
theorem dX10_nodeTells_41 : decode cX10_nodeTells 41 = .ok (.invokevirtual 124, 3) := by decide +kernel
theorem dX10_nodeTells_44 : decode cX10_nodeTells 44 = .ok (.goto 8, 3) := by decide +kernel
theorem dX10_nodeTells_47 : decode cX10_nodeTells 47 = .ok (.aload_n 0, 1) := by decide +kernel
theorem dX10_nodeTells_48 : decode cX10_nodeTells 48 = .ok (.iload_n 1, 1) := by decide +kernel
theorem dX10_nodeTells_49 : decode cX10_nodeTells 49 = .ok (.invokevirtual 127, 3) := by decide +kernel
theorem dX10_nodeTells_52 : decode cX10_nodeTells 52 = .ok (.ireturn, 1) := by decide +kernel
theorem dX10_nodes_0 : decode cX10_nodes 0 = .ok (.aload_n 0, 1) := by decide +kernel
theorem dX10_nodes_1 : decode cX10_nodes 1 = .ok (.getfield 7, 3) := by decide +kernel
theorem dX10_nodes_4 : decode cX10_nodes 4 = .ok (.iconst 0, 1) := by decide +kernel
theorem dX10_nodes_5 : decode cX10_nodes 5 = .ok (.iaload, 1) := by decide +kernel
theorem dX10_nodes_6 : decode cX10_nodes 6 = .ok (.ireturn, 1) := by decide +kernel
theorem dX10_number_0 : decode cX10_number 0 = .ok (.aload_n 0, 1) := by decide +kernel
theorem dX10_number_1 : decode cX10_number 1 = .ok (.getfield 193, 3) := by decide +kernel
theorem dX10_number_4 : decode cX10_number 4 = .ok (.istore_n 3, 1) := by decide +kernel
theorem dX10_number_5 : decode cX10_number 5 = .ok (.aload_n 0, 1) := by decide +kernel
theorem dX10_number_6 : decode cX10_number 6 = .ok (.invokevirtual 199, 3) := by decide +kernel
theorem dX10_number_9 : decode cX10_number 9 = .ok (.ifCond .ne 5, 3) := by decide +kernel
theorem dX10_number_12 : decode cX10_number 12 = .ok (.iconst 0, 1) := by decide +kernel
theorem dX10_number_13 : decode cX10_number 13 = .ok (.ireturn, 1) := by decide +kernel
theorem dX10_number_14 : decode cX10_number 14 = .ok (.aload_n 0, 1) := by decide +kernel
theorem dX10_number_15 : decode cX10_number 15 = .ok (.aload_n 0, 1) := by decide +kernel
theorem dX10_number_16 : decode cX10_number 16 = .ok (.invokevirtual 196, 3) := by decide +kernel
theorem dX10_number_19 : decode cX10_number 19 = .ok (.bipush 48, 2) := by decide +kernel
theorem dX10_number_21 : decode cX10_number 21 = .ok (.isub, 1) := by decide +kernel
theorem dX10_number_22 : decode cX10_number 22 = .ok (.putfield 203, 3) := by decide +kernel
theorem dX10_number_25 : decode cX10_number 25 = .ok (.aload_n 0, 1) := by decide +kernel
theorem dX10_number_26 : decode cX10_number 26 = .ok (.dup, 1) := by decide +kernel
theorem dX10_number_27 : decode cX10_number 27 = .ok (.getfield 193, 3) := by decide +kernel
theorem dX10_number_30 : decode cX10_number 30 = .ok (.iconst 1, 1) := by decide +kernel
theorem dX10_number_31 : decode cX10_number 31 = .ok (.iadd, 1) := by decide +kernel
theorem dX10_number_32 : decode cX10_number 32 = .ok (.putfield 193, 3) := by decide +kernel
theorem dX10_number_35 : decode cX10_number 35 = .ok (.aload_n 0, 1) := by decide +kernel
theorem dX10_number_36 : decode cX10_number 36 = .ok (.getfield 203, 3) := by decide +kernel
theorem dX10_number_39 : decode cX10_number 39 = .ok (.ifCond .ne 7, 3) := by decide +kernel
theorem dX10_number_42 : decode cX10_number 42 = .ok (.iconst 1, 1) := by decide +kernel
theorem dX10_number_43 : decode cX10_number 43 = .ok (.goto 4, 3) := by decide +kernel
theorem dX10_number_46 : decode cX10_number 46 = .ok (.iconst 0, 1) := by decide +kernel
theorem dX10_number_47 : decode cX10_number 47 = .ok (.istore 4, 2) := by decide +kernel
theorem dX10_number_49 : decode cX10_number 49 = .ok (.iload 4, 2) := by decide +kernel
theorem dX10_number_51 : decode cX10_number 51 = .ok (.ifCond .ne 52, 3) := by decide +kernel
theorem dX10_number_54 : decode cX10_number 54 = .ok (.aload_n 0, 1) := by decide +kernel
theorem dX10_number_55 : decode cX10_number 55 = .ok (.getfield 193, 3) := by decide +kernel
theorem dX10_number_58 : decode cX10_number 58 = .ok (.iload_n 3, 1) := by decide +kernel
theorem dX10_number_59 : decode cX10_number 59 = .ok (.iconst 3, 1) := by decide +kernel
theorem dX10_number_60 : decode cX10_number 60 = .ok (.iadd, 1) := by decide +kernel
theorem dX10_number_61 : decode cX10_number 61 = .ok (.if_icmp .ge 42, 3) := by decide +kernel
theorem dX10_number_64 : decode cX10_number 64 = .ok (.aload_n 0, 1) := by decide +kernel
theorem dX10_number_65 : decode cX10_number 65 = .ok (.invokevirtual 199, 3) := by decide +kernel
theorem dX10_number_68 : decode cX10_number 68 = .ok (.ifCond .eq 35, 3) := by decide +kernel
theorem dX10_number_71 : decode cX10_number 71 = .ok (.aload_n 0, 1) := by decide +kernel
theorem dX10_number_72 : decode cX10_number 72 = .ok (.bipush 10, 2) := by decide +kernel
theorem dX10_number_74 : decode cX10_number 74 = .ok (.aload_n 0, 1) := by decide +kernel
theorem dX10_number_75 : decode cX10_number 75 = .ok (.getfield 203, 3) := by decide +kernel
theorem dX10_number_78 : decode cX10_number 78 = .ok (.imul, 1) := by decide +kernel
theorem dX10_number_79 : decode cX10_number 79 = .ok (.aload_n 0, 1) := by decide +kernel
theorem dX10_number_80 : decode cX10_number 80 = .ok (.invokevirtual 196, 3) := by decide +kernel
theorem dX10_number_83 : decode cX10_number 83 = .ok (.iadd, 1) := by decide +kernel
theorem dX10_number_84 : decode cX10_number 84 = .ok (.bipush 48, 2) := by decide +kernel
theorem dX10_number_86 : decode cX10_number 86 = .ok (.isub, 1) := by decide +kernel
theorem dX10_number_87 : decode cX10_number 87 = .ok (.putfield 203, 3) := by decide +kernel
theorem dX10_number_90 : decode cX10_number 90 = .ok (.aload_n 0, 1) := by decide +kernel
theorem dX10_number_91 : decode cX10_number 91 = .ok (.dup, 1) := by decide +kernel
theorem dX10_number_92 : decode cX10_number 92 = .ok (.getfield 193, 3) := by decide +kernel
theorem dX10_number_95 : decode cX10_number 95 = .ok (.iconst 1, 1) := by decide +kernel
theorem dX10_number_96 : decode cX10_number 96 = .ok (.iadd, 1) := by decide +kernel
theorem dX10_number_97 : decode cX10_number 97 = .ok (.putfield 193, 3) := by decide +kernel
theorem dX10_number_100 : decode cX10_number 100 = .ok (.goto (-51), 3) := by decide +kernel
theorem dX10_number_103 : decode cX10_number 103 = .ok (.aload_n 0, 1) := by decide +kernel
theorem dX10_number_104 : decode cX10_number 104 = .ok (.getfield 203, 3) := by decide +kernel
theorem dX10_number_107 : decode cX10_number 107 = .ok (.iload_n 1, 1) := by decide +kernel
theorem dX10_number_108 : decode cX10_number 108 = .ok (.iload_n 2, 1) := by decide +kernel
theorem dX10_number_109 : decode cX10_number 109 = .ok (.invokestatic 69, 3) := by decide +kernel
theorem dX10_number_112 : decode cX10_number 112 = .ok (.istore 5, 2) := by decide +kernel
theorem dX10_number_114 : decode cX10_number 114 = .ok (.aload_n 0, 1) := by decide +kernel
theorem dX10_number_115 : decode cX10_number 115 = .ok (.iload 5, 2) := by decide +kernel
theorem dX10_number_117 : decode cX10_number 117 = .ok (.ifCond .eq 10, 3) := by decide +kernel
theorem dX10_number_120 : decode cX10_number 120 = .ok (.aload_n 0, 1) := by decide +kernel
theorem dX10_number_121 : decode cX10_number 121 = .ok (.getfield 193, 3) := by decide +kernel
theorem dX10_number_124 : decode cX10_number 124 = .ok (.goto 4, 3) := by decide +kernel
theorem dX10_number_127 : decode cX10_number 127 = .ok (.iload_n 3, 1) := by decide +kernel
theorem dX10_number_128 : decode cX10_number 128 = .ok (.putfield 193, 3) := by decide +kernel
theorem dX10_number_131 : decode cX10_number 131 = .ok (.iload 5, 2) := by decide +kernel
theorem dX10_number_133 : decode cX10_number 133 = .ok (.ireturn, 1) := by decide +kernel
theorem dX10_oldest_0 : decode cX10_oldest 0 = .ok (.iconst 0, 1) := by decide +kernel
theorem dX10_oldest_1 : decode cX10_oldest 1 = .ok (.istore_n 1, 1) := by decide +kernel
theorem dX10_oldest_2 : decode cX10_oldest 2 = .ok (.iconst 1, 1) := by decide +kernel
theorem dX10_oldest_3 : decode cX10_oldest 3 = .ok (.istore_n 2, 1) := by decide +kernel
theorem dX10_oldest_4 : decode cX10_oldest 4 = .ok (.iload_n 2, 1) := by decide +kernel
theorem dX10_oldest_5 : decode cX10_oldest 5 = .ok (.aload_n 0, 1) := by decide +kernel
theorem dX10_oldest_6 : decode cX10_oldest 6 = .ok (.getfield 85, 3) := by decide +kernel
theorem dX10_oldest_9 : decode cX10_oldest 9 = .ok (.if_icmp .ge 30, 3) := by decide +kernel
theorem dX10_oldest_12 : decode cX10_oldest 12 = .ok (.aload_n 0, 1) := by decide +kernel
theorem dX10_oldest_13 : decode cX10_oldest 13 = .ok (.getfield 30, 3) := by decide +kernel
theorem dX10_oldest_16 : decode cX10_oldest 16 = .ok (.iload_n 2, 1) := by decide +kernel
theorem dX10_oldest_17 : decode cX10_oldest 17 = .ok (.iaload, 1) := by decide +kernel
theorem dX10_oldest_18 : decode cX10_oldest 18 = .ok (.aload_n 0, 1) := by decide +kernel
theorem dX10_oldest_19 : decode cX10_oldest 19 = .ok (.getfield 30, 3) := by decide +kernel
theorem dX10_oldest_22 : decode cX10_oldest 22 = .ok (.iload_n 1, 1) := by decide +kernel
theorem dX10_oldest_23 : decode cX10_oldest 23 = .ok (.iaload, 1) := by decide +kernel
theorem dX10_oldest_24 : decode cX10_oldest 24 = .ok (.if_icmp .ge 7, 3) := by decide +kernel
theorem dX10_oldest_27 : decode cX10_oldest 27 = .ok (.iload_n 2, 1) := by decide +kernel
theorem dX10_oldest_28 : decode cX10_oldest 28 = .ok (.goto 4, 3) := by decide +kernel
theorem dX10_oldest_31 : decode cX10_oldest 31 = .ok (.iload_n 1, 1) := by decide +kernel
theorem dX10_oldest_32 : decode cX10_oldest 32 = .ok (.istore_n 1, 1) := by decide +kernel
theorem dX10_oldest_33 : decode cX10_oldest 33 = .ok (.iinc 2 1, 3) := by decide +kernel
theorem dX10_oldest_36 : decode cX10_oldest 36 = .ok (.goto (-32), 3) := by decide +kernel
theorem dX10_oldest_39 : decode cX10_oldest 39 = .ok (.iload_n 1, 1) := by decide +kernel
theorem dX10_oldest_40 : decode cX10_oldest 40 = .ok (.ireturn, 1) := by decide +kernel
theorem dX10_parameter_0 : decode cX10_parameter 0 = .ok (.aload_n 0, 1) := by decide +kernel
theorem dX10_parameter_1 : decode cX10_parameter 1 = .ok (.iload_n 1, 1) := by decide +kernel
theorem dX10_parameter_2 : decode cX10_parameter 2 = .ok (.iload_n 2, 1) := by decide +kernel
theorem dX10_parameter_3 : decode cX10_parameter 3 = .ok (.invokevirtual 109, 3) := by decide +kernel
theorem dX10_parameter_6 : decode cX10_parameter 6 = .ok (.ifCond .eq 19, 3) := by decide +kernel
theorem dX10_parameter_9 : decode cX10_parameter 9 = .ok (.aload_n 0, 1) := by decide +kernel
theorem dX10_parameter_10 : decode cX10_parameter 10 = .ok (.getfield 7, 3) := by decide +kernel
theorem dX10_parameter_13 : decode cX10_parameter 13 = .ok (.iload_n 1, 1) := by decide +kernel
theorem dX10_parameter_14 : decode cX10_parameter 14 = .ok (.bipush 6, 2) := by decide +kernel
theorem dX10_parameter_16 : decode cX10_parameter 16 = .ok (.iload_n 2, 1) := by decide +kernel
theorem dX10_parameter_17 : decode cX10_parameter 17 = .ok (.iadd, 1) := by decide +kernel
theorem dX10_parameter_18 : decode cX10_parameter 18 = .ok (.invokestatic 73, 3) := by decide +kernel
theorem dX10_parameter_21 : decode cX10_parameter 21 = .ok (.iaload, 1) := by decide +kernel
theorem dX10_parameter_22 : decode cX10_parameter 22 = .ok (.goto 6, 3) := by decide +kernel
theorem dX10_parameter_25 : decode cX10_parameter 25 = .ok (.sipush (-1001), 3) := by decide +kernel
theorem dX10_parameter_28 : decode cX10_parameter 28 = .ok (.ireturn, 1) := by decide +kernel
theorem dX10_picture_0 : decode cX10_picture 0 = .ok (.aload_n 0, 1) := by decide +kernel
theorem dX10_picture_1 : decode cX10_picture 1 = .ok (.iconst 0, 1) := by decide +kernel
theorem dX10_picture_2 : decode cX10_picture 2 = .ok (.putfield 145, 3) := by decide +kernel
theorem dX10_picture_5 : decode cX10_picture 5 = .ok (.aload_n 0, 1) := by decide +kernel
theorem dX10_picture_6 : decode cX10_picture 6 = .ok (.iload_n 1, 1) := by decide +kernel
theorem dX10_picture_7 : decode cX10_picture 7 = .ok (.iload_n 2, 1) := by decide +kernel
theorem dX10_picture_8 : decode cX10_picture 8 = .ok (.invokevirtual 148, 3) := by decide +kernel
theorem dX10_picture_11 : decode cX10_picture 11 = .ok (.aload_n 0, 1) := by decide +kernel
theorem dX10_picture_12 : decode cX10_picture 12 = .ok (.getfield 145, 3) := by decide +kernel
theorem dX10_picture_15 : decode cX10_picture 15 = .ok (.ifCond .le 141, 3) := by decide +kernel
theorem dX10_picture_18 : decode cX10_picture 18 = .ok (.aload_n 0, 1) := by decide +kernel
theorem dX10_picture_19 : decode cX10_picture 19 = .ok (.getfield 51, 3) := by decide +kernel
theorem dX10_picture_22 : decode cX10_picture 22 = .ok (.aload_n 0, 1) := by decide +kernel
theorem dX10_picture_23 : decode cX10_picture 23 = .ok (.getfield 145, 3) := by decide +kernel
theorem dX10_picture_26 : decode cX10_picture 26 = .ok (.iconst 1, 1) := by decide +kernel
theorem dX10_picture_27 : decode cX10_picture 27 = .ok (.isub, 1) := by decide +kernel
theorem dX10_picture_28 : decode cX10_picture 28 = .ok (.iaload, 1) := by decide +kernel
theorem dX10_picture_29 : decode cX10_picture 29 = .ok (.istore_n 3, 1) := by decide +kernel
theorem dX10_picture_30 : decode cX10_picture 30 = .ok (.aload_n 0, 1) := by decide +kernel
theorem dX10_picture_31 : decode cX10_picture 31 = .ok (.getfield 54, 3) := by decide +kernel
theorem dX10_picture_34 : decode cX10_picture 34 = .ok (.aload_n 0, 1) := by decide +kernel
theorem dX10_picture_35 : decode cX10_picture 35 = .ok (.getfield 145, 3) := by decide +kernel
theorem dX10_picture_38 : decode cX10_picture 38 = .ok (.iconst 1, 1) := by decide +kernel
theorem dX10_picture_39 : decode cX10_picture 39 = .ok (.isub, 1) := by decide +kernel
theorem dX10_picture_40 : decode cX10_picture 40 = .ok (.iaload, 1) := by decide +kernel
theorem dX10_picture_41 : decode cX10_picture 41 = .ok (.istore 4, 2) := by decide +kernel
theorem dX10_picture_43 : decode cX10_picture 43 = .ok (.aload_n 0, 1) := by decide +kernel
theorem dX10_picture_44 : decode cX10_picture 44 = .ok (.iload_n 3, 1) := by decide +kernel
theorem dX10_picture_45 : decode cX10_picture 45 = .ok (.iload_n 2, 1) := by decide +kernel
theorem dX10_picture_46 : decode cX10_picture 46 = .ok (.invokevirtual 152, 3) := by decide +kernel
theorem dX10_picture_49 : decode cX10_picture 49 = .ok (.ifCond .eq 16, 3) := by decide +kernel
theorem dX10_picture_52 : decode cX10_picture 52 = .ok (.aload_n 0, 1) := by decide +kernel
theorem dX10_picture_53 : decode cX10_picture 53 = .ok (.getfield 42, 3) := by decide +kernel
theorem dX10_picture_56 : decode cX10_picture 56 = .ok (.aload_n 0, 1) := by decide +kernel
theorem dX10_picture_57 : decode cX10_picture 57 = .ok (.iload_n 3, 1) := by decide +kernel
theorem dX10_picture_58 : decode cX10_picture 58 = .ok (.invokevirtual 81, 3) := by decide +kernel
theorem dX10_picture_61 : decode cX10_picture 61 = .ok (.iaload, 1) := by decide +kernel
theorem dX10_picture_62 : decode cX10_picture 62 = .ok (.goto 21, 3) := by decide +kernel
theorem dX10_picture_65 : decode cX10_picture 65 = .ok (.aload_n 0, 1) := by decide +kernel
theorem dX10_picture_66 : decode cX10_picture 66 = .ok (.getfield 42, 3) := by decide +kernel
theorem dX10_picture_69 : decode cX10_picture 69 = .ok (.aload_n 0, 1) := by decide +kernel
theorem dX10_picture_70 : decode cX10_picture 70 = .ok (.iload_n 3, 1) := by decide +kernel
theorem dX10_picture_71 : decode cX10_picture 71 = .ok (.invokevirtual 81, 3) := by decide +kernel
theorem dX10_picture_74 : decode cX10_picture 74 = .ok (.iaload, 1) := by decide +kernel
theorem dX10_picture_75 : decode cX10_picture 75 = .ok (.ifCond .le 7, 3) := by decide +kernel
theorem dX10_picture_78 : decode cX10_picture 78 = .ok (.iconst 1, 1) := by decide +kernel
theorem dX10_picture_79 : decode cX10_picture 79 = .ok (.goto 4, 3) := by decide +kernel
theorem dX10_picture_82 : decode cX10_picture 82 = .ok (.iconst 0, 1) := by decide +kernel
theorem dX10_picture_83 : decode cX10_picture 83 = .ok (.istore 5, 2) := by decide +kernel
theorem dX10_picture_85 : decode cX10_picture 85 = .ok (.iload 4, 2) := by decide +kernel
theorem dX10_picture_87 : decode cX10_picture 87 = .ok (.iload 5, 2) := by decide +kernel
theorem dX10_picture_89 : decode cX10_picture 89 = .ok (.if_icmp .ge 48, 3) := by decide +kernel
theorem dX10_picture_92 : decode cX10_picture 92 = .ok (.aload_n 0, 1) := by decide +kernel
theorem dX10_picture_93 : decode cX10_picture 93 = .ok (.getfield 54, 3) := by decide +kernel
theorem dX10_picture_96 : decode cX10_picture 96 = .ok (.aload_n 0, 1) := by decide +kernel
theorem dX10_picture_97 : decode cX10_picture 97 = .ok (.getfield 145, 3) := by decide +kernel
theorem dX10_picture_100 : decode cX10_picture 100 = .ok (.iconst 1, 1) := by decide +kernel
theorem dX10_picture_101 : decode cX10_picture 101 = .ok (.isub, 1) := by decide +kernel
theorem dX10_picture_102 : decode cX10_picture 102 = .ok (.dup2, 1) := by decide +kernel
theorem dX10_picture_103 : decode cX10_picture 103 = .ok (.iaload, 1) := by decide +kernel
theorem dX10_picture_104 : decode cX10_picture 104 = .ok (.iconst 1, 1) := by decide +kernel
theorem dX10_picture_105 : decode cX10_picture 105 = .ok (.iadd, 1) := by decide +kernel
theorem dX10_picture_106 : decode cX10_picture 106 = .ok (.iastore, 1) := by decide +kernel
theorem dX10_picture_107 : decode cX10_picture 107 = .ok (.aload_n 0, 1) := by decide +kernel
theorem dX10_picture_108 : decode cX10_picture 108 = .ok (.getfield 7, 3) := by decide +kernel
theorem dX10_picture_111 : decode cX10_picture 111 = .ok (.iload_n 3, 1) := by decide +kernel
theorem dX10_picture_112 : decode cX10_picture 112 = .ok (.iconst 3, 1) := by decide +kernel
theorem dX10_picture_113 : decode cX10_picture 113 = .ok (.iload 4, 2) := by decide +kernel
theorem dX10_picture_115 : decode cX10_picture 115 = .ok (.iadd, 1) := by decide +kernel
theorem dX10_picture_116 : decode cX10_picture 116 = .ok (.invokestatic 73, 3) := by decide +kernel
theorem dX10_picture_119 : decode cX10_picture 119 = .ok (.iaload, 1) := by decide +kernel
theorem dX10_picture_120 : decode cX10_picture 120 = .ok (.istore 6, 2) := by decide +kernel
theorem dX10_picture_122 : decode cX10_picture 122 = .ok (.iload 6, 2) := by decide +kernel
theorem dX10_picture_124 : decode cX10_picture 124 = .ok (.ifCond .lt 10, 3) := by decide +kernel
theorem dX10_picture_127 : decode cX10_picture 127 = .ok (.aload_n 0, 1) := by decide +kernel
theorem dX10_picture_128 : decode cX10_picture 128 = .ok (.iload 6, 2) := by decide +kernel
theorem dX10_picture_130 : decode cX10_picture 130 = .ok (.iload_n 2, 1) := by decide +kernel
theorem dX10_picture_131 : decode cX10_picture 131 = .ok (.invokevirtual 148, 3) := by decide +kernel
theorem dX10_picture_134 : decode cX10_picture 134 = .ok (.goto 19, 3) := by decide +kernel
theorem dX10_picture_137 : decode cX10_picture 137 = .ok (.aload_n 0, 1) := by decide +kernel
theorem dX10_picture_138 : decode cX10_picture 138 = .ok (.iload_n 3, 1) := by decide +kernel
theorem dX10_picture_139 : decode cX10_picture 139 = .ok (.iload_n 2, 1) := by decide +kernel
theorem dX10_picture_140 : decode cX10_picture 140 = .ok (.invokevirtual 155, 3) := by decide +kernel
theorem dX10_picture_143 : decode cX10_picture 143 = .ok (.aload_n 0, 1) := by decide +kernel
theorem dX10_picture_144 : decode cX10_picture 144 = .ok (.dup, 1) := by decide +kernel
theorem dX10_picture_145 : decode cX10_picture 145 = .ok (.getfield 145, 3) := by decide +kernel
theorem dX10_picture_148 : decode cX10_picture 148 = .ok (.iconst 1, 1) := by decide +kernel
theorem dX10_picture_149 : decode cX10_picture 149 = .ok (.isub, 1) := by decide +kernel
theorem dX10_picture_150 : decode cX10_picture 150 = .ok (.putfield 145, 3) := by decide +kernel
theorem dX10_picture_153 : decode cX10_picture 153 = .ok (.goto (-142), 3) := by decide +kernel
theorem dX10_picture_156 : decode cX10_picture 156 = .ok (.aload_n 0, 1) := by decide +kernel
theorem dX10_picture_157 : decode cX10_picture 157 = .ok (.iload_n 1, 1) := by decide +kernel
theorem dX10_picture_158 : decode cX10_picture 158 = .ok (.iload_n 2, 1) := by decide +kernel
theorem dX10_picture_159 : decode cX10_picture 159 = .ok (.invokevirtual 140, 3) := by decide +kernel
theorem dX10_picture_162 : decode cX10_picture 162 = .ok (.ireturn, 1) := by decide +kernel
theorem dX10_placeOf_0 : decode cX10_placeOf 0 = .ok (.iconst 0, 1) := by decide +kernel
theorem dX10_placeOf_1 : decode cX10_placeOf 1 = .ok (.istore_n 2, 1) := by decide +kernel
theorem dX10_placeOf_2 : decode cX10_placeOf 2 = .ok (.iconst 0, 1) := by decide +kernel
theorem dX10_placeOf_3 : decode cX10_placeOf 3 = .ok (.istore_n 3, 1) := by decide +kernel
theorem dX10_placeOf_4 : decode cX10_placeOf 4 = .ok (.iconst 0, 1) := by decide +kernel
theorem dX10_placeOf_5 : decode cX10_placeOf 5 = .ok (.istore 4, 2) := by decide +kernel
theorem dX10_placeOf_7 : decode cX10_placeOf 7 = .ok (.iload_n 2, 1) := by decide +kernel
theorem dX10_placeOf_8 : decode cX10_placeOf 8 = .ok (.iload 4, 2) := by decide +kernel
theorem dX10_placeOf_10 : decode cX10_placeOf 10 = .ok (.ishr, 1) := by decide +kernel
theorem dX10_placeOf_11 : decode cX10_placeOf 11 = .ok (.iconst 1, 1) := by decide +kernel
theorem dX10_placeOf_12 : decode cX10_placeOf 12 = .ok (.iand, 1) := by decide +kernel
theorem dX10_placeOf_13 : decode cX10_placeOf 13 = .ok (.iconst 1, 1) := by decide +kernel
theorem dX10_placeOf_14 : decode cX10_placeOf 14 = .ok (.if_icmp .eq 13, 3) := by decide +kernel
theorem dX10_placeOf_17 : decode cX10_placeOf 17 = .ok (.aload_n 0, 1) := by decide +kernel
theorem dX10_placeOf_18 : decode cX10_placeOf 18 = .ok (.iload 4, 2) := by decide +kernel
theorem dX10_placeOf_20 : decode cX10_placeOf 20 = .ok (.iload_n 2, 1) := by decide +kernel
theorem dX10_placeOf_21 : decode cX10_placeOf 21 = .ok (.invokevirtual 118, 3) := by decide +kernel
theorem dX10_placeOf_24 : decode cX10_placeOf 24 = .ok (.ifCond .ne 9, 3) := by decide +kernel
theorem dX10_placeOf_27 : decode cX10_placeOf 27 = .ok (.iinc 4 1, 3) := by decide +kernel
theorem dX10_placeOf_30 : decode cX10_placeOf 30 = .ok (.goto (-23), 3) := by decide +kernel
theorem dX10_placeOf_33 : decode cX10_placeOf 33 = .ok (.iload 4, 2) := by decide +kernel
theorem dX10_placeOf_35 : decode cX10_placeOf 35 = .ok (.iload_n 1, 1) := by decide +kernel
theorem dX10_placeOf_36 : decode cX10_placeOf 36 = .ok (.if_icmp .ne 5, 3) := by decide +kernel
theorem dX10_placeOf_39 : decode cX10_placeOf 39 = .ok (.iload_n 3, 1) := by decide +kernel
theorem dX10_placeOf_40 : decode cX10_placeOf 40 = .ok (.ireturn, 1) := by decide +kernel
theorem dX10_placeOf_41 : decode cX10_placeOf 41 = .ok (.iload_n 2, 1) := by decide +kernel
theorem dX10_placeOf_42 : decode cX10_placeOf 42 = .ok (.iconst 1, 1) := by decide +kernel
theorem dX10_placeOf_43 : decode cX10_placeOf 43 = .ok (.iload 4, 2) := by decide +kernel
theorem dX10_placeOf_45 : decode cX10_placeOf 45 = .ok (.ishl, 1) := by decide +kernel
theorem dX10_placeOf_46 : decode cX10_placeOf 46 = .ok (.ior, 1) := by decide +kernel
theorem dX10_placeOf_47 : decode cX10_placeOf 47 = .ok (.istore_n 2, 1) := by decide +kernel
theorem dX10_placeOf_48 : decode cX10_placeOf 48 = .ok (.iinc 3 1, 3) := by decide +kernel
theorem dX10_placeOf_51 : decode cX10_placeOf 51 = .ok (.goto (-47), 3) := by decide +kernel
theorem dX10_restore_0 : decode cX10_restore 0 = .ok (.iload_n 1, 1) := by decide +kernel
theorem dX10_restore_1 : decode cX10_restore 1 = .ok (.iconst 0, 1) := by decide +kernel
theorem dX10_restore_2 : decode cX10_restore 2 = .ok (.iconst 1, 1) := by decide +kernel
theorem dX10_restore_3 : decode cX10_restore 3 = .ok (.invokestatic 69, 3) := by decide +kernel
theorem dX10_restore_6 : decode cX10_restore 6 = .ok (.ifCond .ne 7, 3) := by decide +kernel
theorem dX10_restore_9 : decode cX10_restore 9 = .ok (.sipush (-1001), 3) := by decide +kernel
theorem dX10_restore_12 : decode cX10_restore 12 = .ok (.ireturn, 1) := by decide +kernel
theorem dX10_restore_13 : decode cX10_restore 13 = .ok (.aload_n 0, 1) := by decide +kernel
theorem dX10_restore_14 : decode cX10_restore 14 = .ok (.getfield 16, 3) := by decide +kernel
theorem dX10_restore_17 : decode cX10_restore 17 = .ok (.iload_n 1, 1) := by decide +kernel
theorem dX10_restore_18 : decode cX10_restore 18 = .ok (.baload, 1) := by decide +kernel
theorem dX10_restore_19 : decode cX10_restore 19 = .ok (.ifCond .ne 7, 3) := by decide +kernel
theorem dX10_restore_22 : decode cX10_restore 22 = .ok (.sipush (-1003), 3) := by decide +kernel
theorem dX10_restore_25 : decode cX10_restore 25 = .ok (.ireturn, 1) := by decide +kernel
theorem dX10_restore_26 : decode cX10_restore 26 = .ok (.iconst 0, 1) := by decide +kernel
theorem dX10_restore_27 : decode cX10_restore 27 = .ok (.istore_n 2, 1) := by decide +kernel
theorem dX10_restore_28 : decode cX10_restore 28 = .ok (.iload_n 2, 1) := by decide +kernel
theorem dX10_restore_29 : decode cX10_restore 29 = .ok (.bipush 121, 2) := by decide +kernel
theorem dX10_restore_31 : decode cX10_restore 31 = .ok (.if_icmp .ge 26, 3) := by decide +kernel
theorem dX10_restore_34 : decode cX10_restore 34 = .ok (.aload_n 0, 1) := by decide +kernel
theorem dX10_restore_35 : decode cX10_restore 35 = .ok (.getfield 7, 3) := by decide +kernel
theorem dX10_restore_38 : decode cX10_restore 38 = .ok (.iload_n 2, 1) := by decide +kernel
theorem dX10_restore_39 : decode cX10_restore 39 = .ok (.aload_n 0, 1) := by decide +kernel
theorem dX10_restore_40 : decode cX10_restore 40 = .ok (.getfield 13, 3) := by decide +kernel
theorem dX10_restore_43 : decode cX10_restore 43 = .ok (.bipush 121, 2) := by decide +kernel
theorem dX10_restore_45 : decode cX10_restore 45 = .ok (.iload_n 1, 1) := by decide +kernel
theorem dX10_restore_46 : decode cX10_restore 46 = .ok (.imul, 1) := by decide +kernel
theorem dX10_restore_47 : decode cX10_restore 47 = .ok (.iload_n 2, 1) := by decide +kernel
theorem dX10_restore_48 : decode cX10_restore 48 = .ok (.iadd, 1) := by decide +kernel
theorem dX10_restore_49 : decode cX10_restore 49 = .ok (.iaload, 1) := by decide +kernel
theorem dX10_restore_50 : decode cX10_restore 50 = .ok (.iastore, 1) := by decide +kernel
theorem dX10_restore_51 : decode cX10_restore 51 = .ok (.iinc 2 1, 3) := by decide +kernel
theorem dX10_restore_54 : decode cX10_restore 54 = .ok (.goto (-26), 3) := by decide +kernel
theorem dX10_restore_57 : decode cX10_restore 57 = .ok (.aload_n 0, 1) := by decide +kernel
theorem dX10_restore_58 : decode cX10_restore 58 = .ok (.iconst 0, 1) := by decide +kernel
theorem dX10_restore_59 : decode cX10_restore 59 = .ok (.putfield 85, 3) := by decide +kernel
theorem dX10_restore_62 : decode cX10_restore 62 = .ok (.aload_n 0, 1) := by decide +kernel
theorem dX10_restore_63 : decode cX10_restore 63 = .ok (.getfield 7, 3) := by decide +kernel
theorem dX10_restore_66 : decode cX10_restore 66 = .ok (.iconst 0, 1) := by decide +kernel
theorem dX10_restore_67 : decode cX10_restore 67 = .ok (.iaload, 1) := by decide +kernel
theorem dX10_restore_68 : decode cX10_restore 68 = .ok (.ireturn, 1) := by decide +kernel
theorem dX10_save_0 : decode cX10_save 0 = .ok (.iload_n 1, 1) := by decide +kernel
theorem dX10_save_1 : decode cX10_save 1 = .ok (.iconst 0, 1) := by decide +kernel
theorem dX10_save_2 : decode cX10_save 2 = .ok (.iconst 1, 1) := by decide +kernel
theorem dX10_save_3 : decode cX10_save 3 = .ok (.invokestatic 69, 3) := by decide +kernel
theorem dX10_save_6 : decode cX10_save 6 = .ok (.ifCond .ne 7, 3) := by decide +kernel
theorem dX10_save_9 : decode cX10_save 9 = .ok (.sipush (-1001), 3) := by decide +kernel
theorem dX10_save_12 : decode cX10_save 12 = .ok (.ireturn, 1) := by decide +kernel
theorem dX10_save_13 : decode cX10_save 13 = .ok (.iconst 0, 1) := by decide +kernel
theorem dX10_save_14 : decode cX10_save 14 = .ok (.istore_n 2, 1) := by decide +kernel
theorem dX10_save_15 : decode cX10_save 15 = .ok (.iload_n 2, 1) := by decide +kernel
theorem dX10_save_16 : decode cX10_save 16 = .ok (.bipush 121, 2) := by decide +kernel
theorem dX10_save_18 : decode cX10_save 18 = .ok (.if_icmp .ge 26, 3) := by decide +kernel
theorem dX10_save_21 : decode cX10_save 21 = .ok (.aload_n 0, 1) := by decide +kernel
theorem dX10_save_22 : decode cX10_save 22 = .ok (.getfield 13, 3) := by decide +kernel
theorem dX10_save_25 : decode cX10_save 25 = .ok (.bipush 121, 2) := by decide +kernel
theorem dX10_save_27 : decode cX10_save 27 = .ok (.iload_n 1, 1) := by decide +kernel
theorem dX10_save_28 : decode cX10_save 28 = .ok (.imul, 1) := by decide +kernel
theorem dX10_save_29 : decode cX10_save 29 = .ok (.iload_n 2, 1) := by decide +kernel
theorem dX10_save_30 : decode cX10_save 30 = .ok (.iadd, 1) := by decide +kernel
theorem dX10_save_31 : decode cX10_save 31 = .ok (.aload_n 0, 1) := by decide +kernel
theorem dX10_save_32 : decode cX10_save 32 = .ok (.getfield 7, 3) := by decide +kernel
theorem dX10_save_35 : decode cX10_save 35 = .ok (.iload_n 2, 1) := by decide +kernel
theorem dX10_save_36 : decode cX10_save 36 = .ok (.iaload, 1) := by decide +kernel
theorem dX10_save_37 : decode cX10_save 37 = .ok (.iastore, 1) := by decide +kernel
theorem dX10_save_38 : decode cX10_save 38 = .ok (.iinc 2 1, 3) := by decide +kernel
theorem dX10_save_41 : decode cX10_save 41 = .ok (.goto (-26), 3) := by decide +kernel
theorem dX10_save_44 : decode cX10_save 44 = .ok (.aload_n 0, 1) := by decide +kernel
theorem dX10_save_45 : decode cX10_save 45 = .ok (.getfield 16, 3) := by decide +kernel
theorem dX10_save_48 : decode cX10_save 48 = .ok (.iload_n 1, 1) := by decide +kernel
theorem dX10_save_49 : decode cX10_save 49 = .ok (.iconst 1, 1) := by decide +kernel
theorem dX10_save_50 : decode cX10_save 50 = .ok (.bastore, 1) := by decide +kernel
theorem dX10_save_51 : decode cX10_save 51 = .ok (.aload_n 0, 1) := by decide +kernel
theorem dX10_save_52 : decode cX10_save 52 = .ok (.getfield 7, 3) := by decide +kernel
theorem dX10_save_55 : decode cX10_save 55 = .ok (.iconst 0, 1) := by decide +kernel
theorem dX10_save_56 : decode cX10_save 56 = .ok (.iaload, 1) := by decide +kernel
theorem dX10_save_57 : decode cX10_save 57 = .ok (.ireturn, 1) := by decide +kernel
theorem dX10_scope_0 : decode cX10_scope 0 = .ok (.aload_n 0, 1) := by decide +kernel
theorem dX10_scope_1 : decode cX10_scope 1 = .ok (.iload_n 1, 1) := by decide +kernel
theorem dX10_scope_2 : decode cX10_scope 2 = .ok (.iload_n 2, 1) := by decide +kernel
theorem dX10_scope_3 : decode cX10_scope 3 = .ok (.invokevirtual 178, 3) := by decide +kernel
theorem dX10_scope_6 : decode cX10_scope 6 = .ok (.ifCond .eq 23, 3) := by decide +kernel
theorem dX10_scope_9 : decode cX10_scope 9 = .ok (.iload_n 3, 1) := by decide +kernel
theorem dX10_scope_10 : decode cX10_scope 10 = .ok (.iconst 0, 1) := by decide +kernel
theorem dX10_scope_11 : decode cX10_scope 11 = .ok (.iconst 2, 1) := by decide +kernel
theorem dX10_scope_12 : decode cX10_scope 12 = .ok (.invokestatic 69, 3) := by decide +kernel
theorem dX10_scope_15 : decode cX10_scope 15 = .ok (.ifCond .eq 14, 3) := by decide +kernel
theorem dX10_scope_18 : decode cX10_scope 18 = .ok (.iload 4, 2) := by decide +kernel
theorem dX10_scope_20 : decode cX10_scope 20 = .ok (.iconst 0, 1) := by decide +kernel
theorem dX10_scope_21 : decode cX10_scope 21 = .ok (.bipush 15, 2) := by decide +kernel
theorem dX10_scope_23 : decode cX10_scope 23 = .ok (.invokestatic 69, 3) := by decide +kernel
theorem dX10_scope_26 : decode cX10_scope 26 = .ok (.ifCond .ne 7, 3) := by decide +kernel
theorem dX10_scope_29 : decode cX10_scope 29 = .ok (.sipush (-1001), 3) := by decide +kernel
theorem dX10_scope_32 : decode cX10_scope 32 = .ok (.ireturn, 1) := by decide +kernel
theorem dX10_scope_33 : decode cX10_scope 33 = .ok (.bipush 96, 2) := by decide +kernel
theorem dX10_scope_35 : decode cX10_scope 35 = .ok (.aload_n 0, 1) := by decide +kernel
theorem dX10_scope_36 : decode cX10_scope 36 = .ok (.iload_n 1, 1) := by decide +kernel
theorem dX10_scope_37 : decode cX10_scope 37 = .ok (.iload_n 2, 1) := by decide +kernel
theorem dX10_scope_38 : decode cX10_scope 38 = .ok (.invokevirtual 181, 3) := by decide +kernel
theorem dX10_scope_41 : decode cX10_scope 41 = .ok (.imul, 1) := by decide +kernel
theorem dX10_scope_42 : decode cX10_scope 42 = .ok (.bipush 32, 2) := by decide +kernel
theorem dX10_scope_44 : decode cX10_scope 44 = .ok (.iload_n 3, 1) := by decide +kernel
theorem dX10_scope_45 : decode cX10_scope 45 = .ok (.imul, 1) := by decide +kernel
theorem dX10_scope_46 : decode cX10_scope 46 = .ok (.iadd, 1) := by decide +kernel
theorem dX10_scope_47 : decode cX10_scope 47 = .ok (.istore 5, 2) := by decide +kernel
theorem dX10_scope_49 : decode cX10_scope 49 = .ok (.iconst 0, 1) := by decide +kernel
theorem dX10_scope_50 : decode cX10_scope 50 = .ok (.istore 6, 2) := by decide +kernel
theorem dX10_scope_52 : decode cX10_scope 52 = .ok (.iconst 0, 1) := by decide +kernel
theorem dX10_scope_53 : decode cX10_scope 53 = .ok (.istore 7, 2) := by decide +kernel
theorem dX10_scope_55 : decode cX10_scope 55 = .ok (.iload 7, 2) := by decide +kernel
theorem dX10_scope_57 : decode cX10_scope 57 = .ok (.bipush 32, 2) := by decide +kernel
theorem dX10_scope_59 : decode cX10_scope 59 = .ok (.if_icmp .ge 37, 3) := by decide +kernel
theorem dX10_scope_62 : decode cX10_scope 62 = .ok (.iload 6, 2) := by decide +kernel
theorem dX10_scope_64 : decode cX10_scope 64 = .ok (.aload_n 0, 1) := by decide +kernel
theorem dX10_scope_65 : decode cX10_scope 65 = .ok (.getfield 33, 3) := by decide +kernel
theorem dX10_scope_68 : decode cX10_scope 68 = .ok (.iload 5, 2) := by decide +kernel
theorem dX10_scope_70 : decode cX10_scope 70 = .ok (.iload 7, 2) := by decide +kernel
theorem dX10_scope_72 : decode cX10_scope 72 = .ok (.iadd, 1) := by decide +kernel
theorem dX10_scope_73 : decode cX10_scope 73 = .ok (.iaload, 1) := by decide +kernel
theorem dX10_scope_74 : decode cX10_scope 74 = .ok (.bipush 16, 2) := by decide +kernel
theorem dX10_scope_76 : decode cX10_scope 76 = .ok (.idiv, 1) := by decide +kernel
theorem dX10_scope_77 : decode cX10_scope 77 = .ok (.iload 4, 2) := by decide +kernel
theorem dX10_scope_79 : decode cX10_scope 79 = .ok (.if_icmp .ne 7, 3) := by decide +kernel
theorem dX10_scope_82 : decode cX10_scope 82 = .ok (.iconst 1, 1) := by decide +kernel
theorem dX10_scope_83 : decode cX10_scope 83 = .ok (.goto 4, 3) := by decide +kernel
theorem dX10_scope_86 : decode cX10_scope 86 = .ok (.iconst 0, 1) := by decide +kernel
theorem dX10_scope_87 : decode cX10_scope 87 = .ok (.iadd, 1) := by decide +kernel
theorem dX10_scope_88 : decode cX10_scope 88 = .ok (.istore 6, 2) := by decide +kernel
theorem dX10_scope_90 : decode cX10_scope 90 = .ok (.iinc 7 1, 3) := by decide +kernel
theorem dX10_scope_93 : decode cX10_scope 93 = .ok (.goto (-38), 3) := by decide +kernel
theorem dX10_scope_96 : decode cX10_scope 96 = .ok (.iload 6, 2) := by decide +kernel
theorem dX10_scope_98 : decode cX10_scope 98 = .ok (.ireturn, 1) := by decide +kernel
theorem dX10_seen_0 : decode cX10_seen 0 = .ok (.aload_n 0, 1) := by decide +kernel
theorem dX10_seen_1 : decode cX10_seen 1 = .ok (.getfield 7, 3) := by decide +kernel
theorem dX10_seen_4 : decode cX10_seen 4 = .ok (.iload_n 1, 1) := by decide +kernel
theorem dX10_seen_5 : decode cX10_seen 5 = .ok (.iconst 3, 1) := by decide +kernel
theorem dX10_seen_6 : decode cX10_seen 6 = .ok (.iload_n 2, 1) := by decide +kernel
theorem dX10_seen_7 : decode cX10_seen 7 = .ok (.iadd, 1) := by decide +kernel
theorem dX10_seen_8 : decode cX10_seen 8 = .ok (.invokestatic 73, 3) := by decide +kernel
theorem dX10_seen_11 : decode cX10_seen 11 = .ok (.iaload, 1) := by decide +kernel
theorem dX10_seen_12 : decode cX10_seen 12 = .ok (.istore 5, 2) := by decide +kernel
theorem dX10_seen_14 : decode cX10_seen 14 = .ok (.iload 5, 2) := by decide +kernel
theorem dX10_seen_16 : decode cX10_seen 16 = .ok (.ifCond .ge 7, 3) := by decide +kernel
theorem dX10_seen_19 : decode cX10_seen 19 = .ok (.iconst 0, 1) := by decide +kernel
theorem dX10_seen_20 : decode cX10_seen 20 = .ok (.goto 21, 3) := by decide +kernel
theorem dX10_seen_23 : decode cX10_seen 23 = .ok (.aload_n 0, 1) := by decide +kernel
theorem dX10_seen_24 : decode cX10_seen 24 = .ok (.getfield 33, 3) := by decide +kernel
theorem dX10_seen_27 : decode cX10_seen 27 = .ok (.bipush 96, 2) := by decide +kernel
theorem dX10_seen_29 : decode cX10_seen 29 = .ok (.aload_n 0, 1) := by decide +kernel
theorem dX10_seen_30 : decode cX10_seen 30 = .ok (.iload 5, 2) := by decide +kernel
theorem dX10_seen_32 : decode cX10_seen 32 = .ok (.iload_n 3, 1) := by decide +kernel
theorem dX10_seen_33 : decode cX10_seen 33 = .ok (.invokevirtual 140, 3) := by decide +kernel
theorem dX10_seen_36 : decode cX10_seen 36 = .ok (.imul, 1) := by decide +kernel
theorem dX10_seen_37 : decode cX10_seen 37 = .ok (.iload 4, 2) := by decide +kernel
theorem dX10_seen_39 : decode cX10_seen 39 = .ok (.iadd, 1) := by decide +kernel
theorem dX10_seen_40 : decode cX10_seen 40 = .ok (.iaload, 1) := by decide +kernel
theorem dX10_seen_41 : decode cX10_seen 41 = .ok (.ireturn, 1) := by decide +kernel
theorem dX10_set_0 : decode cX10_set 0 = .ok (.aload_n 0, 1) := by decide +kernel
theorem dX10_set_1 : decode cX10_set 1 = .ok (.iload_n 1, 1) := by decide +kernel
theorem dX10_set_2 : decode cX10_set 2 = .ok (.iload_n 2, 1) := by decide +kernel
theorem dX10_set_3 : decode cX10_set 3 = .ok (.invokevirtual 109, 3) := by decide +kernel
theorem dX10_set_6 : decode cX10_set 6 = .ok (.ifCond .ne 7, 3) := by decide +kernel
theorem dX10_set_9 : decode cX10_set 9 = .ok (.sipush (-1001), 3) := by decide +kernel
theorem dX10_set_12 : decode cX10_set 12 = .ok (.ireturn, 1) := by decide +kernel
theorem dX10_set_13 : decode cX10_set 13 = .ok (.iload_n 3, 1) := by decide +kernel
theorem dX10_set_14 : decode cX10_set 14 = .ok (.aload_n 0, 1) := by decide +kernel
theorem dX10_set_15 : decode cX10_set 15 = .ok (.iload_n 1, 1) := by decide +kernel
theorem dX10_set_16 : decode cX10_set 16 = .ok (.invokevirtual 81, 3) := by decide +kernel
theorem dX10_set_19 : decode cX10_set 19 = .ok (.invokestatic 112, 3) := by decide +kernel
theorem dX10_set_22 : decode cX10_set 22 = .ok (.aload_n 0, 1) := by decide +kernel
theorem dX10_set_23 : decode cX10_set 23 = .ok (.iload_n 1, 1) := by decide +kernel
theorem dX10_set_24 : decode cX10_set 24 = .ok (.invokevirtual 81, 3) := by decide +kernel
theorem dX10_set_27 : decode cX10_set 27 = .ok (.iload_n 2, 1) := by decide +kernel
theorem dX10_set_28 : decode cX10_set 28 = .ok (.invokestatic 115, 3) := by decide +kernel
theorem dX10_set_31 : decode cX10_set 31 = .ok (.invokestatic 69, 3) := by decide +kernel
theorem dX10_set_34 : decode cX10_set 34 = .ok (.ifCond .ne 7, 3) := by decide +kernel
theorem dX10_set_37 : decode cX10_set 37 = .ok (.sipush (-1002), 3) := by decide +kernel
theorem dX10_set_40 : decode cX10_set 40 = .ok (.ireturn, 1) := by decide +kernel
theorem dX10_set_41 : decode cX10_set 41 = .ok (.aload_n 0, 1) := by decide +kernel
theorem dX10_set_42 : decode cX10_set 42 = .ok (.getfield 7, 3) := by decide +kernel
theorem dX10_set_45 : decode cX10_set 45 = .ok (.iload_n 1, 1) := by decide +kernel
theorem dX10_set_46 : decode cX10_set 46 = .ok (.bipush 6, 2) := by decide +kernel
theorem dX10_set_48 : decode cX10_set 48 = .ok (.iload_n 2, 1) := by decide +kernel
theorem dX10_set_49 : decode cX10_set 49 = .ok (.iadd, 1) := by decide +kernel
theorem dX10_set_50 : decode cX10_set 50 = .ok (.invokestatic 73, 3) := by decide +kernel
theorem dX10_set_53 : decode cX10_set 53 = .ok (.iload_n 3, 1) := by decide +kernel
theorem dX10_set_54 : decode cX10_set 54 = .ok (.iastore, 1) := by decide +kernel
theorem dX10_set_55 : decode cX10_set 55 = .ok (.aload_n 0, 1) := by decide +kernel
theorem dX10_set_56 : decode cX10_set 56 = .ok (.iload_n 1, 1) := by decide +kernel
theorem dX10_set_57 : decode cX10_set 57 = .ok (.aload_n 0, 1) := by decide +kernel
theorem dX10_set_58 : decode cX10_set 58 = .ok (.getfield 7, 3) := by decide +kernel
theorem dX10_set_61 : decode cX10_set 61 = .ok (.iload_n 1, 1) := by decide +kernel
theorem dX10_set_62 : decode cX10_set 62 = .ok (.iconst 1, 1) := by decide +kernel
theorem dX10_set_63 : decode cX10_set 63 = .ok (.invokestatic 73, 3) := by decide +kernel
theorem dX10_set_66 : decode cX10_set 66 = .ok (.iaload, 1) := by decide +kernel
theorem dX10_set_67 : decode cX10_set 67 = .ok (.aload_n 0, 1) := by decide +kernel
theorem dX10_set_68 : decode cX10_set 68 = .ok (.getfield 7, 3) := by decide +kernel
theorem dX10_set_71 : decode cX10_set 71 = .ok (.iload_n 1, 1) := by decide +kernel
theorem dX10_set_72 : decode cX10_set 72 = .ok (.iconst 2, 1) := by decide +kernel
theorem dX10_set_73 : decode cX10_set 73 = .ok (.invokestatic 73, 3) := by decide +kernel
theorem dX10_set_76 : decode cX10_set 76 = .ok (.iaload, 1) := by decide +kernel
theorem dX10_set_77 : decode cX10_set 77 = .ok (.iconst 1, 1) := by decide +kernel
theorem dX10_set_78 : decode cX10_set 78 = .ok (.iconst 0, 1) := by decide +kernel
theorem dX10_set_79 : decode cX10_set 79 = .ok (.invokevirtual 105, 3) := by decide +kernel
theorem dX10_set_82 : decode cX10_set 82 = .ok (.ireturn, 1) := by decide +kernel
theorem dX10_setRange_0 : decode cX10_setRange 0 = .ok (.aload_n 0, 1) := by decide +kernel
theorem dX10_setRange_1 : decode cX10_setRange 1 = .ok (.iload_n 1, 1) := by decide +kernel
theorem dX10_setRange_2 : decode cX10_setRange 2 = .ok (.invokevirtual 77, 3) := by decide +kernel
theorem dX10_setRange_5 : decode cX10_setRange 5 = .ok (.ifCond .ne 7, 3) := by decide +kernel
theorem dX10_setRange_8 : decode cX10_setRange 8 = .ok (.sipush (-1001), 3) := by decide +kernel
theorem dX10_setRange_11 : decode cX10_setRange 11 = .ok (.ireturn, 1) := by decide +kernel
theorem dX10_setRange_12 : decode cX10_setRange 12 = .ok (.iload_n 2, 1) := by decide +kernel
theorem dX10_setRange_13 : decode cX10_setRange 13 = .ok (.iconst 0, 1) := by decide +kernel
theorem dX10_setRange_14 : decode cX10_setRange 14 = .ok (.bipush 99, 2) := by decide +kernel
theorem dX10_setRange_16 : decode cX10_setRange 16 = .ok (.invokestatic 69, 3) := by decide +kernel
theorem dX10_setRange_19 : decode cX10_setRange 19 = .ok (.ifCond .eq 13, 3) := by decide +kernel
theorem dX10_setRange_22 : decode cX10_setRange 22 = .ok (.iload_n 3, 1) := by decide +kernel
theorem dX10_setRange_23 : decode cX10_setRange 23 = .ok (.iload_n 2, 1) := by decide +kernel
theorem dX10_setRange_24 : decode cX10_setRange 24 = .ok (.bipush 99, 2) := by decide +kernel
theorem dX10_setRange_26 : decode cX10_setRange 26 = .ok (.invokestatic 69, 3) := by decide +kernel
theorem dX10_setRange_29 : decode cX10_setRange 29 = .ok (.ifCond .ne 7, 3) := by decide +kernel
theorem dX10_setRange_32 : decode cX10_setRange 32 = .ok (.sipush (-1002), 3) := by decide +kernel
theorem dX10_setRange_35 : decode cX10_setRange 35 = .ok (.ireturn, 1) := by decide +kernel
theorem dX10_setRange_36 : decode cX10_setRange 36 = .ok (.aload_n 0, 1) := by decide +kernel
theorem dX10_setRange_37 : decode cX10_setRange 37 = .ok (.getfield 7, 3) := by decide +kernel
theorem dX10_setRange_40 : decode cX10_setRange 40 = .ok (.iload_n 1, 1) := by decide +kernel
theorem dX10_setRange_41 : decode cX10_setRange 41 = .ok (.iconst 1, 1) := by decide +kernel
theorem dX10_setRange_42 : decode cX10_setRange 42 = .ok (.invokestatic 73, 3) := by decide +kernel
theorem dX10_setRange_45 : decode cX10_setRange 45 = .ok (.iaload, 1) := by decide +kernel
theorem dX10_setRange_46 : decode cX10_setRange 46 = .ok (.istore 4, 2) := by decide +kernel
theorem dX10_setRange_48 : decode cX10_setRange 48 = .ok (.aload_n 0, 1) := by decide +kernel
theorem dX10_setRange_49 : decode cX10_setRange 49 = .ok (.getfield 7, 3) := by decide +kernel
theorem dX10_setRange_52 : decode cX10_setRange 52 = .ok (.iload_n 1, 1) := by decide +kernel
theorem dX10_setRange_53 : decode cX10_setRange 53 = .ok (.iconst 2, 1) := by decide +kernel
theorem dX10_setRange_54 : decode cX10_setRange 54 = .ok (.invokestatic 73, 3) := by decide +kernel
theorem dX10_setRange_57 : decode cX10_setRange 57 = .ok (.iaload, 1) := by decide +kernel
theorem dX10_setRange_58 : decode cX10_setRange 58 = .ok (.istore 5, 2) := by decide +kernel
theorem dX10_setRange_60 : decode cX10_setRange 60 = .ok (.aload_n 0, 1) := by decide +kernel
theorem dX10_setRange_61 : decode cX10_setRange 61 = .ok (.getfield 7, 3) := by decide +kernel
theorem dX10_setRange_64 : decode cX10_setRange 64 = .ok (.iload_n 1, 1) := by decide +kernel
theorem dX10_setRange_65 : decode cX10_setRange 65 = .ok (.iconst 1, 1) := by decide +kernel
theorem dX10_setRange_66 : decode cX10_setRange 66 = .ok (.invokestatic 73, 3) := by decide +kernel
theorem dX10_setRange_69 : decode cX10_setRange 69 = .ok (.iload_n 2, 1) := by decide +kernel
theorem dX10_setRange_70 : decode cX10_setRange 70 = .ok (.iastore, 1) := by decide +kernel
theorem dX10_setRange_71 : decode cX10_setRange 71 = .ok (.aload_n 0, 1) := by decide +kernel
theorem dX10_setRange_72 : decode cX10_setRange 72 = .ok (.getfield 7, 3) := by decide +kernel
theorem dX10_setRange_75 : decode cX10_setRange 75 = .ok (.iload_n 1, 1) := by decide +kernel
theorem dX10_setRange_76 : decode cX10_setRange 76 = .ok (.iconst 2, 1) := by decide +kernel
theorem dX10_setRange_77 : decode cX10_setRange 77 = .ok (.invokestatic 73, 3) := by decide +kernel
theorem dX10_setRange_80 : decode cX10_setRange 80 = .ok (.iload_n 3, 1) := by decide +kernel
theorem dX10_setRange_81 : decode cX10_setRange 81 = .ok (.iastore, 1) := by decide +kernel
theorem dX10_setRange_82 : decode cX10_setRange 82 = .ok (.aload_n 0, 1) := by decide +kernel
theorem dX10_setRange_83 : decode cX10_setRange 83 = .ok (.iload_n 1, 1) := by decide +kernel
theorem dX10_setRange_84 : decode cX10_setRange 84 = .ok (.iload 4, 2) := by decide +kernel
theorem dX10_setRange_86 : decode cX10_setRange 86 = .ok (.iload 5, 2) := by decide +kernel
theorem dX10_setRange_88 : decode cX10_setRange 88 = .ok (.iload_n 2, 1) := by decide +kernel
theorem dX10_setRange_89 : decode cX10_setRange 89 = .ok (.iload_n 3, 1) := by decide +kernel
theorem dX10_setRange_90 : decode cX10_setRange 90 = .ok (.invokevirtual 105, 3) := by decide +kernel
theorem dX10_setRange_93 : decode cX10_setRange 93 = .ok (.aload_n 0, 1) := by decide +kernel
theorem dX10_setRange_94 : decode cX10_setRange 94 = .ok (.iload_n 1, 1) := by decide +kernel
theorem dX10_setRange_95 : decode cX10_setRange 95 = .ok (.iload_n 2, 1) := by decide +kernel
theorem dX10_setRange_96 : decode cX10_setRange 96 = .ok (.iload_n 3, 1) := by decide +kernel
theorem dX10_setRange_97 : decode cX10_setRange 97 = .ok (.iload 4, 2) := by decide +kernel
theorem dX10_setRange_99 : decode cX10_setRange 99 = .ok (.iload 5, 2) := by decide +kernel
theorem dX10_setRange_101 : decode cX10_setRange 101 = .ok (.invokevirtual 105, 3) := by decide +kernel
theorem dX10_setRange_104 : decode cX10_setRange 104 = .ok (.iadd, 1) := by decide +kernel
theorem dX10_setRange_105 : decode cX10_setRange 105 = .ok (.ireturn, 1) := by decide +kernel
theorem dX10_setRoom_0 : decode cX10_setRoom 0 = .ok (.iload_n 1, 1) := by decide +kernel
theorem dX10_setRoom_1 : decode cX10_setRoom 1 = .ok (.bipush 12, 2) := by decide +kernel
theorem dX10_setRoom_3 : decode cX10_setRoom 3 = .ok (.bipush 48, 2) := by decide +kernel
theorem dX10_setRoom_5 : decode cX10_setRoom 5 = .ok (.invokestatic 69, 3) := by decide +kernel
theorem dX10_setRoom_8 : decode cX10_setRoom 8 = .ok (.ifCond .ne 7, 3) := by decide +kernel
theorem dX10_setRoom_11 : decode cX10_setRoom 11 = .ok (.sipush (-1002), 3) := by decide +kernel
theorem dX10_setRoom_14 : decode cX10_setRoom 14 = .ok (.ireturn, 1) := by decide +kernel
theorem dX10_setRoom_15 : decode cX10_setRoom 15 = .ok (.aload_n 0, 1) := by decide +kernel
theorem dX10_setRoom_16 : decode cX10_setRoom 16 = .ok (.getfield 20, 3) := by decide +kernel
theorem dX10_setRoom_19 : decode cX10_setRoom 19 = .ok (.istore_n 2, 1) := by decide +kernel
theorem dX10_setRoom_20 : decode cX10_setRoom 20 = .ok (.aload_n 0, 1) := by decide +kernel
theorem dX10_setRoom_21 : decode cX10_setRoom 21 = .ok (.iload_n 1, 1) := by decide +kernel
theorem dX10_setRoom_22 : decode cX10_setRoom 22 = .ok (.putfield 20, 3) := by decide +kernel
theorem dX10_setRoom_25 : decode cX10_setRoom 25 = .ok (.aload_n 0, 1) := by decide +kernel
theorem dX10_setRoom_26 : decode cX10_setRoom 26 = .ok (.iload_n 1, 1) := by decide +kernel
theorem dX10_setRoom_27 : decode cX10_setRoom 27 = .ok (.invokevirtual 158, 3) := by decide +kernel
theorem dX10_setRoom_30 : decode cX10_setRoom 30 = .ok (.iload_n 2, 1) := by decide +kernel
theorem dX10_setRoom_31 : decode cX10_setRoom 31 = .ok (.ireturn, 1) := by decide +kernel
theorem dX10_size_0 : decode cX10_size 0 = .ok (.iconst 0, 1) := by decide +kernel
theorem dX10_size_1 : decode cX10_size 1 = .ok (.istore_n 1, 1) := by decide +kernel
theorem dX10_size_2 : decode cX10_size 2 = .ok (.iload_n 0, 1) := by decide +kernel
theorem dX10_size_3 : decode cX10_size 3 = .ok (.istore_n 2, 1) := by decide +kernel
theorem dX10_size_4 : decode cX10_size 4 = .ok (.iload_n 2, 1) := by decide +kernel
theorem dX10_size_5 : decode cX10_size 5 = .ok (.ifCond .eq 15, 3) := by decide +kernel
theorem dX10_size_8 : decode cX10_size 8 = .ok (.iinc 1 1, 3) := by decide +kernel
theorem dX10_size_11 : decode cX10_size 11 = .ok (.iload_n 2, 1) := by decide +kernel
theorem dX10_size_12 : decode cX10_size 12 = .ok (.iload_n 2, 1) := by decide +kernel
theorem dX10_size_13 : decode cX10_size 13 = .ok (.iconst 1, 1) := by decide +kernel
theorem dX10_size_14 : decode cX10_size 14 = .ok (.isub, 1) := by decide +kernel
theorem dX10_size_15 : decode cX10_size 15 = .ok (.iand, 1) := by decide +kernel
theorem dX10_size_16 : decode cX10_size 16 = .ok (.istore_n 2, 1) := by decide +kernel
theorem dX10_size_17 : decode cX10_size 17 = .ok (.goto (-13), 3) := by decide +kernel
theorem dX10_size_20 : decode cX10_size 20 = .ok (.iload_n 1, 1) := by decide +kernel
theorem dX10_size_21 : decode cX10_size 21 = .ok (.ireturn, 1) := by decide +kernel
theorem dX10_sum_0 : decode cX10_sum 0 = .ok (.aload_n 0, 1) := by decide +kernel
theorem dX10_sum_1 : decode cX10_sum 1 = .ok (.iload_n 1, 1) := by decide +kernel
theorem dX10_sum_2 : decode cX10_sum 2 = .ok (.iload_n 2, 1) := by decide +kernel
theorem dX10_sum_3 : decode cX10_sum 3 = .ok (.invokevirtual 178, 3) := by decide +kernel
theorem dX10_sum_6 : decode cX10_sum 6 = .ok (.ifCond .eq 12, 3) := by decide +kernel
theorem dX10_sum_9 : decode cX10_sum 9 = .ok (.iload_n 3, 1) := by decide +kernel
theorem dX10_sum_10 : decode cX10_sum 10 = .ok (.iconst 0, 1) := by decide +kernel
theorem dX10_sum_11 : decode cX10_sum 11 = .ok (.iconst 2, 1) := by decide +kernel
theorem dX10_sum_12 : decode cX10_sum 12 = .ok (.invokestatic 69, 3) := by decide +kernel
theorem dX10_sum_15 : decode cX10_sum 15 = .ok (.ifCond .ne 7, 3) := by decide +kernel
theorem dX10_sum_18 : decode cX10_sum 18 = .ok (.sipush (-1001), 3) := by decide +kernel
theorem dX10_sum_21 : decode cX10_sum 21 = .ok (.ireturn, 1) := by decide +kernel
theorem dX10_sum_22 : decode cX10_sum 22 = .ok (.iload 4, 2) := by decide +kernel
theorem dX10_sum_24 : decode cX10_sum 24 = .ok (.iconst 0, 1) := by decide +kernel
theorem dX10_sum_25 : decode cX10_sum 25 = .ok (.iconst 3, 1) := by decide +kernel
theorem dX10_sum_26 : decode cX10_sum 26 = .ok (.invokestatic 69, 3) := by decide +kernel
theorem dX10_sum_29 : decode cX10_sum 29 = .ok (.ifCond .eq 26, 3) := by decide +kernel
theorem dX10_sum_32 : decode cX10_sum 32 = .ok (.aload_n 0, 1) := by decide +kernel
theorem dX10_sum_33 : decode cX10_sum 33 = .ok (.bipush 96, 2) := by decide +kernel
theorem dX10_sum_35 : decode cX10_sum 35 = .ok (.aload_n 0, 1) := by decide +kernel
theorem dX10_sum_36 : decode cX10_sum 36 = .ok (.iload_n 1, 1) := by decide +kernel
theorem dX10_sum_37 : decode cX10_sum 37 = .ok (.iload_n 2, 1) := by decide +kernel
theorem dX10_sum_38 : decode cX10_sum 38 = .ok (.invokevirtual 181, 3) := by decide +kernel
theorem dX10_sum_41 : decode cX10_sum 41 = .ok (.imul, 1) := by decide +kernel
theorem dX10_sum_42 : decode cX10_sum 42 = .ok (.bipush 32, 2) := by decide +kernel
theorem dX10_sum_44 : decode cX10_sum 44 = .ok (.iload_n 3, 1) := by decide +kernel
theorem dX10_sum_45 : decode cX10_sum 45 = .ok (.imul, 1) := by decide +kernel
theorem dX10_sum_46 : decode cX10_sum 46 = .ok (.iadd, 1) := by decide +kernel
theorem dX10_sum_47 : decode cX10_sum 47 = .ok (.iload 4, 2) := by decide +kernel
theorem dX10_sum_49 : decode cX10_sum 49 = .ok (.invokevirtual 184, 3) := by decide +kernel
theorem dX10_sum_52 : decode cX10_sum 52 = .ok (.goto 6, 3) := by decide +kernel
theorem dX10_sum_55 : decode cX10_sum 55 = .ok (.sipush (-1002), 3) := by decide +kernel
theorem dX10_sum_58 : decode cX10_sum 58 = .ok (.ireturn, 1) := by decide +kernel
theorem dX10_sums_0 : decode cX10_sums 0 = .ok (.sipush 255, 3) := by decide +kernel
theorem dX10_sums_3 : decode cX10_sums 3 = .ok (.istore_n 3, 1) := by decide +kernel
theorem dX10_sums_4 : decode cX10_sums 4 = .ok (.iconst 0, 1) := by decide +kernel
theorem dX10_sums_5 : decode cX10_sums 5 = .ok (.istore 4, 2) := by decide +kernel
theorem dX10_sums_7 : decode cX10_sums 7 = .ok (.iconst 0, 1) := by decide +kernel
theorem dX10_sums_8 : decode cX10_sums 8 = .ok (.istore 5, 2) := by decide +kernel
theorem dX10_sums_10 : decode cX10_sums 10 = .ok (.iconst 0, 1) := by decide +kernel
theorem dX10_sums_11 : decode cX10_sums 11 = .ok (.istore 6, 2) := by decide +kernel
theorem dX10_sums_13 : decode cX10_sums 13 = .ok (.iconst 0, 1) := by decide +kernel
theorem dX10_sums_14 : decode cX10_sums 14 = .ok (.istore 7, 2) := by decide +kernel
theorem dX10_sums_16 : decode cX10_sums 16 = .ok (.iload 7, 2) := by decide +kernel
theorem dX10_sums_18 : decode cX10_sums 18 = .ok (.bipush 32, 2) := by decide +kernel
theorem dX10_sums_20 : decode cX10_sums 20 = .ok (.if_icmp .ge 116, 3) := by decide +kernel
theorem dX10_sums_23 : decode cX10_sums 23 = .ok (.aload_n 0, 1) := by decide +kernel
theorem dX10_sums_24 : decode cX10_sums 24 = .ok (.getfield 33, 3) := by decide +kernel
theorem dX10_sums_27 : decode cX10_sums 27 = .ok (.iload_n 1, 1) := by decide +kernel
theorem dX10_sums_28 : decode cX10_sums 28 = .ok (.iload 7, 2) := by decide +kernel
theorem dX10_sums_30 : decode cX10_sums 30 = .ok (.iadd, 1) := by decide +kernel
theorem dX10_sums_31 : decode cX10_sums 31 = .ok (.iaload, 1) := by decide +kernel
theorem dX10_sums_32 : decode cX10_sums 32 = .ok (.istore 8, 2) := by decide +kernel
theorem dX10_sums_34 : decode cX10_sums 34 = .ok (.iload 8, 2) := by decide +kernel
theorem dX10_sums_36 : decode cX10_sums 36 = .ok (.iload_n 3, 1) := by decide +kernel
theorem dX10_sums_37 : decode cX10_sums 37 = .ok (.if_icmp .ge 8, 3) := by decide +kernel
theorem dX10_sums_40 : decode cX10_sums 40 = .ok (.iload 8, 2) := by decide +kernel
theorem dX10_sums_42 : decode cX10_sums 42 = .ok (.goto 4, 3) := by decide +kernel
theorem dX10_sums_45 : decode cX10_sums 45 = .ok (.iload_n 3, 1) := by decide +kernel
theorem dX10_sums_46 : decode cX10_sums 46 = .ok (.istore_n 3, 1) := by decide +kernel
theorem dX10_sums_47 : decode cX10_sums 47 = .ok (.iload 8, 2) := by decide +kernel
theorem dX10_sums_49 : decode cX10_sums 49 = .ok (.iload 4, 2) := by decide +kernel
theorem dX10_sums_51 : decode cX10_sums 51 = .ok (.if_icmp .le 8, 3) := by decide +kernel
theorem dX10_sums_54 : decode cX10_sums 54 = .ok (.iload 8, 2) := by decide +kernel
theorem dX10_sums_56 : decode cX10_sums 56 = .ok (.goto 5, 3) := by decide +kernel
theorem dX10_sums_59 : decode cX10_sums 59 = .ok (.iload 4, 2) := by decide +kernel
theorem dX10_sums_61 : decode cX10_sums 61 = .ok (.istore 4, 2) := by decide +kernel
theorem dX10_sums_63 : decode cX10_sums 63 = .ok (.iload 5, 2) := by decide +kernel
theorem dX10_sums_65 : decode cX10_sums 65 = .ok (.iload 8, 2) := by decide +kernel
theorem dX10_sums_67 : decode cX10_sums 67 = .ok (.iadd, 1) := by decide +kernel
theorem dX10_sums_68 : decode cX10_sums 68 = .ok (.istore 5, 2) := by decide +kernel
theorem dX10_sums_70 : decode cX10_sums 70 = .ok (.iconst 1, 1) := by decide +kernel
theorem dX10_sums_71 : decode cX10_sums 71 = .ok (.istore 9, 2) := by decide +kernel
theorem dX10_sums_73 : decode cX10_sums 73 = .ok (.iconst 0, 1) := by decide +kernel
theorem dX10_sums_74 : decode cX10_sums 74 = .ok (.istore 10, 2) := by decide +kernel
theorem dX10_sums_76 : decode cX10_sums 76 = .ok (.iload 10, 2) := by decide +kernel
theorem dX10_sums_78 : decode cX10_sums 78 = .ok (.iload 7, 2) := by decide +kernel
theorem dX10_sums_80 : decode cX10_sums 80 = .ok (.if_icmp .ge 35, 3) := by decide +kernel
theorem dX10_sums_83 : decode cX10_sums 83 = .ok (.iload 9, 2) := by decide +kernel
theorem dX10_sums_85 : decode cX10_sums 85 = .ok (.ifCond .eq 21, 3) := by decide +kernel
theorem dX10_sums_88 : decode cX10_sums 88 = .ok (.aload_n 0, 1) := by decide +kernel
theorem dX10_sums_89 : decode cX10_sums 89 = .ok (.getfield 33, 3) := by decide +kernel
theorem dX10_sums_92 : decode cX10_sums 92 = .ok (.iload_n 1, 1) := by decide +kernel
theorem dX10_sums_93 : decode cX10_sums 93 = .ok (.iload 10, 2) := by decide +kernel
theorem dX10_sums_95 : decode cX10_sums 95 = .ok (.iadd, 1) := by decide +kernel
theorem dX10_sums_96 : decode cX10_sums 96 = .ok (.iaload, 1) := by decide +kernel
theorem dX10_sums_97 : decode cX10_sums 97 = .ok (.iload 8, 2) := by decide +kernel
theorem dX10_sums_99 : decode cX10_sums 99 = .ok (.if_icmp .eq 7, 3) := by decide +kernel
theorem dX10_sums_102 : decode cX10_sums 102 = .ok (.iconst 1, 1) := by decide +kernel
theorem dX10_sums_103 : decode cX10_sums 103 = .ok (.goto 4, 3) := by decide +kernel
theorem dX10_sums_106 : decode cX10_sums 106 = .ok (.iconst 0, 1) := by decide +kernel
theorem dX10_sums_107 : decode cX10_sums 107 = .ok (.istore 9, 2) := by decide +kernel
theorem dX10_sums_109 : decode cX10_sums 109 = .ok (.iinc 10 1, 3) := by decide +kernel
theorem dX10_sums_112 : decode cX10_sums 112 = .ok (.goto (-36), 3) := by decide +kernel
theorem dX10_sums_115 : decode cX10_sums 115 = .ok (.iload 6, 2) := by decide +kernel
theorem dX10_sums_117 : decode cX10_sums 117 = .ok (.iload 9, 2) := by decide +kernel
theorem dX10_sums_119 : decode cX10_sums 119 = .ok (.ifCond .eq 7, 3) := by decide +kernel
theorem dX10_sums_122 : decode cX10_sums 122 = .ok (.iconst 1, 1) := by decide +kernel
theorem dX10_sums_123 : decode cX10_sums 123 = .ok (.goto 4, 3) := by decide +kernel
theorem dX10_sums_126 : decode cX10_sums 126 = .ok (.iconst 0, 1) := by decide +kernel
theorem dX10_sums_127 : decode cX10_sums 127 = .ok (.iadd, 1) := by decide +kernel
theorem dX10_sums_128 : decode cX10_sums 128 = .ok (.istore 6, 2) := by decide +kernel
theorem dX10_sums_130 : decode cX10_sums 130 = .ok (.iinc 7 1, 3) := by decide +kernel
theorem dX10_sums_133 : decode cX10_sums 133 = .ok (.goto (-117), 3) := by decide +kernel
theorem dX10_sums_136 : decode cX10_sums 136 = .ok (.iload_n 2, 1) := by decide +kernel
theorem dX10_sums_137 : decode cX10_sums 137 = .ok (.ifCond .ne 7, 3) := by decide +kernel
theorem dX10_sums_140 : decode cX10_sums 140 = .ok (.iload_n 3, 1) := by decide +kernel
theorem dX10_sums_141 : decode cX10_sums 141 = .ok (.goto 25, 3) := by decide +kernel
theorem dX10_sums_144 : decode cX10_sums 144 = .ok (.iload_n 2, 1) := by decide +kernel
theorem dX10_sums_145 : decode cX10_sums 145 = .ok (.iconst 1, 1) := by decide +kernel
theorem dX10_sums_146 : decode cX10_sums 146 = .ok (.if_icmp .ne 8, 3) := by decide +kernel
theorem dX10_sums_149 : decode cX10_sums 149 = .ok (.iload 4, 2) := by decide +kernel
theorem dX10_sums_151 : decode cX10_sums 151 = .ok (.goto 15, 3) := by decide +kernel
theorem dX10_sums_154 : decode cX10_sums 154 = .ok (.iload_n 2, 1) := by decide +kernel
theorem dX10_sums_155 : decode cX10_sums 155 = .ok (.iconst 2, 1) := by decide +kernel
theorem dX10_sums_156 : decode cX10_sums 156 = .ok (.if_icmp .ne 8, 3) := by decide +kernel
theorem dX10_sums_159 : decode cX10_sums 159 = .ok (.iload 5, 2) := by decide +kernel
theorem dX10_sums_161 : decode cX10_sums 161 = .ok (.goto 5, 3) := by decide +kernel
theorem dX10_sums_164 : decode cX10_sums 164 = .ok (.iload 6, 2) := by decide +kernel
theorem dX10_sums_166 : decode cX10_sums 166 = .ok (.ireturn, 1) := by decide +kernel
theorem dX10_takes_0 : decode cX10_takes 0 = .ok (.aload_n 0, 1) := by decide +kernel
theorem dX10_takes_1 : decode cX10_takes 1 = .ok (.invokevirtual 196, 3) := by decide +kernel
theorem dX10_takes_4 : decode cX10_takes 4 = .ok (.iload_n 1, 1) := by decide +kernel
theorem dX10_takes_5 : decode cX10_takes 5 = .ok (.if_icmp .ne 7, 3) := by decide +kernel
theorem dX10_takes_8 : decode cX10_takes 8 = .ok (.iconst 1, 1) := by decide +kernel
theorem dX10_takes_9 : decode cX10_takes 9 = .ok (.goto 4, 3) := by decide +kernel
theorem dX10_takes_12 : decode cX10_takes 12 = .ok (.iconst 0, 1) := by decide +kernel
theorem dX10_takes_13 : decode cX10_takes 13 = .ok (.istore_n 2, 1) := by decide +kernel
theorem dX10_takes_14 : decode cX10_takes 14 = .ok (.aload_n 0, 1) := by decide +kernel
theorem dX10_takes_15 : decode cX10_takes 15 = .ok (.dup, 1) := by decide +kernel
theorem dX10_takes_16 : decode cX10_takes 16 = .ok (.getfield 193, 3) := by decide +kernel
theorem dX10_takes_19 : decode cX10_takes 19 = .ok (.iload_n 2, 1) := by decide +kernel
theorem dX10_takes_20 : decode cX10_takes 20 = .ok (.ifCond .eq 7, 3) := by decide +kernel
theorem dX10_takes_23 : decode cX10_takes 23 = .ok (.iconst 1, 1) := by decide +kernel
theorem dX10_takes_24 : decode cX10_takes 24 = .ok (.goto 4, 3) := by decide +kernel
theorem dX10_takes_27 : decode cX10_takes 27 = .ok (.iconst 0, 1) := by decide +kernel
theorem dX10_takes_28 : decode cX10_takes 28 = .ok (.iadd, 1) := by decide +kernel
theorem dX10_takes_29 : decode cX10_takes 29 = .ok (.putfield 193, 3) := by decide +kernel
theorem dX10_takes_32 : decode cX10_takes 32 = .ok (.iload_n 2, 1) := by decide +kernel
theorem dX10_takes_33 : decode cX10_takes 33 = .ok (.ireturn, 1) := by decide +kernel
theorem dX10_tells_0 : decode cX10_tells 0 = .ok (.bipush 8, 2) := by decide +kernel
theorem dX10_tells_2 : decode cX10_tells 2 = .ok (.aload_n 0, 1) := by decide +kernel
theorem dX10_tells_3 : decode cX10_tells 3 = .ok (.getfield 206, 3) := by decide +kernel
theorem dX10_tells_6 : decode cX10_tells 6 = .ok (.imul, 1) := by decide +kernel
theorem dX10_tells_7 : decode cX10_tells 7 = .ok (.istore_n 2, 1) := by decide +kernel
theorem dX10_tells_8 : decode cX10_tells 8 = .ok (.aload_n 0, 1) := by decide +kernel
theorem dX10_tells_9 : decode cX10_tells 9 = .ok (.getfield 63, 3) := by decide +kernel
theorem dX10_tells_12 : decode cX10_tells 12 = .ok (.iload_n 2, 1) := by decide +kernel
theorem dX10_tells_13 : decode cX10_tells 13 = .ok (.iload_n 1, 1) := by decide +kernel
theorem dX10_tells_14 : decode cX10_tells 14 = .ok (.iastore, 1) := by decide +kernel
theorem dX10_tells_15 : decode cX10_tells 15 = .ok (.iconst 0, 1) := by decide +kernel
theorem dX10_tells_16 : decode cX10_tells 16 = .ok (.istore_n 3, 1) := by decide +kernel
theorem dX10_tells_17 : decode cX10_tells 17 = .ok (.iload_n 3, 1) := by decide +kernel
theorem dX10_tells_18 : decode cX10_tells 18 = .ok (.iconst 3, 1) := by decide +kernel
theorem dX10_tells_19 : decode cX10_tells 19 = .ok (.if_icmp .ge 22, 3) := by decide +kernel
theorem dX10_tells_22 : decode cX10_tells 22 = .ok (.aload_n 0, 1) := by decide +kernel
theorem dX10_tells_23 : decode cX10_tells 23 = .ok (.getfield 63, 3) := by decide +kernel
theorem dX10_tells_26 : decode cX10_tells 26 = .ok (.iload_n 2, 1) := by decide +kernel
theorem dX10_tells_27 : decode cX10_tells 27 = .ok (.iconst 1, 1) := by decide +kernel
theorem dX10_tells_28 : decode cX10_tells 28 = .ok (.iadd, 1) := by decide +kernel
theorem dX10_tells_29 : decode cX10_tells 29 = .ok (.iload_n 3, 1) := by decide +kernel
theorem dX10_tells_30 : decode cX10_tells 30 = .ok (.iadd, 1) := by decide +kernel
theorem dX10_tells_31 : decode cX10_tells 31 = .ok (.sipush (-1005), 3) := by decide +kernel
theorem dX10_tells_34 : decode cX10_tells 34 = .ok (.iastore, 1) := by decide +kernel
theorem dX10_tells_35 : decode cX10_tells 35 = .ok (.iinc 3 1, 3) := by decide +kernel
theorem dX10_tells_38 : decode cX10_tells 38 = .ok (.goto (-21), 3) := by decide +kernel
theorem dX10_tells_41 : decode cX10_tells 41 = .ok (.iconst 0, 1) := by decide +kernel
theorem dX10_tells_42 : decode cX10_tells 42 = .ok (.istore_n 3, 1) := by decide +kernel
theorem dX10_tells_43 : decode cX10_tells 43 = .ok (.iload_n 3, 1) := by decide +kernel
theorem dX10_tells_44 : decode cX10_tells 44 = .ok (.iconst 4, 1) := by decide +kernel
theorem dX10_tells_45 : decode cX10_tells 45 = .ok (.if_icmp .ge 24, 3) := by decide +kernel
theorem dX10_tells_48 : decode cX10_tells 48 = .ok (.aload_n 0, 1) := by decide +kernel
theorem dX10_tells_49 : decode cX10_tells 49 = .ok (.getfield 63, 3) := by decide +kernel
theorem dX10_tells_52 : decode cX10_tells 52 = .ok (.iload_n 2, 1) := by decide +kernel
theorem dX10_tells_53 : decode cX10_tells 53 = .ok (.iconst 4, 1) := by decide +kernel
theorem dX10_tells_54 : decode cX10_tells 54 = .ok (.iadd, 1) := by decide +kernel
theorem dX10_tells_55 : decode cX10_tells 55 = .ok (.iload_n 3, 1) := by decide +kernel
theorem dX10_tells_56 : decode cX10_tells 56 = .ok (.iadd, 1) := by decide +kernel
theorem dX10_tells_57 : decode cX10_tells 57 = .ok (.iload_n 1, 1) := by decide +kernel
theorem dX10_tells_58 : decode cX10_tells 58 = .ok (.iload_n 3, 1) := by decide +kernel
theorem dX10_tells_59 : decode cX10_tells 59 = .ok (.invokestatic 88, 3) := by decide +kernel
theorem dX10_tells_62 : decode cX10_tells 62 = .ok (.iastore, 1) := by decide +kernel
theorem dX10_tells_63 : decode cX10_tells 63 = .ok (.iinc 3 1, 3) := by decide +kernel
theorem dX10_tells_66 : decode cX10_tells 66 = .ok (.goto (-23), 3) := by decide +kernel
theorem dX10_tells_69 : decode cX10_tells 69 = .ok (.aload_n 0, 1) := by decide +kernel
theorem dX10_tells_70 : decode cX10_tells 70 = .ok (.getfield 42, 3) := by decide +kernel
theorem dX10_tells_73 : decode cX10_tells 73 = .ok (.iload_n 1, 1) := by decide +kernel
theorem dX10_tells_74 : decode cX10_tells 74 = .ok (.iaload, 1) := by decide +kernel
theorem dX10_tells_75 : decode cX10_tells 75 = .ok (.istore_n 3, 1) := by decide +kernel
theorem dX10_tells_76 : decode cX10_tells 76 = .ok (.iconst 0, 1) := by decide +kernel
theorem dX10_tells_77 : decode cX10_tells 77 = .ok (.istore 4, 2) := by decide +kernel
theorem dX10_tells_79 : decode cX10_tells 79 = .ok (.iload 4, 2) := by decide +kernel
theorem dX10_tells_81 : decode cX10_tells 81 = .ok (.iload_n 3, 1) := by decide +kernel
theorem dX10_tells_82 : decode cX10_tells 82 = .ok (.if_icmp .ge 34, 3) := by decide +kernel
theorem dX10_tells_85 : decode cX10_tells 85 = .ok (.aload_n 0, 1) := by decide +kernel
theorem dX10_tells_86 : decode cX10_tells 86 = .ok (.getfield 63, 3) := by decide +kernel
theorem dX10_tells_89 : decode cX10_tells 89 = .ok (.iload_n 2, 1) := by decide +kernel
theorem dX10_tells_90 : decode cX10_tells 90 = .ok (.iconst 1, 1) := by decide +kernel
theorem dX10_tells_91 : decode cX10_tells 91 = .ok (.iadd, 1) := by decide +kernel
theorem dX10_tells_92 : decode cX10_tells 92 = .ok (.iload 4, 2) := by decide +kernel
theorem dX10_tells_94 : decode cX10_tells 94 = .ok (.iadd, 1) := by decide +kernel
theorem dX10_tells_95 : decode cX10_tells 95 = .ok (.aload_n 0, 1) := by decide +kernel
theorem dX10_tells_96 : decode cX10_tells 96 = .ok (.getfield 66, 3) := by decide +kernel
theorem dX10_tells_99 : decode cX10_tells 99 = .ok (.aload_n 0, 1) := by decide +kernel
theorem dX10_tells_100 : decode cX10_tells 100 = .ok (.getfield 209, 3) := by decide +kernel
theorem dX10_tells_103 : decode cX10_tells 103 = .ok (.iload_n 3, 1) := by decide +kernel
theorem dX10_tells_104 : decode cX10_tells 104 = .ok (.isub, 1) := by decide +kernel
theorem dX10_tells_105 : decode cX10_tells 105 = .ok (.iload 4, 2) := by decide +kernel
theorem dX10_tells_107 : decode cX10_tells 107 = .ok (.iadd, 1) := by decide +kernel
theorem dX10_tells_108 : decode cX10_tells 108 = .ok (.iaload, 1) := by decide +kernel
theorem dX10_tells_109 : decode cX10_tells 109 = .ok (.iastore, 1) := by decide +kernel
theorem dX10_tells_110 : decode cX10_tells 110 = .ok (.iinc 4 1, 3) := by decide +kernel
theorem dX10_tells_113 : decode cX10_tells 113 = .ok (.goto (-34), 3) := by decide +kernel
theorem dX10_tells_116 : decode cX10_tells 116 = .ok (.aload_n 0, 1) := by decide +kernel
theorem dX10_tells_117 : decode cX10_tells 117 = .ok (.dup, 1) := by decide +kernel
theorem dX10_tells_118 : decode cX10_tells 118 = .ok (.getfield 209, 3) := by decide +kernel
theorem dX10_tells_121 : decode cX10_tells 121 = .ok (.iload_n 3, 1) := by decide +kernel
theorem dX10_tells_122 : decode cX10_tells 122 = .ok (.isub, 1) := by decide +kernel
theorem dX10_tells_123 : decode cX10_tells 123 = .ok (.putfield 209, 3) := by decide +kernel
theorem dX10_tells_126 : decode cX10_tells 126 = .ok (.aload_n 0, 1) := by decide +kernel
theorem dX10_tells_127 : decode cX10_tells 127 = .ok (.getfield 66, 3) := by decide +kernel
theorem dX10_tells_130 : decode cX10_tells 130 = .ok (.aload_n 0, 1) := by decide +kernel
theorem dX10_tells_131 : decode cX10_tells 131 = .ok (.getfield 209, 3) := by decide +kernel
theorem dX10_tells_134 : decode cX10_tells 134 = .ok (.bipush 100, 2) := by decide +kernel
theorem dX10_tells_136 : decode cX10_tells 136 = .ok (.aload_n 0, 1) := by decide +kernel
theorem dX10_tells_137 : decode cX10_tells 137 = .ok (.getfield 206, 3) := by decide +kernel
theorem dX10_tells_140 : decode cX10_tells 140 = .ok (.iadd, 1) := by decide +kernel
theorem dX10_tells_141 : decode cX10_tells 141 = .ok (.iastore, 1) := by decide +kernel
theorem dX10_tells_142 : decode cX10_tells 142 = .ok (.aload_n 0, 1) := by decide +kernel
theorem dX10_tells_143 : decode cX10_tells 143 = .ok (.dup, 1) := by decide +kernel
theorem dX10_tells_144 : decode cX10_tells 144 = .ok (.getfield 209, 3) := by decide +kernel
theorem dX10_tells_147 : decode cX10_tells 147 = .ok (.iconst 1, 1) := by decide +kernel
theorem dX10_tells_148 : decode cX10_tells 148 = .ok (.iadd, 1) := by decide +kernel
theorem dX10_tells_149 : decode cX10_tells 149 = .ok (.putfield 209, 3) := by decide +kernel
theorem dX10_tells_152 : decode cX10_tells 152 = .ok (.aload_n 0, 1) := by decide +kernel
theorem dX10_tells_153 : decode cX10_tells 153 = .ok (.dup, 1) := by decide +kernel
theorem dX10_tells_154 : decode cX10_tells 154 = .ok (.getfield 206, 3) := by decide +kernel
theorem dX10_tells_157 : decode cX10_tells 157 = .ok (.iconst 1, 1) := by decide +kernel
theorem dX10_tells_158 : decode cX10_tells 158 = .ok (.iadd, 1) := by decide +kernel
theorem dX10_tells_159 : decode cX10_tells 159 = .ok (.putfield 206, 3) := by decide +kernel
theorem dX10_tells_162 : decode cX10_tells 162 = .ok (.return_, 1) := by decide +kernel
theorem dX10_uses_0 : decode cX10_uses 0 = .ok (.aload_n 0, 1) := by decide +kernel
theorem dX10_uses_1 : decode cX10_uses 1 = .ok (.dup, 1) := by decide +kernel
theorem dX10_uses_2 : decode cX10_uses 2 = .ok (.getfield 133, 3) := by decide +kernel
theorem dX10_uses_5 : decode cX10_uses 5 = .ok (.iconst 1, 1) := by decide +kernel
theorem dX10_uses_6 : decode cX10_uses 6 = .ok (.iadd, 1) := by decide +kernel
theorem dX10_uses_7 : decode cX10_uses 7 = .ok (.putfield 133, 3) := by decide +kernel
theorem dX10_uses_10 : decode cX10_uses 10 = .ok (.aload_n 0, 1) := by decide +kernel
theorem dX10_uses_11 : decode cX10_uses 11 = .ok (.getfield 30, 3) := by decide +kernel
theorem dX10_uses_14 : decode cX10_uses 14 = .ok (.iload_n 1, 1) := by decide +kernel
theorem dX10_uses_15 : decode cX10_uses 15 = .ok (.aload_n 0, 1) := by decide +kernel
theorem dX10_uses_16 : decode cX10_uses 16 = .ok (.getfield 133, 3) := by decide +kernel
theorem dX10_uses_19 : decode cX10_uses 19 = .ok (.iastore, 1) := by decide +kernel
theorem dX10_uses_20 : decode cX10_uses 20 = .ok (.return_, 1) := by decide +kernel
theorem dX10_value_0 : decode cX10_value 0 = .ok (.aload_n 0, 1) := by decide +kernel
theorem dX10_value_1 : decode cX10_value 1 = .ok (.iload_n 1, 1) := by decide +kernel
theorem dX10_value_2 : decode cX10_value 2 = .ok (.iload_n 2, 1) := by decide +kernel
theorem dX10_value_3 : decode cX10_value 3 = .ok (.invokevirtual 178, 3) := by decide +kernel
theorem dX10_value_6 : decode cX10_value 6 = .ok (.ifCond .eq 33, 3) := by decide +kernel
theorem dX10_value_9 : decode cX10_value 9 = .ok (.iload_n 3, 1) := by decide +kernel
theorem dX10_value_10 : decode cX10_value 10 = .ok (.iconst 0, 1) := by decide +kernel
theorem dX10_value_11 : decode cX10_value 11 = .ok (.bipush 7, 2) := by decide +kernel
theorem dX10_value_13 : decode cX10_value 13 = .ok (.invokestatic 69, 3) := by decide +kernel
theorem dX10_value_16 : decode cX10_value 16 = .ok (.ifCond .eq 23, 3) := by decide +kernel
theorem dX10_value_19 : decode cX10_value 19 = .ok (.iload 4, 2) := by decide +kernel
theorem dX10_value_21 : decode cX10_value 21 = .ok (.iconst 0, 1) := by decide +kernel
theorem dX10_value_22 : decode cX10_value 22 = .ok (.iconst 3, 1) := by decide +kernel
theorem dX10_value_23 : decode cX10_value 23 = .ok (.invokestatic 69, 3) := by decide +kernel
theorem dX10_value_26 : decode cX10_value 26 = .ok (.ifCond .eq 13, 3) := by decide +kernel
theorem dX10_value_29 : decode cX10_value 29 = .ok (.iload 5, 2) := by decide +kernel
theorem dX10_value_31 : decode cX10_value 31 = .ok (.iconst 0, 1) := by decide +kernel
theorem dX10_value_32 : decode cX10_value 32 = .ok (.iconst 2, 1) := by decide +kernel
theorem dX10_value_33 : decode cX10_value 33 = .ok (.invokestatic 69, 3) := by decide +kernel
theorem dX10_value_36 : decode cX10_value 36 = .ok (.ifCond .ne 7, 3) := by decide +kernel
theorem dX10_value_39 : decode cX10_value 39 = .ok (.sipush (-1001), 3) := by decide +kernel
theorem dX10_value_42 : decode cX10_value 42 = .ok (.ireturn, 1) := by decide +kernel
theorem dX10_value_43 : decode cX10_value 43 = .ok (.aload_n 0, 1) := by decide +kernel
theorem dX10_value_44 : decode cX10_value 44 = .ok (.getfield 33, 3) := by decide +kernel
theorem dX10_value_47 : decode cX10_value 47 = .ok (.bipush 96, 2) := by decide +kernel
theorem dX10_value_49 : decode cX10_value 49 = .ok (.aload_n 0, 1) := by decide +kernel
theorem dX10_value_50 : decode cX10_value 50 = .ok (.iload_n 1, 1) := by decide +kernel
theorem dX10_value_51 : decode cX10_value 51 = .ok (.iload_n 2, 1) := by decide +kernel
theorem dX10_value_52 : decode cX10_value 52 = .ok (.invokevirtual 181, 3) := by decide +kernel
theorem dX10_value_55 : decode cX10_value 55 = .ok (.imul, 1) := by decide +kernel
theorem dX10_value_56 : decode cX10_value 56 = .ok (.bipush 32, 2) := by decide +kernel
theorem dX10_value_58 : decode cX10_value 58 = .ok (.iload 5, 2) := by decide +kernel
theorem dX10_value_60 : decode cX10_value 60 = .ok (.imul, 1) := by decide +kernel
theorem dX10_value_61 : decode cX10_value 61 = .ok (.iadd, 1) := by decide +kernel
theorem dX10_value_62 : decode cX10_value 62 = .ok (.bipush 8, 2) := by decide +kernel
theorem dX10_value_64 : decode cX10_value 64 = .ok (.iload 4, 2) := by decide +kernel
theorem dX10_value_66 : decode cX10_value 66 = .ok (.imul, 1) := by decide +kernel
theorem dX10_value_67 : decode cX10_value 67 = .ok (.iadd, 1) := by decide +kernel
theorem dX10_value_68 : decode cX10_value 68 = .ok (.iload_n 3, 1) := by decide +kernel
theorem dX10_value_69 : decode cX10_value 69 = .ok (.iadd, 1) := by decide +kernel
theorem dX10_value_70 : decode cX10_value 70 = .ok (.iaload, 1) := by decide +kernel
theorem dX10_value_71 : decode cX10_value 71 = .ok (.ireturn, 1) := by decide +kernel
theorem dX10_voids_0 : decode cX10_voids 0 = .ok (.aload_n 0, 1) := by decide +kernel
theorem dX10_voids_1 : decode cX10_voids 1 = .ok (.iload_n 1, 1) := by decide +kernel
theorem dX10_voids_2 : decode cX10_voids 2 = .ok (.invokevirtual 94, 3) := by decide +kernel
theorem dX10_voids_5 : decode cX10_voids 5 = .ok (.istore 6, 2) := by decide +kernel
theorem dX10_voids_7 : decode cX10_voids 7 = .ok (.iconst 0, 1) := by decide +kernel
theorem dX10_voids_8 : decode cX10_voids 8 = .ok (.istore 7, 2) := by decide +kernel
theorem dX10_voids_10 : decode cX10_voids 10 = .ok (.aload_n 0, 1) := by decide +kernel
theorem dX10_voids_11 : decode cX10_voids 11 = .ok (.getfield 85, 3) := by decide +kernel
theorem dX10_voids_14 : decode cX10_voids 14 = .ok (.iconst 1, 1) := by decide +kernel
theorem dX10_voids_15 : decode cX10_voids 15 = .ok (.isub, 1) := by decide +kernel
theorem dX10_voids_16 : decode cX10_voids 16 = .ok (.istore 8, 2) := by decide +kernel
theorem dX10_voids_18 : decode cX10_voids 18 = .ok (.iload 8, 2) := by decide +kernel
theorem dX10_voids_20 : decode cX10_voids 20 = .ok (.ifCond .lt 65, 3) := by decide +kernel
theorem dX10_voids_23 : decode cX10_voids 23 = .ok (.aload_n 0, 1) := by decide +kernel
theorem dX10_voids_24 : decode cX10_voids 24 = .ok (.getfield 27, 3) := by decide +kernel
theorem dX10_voids_27 : decode cX10_voids 27 = .ok (.iload 8, 2) := by decide +kernel
theorem dX10_voids_29 : decode cX10_voids 29 = .ok (.iaload, 1) := by decide +kernel
theorem dX10_voids_30 : decode cX10_voids 30 = .ok (.istore 9, 2) := by decide +kernel
theorem dX10_voids_32 : decode cX10_voids 32 = .ok (.iload 6, 2) := by decide +kernel
theorem dX10_voids_34 : decode cX10_voids 34 = .ok (.aload_n 0, 1) := by decide +kernel
theorem dX10_voids_35 : decode cX10_voids 35 = .ok (.getfield 24, 3) := by decide +kernel
theorem dX10_voids_38 : decode cX10_voids 38 = .ok (.iload 8, 2) := by decide +kernel
theorem dX10_voids_40 : decode cX10_voids 40 = .ok (.iaload, 1) := by decide +kernel
theorem dX10_voids_41 : decode cX10_voids 41 = .ok (.ishr, 1) := by decide +kernel
theorem dX10_voids_42 : decode cX10_voids 42 = .ok (.iconst 1, 1) := by decide +kernel
theorem dX10_voids_43 : decode cX10_voids 43 = .ok (.iand, 1) := by decide +kernel
theorem dX10_voids_44 : decode cX10_voids 44 = .ok (.iconst 1, 1) := by decide +kernel
theorem dX10_voids_45 : decode cX10_voids 45 = .ok (.if_icmp .ne 34, 3) := by decide +kernel
theorem dX10_voids_48 : decode cX10_voids 48 = .ok (.iload 9, 2) := by decide +kernel
theorem dX10_voids_50 : decode cX10_voids 50 = .ok (.iload_n 2, 1) := by decide +kernel
theorem dX10_voids_51 : decode cX10_voids 51 = .ok (.iload_n 3, 1) := by decide +kernel
theorem dX10_voids_52 : decode cX10_voids 52 = .ok (.invokestatic 69, 3) := by decide +kernel
theorem dX10_voids_55 : decode cX10_voids 55 = .ok (.ifCond .eq 24, 3) := by decide +kernel
theorem dX10_voids_58 : decode cX10_voids 58 = .ok (.iload 9, 2) := by decide +kernel
theorem dX10_voids_60 : decode cX10_voids 60 = .ok (.iload 4, 2) := by decide +kernel
theorem dX10_voids_62 : decode cX10_voids 62 = .ok (.iload 5, 2) := by decide +kernel
theorem dX10_voids_64 : decode cX10_voids 64 = .ok (.invokestatic 69, 3) := by decide +kernel
theorem dX10_voids_67 : decode cX10_voids 67 = .ok (.ifCond .ne 12, 3) := by decide +kernel
theorem dX10_voids_70 : decode cX10_voids 70 = .ok (.aload_n 0, 1) := by decide +kernel
theorem dX10_voids_71 : decode cX10_voids 71 = .ok (.iload 8, 2) := by decide +kernel
theorem dX10_voids_73 : decode cX10_voids 73 = .ok (.invokevirtual 97, 3) := by decide +kernel
theorem dX10_voids_76 : decode cX10_voids 76 = .ok (.iinc 7 1, 3) := by decide +kernel
theorem dX10_voids_79 : decode cX10_voids 79 = .ok (.iinc 8 (-1), 3) := by decide +kernel
theorem dX10_voids_82 : decode cX10_voids 82 = .ok (.goto (-64), 3) := by decide +kernel
theorem dX10_voids_85 : decode cX10_voids 85 = .ok (.aload_n 0, 1) := by decide +kernel
theorem dX10_voids_86 : decode cX10_voids 86 = .ok (.getfield 36, 3) := by decide +kernel
theorem dX10_voids_89 : decode cX10_voids 89 = .ok (.iconst 4, 1) := by decide +kernel
theorem dX10_voids_90 : decode cX10_voids 90 = .ok (.dup2, 1) := by decide +kernel
theorem dX10_voids_91 : decode cX10_voids 91 = .ok (.iaload, 1) := by decide +kernel
theorem dX10_voids_92 : decode cX10_voids 92 = .ok (.iload 7, 2) := by decide +kernel
theorem dX10_voids_94 : decode cX10_voids 94 = .ok (.iadd, 1) := by decide +kernel
theorem dX10_voids_95 : decode cX10_voids 95 = .ok (.iastore, 1) := by decide +kernel
theorem dX10_voids_96 : decode cX10_voids 96 = .ok (.iload 7, 2) := by decide +kernel
theorem dX10_voids_98 : decode cX10_voids 98 = .ok (.ireturn, 1) := by decide +kernel
