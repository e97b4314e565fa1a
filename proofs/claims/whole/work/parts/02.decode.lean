theorem dX0_init_0 : decode cX0_init 0 = .ok (.aload_n 0, 1) := by decide +kernel
theorem dX0_init_1 : decode cX0_init 1 = .ok (.invokespecial 3, 3) := by decide +kernel
theorem dX0_init_4 : decode cX0_init 4 = .ok (.aload_n 0, 1) := by decide +kernel
theorem dX0_init_5 : decode cX0_init 5 = .ok (.bipush 8, 2) := by decide +kernel
theorem dX0_init_7 : decode cX0_init 7 = .ok (.bipush 12, 2) := by decide +kernel
theorem dX0_init_9 : decode cX0_init 9 = .ok (.multianewarray 9 2, 4) := by decide +kernel
theorem dX0_init_13 : decode cX0_init 13 = .ok (.putfield 11, 3) := by decide +kernel
theorem dX0_init_16 : decode cX0_init 16 = .ok (.aload_n 0, 1) := by decide +kernel
theorem dX0_init_17 : decode cX0_init 17 = .ok (.iconst 4, 1) := by decide +kernel
theorem dX0_init_18 : decode cX0_init 18 = .ok (.newarray .int, 2) := by decide +kernel
theorem dX0_init_20 : decode cX0_init 20 = .ok (.putfield 16, 3) := by decide +kernel
theorem dX0_init_23 : decode cX0_init 23 = .ok (.aload_n 0, 1) := by decide +kernel
theorem dX0_init_24 : decode cX0_init 24 = .ok (.iconst 4, 1) := by decide +kernel
theorem dX0_init_25 : decode cX0_init 25 = .ok (.newarray .int, 2) := by decide +kernel
theorem dX0_init_27 : decode cX0_init 27 = .ok (.putfield 20, 3) := by decide +kernel
theorem dX0_init_30 : decode cX0_init 30 = .ok (.aload_n 0, 1) := by decide +kernel
theorem dX0_init_31 : decode cX0_init 31 = .ok (.iconst 4, 1) := by decide +kernel
theorem dX0_init_32 : decode cX0_init 32 = .ok (.newarray .int, 2) := by decide +kernel
theorem dX0_init_34 : decode cX0_init 34 = .ok (.putfield 23, 3) := by decide +kernel
theorem dX0_init_37 : decode cX0_init 37 = .ok (.aload_n 0, 1) := by decide +kernel
theorem dX0_init_38 : decode cX0_init 38 = .ok (.iconst 4, 1) := by decide +kernel
theorem dX0_init_39 : decode cX0_init 39 = .ok (.newarray .int, 2) := by decide +kernel
theorem dX0_init_41 : decode cX0_init 41 = .ok (.dup, 1) := by decide +kernel
theorem dX0_init_42 : decode cX0_init 42 = .ok (.iconst 0, 1) := by decide +kernel
theorem dX0_init_43 : decode cX0_init 43 = .ok (.bipush 6, 2) := by decide +kernel
theorem dX0_init_45 : decode cX0_init 45 = .ok (.iastore, 1) := by decide +kernel
theorem dX0_init_46 : decode cX0_init 46 = .ok (.dup, 1) := by decide +kernel
theorem dX0_init_47 : decode cX0_init 47 = .ok (.iconst 1, 1) := by decide +kernel
theorem dX0_init_48 : decode cX0_init 48 = .ok (.bipush 6, 2) := by decide +kernel
theorem dX0_init_50 : decode cX0_init 50 = .ok (.iastore, 1) := by decide +kernel
theorem dX0_init_51 : decode cX0_init 51 = .ok (.dup, 1) := by decide +kernel
theorem dX0_init_52 : decode cX0_init 52 = .ok (.iconst 2, 1) := by decide +kernel
theorem dX0_init_53 : decode cX0_init 53 = .ok (.bipush 6, 2) := by decide +kernel
theorem dX0_init_55 : decode cX0_init 55 = .ok (.iastore, 1) := by decide +kernel
theorem dX0_init_56 : decode cX0_init 56 = .ok (.dup, 1) := by decide +kernel
theorem dX0_init_57 : decode cX0_init 57 = .ok (.iconst 3, 1) := by decide +kernel
theorem dX0_init_58 : decode cX0_init 58 = .ok (.bipush 6, 2) := by decide +kernel
theorem dX0_init_60 : decode cX0_init 60 = .ok (.iastore, 1) := by decide +kernel
theorem dX0_init_61 : decode cX0_init 61 = .ok (.putfield 26, 3) := by decide +kernel
theorem dX0_init_64 : decode cX0_init 64 = .ok (.aload_n 0, 1) := by decide +kernel
theorem dX0_init_65 : decode cX0_init 65 = .ok (.iconst 3, 1) := by decide +kernel
theorem dX0_init_66 : decode cX0_init 66 = .ok (.newarray .int, 2) := by decide +kernel
theorem dX0_init_68 : decode cX0_init 68 = .ok (.dup, 1) := by decide +kernel
theorem dX0_init_69 : decode cX0_init 69 = .ok (.iconst 0, 1) := by decide +kernel
theorem dX0_init_70 : decode cX0_init 70 = .ok (.iconst 2, 1) := by decide +kernel
theorem dX0_init_71 : decode cX0_init 71 = .ok (.iastore, 1) := by decide +kernel
theorem dX0_init_72 : decode cX0_init 72 = .ok (.dup, 1) := by decide +kernel
theorem dX0_init_73 : decode cX0_init 73 = .ok (.iconst 1, 1) := by decide +kernel
theorem dX0_init_74 : decode cX0_init 74 = .ok (.bipush 60, 2) := by decide +kernel
theorem dX0_init_76 : decode cX0_init 76 = .ok (.iastore, 1) := by decide +kernel
theorem dX0_init_77 : decode cX0_init 77 = .ok (.dup, 1) := by decide +kernel
theorem dX0_init_78 : decode cX0_init 78 = .ok (.iconst 2, 1) := by decide +kernel
theorem dX0_init_79 : decode cX0_init 79 = .ok (.sipush 999, 3) := by decide +kernel
theorem dX0_init_82 : decode cX0_init 82 = .ok (.iastore, 1) := by decide +kernel
theorem dX0_init_83 : decode cX0_init 83 = .ok (.putfield 29, 3) := by decide +kernel
theorem dX0_init_86 : decode cX0_init 86 = .ok (.aload_n 0, 1) := by decide +kernel
theorem dX0_init_87 : decode cX0_init 87 = .ok (.iconst 1, 1) := by decide +kernel
theorem dX0_init_88 : decode cX0_init 88 = .ok (.putfield 32, 3) := by decide +kernel
theorem dX0_init_91 : decode cX0_init 91 = .ok (.return_, 1) := by decide +kernel
theorem dX0_become_0 : decode cX0_become 0 = .ok (.aload_n 0, 1) := by decide +kernel
theorem dX0_become_1 : decode cX0_become 1 = .ok (.aload_n 1, 1) := by decide +kernel
theorem dX0_become_2 : decode cX0_become 2 = .ok (.getfield 36, 3) := by decide +kernel
theorem dX0_become_5 : decode cX0_become 5 = .ok (.putfield 36, 3) := by decide +kernel
theorem dX0_become_8 : decode cX0_become 8 = .ok (.iconst 0, 1) := by decide +kernel
theorem dX0_become_9 : decode cX0_become 9 = .ok (.istore_n 2, 1) := by decide +kernel
theorem dX0_become_10 : decode cX0_become 10 = .ok (.iload_n 2, 1) := by decide +kernel
theorem dX0_become_11 : decode cX0_become 11 = .ok (.bipush 7, 2) := by decide +kernel
theorem dX0_become_13 : decode cX0_become 13 = .ok (.if_icmp .gt 28, 3) := by decide +kernel
theorem dX0_become_16 : decode cX0_become 16 = .ok (.aload_n 1, 1) := by decide +kernel
theorem dX0_become_17 : decode cX0_become 17 = .ok (.getfield 11, 3) := by decide +kernel
theorem dX0_become_20 : decode cX0_become 20 = .ok (.iload_n 2, 1) := by decide +kernel
theorem dX0_become_21 : decode cX0_become 21 = .ok (.aaload, 1) := by decide +kernel
theorem dX0_become_22 : decode cX0_become 22 = .ok (.iconst 0, 1) := by decide +kernel
theorem dX0_become_23 : decode cX0_become 23 = .ok (.aload_n 0, 1) := by decide +kernel
theorem dX0_become_24 : decode cX0_become 24 = .ok (.getfield 11, 3) := by decide +kernel
theorem dX0_become_27 : decode cX0_become 27 = .ok (.iload_n 2, 1) := by decide +kernel
theorem dX0_become_28 : decode cX0_become 28 = .ok (.aaload, 1) := by decide +kernel
theorem dX0_become_29 : decode cX0_become 29 = .ok (.iconst 0, 1) := by decide +kernel
theorem dX0_become_30 : decode cX0_become 30 = .ok (.bipush 12, 2) := by decide +kernel
theorem dX0_become_32 : decode cX0_become 32 = .ok (.invokestatic 39, 3) := by decide +kernel
theorem dX0_become_35 : decode cX0_become 35 = .ok (.iinc 2 1, 3) := by decide +kernel
theorem dX0_become_38 : decode cX0_become 38 = .ok (.goto (-28), 3) := by decide +kernel
theorem dX0_become_41 : decode cX0_become 41 = .ok (.aload_n 1, 1) := by decide +kernel
theorem dX0_become_42 : decode cX0_become 42 = .ok (.getfield 16, 3) := by decide +kernel
theorem dX0_become_45 : decode cX0_become 45 = .ok (.iconst 0, 1) := by decide +kernel
theorem dX0_become_46 : decode cX0_become 46 = .ok (.aload_n 0, 1) := by decide +kernel
theorem dX0_become_47 : decode cX0_become 47 = .ok (.getfield 16, 3) := by decide +kernel
theorem dX0_become_50 : decode cX0_become 50 = .ok (.iconst 0, 1) := by decide +kernel
theorem dX0_become_51 : decode cX0_become 51 = .ok (.iconst 4, 1) := by decide +kernel
theorem dX0_become_52 : decode cX0_become 52 = .ok (.invokestatic 39, 3) := by decide +kernel
theorem dX0_become_55 : decode cX0_become 55 = .ok (.aload_n 1, 1) := by decide +kernel
theorem dX0_become_56 : decode cX0_become 56 = .ok (.getfield 20, 3) := by decide +kernel
theorem dX0_become_59 : decode cX0_become 59 = .ok (.iconst 0, 1) := by decide +kernel
theorem dX0_become_60 : decode cX0_become 60 = .ok (.aload_n 0, 1) := by decide +kernel
theorem dX0_become_61 : decode cX0_become 61 = .ok (.getfield 20, 3) := by decide +kernel
theorem dX0_become_64 : decode cX0_become 64 = .ok (.iconst 0, 1) := by decide +kernel
theorem dX0_become_65 : decode cX0_become 65 = .ok (.iconst 4, 1) := by decide +kernel
theorem dX0_become_66 : decode cX0_become 66 = .ok (.invokestatic 39, 3) := by decide +kernel
theorem dX0_become_69 : decode cX0_become 69 = .ok (.aload_n 1, 1) := by decide +kernel
theorem dX0_become_70 : decode cX0_become 70 = .ok (.getfield 23, 3) := by decide +kernel
theorem dX0_become_73 : decode cX0_become 73 = .ok (.iconst 0, 1) := by decide +kernel
theorem dX0_become_74 : decode cX0_become 74 = .ok (.aload_n 0, 1) := by decide +kernel
theorem dX0_become_75 : decode cX0_become 75 = .ok (.getfield 23, 3) := by decide +kernel
theorem dX0_become_78 : decode cX0_become 78 = .ok (.iconst 0, 1) := by decide +kernel
theorem dX0_become_79 : decode cX0_become 79 = .ok (.iconst 4, 1) := by decide +kernel
theorem dX0_become_80 : decode cX0_become 80 = .ok (.invokestatic 39, 3) := by decide +kernel
theorem dX0_become_83 : decode cX0_become 83 = .ok (.aload_n 1, 1) := by decide +kernel
theorem dX0_become_84 : decode cX0_become 84 = .ok (.getfield 26, 3) := by decide +kernel
theorem dX0_become_87 : decode cX0_become 87 = .ok (.iconst 0, 1) := by decide +kernel
theorem dX0_become_88 : decode cX0_become 88 = .ok (.aload_n 0, 1) := by decide +kernel
theorem dX0_become_89 : decode cX0_become 89 = .ok (.getfield 26, 3) := by decide +kernel
theorem dX0_become_92 : decode cX0_become 92 = .ok (.iconst 0, 1) := by decide +kernel
theorem dX0_become_93 : decode cX0_become 93 = .ok (.iconst 4, 1) := by decide +kernel
theorem dX0_become_94 : decode cX0_become 94 = .ok (.invokestatic 39, 3) := by decide +kernel
theorem dX0_become_97 : decode cX0_become 97 = .ok (.aload_n 1, 1) := by decide +kernel
theorem dX0_become_98 : decode cX0_become 98 = .ok (.getfield 29, 3) := by decide +kernel
theorem dX0_become_101 : decode cX0_become 101 = .ok (.iconst 0, 1) := by decide +kernel
theorem dX0_become_102 : decode cX0_become 102 = .ok (.aload_n 0, 1) := by decide +kernel
theorem dX0_become_103 : decode cX0_become 103 = .ok (.getfield 29, 3) := by decide +kernel
theorem dX0_become_106 : decode cX0_become 106 = .ok (.iconst 0, 1) := by decide +kernel
theorem dX0_become_107 : decode cX0_become 107 = .ok (.iconst 3, 1) := by decide +kernel
theorem dX0_become_108 : decode cX0_become 108 = .ok (.invokestatic 39, 3) := by decide +kernel
theorem dX0_become_111 : decode cX0_become 111 = .ok (.aload_n 0, 1) := by decide +kernel
theorem dX0_become_112 : decode cX0_become 112 = .ok (.aload_n 1, 1) := by decide +kernel
theorem dX0_become_113 : decode cX0_become 113 = .ok (.getfield 32, 3) := by decide +kernel
theorem dX0_become_116 : decode cX0_become 116 = .ok (.putfield 32, 3) := by decide +kernel
theorem dX0_become_119 : decode cX0_become 119 = .ok (.return_, 1) := by decide +kernel
theorem dX0_has_0 : decode cX0_has 0 = .ok (.iload_n 1, 1) := by decide +kernel
theorem dX0_has_1 : decode cX0_has 1 = .ok (.ifCond .lt 15, 3) := by decide +kernel
theorem dX0_has_4 : decode cX0_has 4 = .ok (.iload_n 1, 1) := by decide +kernel
theorem dX0_has_5 : decode cX0_has 5 = .ok (.aload_n 0, 1) := by decide +kernel
theorem dX0_has_6 : decode cX0_has 6 = .ok (.getfield 36, 3) := by decide +kernel
theorem dX0_has_9 : decode cX0_has 9 = .ok (.if_icmp .ge 7, 3) := by decide +kernel
theorem dX0_has_12 : decode cX0_has 12 = .ok (.iconst 1, 1) := by decide +kernel
theorem dX0_has_13 : decode cX0_has 13 = .ok (.goto 4, 3) := by decide +kernel
theorem dX0_has_16 : decode cX0_has 16 = .ok (.iconst 0, 1) := by decide +kernel
theorem dX0_has_17 : decode cX0_has 17 = .ok (.ireturn, 1) := by decide +kernel
theorem dX0_hasAll_0 : decode cX0_hasAll 0 = .ok (.iload_n 1, 1) := by decide +kernel
theorem dX0_hasAll_1 : decode cX0_hasAll 1 = .ok (.ifCond .lt 17, 3) := by decide +kernel
theorem dX0_hasAll_4 : decode cX0_hasAll 4 = .ok (.iload_n 1, 1) := by decide +kernel
theorem dX0_hasAll_5 : decode cX0_hasAll 5 = .ok (.iconst 1, 1) := by decide +kernel
theorem dX0_hasAll_6 : decode cX0_hasAll 6 = .ok (.aload_n 0, 1) := by decide +kernel
theorem dX0_hasAll_7 : decode cX0_hasAll 7 = .ok (.getfield 36, 3) := by decide +kernel
theorem dX0_hasAll_10 : decode cX0_hasAll 10 = .ok (.ishl, 1) := by decide +kernel
theorem dX0_hasAll_11 : decode cX0_hasAll 11 = .ok (.if_icmp .ge 7, 3) := by decide +kernel
theorem dX0_hasAll_14 : decode cX0_hasAll 14 = .ok (.iconst 1, 1) := by decide +kernel
theorem dX0_hasAll_15 : decode cX0_hasAll 15 = .ok (.goto 4, 3) := by decide +kernel
theorem dX0_hasAll_18 : decode cX0_hasAll 18 = .ok (.iconst 0, 1) := by decide +kernel
theorem dX0_hasAll_19 : decode cX0_hasAll 19 = .ok (.ireturn, 1) := by decide +kernel
theorem dX0_dropLast_0 : decode cX0_dropLast 0 = .ok (.aload_n 0, 1) := by decide +kernel
theorem dX0_dropLast_1 : decode cX0_dropLast 1 = .ok (.dup, 1) := by decide +kernel
theorem dX0_dropLast_2 : decode cX0_dropLast 2 = .ok (.getfield 36, 3) := by decide +kernel
theorem dX0_dropLast_5 : decode cX0_dropLast 5 = .ok (.iconst 1, 1) := by decide +kernel
theorem dX0_dropLast_6 : decode cX0_dropLast 6 = .ok (.isub, 1) := by decide +kernel
theorem dX0_dropLast_7 : decode cX0_dropLast 7 = .ok (.putfield 36, 3) := by decide +kernel
theorem dX0_dropLast_10 : decode cX0_dropLast 10 = .ok (.iconst 1, 1) := by decide +kernel
theorem dX0_dropLast_11 : decode cX0_dropLast 11 = .ok (.aload_n 0, 1) := by decide +kernel
theorem dX0_dropLast_12 : decode cX0_dropLast 12 = .ok (.getfield 36, 3) := by decide +kernel
theorem dX0_dropLast_15 : decode cX0_dropLast 15 = .ok (.ishl, 1) := by decide +kernel
theorem dX0_dropLast_16 : decode cX0_dropLast 16 = .ok (.iconst 1, 1) := by decide +kernel
theorem dX0_dropLast_17 : decode cX0_dropLast 17 = .ok (.isub, 1) := by decide +kernel
theorem dX0_dropLast_18 : decode cX0_dropLast 18 = .ok (.istore_n 1, 1) := by decide +kernel
theorem dX0_dropLast_19 : decode cX0_dropLast 19 = .ok (.iconst 0, 1) := by decide +kernel
theorem dX0_dropLast_20 : decode cX0_dropLast 20 = .ok (.istore_n 2, 1) := by decide +kernel
theorem dX0_dropLast_21 : decode cX0_dropLast 21 = .ok (.iload_n 2, 1) := by decide +kernel
theorem dX0_dropLast_22 : decode cX0_dropLast 22 = .ok (.aload_n 0, 1) := by decide +kernel
theorem dX0_dropLast_23 : decode cX0_dropLast 23 = .ok (.getfield 36, 3) := by decide +kernel
theorem dX0_dropLast_26 : decode cX0_dropLast 26 = .ok (.if_icmp .ge 22, 3) := by decide +kernel
theorem dX0_dropLast_29 : decode cX0_dropLast 29 = .ok (.aload_n 0, 1) := by decide +kernel
theorem dX0_dropLast_30 : decode cX0_dropLast 30 = .ok (.getfield 11, 3) := by decide +kernel
theorem dX0_dropLast_33 : decode cX0_dropLast 33 = .ok (.bipush 7, 2) := by decide +kernel
theorem dX0_dropLast_35 : decode cX0_dropLast 35 = .ok (.aaload, 1) := by decide +kernel
theorem dX0_dropLast_36 : decode cX0_dropLast 36 = .ok (.iload_n 2, 1) := by decide +kernel
theorem dX0_dropLast_37 : decode cX0_dropLast 37 = .ok (.dup2, 1) := by decide +kernel
theorem dX0_dropLast_38 : decode cX0_dropLast 38 = .ok (.iaload, 1) := by decide +kernel
theorem dX0_dropLast_39 : decode cX0_dropLast 39 = .ok (.iload_n 1, 1) := by decide +kernel
theorem dX0_dropLast_40 : decode cX0_dropLast 40 = .ok (.iand, 1) := by decide +kernel
theorem dX0_dropLast_41 : decode cX0_dropLast 41 = .ok (.iastore, 1) := by decide +kernel
theorem dX0_dropLast_42 : decode cX0_dropLast 42 = .ok (.iinc 2 1, 3) := by decide +kernel
theorem dX0_dropLast_45 : decode cX0_dropLast 45 = .ok (.goto (-24), 3) := by decide +kernel
theorem dX0_dropLast_48 : decode cX0_dropLast 48 = .ok (.return_, 1) := by decide +kernel
theorem dX0_leastAndMost_0 : decode cX0_leastAndMost 0 = .ok (.bipush 10, 2) := by decide +kernel
theorem dX0_leastAndMost_2 : decode cX0_leastAndMost 2 = .ok (.aload_n 0, 1) := by decide +kernel
theorem dX0_leastAndMost_3 : decode cX0_leastAndMost 3 = .ok (.getfield 23, 3) := by decide +kernel
theorem dX0_leastAndMost_6 : decode cX0_leastAndMost 6 = .ok (.iload_n 1, 1) := by decide +kernel
theorem dX0_leastAndMost_7 : decode cX0_leastAndMost 7 = .ok (.iaload, 1) := by decide +kernel
theorem dX0_leastAndMost_8 : decode cX0_leastAndMost 8 = .ok (.imul, 1) := by decide +kernel
theorem dX0_leastAndMost_9 : decode cX0_leastAndMost 9 = .ok (.aload_n 0, 1) := by decide +kernel
theorem dX0_leastAndMost_10 : decode cX0_leastAndMost 10 = .ok (.getfield 26, 3) := by decide +kernel
theorem dX0_leastAndMost_13 : decode cX0_leastAndMost 13 = .ok (.iload_n 1, 1) := by decide +kernel
theorem dX0_leastAndMost_14 : decode cX0_leastAndMost 14 = .ok (.iaload, 1) := by decide +kernel
theorem dX0_leastAndMost_15 : decode cX0_leastAndMost 15 = .ok (.iadd, 1) := by decide +kernel
theorem dX0_leastAndMost_16 : decode cX0_leastAndMost 16 = .ok (.ireturn, 1) := by decide +kernel
theorem dX0_total_0 : decode cX0_total 0 = .ok (.iconst 0, 1) := by decide +kernel
theorem dX0_total_1 : decode cX0_total 1 = .ok (.istore_n 2, 1) := by decide +kernel
theorem dX0_total_2 : decode cX0_total 2 = .ok (.iconst 0, 1) := by decide +kernel
theorem dX0_total_3 : decode cX0_total 3 = .ok (.istore_n 3, 1) := by decide +kernel
theorem dX0_total_4 : decode cX0_total 4 = .ok (.iload_n 3, 1) := by decide +kernel
theorem dX0_total_5 : decode cX0_total 5 = .ok (.aload_n 0, 1) := by decide +kernel
theorem dX0_total_6 : decode cX0_total 6 = .ok (.getfield 36, 3) := by decide +kernel
theorem dX0_total_9 : decode cX0_total 9 = .ok (.if_icmp .ge 20, 3) := by decide +kernel
theorem dX0_total_12 : decode cX0_total 12 = .ok (.iload_n 2, 1) := by decide +kernel
theorem dX0_total_13 : decode cX0_total 13 = .ok (.aload_n 0, 1) := by decide +kernel
theorem dX0_total_14 : decode cX0_total 14 = .ok (.getfield 11, 3) := by decide +kernel
theorem dX0_total_17 : decode cX0_total 17 = .ok (.iload_n 1, 1) := by decide +kernel
theorem dX0_total_18 : decode cX0_total 18 = .ok (.aaload, 1) := by decide +kernel
theorem dX0_total_19 : decode cX0_total 19 = .ok (.iload_n 3, 1) := by decide +kernel
theorem dX0_total_20 : decode cX0_total 20 = .ok (.iaload, 1) := by decide +kernel
theorem dX0_total_21 : decode cX0_total 21 = .ok (.iadd, 1) := by decide +kernel
theorem dX0_total_22 : decode cX0_total 22 = .ok (.istore_n 2, 1) := by decide +kernel
theorem dX0_total_23 : decode cX0_total 23 = .ok (.iinc 3 1, 3) := by decide +kernel
theorem dX0_total_26 : decode cX0_total 26 = .ok (.goto (-22), 3) := by decide +kernel
theorem dX0_total_29 : decode cX0_total 29 = .ok (.iload_n 2, 1) := by decide +kernel
theorem dX0_total_30 : decode cX0_total 30 = .ok (.ireturn, 1) := by decide +kernel
theorem dX0_twosOfEnemies_0 : decode cX0_twosOfEnemies 0 = .ok (.iconst 0, 1) := by decide +kernel
theorem dX0_twosOfEnemies_1 : decode cX0_twosOfEnemies 1 = .ok (.istore_n 1, 1) := by decide +kernel
theorem dX0_twosOfEnemies_2 : decode cX0_twosOfEnemies 2 = .ok (.iconst 0, 1) := by decide +kernel
theorem dX0_twosOfEnemies_3 : decode cX0_twosOfEnemies 3 = .ok (.istore_n 2, 1) := by decide +kernel
theorem dX0_twosOfEnemies_4 : decode cX0_twosOfEnemies 4 = .ok (.iload_n 2, 1) := by decide +kernel
theorem dX0_twosOfEnemies_5 : decode cX0_twosOfEnemies 5 = .ok (.aload_n 0, 1) := by decide +kernel
theorem dX0_twosOfEnemies_6 : decode cX0_twosOfEnemies 6 = .ok (.getfield 36, 3) := by decide +kernel
theorem dX0_twosOfEnemies_9 : decode cX0_twosOfEnemies 9 = .ok (.if_icmp .ge 24, 3) := by decide +kernel
theorem dX0_twosOfEnemies_12 : decode cX0_twosOfEnemies 12 = .ok (.iload_n 1, 1) := by decide +kernel
theorem dX0_twosOfEnemies_13 : decode cX0_twosOfEnemies 13 = .ok (.aload_n 0, 1) := by decide +kernel
theorem dX0_twosOfEnemies_14 : decode cX0_twosOfEnemies 14 = .ok (.getfield 11, 3) := by decide +kernel
theorem dX0_twosOfEnemies_17 : decode cX0_twosOfEnemies 17 = .ok (.bipush 7, 2) := by decide +kernel
theorem dX0_twosOfEnemies_19 : decode cX0_twosOfEnemies 19 = .ok (.aaload, 1) := by decide +kernel
theorem dX0_twosOfEnemies_20 : decode cX0_twosOfEnemies 20 = .ok (.iload_n 2, 1) := by decide +kernel
theorem dX0_twosOfEnemies_21 : decode cX0_twosOfEnemies 21 = .ok (.iaload, 1) := by decide +kernel
theorem dX0_twosOfEnemies_22 : decode cX0_twosOfEnemies 22 = .ok (.invokestatic 45, 3) := by decide +kernel
theorem dX0_twosOfEnemies_25 : decode cX0_twosOfEnemies 25 = .ok (.iadd, 1) := by decide +kernel
theorem dX0_twosOfEnemies_26 : decode cX0_twosOfEnemies 26 = .ok (.istore_n 1, 1) := by decide +kernel
theorem dX0_twosOfEnemies_27 : decode cX0_twosOfEnemies 27 = .ok (.iinc 2 1, 3) := by decide +kernel
theorem dX0_twosOfEnemies_30 : decode cX0_twosOfEnemies 30 = .ok (.goto (-26), 3) := by decide +kernel
theorem dX0_twosOfEnemies_33 : decode cX0_twosOfEnemies 33 = .ok (.iload_n 1, 1) := by decide +kernel
theorem dX0_twosOfEnemies_34 : decode cX0_twosOfEnemies 34 = .ok (.iconst 2, 1) := by decide +kernel
theorem dX0_twosOfEnemies_35 : decode cX0_twosOfEnemies 35 = .ok (.idiv, 1) := by decide +kernel
theorem dX0_twosOfEnemies_36 : decode cX0_twosOfEnemies 36 = .ok (.ireturn, 1) := by decide +kernel
theorem dX0_itemsWith_0 : decode cX0_itemsWith 0 = .ok (.iconst 0, 1) := by decide +kernel
theorem dX0_itemsWith_1 : decode cX0_itemsWith 1 = .ok (.istore_n 3, 1) := by decide +kernel
theorem dX0_itemsWith_2 : decode cX0_itemsWith 2 = .ok (.iconst 0, 1) := by decide +kernel
theorem dX0_itemsWith_3 : decode cX0_itemsWith 3 = .ok (.istore 4, 2) := by decide +kernel
theorem dX0_itemsWith_5 : decode cX0_itemsWith 5 = .ok (.iload 4, 2) := by decide +kernel
theorem dX0_itemsWith_7 : decode cX0_itemsWith 7 = .ok (.aload_n 0, 1) := by decide +kernel
theorem dX0_itemsWith_8 : decode cX0_itemsWith 8 = .ok (.getfield 36, 3) := by decide +kernel
theorem dX0_itemsWith_11 : decode cX0_itemsWith 11 = .ok (.if_icmp .ge 29, 3) := by decide +kernel
theorem dX0_itemsWith_14 : decode cX0_itemsWith 14 = .ok (.aload_n 0, 1) := by decide +kernel
theorem dX0_itemsWith_15 : decode cX0_itemsWith 15 = .ok (.getfield 11, 3) := by decide +kernel
theorem dX0_itemsWith_18 : decode cX0_itemsWith 18 = .ok (.iload_n 1, 1) := by decide +kernel
theorem dX0_itemsWith_19 : decode cX0_itemsWith 19 = .ok (.aaload, 1) := by decide +kernel
theorem dX0_itemsWith_20 : decode cX0_itemsWith 20 = .ok (.iload 4, 2) := by decide +kernel
theorem dX0_itemsWith_22 : decode cX0_itemsWith 22 = .ok (.iaload, 1) := by decide +kernel
theorem dX0_itemsWith_23 : decode cX0_itemsWith 23 = .ok (.iload_n 2, 1) := by decide +kernel
theorem dX0_itemsWith_24 : decode cX0_itemsWith 24 = .ok (.if_icmp .ne 10, 3) := by decide +kernel
theorem dX0_itemsWith_27 : decode cX0_itemsWith 27 = .ok (.iload_n 3, 1) := by decide +kernel
theorem dX0_itemsWith_28 : decode cX0_itemsWith 28 = .ok (.iconst 1, 1) := by decide +kernel
theorem dX0_itemsWith_29 : decode cX0_itemsWith 29 = .ok (.iload 4, 2) := by decide +kernel
theorem dX0_itemsWith_31 : decode cX0_itemsWith 31 = .ok (.ishl, 1) := by decide +kernel
theorem dX0_itemsWith_32 : decode cX0_itemsWith 32 = .ok (.ior, 1) := by decide +kernel
theorem dX0_itemsWith_33 : decode cX0_itemsWith 33 = .ok (.istore_n 3, 1) := by decide +kernel
theorem dX0_itemsWith_34 : decode cX0_itemsWith 34 = .ok (.iinc 4 1, 3) := by decide +kernel
theorem dX0_itemsWith_37 : decode cX0_itemsWith 37 = .ok (.goto (-32), 3) := by decide +kernel
theorem dX0_itemsWith_40 : decode cX0_itemsWith 40 = .ok (.iload_n 3, 1) := by decide +kernel
theorem dX0_itemsWith_41 : decode cX0_itemsWith 41 = .ok (.ireturn, 1) := by decide +kernel
theorem dX0_wornItems_0 : decode cX0_wornItems 0 = .ok (.iconst 0, 1) := by decide +kernel
theorem dX0_wornItems_1 : decode cX0_wornItems 1 = .ok (.istore_n 1, 1) := by decide +kernel
theorem dX0_wornItems_2 : decode cX0_wornItems 2 = .ok (.iconst 0, 1) := by decide +kernel
theorem dX0_wornItems_3 : decode cX0_wornItems 3 = .ok (.istore_n 2, 1) := by decide +kernel
theorem dX0_wornItems_4 : decode cX0_wornItems 4 = .ok (.iload_n 2, 1) := by decide +kernel
theorem dX0_wornItems_5 : decode cX0_wornItems 5 = .ok (.aload_n 0, 1) := by decide +kernel
theorem dX0_wornItems_6 : decode cX0_wornItems 6 = .ok (.getfield 36, 3) := by decide +kernel
theorem dX0_wornItems_9 : decode cX0_wornItems 9 = .ok (.if_icmp .ge 33, 3) := by decide +kernel
theorem dX0_wornItems_12 : decode cX0_wornItems 12 = .ok (.aload_n 0, 1) := by decide +kernel
theorem dX0_wornItems_13 : decode cX0_wornItems 13 = .ok (.getfield 11, 3) := by decide +kernel
theorem dX0_wornItems_16 : decode cX0_wornItems 16 = .ok (.bipush 6, 2) := by decide +kernel
theorem dX0_wornItems_18 : decode cX0_wornItems 18 = .ok (.aaload, 1) := by decide +kernel
theorem dX0_wornItems_19 : decode cX0_wornItems 19 = .ok (.iload_n 2, 1) := by decide +kernel
theorem dX0_wornItems_20 : decode cX0_wornItems 20 = .ok (.iaload, 1) := by decide +kernel
theorem dX0_wornItems_21 : decode cX0_wornItems 21 = .ok (.aload_n 0, 1) := by decide +kernel
theorem dX0_wornItems_22 : decode cX0_wornItems 22 = .ok (.getfield 29, 3) := by decide +kernel
theorem dX0_wornItems_25 : decode cX0_wornItems 25 = .ok (.iconst 2, 1) := by decide +kernel
theorem dX0_wornItems_26 : decode cX0_wornItems 26 = .ok (.iaload, 1) := by decide +kernel
theorem dX0_wornItems_27 : decode cX0_wornItems 27 = .ok (.if_icmp .lt 9, 3) := by decide +kernel
theorem dX0_wornItems_30 : decode cX0_wornItems 30 = .ok (.iload_n 1, 1) := by decide +kernel
theorem dX0_wornItems_31 : decode cX0_wornItems 31 = .ok (.iconst 1, 1) := by decide +kernel
theorem dX0_wornItems_32 : decode cX0_wornItems 32 = .ok (.iload_n 2, 1) := by decide +kernel
theorem dX0_wornItems_33 : decode cX0_wornItems 33 = .ok (.ishl, 1) := by decide +kernel
theorem dX0_wornItems_34 : decode cX0_wornItems 34 = .ok (.ior, 1) := by decide +kernel
theorem dX0_wornItems_35 : decode cX0_wornItems 35 = .ok (.istore_n 1, 1) := by decide +kernel
theorem dX0_wornItems_36 : decode cX0_wornItems 36 = .ok (.iinc 2 1, 3) := by decide +kernel
theorem dX0_wornItems_39 : decode cX0_wornItems 39 = .ok (.goto (-35), 3) := by decide +kernel
theorem dX0_wornItems_42 : decode cX0_wornItems 42 = .ok (.iload_n 1, 1) := by decide +kernel
theorem dX0_wornItems_43 : decode cX0_wornItems 43 = .ok (.ireturn, 1) := by decide +kernel
theorem dX0_countUse_0 : decode cX0_countUse 0 = .ok (.iconst 0, 1) := by decide +kernel
theorem dX0_countUse_1 : decode cX0_countUse 1 = .ok (.istore_n 2, 1) := by decide +kernel
theorem dX0_countUse_2 : decode cX0_countUse 2 = .ok (.iload_n 2, 1) := by decide +kernel
theorem dX0_countUse_3 : decode cX0_countUse 3 = .ok (.aload_n 0, 1) := by decide +kernel
theorem dX0_countUse_4 : decode cX0_countUse 4 = .ok (.getfield 36, 3) := by decide +kernel
theorem dX0_countUse_7 : decode cX0_countUse 7 = .ok (.if_icmp .ge 26, 3) := by decide +kernel
theorem dX0_countUse_10 : decode cX0_countUse 10 = .ok (.aload_n 0, 1) := by decide +kernel
theorem dX0_countUse_11 : decode cX0_countUse 11 = .ok (.getfield 11, 3) := by decide +kernel
theorem dX0_countUse_14 : decode cX0_countUse 14 = .ok (.bipush 6, 2) := by decide +kernel
theorem dX0_countUse_16 : decode cX0_countUse 16 = .ok (.aaload, 1) := by decide +kernel
theorem dX0_countUse_17 : decode cX0_countUse 17 = .ok (.iload_n 2, 1) := by decide +kernel
theorem dX0_countUse_18 : decode cX0_countUse 18 = .ok (.dup2, 1) := by decide +kernel
theorem dX0_countUse_19 : decode cX0_countUse 19 = .ok (.iaload, 1) := by decide +kernel
theorem dX0_countUse_20 : decode cX0_countUse 20 = .ok (.iload_n 1, 1) := by decide +kernel
theorem dX0_countUse_21 : decode cX0_countUse 21 = .ok (.iload_n 2, 1) := by decide +kernel
theorem dX0_countUse_22 : decode cX0_countUse 22 = .ok (.ishr, 1) := by decide +kernel
theorem dX0_countUse_23 : decode cX0_countUse 23 = .ok (.iconst 1, 1) := by decide +kernel
theorem dX0_countUse_24 : decode cX0_countUse 24 = .ok (.iand, 1) := by decide +kernel
theorem dX0_countUse_25 : decode cX0_countUse 25 = .ok (.iadd, 1) := by decide +kernel
theorem dX0_countUse_26 : decode cX0_countUse 26 = .ok (.iastore, 1) := by decide +kernel
theorem dX0_countUse_27 : decode cX0_countUse 27 = .ok (.iinc 2 1, 3) := by decide +kernel
theorem dX0_countUse_30 : decode cX0_countUse 30 = .ok (.goto (-28), 3) := by decide +kernel
theorem dX0_countUse_33 : decode cX0_countUse 33 = .ok (.return_, 1) := by decide +kernel
theorem dX0_drawSet_0 : decode cX0_drawSet 0 = .ok (.aload_n 0, 1) := by decide +kernel
theorem dX0_drawSet_1 : decode cX0_drawSet 1 = .ok (.aload_n 0, 1) := by decide +kernel
theorem dX0_drawSet_2 : decode cX0_drawSet 2 = .ok (.getfield 32, 3) := by decide +kernel
theorem dX0_drawSet_5 : decode cX0_drawSet 5 = .ok (.ldc 51, 2) := by decide +kernel
theorem dX0_drawSet_7 : decode cX0_drawSet 7 = .ok (.imul, 1) := by decide +kernel
theorem dX0_drawSet_8 : decode cX0_drawSet 8 = .ok (.sipush 12345, 3) := by decide +kernel
theorem dX0_drawSet_11 : decode cX0_drawSet 11 = .ok (.iadd, 1) := by decide +kernel
theorem dX0_drawSet_12 : decode cX0_drawSet 12 = .ok (.putfield 32, 3) := by decide +kernel
theorem dX0_drawSet_15 : decode cX0_drawSet 15 = .ok (.aload_n 0, 1) := by decide +kernel
theorem dX0_drawSet_16 : decode cX0_drawSet 16 = .ok (.getfield 32, 3) := by decide +kernel
theorem dX0_drawSet_19 : decode cX0_drawSet 19 = .ok (.bipush 8, 2) := by decide +kernel
theorem dX0_drawSet_21 : decode cX0_drawSet 21 = .ok (.iushr, 1) := by decide +kernel
theorem dX0_drawSet_22 : decode cX0_drawSet 22 = .ok (.sipush 4096, 3) := by decide +kernel
theorem dX0_drawSet_25 : decode cX0_drawSet 25 = .ok (.irem, 1) := by decide +kernel
theorem dX0_drawSet_26 : decode cX0_drawSet 26 = .ok (.iconst 1, 1) := by decide +kernel
theorem dX0_drawSet_27 : decode cX0_drawSet 27 = .ok (.aload_n 0, 1) := by decide +kernel
theorem dX0_drawSet_28 : decode cX0_drawSet 28 = .ok (.getfield 36, 3) := by decide +kernel
theorem dX0_drawSet_31 : decode cX0_drawSet 31 = .ok (.ishl, 1) := by decide +kernel
theorem dX0_drawSet_32 : decode cX0_drawSet 32 = .ok (.iconst 1, 1) := by decide +kernel
theorem dX0_drawSet_33 : decode cX0_drawSet 33 = .ok (.isub, 1) := by decide +kernel
theorem dX0_drawSet_34 : decode cX0_drawSet 34 = .ok (.iand, 1) := by decide +kernel
theorem dX0_drawSet_35 : decode cX0_drawSet 35 = .ok (.ireturn, 1) := by decide +kernel
theorem dX0_steepness_0 : decode cX0_steepness 0 = .ok (.aload_n 0, 1) := by decide +kernel
theorem dX0_steepness_1 : decode cX0_steepness 1 = .ok (.getfield 11, 3) := by decide +kernel
theorem dX0_steepness_4 : decode cX0_steepness 4 = .ok (.iconst 3, 1) := by decide +kernel
theorem dX0_steepness_5 : decode cX0_steepness 5 = .ok (.aaload, 1) := by decide +kernel
theorem dX0_steepness_6 : decode cX0_steepness 6 = .ok (.iload_n 1, 1) := by decide +kernel
theorem dX0_steepness_7 : decode cX0_steepness 7 = .ok (.iaload, 1) := by decide +kernel
theorem dX0_steepness_8 : decode cX0_steepness 8 = .ok (.i2f, 1) := by decide +kernel
theorem dX0_steepness_9 : decode cX0_steepness 9 = .ok (.ldc 52, 2) := by decide +kernel
theorem dX0_steepness_11 : decode cX0_steepness 11 = .ok (.fdiv, 1) := by decide +kernel
theorem dX0_steepness_12 : decode cX0_steepness 12 = .ok (.freturn, 1) := by decide +kernel
theorem dX0_distance_0 : decode cX0_distance 0 = .ok (.aload_n 0, 1) := by decide +kernel
theorem dX0_distance_1 : decode cX0_distance 1 = .ok (.iload_n 1, 1) := by decide +kernel
theorem dX0_distance_2 : decode cX0_distance 2 = .ok (.invokevirtual 53, 3) := by decide +kernel
theorem dX0_distance_5 : decode cX0_distance 5 = .ok (.iload_n 2, 1) := by decide +kernel
theorem dX0_distance_6 : decode cX0_distance 6 = .ok (.i2f, 1) := by decide +kernel
theorem dX0_distance_7 : decode cX0_distance 7 = .ok (.ldc 57, 2) := by decide +kernel
theorem dX0_distance_9 : decode cX0_distance 9 = .ok (.fdiv, 1) := by decide +kernel
theorem dX0_distance_10 : decode cX0_distance 10 = .ok (.aload_n 0, 1) := by decide +kernel
theorem dX0_distance_11 : decode cX0_distance 11 = .ok (.getfield 11, 3) := by decide +kernel
theorem dX0_distance_14 : decode cX0_distance 14 = .ok (.iconst 4, 1) := by decide +kernel
theorem dX0_distance_15 : decode cX0_distance 15 = .ok (.aaload, 1) := by decide +kernel
theorem dX0_distance_16 : decode cX0_distance 16 = .ok (.iload_n 1, 1) := by decide +kernel
theorem dX0_distance_17 : decode cX0_distance 17 = .ok (.iaload, 1) := by decide +kernel
theorem dX0_distance_18 : decode cX0_distance 18 = .ok (.i2f, 1) := by decide +kernel
theorem dX0_distance_19 : decode cX0_distance 19 = .ok (.ldc 57, 2) := by decide +kernel
theorem dX0_distance_21 : decode cX0_distance 21 = .ok (.fdiv, 1) := by decide +kernel
theorem dX0_distance_22 : decode cX0_distance 22 = .ok (.fsub, 1) := by decide +kernel
theorem dX0_distance_23 : decode cX0_distance 23 = .ok (.fmul, 1) := by decide +kernel
theorem dX0_distance_24 : decode cX0_distance 24 = .ok (.freturn, 1) := by decide +kernel
theorem dX0_chanceAt_0 : decode cX0_chanceAt 0 = .ok (.aload_n 0, 1) := by decide +kernel
theorem dX0_chanceAt_1 : decode cX0_chanceAt 1 = .ok (.iload_n 1, 1) := by decide +kernel
theorem dX0_chanceAt_2 : decode cX0_chanceAt 2 = .ok (.iload_n 2, 1) := by decide +kernel
theorem dX0_chanceAt_3 : decode cX0_chanceAt 3 = .ok (.invokevirtual 58, 3) := by decide +kernel
theorem dX0_chanceAt_6 : decode cX0_chanceAt 6 = .ok (.invokestatic 62, 3) := by decide +kernel
theorem dX0_chanceAt_9 : decode cX0_chanceAt 9 = .ok (.dreturn, 1) := by decide +kernel
theorem dX0_chanceAtDistance_0 : decode cX0_chanceAtDistance 0 = .ok (.ldc2_w 66, 3) := by decide +kernel
theorem dX0_chanceAtDistance_3 : decode cX0_chanceAtDistance 3 = .ok (.ldc2_w 66, 3) := by decide +kernel
theorem dX0_chanceAtDistance_6 : decode cX0_chanceAtDistance 6 = .ok (.fload_n 0, 1) := by decide +kernel
theorem dX0_chanceAtDistance_7 : decode cX0_chanceAtDistance 7 = .ok (.f2d, 1) := by decide +kernel
theorem dX0_chanceAtDistance_8 : decode cX0_chanceAtDistance 8 = .ok (.dmul, 1) := by decide +kernel
theorem dX0_chanceAtDistance_9 : decode cX0_chanceAtDistance 9 = .ok (.dconst 1, 1) := by decide +kernel
theorem dX0_chanceAtDistance_10 : decode cX0_chanceAtDistance 10 = .ok (.fload_n 0, 1) := by decide +kernel
theorem dX0_chanceAtDistance_11 : decode cX0_chanceAtDistance 11 = .ok (.f2d, 1) := by decide +kernel
theorem dX0_chanceAtDistance_12 : decode cX0_chanceAtDistance 12 = .ok (.invokestatic 68, 3) := by decide +kernel
theorem dX0_chanceAtDistance_15 : decode cX0_chanceAtDistance 15 = .ok (.dadd, 1) := by decide +kernel
theorem dX0_chanceAtDistance_16 : decode cX0_chanceAtDistance 16 = .ok (.ddiv, 1) := by decide +kernel
theorem dX0_chanceAtDistance_17 : decode cX0_chanceAtDistance 17 = .ok (.dadd, 1) := by decide +kernel
theorem dX0_chanceAtDistance_18 : decode cX0_chanceAtDistance 18 = .ok (.dreturn, 1) := by decide +kernel
theorem dX0_tellsAt_0 : decode cX0_tellsAt 0 = .ok (.aload_n 0, 1) := by decide +kernel
theorem dX0_tellsAt_1 : decode cX0_tellsAt 1 = .ok (.iload_n 1, 1) := by decide +kernel
theorem dX0_tellsAt_2 : decode cX0_tellsAt 2 = .ok (.invokevirtual 53, 3) := by decide +kernel
theorem dX0_tellsAt_5 : decode cX0_tellsAt 5 = .ok (.f2d, 1) := by decide +kernel
theorem dX0_tellsAt_6 : decode cX0_tellsAt 6 = .ok (.dstore_n 3, 1) := by decide +kernel
theorem dX0_tellsAt_7 : decode cX0_tellsAt 7 = .ok (.aload_n 0, 1) := by decide +kernel
theorem dX0_tellsAt_8 : decode cX0_tellsAt 8 = .ok (.iload_n 1, 1) := by decide +kernel
theorem dX0_tellsAt_9 : decode cX0_tellsAt 9 = .ok (.iload_n 2, 1) := by decide +kernel
theorem dX0_tellsAt_10 : decode cX0_tellsAt 10 = .ok (.invokevirtual 58, 3) := by decide +kernel
theorem dX0_tellsAt_13 : decode cX0_tellsAt 13 = .ok (.fstore 5, 2) := by decide +kernel
theorem dX0_tellsAt_15 : decode cX0_tellsAt 15 = .ok (.fload 5, 2) := by decide +kernel
theorem dX0_tellsAt_17 : decode cX0_tellsAt 17 = .ok (.invokestatic 62, 3) := by decide +kernel
theorem dX0_tellsAt_20 : decode cX0_tellsAt 20 = .ok (.dstore 6, 2) := by decide +kernel
theorem dX0_tellsAt_22 : decode cX0_tellsAt 22 = .ok (.dload_n 3, 1) := by decide +kernel
theorem dX0_tellsAt_23 : decode cX0_tellsAt 23 = .ok (.dload_n 3, 1) := by decide +kernel
theorem dX0_tellsAt_24 : decode cX0_tellsAt 24 = .ok (.dmul, 1) := by decide +kernel
theorem dX0_tellsAt_25 : decode cX0_tellsAt 25 = .ok (.dload 6, 2) := by decide +kernel
theorem dX0_tellsAt_27 : decode cX0_tellsAt 27 = .ok (.dmul, 1) := by decide +kernel
theorem dX0_tellsAt_28 : decode cX0_tellsAt 28 = .ok (.dconst 1, 1) := by decide +kernel
theorem dX0_tellsAt_29 : decode cX0_tellsAt 29 = .ok (.dload 6, 2) := by decide +kernel
theorem dX0_tellsAt_31 : decode cX0_tellsAt 31 = .ok (.dsub, 1) := by decide +kernel
theorem dX0_tellsAt_32 : decode cX0_tellsAt 32 = .ok (.dmul, 1) := by decide +kernel
theorem dX0_tellsAt_33 : decode cX0_tellsAt 33 = .ok (.dstore 8, 2) := by decide +kernel
theorem dX0_tellsAt_35 : decode cX0_tellsAt 35 = .ok (.aload_n 0, 1) := by decide +kernel
theorem dX0_tellsAt_36 : decode cX0_tellsAt 36 = .ok (.getfield 11, 3) := by decide +kernel
theorem dX0_tellsAt_39 : decode cX0_tellsAt 39 = .ok (.iconst 2, 1) := by decide +kernel
theorem dX0_tellsAt_40 : decode cX0_tellsAt 40 = .ok (.aaload, 1) := by decide +kernel
theorem dX0_tellsAt_41 : decode cX0_tellsAt 41 = .ok (.iload_n 1, 1) := by decide +kernel
theorem dX0_tellsAt_42 : decode cX0_tellsAt 42 = .ok (.iaload, 1) := by decide +kernel
theorem dX0_tellsAt_43 : decode cX0_tellsAt 43 = .ok (.istore 10, 2) := by decide +kernel
theorem dX0_tellsAt_45 : decode cX0_tellsAt 45 = .ok (.aload_n 0, 1) := by decide +kernel
theorem dX0_tellsAt_46 : decode cX0_tellsAt 46 = .ok (.getfield 11, 3) := by decide +kernel
theorem dX0_tellsAt_49 : decode cX0_tellsAt 49 = .ok (.iconst 0, 1) := by decide +kernel
theorem dX0_tellsAt_50 : decode cX0_tellsAt 50 = .ok (.aaload, 1) := by decide +kernel
theorem dX0_tellsAt_51 : decode cX0_tellsAt 51 = .ok (.iload_n 1, 1) := by decide +kernel
theorem dX0_tellsAt_52 : decode cX0_tellsAt 52 = .ok (.iaload, 1) := by decide +kernel
theorem dX0_tellsAt_53 : decode cX0_tellsAt 53 = .ok (.tableswitch 99 1 5 #[35, 42, 48, 63, 74], 35) := by decide +kernel
theorem dX0_tellsAt_88 : decode cX0_tellsAt 88 = .ok (.dload 8, 2) := by decide +kernel
theorem dX0_tellsAt_90 : decode cX0_tellsAt 90 = .ok (.ldc2_w 74, 3) := by decide +kernel
theorem dX0_tellsAt_93 : decode cX0_tellsAt 93 = .ok (.dmul, 1) := by decide +kernel
theorem dX0_tellsAt_94 : decode cX0_tellsAt 94 = .ok (.dreturn, 1) := by decide +kernel
theorem dX0_tellsAt_95 : decode cX0_tellsAt 95 = .ok (.dload 8, 2) := by decide +kernel
theorem dX0_tellsAt_97 : decode cX0_tellsAt 97 = .ok (.dload 6, 2) := by decide +kernel
theorem dX0_tellsAt_99 : decode cX0_tellsAt 99 = .ok (.dmul, 1) := by decide +kernel
theorem dX0_tellsAt_100 : decode cX0_tellsAt 100 = .ok (.dreturn, 1) := by decide +kernel
theorem dX0_tellsAt_101 : decode cX0_tellsAt 101 = .ok (.dload 8, 2) := by decide +kernel
theorem dX0_tellsAt_103 : decode cX0_tellsAt 103 = .ok (.ldc2_w 74, 3) := by decide +kernel
theorem dX0_tellsAt_106 : decode cX0_tellsAt 106 = .ok (.dmul, 1) := by decide +kernel
theorem dX0_tellsAt_107 : decode cX0_tellsAt 107 = .ok (.iload 10, 2) := by decide +kernel
theorem dX0_tellsAt_109 : decode cX0_tellsAt 109 = .ok (.i2d, 1) := by decide +kernel
theorem dX0_tellsAt_110 : decode cX0_tellsAt 110 = .ok (.ldc2_w 76, 3) := by decide +kernel
theorem dX0_tellsAt_113 : decode cX0_tellsAt 113 = .ok (.ddiv, 1) := by decide +kernel
theorem dX0_tellsAt_114 : decode cX0_tellsAt 114 = .ok (.dadd, 1) := by decide +kernel
theorem dX0_tellsAt_115 : decode cX0_tellsAt 115 = .ok (.dreturn, 1) := by decide +kernel
theorem dX0_tellsAt_116 : decode cX0_tellsAt 116 = .ok (.dload 8, 2) := by decide +kernel
theorem dX0_tellsAt_118 : decode cX0_tellsAt 118 = .ok (.dload 6, 2) := by decide +kernel
theorem dX0_tellsAt_120 : decode cX0_tellsAt 120 = .ok (.dmul, 1) := by decide +kernel
theorem dX0_tellsAt_121 : decode cX0_tellsAt 121 = .ok (.d2f, 1) := by decide +kernel
theorem dX0_tellsAt_122 : decode cX0_tellsAt 122 = .ok (.ldc 78, 2) := by decide +kernel
theorem dX0_tellsAt_124 : decode cX0_tellsAt 124 = .ok (.fmul, 1) := by decide +kernel
theorem dX0_tellsAt_125 : decode cX0_tellsAt 125 = .ok (.f2d, 1) := by decide +kernel
theorem dX0_tellsAt_126 : decode cX0_tellsAt 126 = .ok (.dreturn, 1) := by decide +kernel
theorem dX0_tellsAt_127 : decode cX0_tellsAt 127 = .ok (.iload 10, 2) := by decide +kernel
theorem dX0_tellsAt_129 : decode cX0_tellsAt 129 = .ok (.i2d, 1) := by decide +kernel
theorem dX0_tellsAt_130 : decode cX0_tellsAt 130 = .ok (.ldc2_w 79, 3) := by decide +kernel
theorem dX0_tellsAt_133 : decode cX0_tellsAt 133 = .ok (.ddiv, 1) := by decide +kernel
theorem dX0_tellsAt_134 : decode cX0_tellsAt 134 = .ok (.fload 5, 2) := by decide +kernel
theorem dX0_tellsAt_136 : decode cX0_tellsAt 136 = .ok (.f2d, 1) := by decide +kernel
theorem dX0_tellsAt_137 : decode cX0_tellsAt 137 = .ok (.invokestatic 68, 3) := by decide +kernel
theorem dX0_tellsAt_140 : decode cX0_tellsAt 140 = .ok (.ldc2_w 81, 3) := by decide +kernel
theorem dX0_tellsAt_143 : decode cX0_tellsAt 143 = .ok (.invokestatic 83, 3) := by decide +kernel
theorem dX0_tellsAt_146 : decode cX0_tellsAt 146 = .ok (.ldc2_w 87, 3) := by decide +kernel
theorem dX0_tellsAt_149 : decode cX0_tellsAt 149 = .ok (.ddiv, 1) := by decide +kernel
theorem dX0_tellsAt_150 : decode cX0_tellsAt 150 = .ok (.dadd, 1) := by decide +kernel
theorem dX0_tellsAt_151 : decode cX0_tellsAt 151 = .ok (.dreturn, 1) := by decide +kernel
theorem dX0_tellsAt_152 : decode cX0_tellsAt 152 = .ok (.dload 8, 2) := by decide +kernel
theorem dX0_tellsAt_154 : decode cX0_tellsAt 154 = .ok (.dreturn, 1) := by decide +kernel
theorem dX0_allTellAt_0 : decode cX0_allTellAt 0 = .ok (.dconst 0, 1) := by decide +kernel
theorem dX0_allTellAt_1 : decode cX0_allTellAt 1 = .ok (.dstore_n 3, 1) := by decide +kernel
theorem dX0_allTellAt_2 : decode cX0_allTellAt 2 = .ok (.iconst 0, 1) := by decide +kernel
theorem dX0_allTellAt_3 : decode cX0_allTellAt 3 = .ok (.istore 5, 2) := by decide +kernel
theorem dX0_allTellAt_5 : decode cX0_allTellAt 5 = .ok (.iload 5, 2) := by decide +kernel
theorem dX0_allTellAt_7 : decode cX0_allTellAt 7 = .ok (.aload_n 0, 1) := by decide +kernel
theorem dX0_allTellAt_8 : decode cX0_allTellAt 8 = .ok (.getfield 36, 3) := by decide +kernel
theorem dX0_allTellAt_11 : decode cX0_allTellAt 11 = .ok (.if_icmp .ge 28, 3) := by decide +kernel
theorem dX0_allTellAt_14 : decode cX0_allTellAt 14 = .ok (.iload_n 1, 1) := by decide +kernel
theorem dX0_allTellAt_15 : decode cX0_allTellAt 15 = .ok (.iload 5, 2) := by decide +kernel
theorem dX0_allTellAt_17 : decode cX0_allTellAt 17 = .ok (.ishr, 1) := by decide +kernel
theorem dX0_allTellAt_18 : decode cX0_allTellAt 18 = .ok (.iconst 1, 1) := by decide +kernel
theorem dX0_allTellAt_19 : decode cX0_allTellAt 19 = .ok (.iand, 1) := by decide +kernel
theorem dX0_allTellAt_20 : decode cX0_allTellAt 20 = .ok (.ifCond .eq 13, 3) := by decide +kernel
theorem dX0_allTellAt_23 : decode cX0_allTellAt 23 = .ok (.dload_n 3, 1) := by decide +kernel
theorem dX0_allTellAt_24 : decode cX0_allTellAt 24 = .ok (.aload_n 0, 1) := by decide +kernel
theorem dX0_allTellAt_25 : decode cX0_allTellAt 25 = .ok (.iload 5, 2) := by decide +kernel
theorem dX0_allTellAt_27 : decode cX0_allTellAt 27 = .ok (.iload_n 2, 1) := by decide +kernel
theorem dX0_allTellAt_28 : decode cX0_allTellAt 28 = .ok (.invokevirtual 89, 3) := by decide +kernel
theorem dX0_allTellAt_31 : decode cX0_allTellAt 31 = .ok (.dadd, 1) := by decide +kernel
theorem dX0_allTellAt_32 : decode cX0_allTellAt 32 = .ok (.dstore_n 3, 1) := by decide +kernel
theorem dX0_allTellAt_33 : decode cX0_allTellAt 33 = .ok (.iinc 5 1, 3) := by decide +kernel
theorem dX0_allTellAt_36 : decode cX0_allTellAt 36 = .ok (.goto (-31), 3) := by decide +kernel
theorem dX0_allTellAt_39 : decode cX0_allTellAt 39 = .ok (.dload_n 3, 1) := by decide +kernel
theorem dX0_allTellAt_40 : decode cX0_allTellAt 40 = .ok (.dreturn, 1) := by decide +kernel
theorem dX1_init_0 : decode cX1_init 0 = .ok (.aload_n 0, 1) := by decide +kernel
theorem dX1_init_1 : decode cX1_init 1 = .ok (.invokespecial 3, 3) := by decide +kernel
theorem dX1_init_4 : decode cX1_init 4 = .ok (.aload_n 0, 1) := by decide +kernel
theorem dX1_init_5 : decode cX1_init 5 = .ok (.new 9, 3) := by decide +kernel
theorem dX1_init_8 : decode cX1_init 8 = .ok (.dup, 1) := by decide +kernel
theorem dX1_init_9 : decode cX1_init 9 = .ok (.invokespecial 11, 3) := by decide +kernel
theorem dX1_init_12 : decode cX1_init 12 = .ok (.putfield 12, 3) := by decide +kernel
theorem dX1_init_15 : decode cX1_init 15 = .ok (.aload_n 0, 1) := by decide +kernel
theorem dX1_init_16 : decode cX1_init 16 = .ok (.iconst 4, 1) := by decide +kernel
theorem dX1_init_17 : decode cX1_init 17 = .ok (.newarray .int, 2) := by decide +kernel
theorem dX1_init_19 : decode cX1_init 19 = .ok (.putfield 18, 3) := by decide +kernel
theorem dX1_init_22 : decode cX1_init 22 = .ok (.aload_n 0, 1) := by decide +kernel
theorem dX1_init_23 : decode cX1_init 23 = .ok (.iconst 4, 1) := by decide +kernel
theorem dX1_init_24 : decode cX1_init 24 = .ok (.newarray .int, 2) := by decide +kernel
theorem dX1_init_26 : decode cX1_init 26 = .ok (.putfield 22, 3) := by decide +kernel
theorem dX1_init_29 : decode cX1_init 29 = .ok (.aload_n 0, 1) := by decide +kernel
theorem dX1_init_30 : decode cX1_init 30 = .ok (.iconst 4, 1) := by decide +kernel
theorem dX1_init_31 : decode cX1_init 31 = .ok (.bipush 12, 2) := by decide +kernel
theorem dX1_init_33 : decode cX1_init 33 = .ok (.multianewarray 25 2, 4) := by decide +kernel
theorem dX1_init_37 : decode cX1_init 37 = .ok (.putfield 27, 3) := by decide +kernel
theorem dX1_init_40 : decode cX1_init 40 = .ok (.aload_n 0, 1) := by decide +kernel
theorem dX1_init_41 : decode cX1_init 41 = .ok (.sipush 924, 3) := by decide +kernel
theorem dX1_init_44 : decode cX1_init 44 = .ok (.newarray .int, 2) := by decide +kernel
theorem dX1_init_46 : decode cX1_init 46 = .ok (.putfield 30, 3) := by decide +kernel
theorem dX1_init_49 : decode cX1_init 49 = .ok (.aload_n 0, 1) := by decide +kernel
theorem dX1_init_50 : decode cX1_init 50 = .ok (.sipush 924, 3) := by decide +kernel
theorem dX1_init_53 : decode cX1_init 53 = .ok (.newarray .double, 2) := by decide +kernel
theorem dX1_init_55 : decode cX1_init 55 = .ok (.putfield 33, 3) := by decide +kernel
theorem dX1_init_58 : decode cX1_init 58 = .ok (.return_, 1) := by decide +kernel
theorem dX1_readRules_0 : decode cX1_readRules 0 = .ok (.iconst 0, 1) := by decide +kernel
theorem dX1_readRules_1 : decode cX1_readRules 1 = .ok (.istore_n 1, 1) := by decide +kernel
theorem dX1_readRules_2 : decode cX1_readRules 2 = .ok (.iload_n 1, 1) := by decide +kernel
theorem dX1_readRules_3 : decode cX1_readRules 3 = .ok (.iconst 4, 1) := by decide +kernel
theorem dX1_readRules_4 : decode cX1_readRules 4 = .ok (.if_icmp .ge 24, 3) := by decide +kernel
theorem dX1_readRules_7 : decode cX1_readRules 7 = .ok (.aload_n 0, 1) := by decide +kernel
theorem dX1_readRules_8 : decode cX1_readRules 8 = .ok (.getfield 18, 3) := by decide +kernel
theorem dX1_readRules_11 : decode cX1_readRules 11 = .ok (.iload_n 1, 1) := by decide +kernel
theorem dX1_readRules_12 : decode cX1_readRules 12 = .ok (.aload_n 0, 1) := by decide +kernel
theorem dX1_readRules_13 : decode cX1_readRules 13 = .ok (.getfield 12, 3) := by decide +kernel
theorem dX1_readRules_16 : decode cX1_readRules 16 = .ok (.iconst 1, 1) := by decide +kernel
theorem dX1_readRules_17 : decode cX1_readRules 17 = .ok (.iload_n 1, 1) := by decide +kernel
theorem dX1_readRules_18 : decode cX1_readRules 18 = .ok (.invokevirtual 37, 3) := by decide +kernel
theorem dX1_readRules_21 : decode cX1_readRules 21 = .ok (.iastore, 1) := by decide +kernel
theorem dX1_readRules_22 : decode cX1_readRules 22 = .ok (.iinc 1 1, 3) := by decide +kernel
theorem dX1_readRules_25 : decode cX1_readRules 25 = .ok (.goto (-23), 3) := by decide +kernel
theorem dX1_readRules_28 : decode cX1_readRules 28 = .ok (.iconst 0, 1) := by decide +kernel
theorem dX1_readRules_29 : decode cX1_readRules 29 = .ok (.istore_n 1, 1) := by decide +kernel
theorem dX1_readRules_30 : decode cX1_readRules 30 = .ok (.iload_n 1, 1) := by decide +kernel
theorem dX1_readRules_31 : decode cX1_readRules 31 = .ok (.iconst 4, 1) := by decide +kernel
theorem dX1_readRules_32 : decode cX1_readRules 32 = .ok (.if_icmp .ge 24, 3) := by decide +kernel
theorem dX1_readRules_35 : decode cX1_readRules 35 = .ok (.aload_n 0, 1) := by decide +kernel
theorem dX1_readRules_36 : decode cX1_readRules 36 = .ok (.getfield 22, 3) := by decide +kernel
theorem dX1_readRules_39 : decode cX1_readRules 39 = .ok (.iload_n 1, 1) := by decide +kernel
theorem dX1_readRules_40 : decode cX1_readRules 40 = .ok (.aload_n 0, 1) := by decide +kernel
theorem dX1_readRules_41 : decode cX1_readRules 41 = .ok (.getfield 12, 3) := by decide +kernel
theorem dX1_readRules_44 : decode cX1_readRules 44 = .ok (.iconst 5, 1) := by decide +kernel
theorem dX1_readRules_45 : decode cX1_readRules 45 = .ok (.iload_n 1, 1) := by decide +kernel
theorem dX1_readRules_46 : decode cX1_readRules 46 = .ok (.invokevirtual 37, 3) := by decide +kernel
theorem dX1_readRules_49 : decode cX1_readRules 49 = .ok (.iastore, 1) := by decide +kernel
theorem dX1_readRules_50 : decode cX1_readRules 50 = .ok (.iinc 1 1, 3) := by decide +kernel
theorem dX1_readRules_53 : decode cX1_readRules 53 = .ok (.goto (-23), 3) := by decide +kernel
theorem dX1_readRules_56 : decode cX1_readRules 56 = .ok (.aload_n 0, 1) := by decide +kernel
theorem dX1_readRules_57 : decode cX1_readRules 57 = .ok (.aload_n 0, 1) := by decide +kernel
theorem dX1_readRules_58 : decode cX1_readRules 58 = .ok (.getfield 12, 3) := by decide +kernel
theorem dX1_readRules_61 : decode cX1_readRules 61 = .ok (.invokevirtual 41, 3) := by decide +kernel
theorem dX1_readRules_64 : decode cX1_readRules 64 = .ok (.putfield 45, 3) := by decide +kernel
theorem dX1_readRules_67 : decode cX1_readRules 67 = .ok (.return_, 1) := by decide +kernel
theorem dX1_readAims_0 : decode cX1_readAims 0 = .ok (.iconst 0, 1) := by decide +kernel
theorem dX1_readAims_1 : decode cX1_readAims 1 = .ok (.istore_n 1, 1) := by decide +kernel
theorem dX1_readAims_2 : decode cX1_readAims 2 = .ok (.iload_n 1, 1) := by decide +kernel
theorem dX1_readAims_3 : decode cX1_readAims 3 = .ok (.iconst 4, 1) := by decide +kernel
theorem dX1_readAims_4 : decode cX1_readAims 4 = .ok (.if_icmp .ge 68, 3) := by decide +kernel
theorem dX1_readAims_7 : decode cX1_readAims 7 = .ok (.iconst 0, 1) := by decide +kernel
theorem dX1_readAims_8 : decode cX1_readAims 8 = .ok (.istore_n 2, 1) := by decide +kernel
theorem dX1_readAims_9 : decode cX1_readAims 9 = .ok (.iload_n 2, 1) := by decide +kernel
theorem dX1_readAims_10 : decode cX1_readAims 10 = .ok (.aload_n 0, 1) := by decide +kernel
theorem dX1_readAims_11 : decode cX1_readAims 11 = .ok (.getfield 12, 3) := by decide +kernel
theorem dX1_readAims_14 : decode cX1_readAims 14 = .ok (.getfield 49, 3) := by decide +kernel
theorem dX1_readAims_17 : decode cX1_readAims 17 = .ok (.if_icmp .ge 49, 3) := by decide +kernel
theorem dX1_readAims_20 : decode cX1_readAims 20 = .ok (.aload_n 0, 1) := by decide +kernel
theorem dX1_readAims_21 : decode cX1_readAims 21 = .ok (.getfield 27, 3) := by decide +kernel
theorem dX1_readAims_24 : decode cX1_readAims 24 = .ok (.iload_n 1, 1) := by decide +kernel
theorem dX1_readAims_25 : decode cX1_readAims 25 = .ok (.aaload, 1) := by decide +kernel
theorem dX1_readAims_26 : decode cX1_readAims 26 = .ok (.iload_n 2, 1) := by decide +kernel
theorem dX1_readAims_27 : decode cX1_readAims 27 = .ok (.aload_n 0, 1) := by decide +kernel
theorem dX1_readAims_28 : decode cX1_readAims 28 = .ok (.getfield 12, 3) := by decide +kernel
theorem dX1_readAims_31 : decode cX1_readAims 31 = .ok (.iload_n 2, 1) := by decide +kernel
theorem dX1_readAims_32 : decode cX1_readAims 32 = .ok (.aload_n 0, 1) := by decide +kernel
theorem dX1_readAims_33 : decode cX1_readAims 33 = .ok (.getfield 12, 3) := by decide +kernel
theorem dX1_readAims_36 : decode cX1_readAims 36 = .ok (.getfield 52, 3) := by decide +kernel
theorem dX1_readAims_39 : decode cX1_readAims 39 = .ok (.iload_n 1, 1) := by decide +kernel
theorem dX1_readAims_40 : decode cX1_readAims 40 = .ok (.iaload, 1) := by decide +kernel
theorem dX1_readAims_41 : decode cX1_readAims 41 = .ok (.invokevirtual 55, 3) := by decide +kernel
theorem dX1_readAims_44 : decode cX1_readAims 44 = .ok (.aload_n 0, 1) := by decide +kernel
theorem dX1_readAims_45 : decode cX1_readAims 45 = .ok (.getfield 12, 3) := by decide +kernel
theorem dX1_readAims_48 : decode cX1_readAims 48 = .ok (.getfield 59, 3) := by decide +kernel
theorem dX1_readAims_51 : decode cX1_readAims 51 = .ok (.iload_n 1, 1) := by decide +kernel
theorem dX1_readAims_52 : decode cX1_readAims 52 = .ok (.iaload, 1) := by decide +kernel
theorem dX1_readAims_53 : decode cX1_readAims 53 = .ok (.i2f, 1) := by decide +kernel
theorem dX1_readAims_54 : decode cX1_readAims 54 = .ok (.ldc 62, 2) := by decide +kernel
theorem dX1_readAims_56 : decode cX1_readAims 56 = .ok (.fmul, 1) := by decide +kernel
theorem dX1_readAims_57 : decode cX1_readAims 57 = .ok (.f2d, 1) := by decide +kernel
theorem dX1_readAims_58 : decode cX1_readAims 58 = .ok (.dmul, 1) := by decide +kernel
theorem dX1_readAims_59 : decode cX1_readAims 59 = .ok (.dastore, 1) := by decide +kernel
theorem dX1_readAims_60 : decode cX1_readAims 60 = .ok (.iinc 2 1, 3) := by decide +kernel
theorem dX1_readAims_63 : decode cX1_readAims 63 = .ok (.goto (-54), 3) := by decide +kernel
theorem dX1_readAims_66 : decode cX1_readAims 66 = .ok (.iinc 1 1, 3) := by decide +kernel
theorem dX1_readAims_69 : decode cX1_readAims 69 = .ok (.goto (-67), 3) := by decide +kernel
theorem dX1_readAims_72 : decode cX1_readAims 72 = .ok (.return_, 1) := by decide +kernel
theorem dX1_valueOf_0 : decode cX1_valueOf 0 = .ok (.dconst 0, 1) := by decide +kernel
theorem dX1_valueOf_1 : decode cX1_valueOf 1 = .ok (.dstore_n 2, 1) := by decide +kernel
theorem dX1_valueOf_2 : decode cX1_valueOf 2 = .ok (.iconst 0, 1) := by decide +kernel
theorem dX1_valueOf_3 : decode cX1_valueOf 3 = .ok (.istore 4, 2) := by decide +kernel
theorem dX1_valueOf_5 : decode cX1_valueOf 5 = .ok (.iload 4, 2) := by decide +kernel
theorem dX1_valueOf_7 : decode cX1_valueOf 7 = .ok (.iconst 4, 1) := by decide +kernel
theorem dX1_valueOf_8 : decode cX1_valueOf 8 = .ok (.if_icmp .ge 52, 3) := by decide +kernel
theorem dX1_valueOf_11 : decode cX1_valueOf 11 = .ok (.iconst 0, 1) := by decide +kernel
theorem dX1_valueOf_12 : decode cX1_valueOf 12 = .ok (.istore 5, 2) := by decide +kernel
theorem dX1_valueOf_14 : decode cX1_valueOf 14 = .ok (.iload 5, 2) := by decide +kernel
theorem dX1_valueOf_16 : decode cX1_valueOf 16 = .ok (.aload_n 0, 1) := by decide +kernel
theorem dX1_valueOf_17 : decode cX1_valueOf 17 = .ok (.getfield 12, 3) := by decide +kernel
theorem dX1_valueOf_20 : decode cX1_valueOf 20 = .ok (.getfield 49, 3) := by decide +kernel
theorem dX1_valueOf_23 : decode cX1_valueOf 23 = .ok (.if_icmp .ge 31, 3) := by decide +kernel
theorem dX1_valueOf_26 : decode cX1_valueOf 26 = .ok (.iload_n 1, 1) := by decide +kernel
theorem dX1_valueOf_27 : decode cX1_valueOf 27 = .ok (.iload 5, 2) := by decide +kernel
theorem dX1_valueOf_29 : decode cX1_valueOf 29 = .ok (.ishr, 1) := by decide +kernel
theorem dX1_valueOf_30 : decode cX1_valueOf 30 = .ok (.iconst 1, 1) := by decide +kernel
theorem dX1_valueOf_31 : decode cX1_valueOf 31 = .ok (.iand, 1) := by decide +kernel
theorem dX1_valueOf_32 : decode cX1_valueOf 32 = .ok (.ifCond .eq 16, 3) := by decide +kernel
theorem dX1_valueOf_35 : decode cX1_valueOf 35 = .ok (.dload_n 2, 1) := by decide +kernel
theorem dX1_valueOf_36 : decode cX1_valueOf 36 = .ok (.aload_n 0, 1) := by decide +kernel
theorem dX1_valueOf_37 : decode cX1_valueOf 37 = .ok (.getfield 27, 3) := by decide +kernel
theorem dX1_valueOf_40 : decode cX1_valueOf 40 = .ok (.iload 4, 2) := by decide +kernel
theorem dX1_valueOf_42 : decode cX1_valueOf 42 = .ok (.aaload, 1) := by decide +kernel
theorem dX1_valueOf_43 : decode cX1_valueOf 43 = .ok (.iload 5, 2) := by decide +kernel
theorem dX1_valueOf_45 : decode cX1_valueOf 45 = .ok (.daload, 1) := by decide +kernel
theorem dX1_valueOf_46 : decode cX1_valueOf 46 = .ok (.dadd, 1) := by decide +kernel
theorem dX1_valueOf_47 : decode cX1_valueOf 47 = .ok (.dstore_n 2, 1) := by decide +kernel
theorem dX1_valueOf_48 : decode cX1_valueOf 48 = .ok (.iinc 5 1, 3) := by decide +kernel
theorem dX1_valueOf_51 : decode cX1_valueOf 51 = .ok (.goto (-37), 3) := by decide +kernel
theorem dX1_valueOf_54 : decode cX1_valueOf 54 = .ok (.iinc 4 1, 3) := by decide +kernel
theorem dX1_valueOf_57 : decode cX1_valueOf 57 = .ok (.goto (-52), 3) := by decide +kernel
theorem dX1_valueOf_60 : decode cX1_valueOf 60 = .ok (.dload_n 2, 1) := by decide +kernel
theorem dX1_valueOf_61 : decode cX1_valueOf 61 = .ok (.dreturn, 1) := by decide +kernel
theorem dX1_isPaper_0 : decode cX1_isPaper 0 = .ok (.aload_n 0, 1) := by decide +kernel
theorem dX1_isPaper_1 : decode cX1_isPaper 1 = .ok (.iload_n 1, 1) := by decide +kernel
theorem dX1_isPaper_2 : decode cX1_isPaper 2 = .ok (.iconst 0, 1) := by decide +kernel
theorem dX1_isPaper_3 : decode cX1_isPaper 3 = .ok (.invokevirtual 63, 3) := by decide +kernel
theorem dX1_isPaper_6 : decode cX1_isPaper 6 = .ok (.ifCond .ne 7, 3) := by decide +kernel
theorem dX1_isPaper_9 : decode cX1_isPaper 9 = .ok (.iconst 1, 1) := by decide +kernel
theorem dX1_isPaper_10 : decode cX1_isPaper 10 = .ok (.goto 4, 3) := by decide +kernel
theorem dX1_isPaper_13 : decode cX1_isPaper 13 = .ok (.iconst 0, 1) := by decide +kernel
theorem dX1_isPaper_14 : decode cX1_isPaper 14 = .ok (.ireturn, 1) := by decide +kernel
theorem dX1_brokenRule_0 : decode cX1_brokenRule 0 = .ok (.iconst 1, 1) := by decide +kernel
theorem dX1_brokenRule_1 : decode cX1_brokenRule 1 = .ok (.istore_n 3, 1) := by decide +kernel
theorem dX1_brokenRule_2 : decode cX1_brokenRule 2 = .ok (.iload_n 3, 1) := by decide +kernel
theorem dX1_brokenRule_3 : decode cX1_brokenRule 3 = .ok (.bipush 6, 2) := by decide +kernel
theorem dX1_brokenRule_5 : decode cX1_brokenRule 5 = .ok (.if_icmp .gt 25, 3) := by decide +kernel
theorem dX1_brokenRule_8 : decode cX1_brokenRule 8 = .ok (.iload_n 3, 1) := by decide +kernel
theorem dX1_brokenRule_9 : decode cX1_brokenRule 9 = .ok (.iload_n 2, 1) := by decide +kernel
theorem dX1_brokenRule_10 : decode cX1_brokenRule 10 = .ok (.if_icmp .eq 14, 3) := by decide +kernel
theorem dX1_brokenRule_13 : decode cX1_brokenRule 13 = .ok (.aload_n 0, 1) := by decide +kernel
theorem dX1_brokenRule_14 : decode cX1_brokenRule 14 = .ok (.iload_n 1, 1) := by decide +kernel
theorem dX1_brokenRule_15 : decode cX1_brokenRule 15 = .ok (.iload_n 3, 1) := by decide +kernel
theorem dX1_brokenRule_16 : decode cX1_brokenRule 16 = .ok (.invokevirtual 66, 3) := by decide +kernel
theorem dX1_brokenRule_19 : decode cX1_brokenRule 19 = .ok (.ifCond .ne 5, 3) := by decide +kernel
theorem dX1_brokenRule_22 : decode cX1_brokenRule 22 = .ok (.iload_n 3, 1) := by decide +kernel
theorem dX1_brokenRule_23 : decode cX1_brokenRule 23 = .ok (.ireturn, 1) := by decide +kernel
theorem dX1_brokenRule_24 : decode cX1_brokenRule 24 = .ok (.iinc 3 1, 3) := by decide +kernel
theorem dX1_brokenRule_27 : decode cX1_brokenRule 27 = .ok (.goto (-25), 3) := by decide +kernel
theorem dX1_brokenRule_30 : decode cX1_brokenRule 30 = .ok (.iconst 0, 1) := by decide +kernel
theorem dX1_brokenRule_31 : decode cX1_brokenRule 31 = .ok (.ireturn, 1) := by decide +kernel
theorem dX1_keeps_0 : decode cX1_keeps 0 = .ok (.iload_n 2, 1) := by decide +kernel
theorem dX1_keeps_1 : decode cX1_keeps 1 = .ok (.tableswitch 98 1 5 #[35, 57, 63, 86, 92], 35) := by decide +kernel
theorem dX1_keeps_36 : decode cX1_keeps 36 = .ok (.iload_n 1, 1) := by decide +kernel
theorem dX1_keeps_37 : decode cX1_keeps 37 = .ok (.invokestatic 70, 3) := by decide +kernel
theorem dX1_keeps_40 : decode cX1_keeps 40 = .ok (.aload_n 0, 1) := by decide +kernel
theorem dX1_keeps_41 : decode cX1_keeps 41 = .ok (.getfield 12, 3) := by decide +kernel
theorem dX1_keeps_44 : decode cX1_keeps 44 = .ok (.getfield 76, 3) := by decide +kernel
theorem dX1_keeps_47 : decode cX1_keeps 47 = .ok (.iconst 0, 1) := by decide +kernel
theorem dX1_keeps_48 : decode cX1_keeps 48 = .ok (.iaload, 1) := by decide +kernel
theorem dX1_keeps_49 : decode cX1_keeps 49 = .ok (.if_icmp .ne 7, 3) := by decide +kernel
theorem dX1_keeps_52 : decode cX1_keeps 52 = .ok (.iconst 1, 1) := by decide +kernel
theorem dX1_keeps_53 : decode cX1_keeps 53 = .ok (.goto 4, 3) := by decide +kernel
theorem dX1_keeps_56 : decode cX1_keeps 56 = .ok (.iconst 0, 1) := by decide +kernel
theorem dX1_keeps_57 : decode cX1_keeps 57 = .ok (.ireturn, 1) := by decide +kernel
theorem dX1_keeps_58 : decode cX1_keeps 58 = .ok (.aload_n 0, 1) := by decide +kernel
theorem dX1_keeps_59 : decode cX1_keeps 59 = .ok (.iload_n 1, 1) := by decide +kernel
theorem dX1_keeps_60 : decode cX1_keeps 60 = .ok (.invokevirtual 79, 3) := by decide +kernel
theorem dX1_keeps_63 : decode cX1_keeps 63 = .ok (.ireturn, 1) := by decide +kernel
theorem dX1_keeps_64 : decode cX1_keeps 64 = .ok (.aload_n 0, 1) := by decide +kernel
theorem dX1_keeps_65 : decode cX1_keeps 65 = .ok (.iload_n 1, 1) := by decide +kernel
theorem dX1_keeps_66 : decode cX1_keeps 66 = .ok (.invokevirtual 83, 3) := by decide +kernel
theorem dX1_keeps_69 : decode cX1_keeps 69 = .ok (.aload_n 0, 1) := by decide +kernel
theorem dX1_keeps_70 : decode cX1_keeps 70 = .ok (.getfield 12, 3) := by decide +kernel
theorem dX1_keeps_73 : decode cX1_keeps 73 = .ok (.getfield 76, 3) := by decide +kernel
theorem dX1_keeps_76 : decode cX1_keeps 76 = .ok (.iconst 1, 1) := by decide +kernel
theorem dX1_keeps_77 : decode cX1_keeps 77 = .ok (.iaload, 1) := by decide +kernel
theorem dX1_keeps_78 : decode cX1_keeps 78 = .ok (.if_icmp .gt 7, 3) := by decide +kernel
theorem dX1_keeps_81 : decode cX1_keeps 81 = .ok (.iconst 1, 1) := by decide +kernel
theorem dX1_keeps_82 : decode cX1_keeps 82 = .ok (.goto 4, 3) := by decide +kernel
theorem dX1_keeps_85 : decode cX1_keeps 85 = .ok (.iconst 0, 1) := by decide +kernel
theorem dX1_keeps_86 : decode cX1_keeps 86 = .ok (.ireturn, 1) := by decide +kernel
theorem dX1_keeps_87 : decode cX1_keeps 87 = .ok (.aload_n 0, 1) := by decide +kernel
theorem dX1_keeps_88 : decode cX1_keeps 88 = .ok (.iload_n 1, 1) := by decide +kernel
theorem dX1_keeps_89 : decode cX1_keeps 89 = .ok (.invokevirtual 86, 3) := by decide +kernel
theorem dX1_keeps_92 : decode cX1_keeps 92 = .ok (.ireturn, 1) := by decide +kernel
theorem dX1_keeps_93 : decode cX1_keeps 93 = .ok (.aload_n 0, 1) := by decide +kernel
theorem dX1_keeps_94 : decode cX1_keeps 94 = .ok (.iload_n 1, 1) := by decide +kernel
theorem dX1_keeps_95 : decode cX1_keeps 95 = .ok (.invokevirtual 89, 3) := by decide +kernel
theorem dX1_keeps_98 : decode cX1_keeps 98 = .ok (.ireturn, 1) := by decide +kernel
theorem dX1_keeps_99 : decode cX1_keeps 99 = .ok (.iload_n 1, 1) := by decide +kernel
theorem dX1_keeps_100 : decode cX1_keeps 100 = .ok (.aload_n 0, 1) := by decide +kernel
theorem dX1_keeps_101 : decode cX1_keeps 101 = .ok (.getfield 45, 3) := by decide +kernel
theorem dX1_keeps_104 : decode cX1_keeps 104 = .ok (.iand, 1) := by decide +kernel
theorem dX1_keeps_105 : decode cX1_keeps 105 = .ok (.ifCond .ne 7, 3) := by decide +kernel
theorem dX1_keeps_108 : decode cX1_keeps 108 = .ok (.iconst 1, 1) := by decide +kernel
theorem dX1_keeps_109 : decode cX1_keeps 109 = .ok (.goto 4, 3) := by decide +kernel
theorem dX1_keeps_112 : decode cX1_keeps 112 = .ok (.iconst 0, 1) := by decide +kernel
theorem dX1_keeps_113 : decode cX1_keeps 113 = .ok (.ireturn, 1) := by decide +kernel
theorem dX1_keepsTopics_0 : decode cX1_keepsTopics 0 = .ok (.iconst 0, 1) := by decide +kernel
theorem dX1_keepsTopics_1 : decode cX1_keepsTopics 1 = .ok (.istore_n 2, 1) := by decide +kernel
theorem dX1_keepsTopics_2 : decode cX1_keepsTopics 2 = .ok (.iload_n 2, 1) := by decide +kernel
theorem dX1_keepsTopics_3 : decode cX1_keepsTopics 3 = .ok (.iconst 4, 1) := by decide +kernel
theorem dX1_keepsTopics_4 : decode cX1_keepsTopics 4 = .ok (.if_icmp .ge 49, 3) := by decide +kernel
theorem dX1_keepsTopics_7 : decode cX1_keepsTopics 7 = .ok (.iload_n 1, 1) := by decide +kernel
theorem dX1_keepsTopics_8 : decode cX1_keepsTopics 8 = .ok (.aload_n 0, 1) := by decide +kernel
theorem dX1_keepsTopics_9 : decode cX1_keepsTopics 9 = .ok (.getfield 18, 3) := by decide +kernel
theorem dX1_keepsTopics_12 : decode cX1_keepsTopics 12 = .ok (.iload_n 2, 1) := by decide +kernel
theorem dX1_keepsTopics_13 : decode cX1_keepsTopics 13 = .ok (.iaload, 1) := by decide +kernel
theorem dX1_keepsTopics_14 : decode cX1_keepsTopics 14 = .ok (.iand, 1) := by decide +kernel
theorem dX1_keepsTopics_15 : decode cX1_keepsTopics 15 = .ok (.invokestatic 70, 3) := by decide +kernel
theorem dX1_keepsTopics_18 : decode cX1_keepsTopics 18 = .ok (.istore_n 3, 1) := by decide +kernel
theorem dX1_keepsTopics_19 : decode cX1_keepsTopics 19 = .ok (.iload_n 3, 1) := by decide +kernel
theorem dX1_keepsTopics_20 : decode cX1_keepsTopics 20 = .ok (.aload_n 0, 1) := by decide +kernel
theorem dX1_keepsTopics_21 : decode cX1_keepsTopics 21 = .ok (.getfield 12, 3) := by decide +kernel
theorem dX1_keepsTopics_24 : decode cX1_keepsTopics 24 = .ok (.getfield 92, 3) := by decide +kernel
theorem dX1_keepsTopics_27 : decode cX1_keepsTopics 27 = .ok (.iload_n 2, 1) := by decide +kernel
theorem dX1_keepsTopics_28 : decode cX1_keepsTopics 28 = .ok (.iaload, 1) := by decide +kernel
theorem dX1_keepsTopics_29 : decode cX1_keepsTopics 29 = .ok (.if_icmp .lt 16, 3) := by decide +kernel
theorem dX1_keepsTopics_32 : decode cX1_keepsTopics 32 = .ok (.iload_n 3, 1) := by decide +kernel
theorem dX1_keepsTopics_33 : decode cX1_keepsTopics 33 = .ok (.aload_n 0, 1) := by decide +kernel
theorem dX1_keepsTopics_34 : decode cX1_keepsTopics 34 = .ok (.getfield 12, 3) := by decide +kernel
theorem dX1_keepsTopics_37 : decode cX1_keepsTopics 37 = .ok (.getfield 95, 3) := by decide +kernel
theorem dX1_keepsTopics_40 : decode cX1_keepsTopics 40 = .ok (.iload_n 2, 1) := by decide +kernel
theorem dX1_keepsTopics_41 : decode cX1_keepsTopics 41 = .ok (.iaload, 1) := by decide +kernel
theorem dX1_keepsTopics_42 : decode cX1_keepsTopics 42 = .ok (.if_icmp .le 5, 3) := by decide +kernel
theorem dX1_keepsTopics_45 : decode cX1_keepsTopics 45 = .ok (.iconst 0, 1) := by decide +kernel
theorem dX1_keepsTopics_46 : decode cX1_keepsTopics 46 = .ok (.ireturn, 1) := by decide +kernel
theorem dX1_keepsTopics_47 : decode cX1_keepsTopics 47 = .ok (.iinc 2 1, 3) := by decide +kernel
theorem dX1_keepsTopics_50 : decode cX1_keepsTopics 50 = .ok (.goto (-48), 3) := by decide +kernel
theorem dX1_keepsTopics_53 : decode cX1_keepsTopics 53 = .ok (.iconst 1, 1) := by decide +kernel
theorem dX1_keepsTopics_54 : decode cX1_keepsTopics 54 = .ok (.ireturn, 1) := by decide +kernel
theorem dX1_minutesOf_0 : decode cX1_minutesOf 0 = .ok (.iconst 0, 1) := by decide +kernel
theorem dX1_minutesOf_1 : decode cX1_minutesOf 1 = .ok (.istore_n 2, 1) := by decide +kernel
theorem dX1_minutesOf_2 : decode cX1_minutesOf 2 = .ok (.iconst 0, 1) := by decide +kernel
theorem dX1_minutesOf_3 : decode cX1_minutesOf 3 = .ok (.istore_n 3, 1) := by decide +kernel
theorem dX1_minutesOf_4 : decode cX1_minutesOf 4 = .ok (.iload_n 3, 1) := by decide +kernel
theorem dX1_minutesOf_5 : decode cX1_minutesOf 5 = .ok (.aload_n 0, 1) := by decide +kernel
theorem dX1_minutesOf_6 : decode cX1_minutesOf 6 = .ok (.getfield 12, 3) := by decide +kernel
theorem dX1_minutesOf_9 : decode cX1_minutesOf 9 = .ok (.getfield 49, 3) := by decide +kernel
theorem dX1_minutesOf_12 : decode cX1_minutesOf 12 = .ok (.if_icmp .ge 31, 3) := by decide +kernel
theorem dX1_minutesOf_15 : decode cX1_minutesOf 15 = .ok (.iload_n 1, 1) := by decide +kernel
theorem dX1_minutesOf_16 : decode cX1_minutesOf 16 = .ok (.iload_n 3, 1) := by decide +kernel
theorem dX1_minutesOf_17 : decode cX1_minutesOf 17 = .ok (.ishr, 1) := by decide +kernel
theorem dX1_minutesOf_18 : decode cX1_minutesOf 18 = .ok (.iconst 1, 1) := by decide +kernel
theorem dX1_minutesOf_19 : decode cX1_minutesOf 19 = .ok (.iand, 1) := by decide +kernel
theorem dX1_minutesOf_20 : decode cX1_minutesOf 20 = .ok (.ifCond .eq 17, 3) := by decide +kernel
theorem dX1_minutesOf_23 : decode cX1_minutesOf 23 = .ok (.iload_n 2, 1) := by decide +kernel
theorem dX1_minutesOf_24 : decode cX1_minutesOf 24 = .ok (.aload_n 0, 1) := by decide +kernel
theorem dX1_minutesOf_25 : decode cX1_minutesOf 25 = .ok (.getfield 12, 3) := by decide +kernel
theorem dX1_minutesOf_28 : decode cX1_minutesOf 28 = .ok (.getfield 98, 3) := by decide +kernel
theorem dX1_minutesOf_31 : decode cX1_minutesOf 31 = .ok (.iconst 2, 1) := by decide +kernel
theorem dX1_minutesOf_32 : decode cX1_minutesOf 32 = .ok (.aaload, 1) := by decide +kernel
theorem dX1_minutesOf_33 : decode cX1_minutesOf 33 = .ok (.iload_n 3, 1) := by decide +kernel
theorem dX1_minutesOf_34 : decode cX1_minutesOf 34 = .ok (.iaload, 1) := by decide +kernel
theorem dX1_minutesOf_35 : decode cX1_minutesOf 35 = .ok (.iadd, 1) := by decide +kernel
theorem dX1_minutesOf_36 : decode cX1_minutesOf 36 = .ok (.istore_n 2, 1) := by decide +kernel
theorem dX1_minutesOf_37 : decode cX1_minutesOf 37 = .ok (.iinc 3 1, 3) := by decide +kernel
theorem dX1_minutesOf_40 : decode cX1_minutesOf 40 = .ok (.goto (-36), 3) := by decide +kernel
theorem dX1_minutesOf_43 : decode cX1_minutesOf 43 = .ok (.iload_n 2, 1) := by decide +kernel
theorem dX1_minutesOf_44 : decode cX1_minutesOf 44 = .ok (.ireturn, 1) := by decide +kernel
theorem dX1_keepsPeace_0 : decode cX1_keepsPeace 0 = .ok (.iconst 0, 1) := by decide +kernel
theorem dX1_keepsPeace_1 : decode cX1_keepsPeace 1 = .ok (.istore_n 2, 1) := by decide +kernel
theorem dX1_keepsPeace_2 : decode cX1_keepsPeace 2 = .ok (.iload_n 2, 1) := by decide +kernel
theorem dX1_keepsPeace_3 : decode cX1_keepsPeace 3 = .ok (.aload_n 0, 1) := by decide +kernel
theorem dX1_keepsPeace_4 : decode cX1_keepsPeace 4 = .ok (.getfield 12, 3) := by decide +kernel
theorem dX1_keepsPeace_7 : decode cX1_keepsPeace 7 = .ok (.getfield 49, 3) := by decide +kernel
theorem dX1_keepsPeace_10 : decode cX1_keepsPeace 10 = .ok (.if_icmp .ge 36, 3) := by decide +kernel
theorem dX1_keepsPeace_13 : decode cX1_keepsPeace 13 = .ok (.iload_n 1, 1) := by decide +kernel
theorem dX1_keepsPeace_14 : decode cX1_keepsPeace 14 = .ok (.iload_n 2, 1) := by decide +kernel
theorem dX1_keepsPeace_15 : decode cX1_keepsPeace 15 = .ok (.ishr, 1) := by decide +kernel
theorem dX1_keepsPeace_16 : decode cX1_keepsPeace 16 = .ok (.iconst 1, 1) := by decide +kernel
theorem dX1_keepsPeace_17 : decode cX1_keepsPeace 17 = .ok (.iand, 1) := by decide +kernel
theorem dX1_keepsPeace_18 : decode cX1_keepsPeace 18 = .ok (.ifCond .eq 22, 3) := by decide +kernel
theorem dX1_keepsPeace_21 : decode cX1_keepsPeace 21 = .ok (.iload_n 1, 1) := by decide +kernel
theorem dX1_keepsPeace_22 : decode cX1_keepsPeace 22 = .ok (.aload_n 0, 1) := by decide +kernel
theorem dX1_keepsPeace_23 : decode cX1_keepsPeace 23 = .ok (.getfield 12, 3) := by decide +kernel
theorem dX1_keepsPeace_26 : decode cX1_keepsPeace 26 = .ok (.getfield 98, 3) := by decide +kernel
theorem dX1_keepsPeace_29 : decode cX1_keepsPeace 29 = .ok (.bipush 7, 2) := by decide +kernel
theorem dX1_keepsPeace_31 : decode cX1_keepsPeace 31 = .ok (.aaload, 1) := by decide +kernel
theorem dX1_keepsPeace_32 : decode cX1_keepsPeace 32 = .ok (.iload_n 2, 1) := by decide +kernel
theorem dX1_keepsPeace_33 : decode cX1_keepsPeace 33 = .ok (.iaload, 1) := by decide +kernel
theorem dX1_keepsPeace_34 : decode cX1_keepsPeace 34 = .ok (.iand, 1) := by decide +kernel
theorem dX1_keepsPeace_35 : decode cX1_keepsPeace 35 = .ok (.ifCond .eq 5, 3) := by decide +kernel
theorem dX1_keepsPeace_38 : decode cX1_keepsPeace 38 = .ok (.iconst 0, 1) := by decide +kernel
theorem dX1_keepsPeace_39 : decode cX1_keepsPeace 39 = .ok (.ireturn, 1) := by decide +kernel
theorem dX1_keepsPeace_40 : decode cX1_keepsPeace 40 = .ok (.iinc 2 1, 3) := by decide +kernel
theorem dX1_keepsPeace_43 : decode cX1_keepsPeace 43 = .ok (.goto (-41), 3) := by decide +kernel
theorem dX1_keepsPeace_46 : decode cX1_keepsPeace 46 = .ok (.iconst 1, 1) := by decide +kernel
theorem dX1_keepsPeace_47 : decode cX1_keepsPeace 47 = .ok (.ireturn, 1) := by decide +kernel
theorem dX1_sharesTexts_0 : decode cX1_sharesTexts 0 = .ok (.iconst 0, 1) := by decide +kernel
theorem dX1_sharesTexts_1 : decode cX1_sharesTexts 1 = .ok (.istore_n 2, 1) := by decide +kernel
theorem dX1_sharesTexts_2 : decode cX1_sharesTexts 2 = .ok (.iload_n 2, 1) := by decide +kernel
theorem dX1_sharesTexts_3 : decode cX1_sharesTexts 3 = .ok (.iconst 4, 1) := by decide +kernel
theorem dX1_sharesTexts_4 : decode cX1_sharesTexts 4 = .ok (.if_icmp .ge 26, 3) := by decide +kernel
theorem dX1_sharesTexts_7 : decode cX1_sharesTexts 7 = .ok (.iload_n 1, 1) := by decide +kernel
theorem dX1_sharesTexts_8 : decode cX1_sharesTexts 8 = .ok (.aload_n 0, 1) := by decide +kernel
theorem dX1_sharesTexts_9 : decode cX1_sharesTexts 9 = .ok (.getfield 22, 3) := by decide +kernel
theorem dX1_sharesTexts_12 : decode cX1_sharesTexts 12 = .ok (.iload_n 2, 1) := by decide +kernel
theorem dX1_sharesTexts_13 : decode cX1_sharesTexts 13 = .ok (.iaload, 1) := by decide +kernel
theorem dX1_sharesTexts_14 : decode cX1_sharesTexts 14 = .ok (.iand, 1) := by decide +kernel
theorem dX1_sharesTexts_15 : decode cX1_sharesTexts 15 = .ok (.invokestatic 70, 3) := by decide +kernel
theorem dX1_sharesTexts_18 : decode cX1_sharesTexts 18 = .ok (.iconst 1, 1) := by decide +kernel
theorem dX1_sharesTexts_19 : decode cX1_sharesTexts 19 = .ok (.if_icmp .ne 5, 3) := by decide +kernel
theorem dX1_sharesTexts_22 : decode cX1_sharesTexts 22 = .ok (.iconst 0, 1) := by decide +kernel
theorem dX1_sharesTexts_23 : decode cX1_sharesTexts 23 = .ok (.ireturn, 1) := by decide +kernel
theorem dX1_sharesTexts_24 : decode cX1_sharesTexts 24 = .ok (.iinc 2 1, 3) := by decide +kernel
theorem dX1_sharesTexts_27 : decode cX1_sharesTexts 27 = .ok (.goto (-25), 3) := by decide +kernel
theorem dX1_sharesTexts_30 : decode cX1_sharesTexts 30 = .ok (.iconst 1, 1) := by decide +kernel
theorem dX1_sharesTexts_31 : decode cX1_sharesTexts 31 = .ok (.ireturn, 1) := by decide +kernel
theorem dX1_countPapers_0 : decode cX1_countPapers 0 = .ok (.iconst 0, 1) := by decide +kernel
theorem dX1_countPapers_1 : decode cX1_countPapers 1 = .ok (.istore_n 2, 1) := by decide +kernel
theorem dX1_countPapers_2 : decode cX1_countPapers 2 = .ok (.iconst 0, 1) := by decide +kernel
theorem dX1_countPapers_3 : decode cX1_countPapers 3 = .ok (.istore_n 3, 1) := by decide +kernel
theorem dX1_countPapers_4 : decode cX1_countPapers 4 = .ok (.iload_n 3, 1) := by decide +kernel
theorem dX1_countPapers_5 : decode cX1_countPapers 5 = .ok (.iconst 1, 1) := by decide +kernel
theorem dX1_countPapers_6 : decode cX1_countPapers 6 = .ok (.aload_n 0, 1) := by decide +kernel
theorem dX1_countPapers_7 : decode cX1_countPapers 7 = .ok (.getfield 12, 3) := by decide +kernel
theorem dX1_countPapers_10 : decode cX1_countPapers 10 = .ok (.getfield 49, 3) := by decide +kernel
theorem dX1_countPapers_13 : decode cX1_countPapers 13 = .ok (.ishl, 1) := by decide +kernel
theorem dX1_countPapers_14 : decode cX1_countPapers 14 = .ok (.if_icmp .ge 21, 3) := by decide +kernel
theorem dX1_countPapers_17 : decode cX1_countPapers 17 = .ok (.aload_n 0, 1) := by decide +kernel
theorem dX1_countPapers_18 : decode cX1_countPapers 18 = .ok (.iload_n 3, 1) := by decide +kernel
theorem dX1_countPapers_19 : decode cX1_countPapers 19 = .ok (.iload_n 1, 1) := by decide +kernel
theorem dX1_countPapers_20 : decode cX1_countPapers 20 = .ok (.invokevirtual 63, 3) := by decide +kernel
theorem dX1_countPapers_23 : decode cX1_countPapers 23 = .ok (.ifCond .ne 6, 3) := by decide +kernel
theorem dX1_countPapers_26 : decode cX1_countPapers 26 = .ok (.iinc 2 1, 3) := by decide +kernel
theorem dX1_countPapers_29 : decode cX1_countPapers 29 = .ok (.iinc 3 1, 3) := by decide +kernel
theorem dX1_countPapers_32 : decode cX1_countPapers 32 = .ok (.goto (-28), 3) := by decide +kernel
theorem dX1_countPapers_35 : decode cX1_countPapers 35 = .ok (.iload_n 2, 1) := by decide +kernel
theorem dX1_countPapers_36 : decode cX1_countPapers 36 = .ok (.ireturn, 1) := by decide +kernel
theorem dX1_listPapers_0 : decode cX1_listPapers 0 = .ok (.aload_n 0, 1) := by decide +kernel
theorem dX1_listPapers_1 : decode cX1_listPapers 1 = .ok (.invokevirtual 102, 3) := by decide +kernel
theorem dX1_listPapers_4 : decode cX1_listPapers 4 = .ok (.aload_n 0, 1) := by decide +kernel
theorem dX1_listPapers_5 : decode cX1_listPapers 5 = .ok (.invokevirtual 105, 3) := by decide +kernel
theorem dX1_listPapers_8 : decode cX1_listPapers 8 = .ok (.aload_n 0, 1) := by decide +kernel
theorem dX1_listPapers_9 : decode cX1_listPapers 9 = .ok (.iconst 0, 1) := by decide +kernel
theorem dX1_listPapers_10 : decode cX1_listPapers 10 = .ok (.putfield 108, 3) := by decide +kernel
theorem dX1_listPapers_13 : decode cX1_listPapers 13 = .ok (.iconst 0, 1) := by decide +kernel
theorem dX1_listPapers_14 : decode cX1_listPapers 14 = .ok (.istore_n 1, 1) := by decide +kernel
theorem dX1_listPapers_15 : decode cX1_listPapers 15 = .ok (.iload_n 1, 1) := by decide +kernel
theorem dX1_listPapers_16 : decode cX1_listPapers 16 = .ok (.iconst 1, 1) := by decide +kernel
theorem dX1_listPapers_17 : decode cX1_listPapers 17 = .ok (.aload_n 0, 1) := by decide +kernel
theorem dX1_listPapers_18 : decode cX1_listPapers 18 = .ok (.getfield 12, 3) := by decide +kernel
theorem dX1_listPapers_21 : decode cX1_listPapers 21 = .ok (.getfield 49, 3) := by decide +kernel
theorem dX1_listPapers_24 : decode cX1_listPapers 24 = .ok (.ishl, 1) := by decide +kernel
theorem dX1_listPapers_25 : decode cX1_listPapers 25 = .ok (.if_icmp .ge 62, 3) := by decide +kernel
theorem dX1_listPapers_28 : decode cX1_listPapers 28 = .ok (.aload_n 0, 1) := by decide +kernel
theorem dX1_listPapers_29 : decode cX1_listPapers 29 = .ok (.getfield 108, 3) := by decide +kernel
theorem dX1_listPapers_32 : decode cX1_listPapers 32 = .ok (.sipush 924, 3) := by decide +kernel
theorem dX1_listPapers_35 : decode cX1_listPapers 35 = .ok (.if_icmp .ge 52, 3) := by decide +kernel
theorem dX1_listPapers_38 : decode cX1_listPapers 38 = .ok (.aload_n 0, 1) := by decide +kernel
theorem dX1_listPapers_39 : decode cX1_listPapers 39 = .ok (.iload_n 1, 1) := by decide +kernel
theorem dX1_listPapers_40 : decode cX1_listPapers 40 = .ok (.iconst 0, 1) := by decide +kernel
theorem dX1_listPapers_41 : decode cX1_listPapers 41 = .ok (.invokevirtual 63, 3) := by decide +kernel
theorem dX1_listPapers_44 : decode cX1_listPapers 44 = .ok (.ifCond .ne 37, 3) := by decide +kernel
theorem dX1_listPapers_47 : decode cX1_listPapers 47 = .ok (.aload_n 0, 1) := by decide +kernel
theorem dX1_listPapers_48 : decode cX1_listPapers 48 = .ok (.getfield 30, 3) := by decide +kernel
theorem dX1_listPapers_51 : decode cX1_listPapers 51 = .ok (.aload_n 0, 1) := by decide +kernel
theorem dX1_listPapers_52 : decode cX1_listPapers 52 = .ok (.getfield 108, 3) := by decide +kernel
theorem dX1_listPapers_55 : decode cX1_listPapers 55 = .ok (.iload_n 1, 1) := by decide +kernel
theorem dX1_listPapers_56 : decode cX1_listPapers 56 = .ok (.iastore, 1) := by decide +kernel
theorem dX1_listPapers_57 : decode cX1_listPapers 57 = .ok (.aload_n 0, 1) := by decide +kernel
theorem dX1_listPapers_58 : decode cX1_listPapers 58 = .ok (.getfield 33, 3) := by decide +kernel
theorem dX1_listPapers_61 : decode cX1_listPapers 61 = .ok (.aload_n 0, 1) := by decide +kernel
theorem dX1_listPapers_62 : decode cX1_listPapers 62 = .ok (.getfield 108, 3) := by decide +kernel
theorem dX1_listPapers_65 : decode cX1_listPapers 65 = .ok (.aload_n 0, 1) := by decide +kernel
theorem dX1_listPapers_66 : decode cX1_listPapers 66 = .ok (.iload_n 1, 1) := by decide +kernel
theorem dX1_listPapers_67 : decode cX1_listPapers 67 = .ok (.invokevirtual 111, 3) := by decide +kernel
theorem dX1_listPapers_70 : decode cX1_listPapers 70 = .ok (.dastore, 1) := by decide +kernel
theorem dX1_listPapers_71 : decode cX1_listPapers 71 = .ok (.aload_n 0, 1) := by decide +kernel
theorem dX1_listPapers_72 : decode cX1_listPapers 72 = .ok (.dup, 1) := by decide +kernel
theorem dX1_listPapers_73 : decode cX1_listPapers 73 = .ok (.getfield 108, 3) := by decide +kernel
theorem dX1_listPapers_76 : decode cX1_listPapers 76 = .ok (.iconst 1, 1) := by decide +kernel
theorem dX1_listPapers_77 : decode cX1_listPapers 77 = .ok (.iadd, 1) := by decide +kernel
theorem dX1_listPapers_78 : decode cX1_listPapers 78 = .ok (.putfield 108, 3) := by decide +kernel
theorem dX1_listPapers_81 : decode cX1_listPapers 81 = .ok (.iinc 1 1, 3) := by decide +kernel
theorem dX1_listPapers_84 : decode cX1_listPapers 84 = .ok (.goto (-69), 3) := by decide +kernel
theorem dX1_listPapers_87 : decode cX1_listPapers 87 = .ok (.return_, 1) := by decide +kernel
theorem dX1_bestListed_0 : decode cX1_bestListed 0 = .ok (.aload_n 0, 1) := by decide +kernel
theorem dX1_bestListed_1 : decode cX1_bestListed 1 = .ok (.getfield 12, 3) := by decide +kernel
theorem dX1_bestListed_4 : decode cX1_bestListed 4 = .ok (.invokevirtual 41, 3) := by decide +kernel
theorem dX1_bestListed_7 : decode cX1_bestListed 7 = .ok (.istore_n 1, 1) := by decide +kernel
theorem dX1_bestListed_8 : decode cX1_bestListed 8 = .ok (.iconst (-1), 1) := by decide +kernel
theorem dX1_bestListed_9 : decode cX1_bestListed 9 = .ok (.istore_n 2, 1) := by decide +kernel
theorem dX1_bestListed_10 : decode cX1_bestListed 10 = .ok (.dconst 0, 1) := by decide +kernel
theorem dX1_bestListed_11 : decode cX1_bestListed 11 = .ok (.dstore_n 3, 1) := by decide +kernel
theorem dX1_bestListed_12 : decode cX1_bestListed 12 = .ok (.iconst 0, 1) := by decide +kernel
theorem dX1_bestListed_13 : decode cX1_bestListed 13 = .ok (.istore 5, 2) := by decide +kernel
theorem dX1_bestListed_15 : decode cX1_bestListed 15 = .ok (.iload 5, 2) := by decide +kernel
theorem dX1_bestListed_17 : decode cX1_bestListed 17 = .ok (.aload_n 0, 1) := by decide +kernel
theorem dX1_bestListed_18 : decode cX1_bestListed 18 = .ok (.getfield 108, 3) := by decide +kernel
theorem dX1_bestListed_21 : decode cX1_bestListed 21 = .ok (.if_icmp .ge 53, 3) := by decide +kernel
theorem dX1_bestListed_24 : decode cX1_bestListed 24 = .ok (.aload_n 0, 1) := by decide +kernel
theorem dX1_bestListed_25 : decode cX1_bestListed 25 = .ok (.getfield 30, 3) := by decide +kernel
theorem dX1_bestListed_28 : decode cX1_bestListed 28 = .ok (.iload 5, 2) := by decide +kernel
theorem dX1_bestListed_30 : decode cX1_bestListed 30 = .ok (.iaload, 1) := by decide +kernel
theorem dX1_bestListed_31 : decode cX1_bestListed 31 = .ok (.iload_n 1, 1) := by decide +kernel
theorem dX1_bestListed_32 : decode cX1_bestListed 32 = .ok (.iand, 1) := by decide +kernel
theorem dX1_bestListed_33 : decode cX1_bestListed 33 = .ok (.ifCond .ne 35, 3) := by decide +kernel
theorem dX1_bestListed_36 : decode cX1_bestListed 36 = .ok (.iload_n 2, 1) := by decide +kernel
theorem dX1_bestListed_37 : decode cX1_bestListed 37 = .ok (.ifCond .lt 15, 3) := by decide +kernel
theorem dX1_bestListed_40 : decode cX1_bestListed 40 = .ok (.aload_n 0, 1) := by decide +kernel
theorem dX1_bestListed_41 : decode cX1_bestListed 41 = .ok (.getfield 33, 3) := by decide +kernel
theorem dX1_bestListed_44 : decode cX1_bestListed 44 = .ok (.iload 5, 2) := by decide +kernel
theorem dX1_bestListed_46 : decode cX1_bestListed 46 = .ok (.daload, 1) := by decide +kernel
theorem dX1_bestListed_47 : decode cX1_bestListed 47 = .ok (.dload_n 3, 1) := by decide +kernel
theorem dX1_bestListed_48 : decode cX1_bestListed 48 = .ok (.dcmp .l, 1) := by decide +kernel
theorem dX1_bestListed_49 : decode cX1_bestListed 49 = .ok (.ifCond .le 19, 3) := by decide +kernel
theorem dX1_bestListed_52 : decode cX1_bestListed 52 = .ok (.aload_n 0, 1) := by decide +kernel
theorem dX1_bestListed_53 : decode cX1_bestListed 53 = .ok (.getfield 30, 3) := by decide +kernel
theorem dX1_bestListed_56 : decode cX1_bestListed 56 = .ok (.iload 5, 2) := by decide +kernel
theorem dX1_bestListed_58 : decode cX1_bestListed 58 = .ok (.iaload, 1) := by decide +kernel
theorem dX1_bestListed_59 : decode cX1_bestListed 59 = .ok (.istore_n 2, 1) := by decide +kernel
theorem dX1_bestListed_60 : decode cX1_bestListed 60 = .ok (.aload_n 0, 1) := by decide +kernel
theorem dX1_bestListed_61 : decode cX1_bestListed 61 = .ok (.getfield 33, 3) := by decide +kernel
theorem dX1_bestListed_64 : decode cX1_bestListed 64 = .ok (.iload 5, 2) := by decide +kernel
theorem dX1_bestListed_66 : decode cX1_bestListed 66 = .ok (.daload, 1) := by decide +kernel
theorem dX1_bestListed_67 : decode cX1_bestListed 67 = .ok (.dstore_n 3, 1) := by decide +kernel
theorem dX1_bestListed_68 : decode cX1_bestListed 68 = .ok (.iinc 5 1, 3) := by decide +kernel
theorem dX1_bestListed_71 : decode cX1_bestListed 71 = .ok (.goto (-56), 3) := by decide +kernel
theorem dX1_bestListed_74 : decode cX1_bestListed 74 = .ok (.iload_n 2, 1) := by decide +kernel
theorem dX1_bestListed_75 : decode cX1_bestListed 75 = .ok (.ireturn, 1) := by decide +kernel
theorem dX1_countBetter_0 : decode cX1_countBetter 0 = .ok (.iconst 0, 1) := by decide +kernel
theorem dX1_countBetter_1 : decode cX1_countBetter 1 = .ok (.istore_n 3, 1) := by decide +kernel
theorem dX1_countBetter_2 : decode cX1_countBetter 2 = .ok (.iconst 0, 1) := by decide +kernel
theorem dX1_countBetter_3 : decode cX1_countBetter 3 = .ok (.istore 4, 2) := by decide +kernel
theorem dX1_countBetter_5 : decode cX1_countBetter 5 = .ok (.iload 4, 2) := by decide +kernel
theorem dX1_countBetter_7 : decode cX1_countBetter 7 = .ok (.aload_n 0, 1) := by decide +kernel
theorem dX1_countBetter_8 : decode cX1_countBetter 8 = .ok (.getfield 108, 3) := by decide +kernel
theorem dX1_countBetter_11 : decode cX1_countBetter 11 = .ok (.if_icmp .ge 24, 3) := by decide +kernel
theorem dX1_countBetter_14 : decode cX1_countBetter 14 = .ok (.aload_n 0, 1) := by decide +kernel
theorem dX1_countBetter_15 : decode cX1_countBetter 15 = .ok (.getfield 33, 3) := by decide +kernel
theorem dX1_countBetter_18 : decode cX1_countBetter 18 = .ok (.iload 4, 2) := by decide +kernel
theorem dX1_countBetter_20 : decode cX1_countBetter 20 = .ok (.daload, 1) := by decide +kernel
theorem dX1_countBetter_21 : decode cX1_countBetter 21 = .ok (.dload_n 1, 1) := by decide +kernel
theorem dX1_countBetter_22 : decode cX1_countBetter 22 = .ok (.dcmp .l, 1) := by decide +kernel
theorem dX1_countBetter_23 : decode cX1_countBetter 23 = .ok (.ifCond .le 6, 3) := by decide +kernel
theorem dX1_countBetter_26 : decode cX1_countBetter 26 = .ok (.iinc 3 1, 3) := by decide +kernel
theorem dX1_countBetter_29 : decode cX1_countBetter 29 = .ok (.iinc 4 1, 3) := by decide +kernel
theorem dX1_countBetter_32 : decode cX1_countBetter 32 = .ok (.goto (-27), 3) := by decide +kernel
theorem dX1_countBetter_35 : decode cX1_countBetter 35 = .ok (.iload_n 3, 1) := by decide +kernel
theorem dX1_countBetter_36 : decode cX1_countBetter 36 = .ok (.ireturn, 1) := by decide +kernel
theorem dX1_bestInsteadOf_0 : decode cX1_bestInsteadOf 0 = .ok (.iload_n 1, 1) := by decide +kernel
theorem dX1_bestInsteadOf_1 : decode cX1_bestInsteadOf 1 = .ok (.iconst 1, 1) := by decide +kernel
theorem dX1_bestInsteadOf_2 : decode cX1_bestInsteadOf 2 = .ok (.iload_n 2, 1) := by decide +kernel
theorem dX1_bestInsteadOf_3 : decode cX1_bestInsteadOf 3 = .ok (.ishl, 1) := by decide +kernel
theorem dX1_bestInsteadOf_4 : decode cX1_bestInsteadOf 4 = .ok (.iconst (-1), 1) := by decide +kernel
theorem dX1_bestInsteadOf_5 : decode cX1_bestInsteadOf 5 = .ok (.ixor, 1) := by decide +kernel
theorem dX1_bestInsteadOf_6 : decode cX1_bestInsteadOf 6 = .ok (.iand, 1) := by decide +kernel
theorem dX1_bestInsteadOf_7 : decode cX1_bestInsteadOf 7 = .ok (.istore_n 3, 1) := by decide +kernel
theorem dX1_bestInsteadOf_8 : decode cX1_bestInsteadOf 8 = .ok (.iconst (-1), 1) := by decide +kernel
theorem dX1_bestInsteadOf_9 : decode cX1_bestInsteadOf 9 = .ok (.istore 4, 2) := by decide +kernel
theorem dX1_bestInsteadOf_11 : decode cX1_bestInsteadOf 11 = .ok (.dconst 0, 1) := by decide +kernel
theorem dX1_bestInsteadOf_12 : decode cX1_bestInsteadOf 12 = .ok (.dstore 5, 2) := by decide +kernel
theorem dX1_bestInsteadOf_14 : decode cX1_bestInsteadOf 14 = .ok (.iconst 0, 1) := by decide +kernel
theorem dX1_bestInsteadOf_15 : decode cX1_bestInsteadOf 15 = .ok (.istore 7, 2) := by decide +kernel
theorem dX1_bestInsteadOf_17 : decode cX1_bestInsteadOf 17 = .ok (.iload 7, 2) := by decide +kernel
theorem dX1_bestInsteadOf_19 : decode cX1_bestInsteadOf 19 = .ok (.aload_n 0, 1) := by decide +kernel
theorem dX1_bestInsteadOf_20 : decode cX1_bestInsteadOf 20 = .ok (.getfield 12, 3) := by decide +kernel
theorem dX1_bestInsteadOf_23 : decode cX1_bestInsteadOf 23 = .ok (.getfield 49, 3) := by decide +kernel
theorem dX1_bestInsteadOf_26 : decode cX1_bestInsteadOf 26 = .ok (.if_icmp .ge 64, 3) := by decide +kernel
theorem dX1_bestInsteadOf_29 : decode cX1_bestInsteadOf 29 = .ok (.iload_n 3, 1) := by decide +kernel
theorem dX1_bestInsteadOf_30 : decode cX1_bestInsteadOf 30 = .ok (.iconst 1, 1) := by decide +kernel
theorem dX1_bestInsteadOf_31 : decode cX1_bestInsteadOf 31 = .ok (.iload 7, 2) := by decide +kernel
theorem dX1_bestInsteadOf_33 : decode cX1_bestInsteadOf 33 = .ok (.ishl, 1) := by decide +kernel
theorem dX1_bestInsteadOf_34 : decode cX1_bestInsteadOf 34 = .ok (.ior, 1) := by decide +kernel
theorem dX1_bestInsteadOf_35 : decode cX1_bestInsteadOf 35 = .ok (.istore 8, 2) := by decide +kernel
theorem dX1_bestInsteadOf_37 : decode cX1_bestInsteadOf 37 = .ok (.iload_n 1, 1) := by decide +kernel
theorem dX1_bestInsteadOf_38 : decode cX1_bestInsteadOf 38 = .ok (.iload 7, 2) := by decide +kernel
theorem dX1_bestInsteadOf_40 : decode cX1_bestInsteadOf 40 = .ok (.ishr, 1) := by decide +kernel
theorem dX1_bestInsteadOf_41 : decode cX1_bestInsteadOf 41 = .ok (.iconst 1, 1) := by decide +kernel
theorem dX1_bestInsteadOf_42 : decode cX1_bestInsteadOf 42 = .ok (.iand, 1) := by decide +kernel
theorem dX1_bestInsteadOf_43 : decode cX1_bestInsteadOf 43 = .ok (.ifCond .ne 41, 3) := by decide +kernel
theorem dX1_bestInsteadOf_46 : decode cX1_bestInsteadOf 46 = .ok (.aload_n 0, 1) := by decide +kernel
theorem dX1_bestInsteadOf_47 : decode cX1_bestInsteadOf 47 = .ok (.iload 8, 2) := by decide +kernel
theorem dX1_bestInsteadOf_49 : decode cX1_bestInsteadOf 49 = .ok (.invokevirtual 115, 3) := by decide +kernel
theorem dX1_bestInsteadOf_52 : decode cX1_bestInsteadOf 52 = .ok (.ifCond .eq 32, 3) := by decide +kernel
theorem dX1_bestInsteadOf_55 : decode cX1_bestInsteadOf 55 = .ok (.aload_n 0, 1) := by decide +kernel
theorem dX1_bestInsteadOf_56 : decode cX1_bestInsteadOf 56 = .ok (.iload 8, 2) := by decide +kernel
theorem dX1_bestInsteadOf_58 : decode cX1_bestInsteadOf 58 = .ok (.invokevirtual 111, 3) := by decide +kernel
theorem dX1_bestInsteadOf_61 : decode cX1_bestInsteadOf 61 = .ok (.dstore 9, 2) := by decide +kernel
theorem dX1_bestInsteadOf_63 : decode cX1_bestInsteadOf 63 = .ok (.iload 4, 2) := by decide +kernel
theorem dX1_bestInsteadOf_65 : decode cX1_bestInsteadOf 65 = .ok (.ifCond .lt 11, 3) := by decide +kernel
theorem dX1_bestInsteadOf_68 : decode cX1_bestInsteadOf 68 = .ok (.dload 9, 2) := by decide +kernel
theorem dX1_bestInsteadOf_70 : decode cX1_bestInsteadOf 70 = .ok (.dload 5, 2) := by decide +kernel
theorem dX1_bestInsteadOf_72 : decode cX1_bestInsteadOf 72 = .ok (.dcmp .l, 1) := by decide +kernel
theorem dX1_bestInsteadOf_73 : decode cX1_bestInsteadOf 73 = .ok (.ifCond .le 11, 3) := by decide +kernel
theorem dX1_bestInsteadOf_76 : decode cX1_bestInsteadOf 76 = .ok (.iload 7, 2) := by decide +kernel
theorem dX1_bestInsteadOf_78 : decode cX1_bestInsteadOf 78 = .ok (.istore 4, 2) := by decide +kernel
theorem dX1_bestInsteadOf_80 : decode cX1_bestInsteadOf 80 = .ok (.dload 9, 2) := by decide +kernel
theorem dX1_bestInsteadOf_82 : decode cX1_bestInsteadOf 82 = .ok (.dstore 5, 2) := by decide +kernel
theorem dX1_bestInsteadOf_84 : decode cX1_bestInsteadOf 84 = .ok (.iinc 7 1, 3) := by decide +kernel
theorem dX1_bestInsteadOf_87 : decode cX1_bestInsteadOf 87 = .ok (.goto (-70), 3) := by decide +kernel
theorem dX1_bestInsteadOf_90 : decode cX1_bestInsteadOf 90 = .ok (.iload 4, 2) := by decide +kernel
theorem dX1_bestInsteadOf_92 : decode cX1_bestInsteadOf 92 = .ok (.ireturn, 1) := by decide +kernel
theorem dX1_betterPaper_0 : decode cX1_betterPaper 0 = .ok (.aload_n 0, 1) := by decide +kernel
theorem dX1_betterPaper_1 : decode cX1_betterPaper 1 = .ok (.iload_n 2, 1) := by decide +kernel
theorem dX1_betterPaper_2 : decode cX1_betterPaper 2 = .ok (.invokevirtual 115, 3) := by decide +kernel
theorem dX1_betterPaper_5 : decode cX1_betterPaper 5 = .ok (.ifCond .ne 17, 3) := by decide +kernel
theorem dX1_betterPaper_8 : decode cX1_betterPaper 8 = .ok (.aload_n 0, 1) := by decide +kernel
theorem dX1_betterPaper_9 : decode cX1_betterPaper 9 = .ok (.iload_n 1, 1) := by decide +kernel
theorem dX1_betterPaper_10 : decode cX1_betterPaper 10 = .ok (.invokevirtual 115, 3) := by decide +kernel
theorem dX1_betterPaper_13 : decode cX1_betterPaper 13 = .ok (.ifCond .eq 7, 3) := by decide +kernel
theorem dX1_betterPaper_16 : decode cX1_betterPaper 16 = .ok (.iload_n 1, 1) := by decide +kernel
theorem dX1_betterPaper_17 : decode cX1_betterPaper 17 = .ok (.goto 4, 3) := by decide +kernel
theorem dX1_betterPaper_20 : decode cX1_betterPaper 20 = .ok (.iconst (-1), 1) := by decide +kernel
theorem dX1_betterPaper_21 : decode cX1_betterPaper 21 = .ok (.ireturn, 1) := by decide +kernel
theorem dX1_betterPaper_22 : decode cX1_betterPaper 22 = .ok (.aload_n 0, 1) := by decide +kernel
theorem dX1_betterPaper_23 : decode cX1_betterPaper 23 = .ok (.iload_n 1, 1) := by decide +kernel
theorem dX1_betterPaper_24 : decode cX1_betterPaper 24 = .ok (.invokevirtual 115, 3) := by decide +kernel
theorem dX1_betterPaper_27 : decode cX1_betterPaper 27 = .ok (.ifCond .ne 5, 3) := by decide +kernel
theorem dX1_betterPaper_30 : decode cX1_betterPaper 30 = .ok (.iload_n 2, 1) := by decide +kernel
theorem dX1_betterPaper_31 : decode cX1_betterPaper 31 = .ok (.ireturn, 1) := by decide +kernel
theorem dX1_betterPaper_32 : decode cX1_betterPaper 32 = .ok (.aload_n 0, 1) := by decide +kernel
theorem dX1_betterPaper_33 : decode cX1_betterPaper 33 = .ok (.iload_n 2, 1) := by decide +kernel
theorem dX1_betterPaper_34 : decode cX1_betterPaper 34 = .ok (.invokevirtual 111, 3) := by decide +kernel
theorem dX1_betterPaper_37 : decode cX1_betterPaper 37 = .ok (.aload_n 0, 1) := by decide +kernel
theorem dX1_betterPaper_38 : decode cX1_betterPaper 38 = .ok (.iload_n 1, 1) := by decide +kernel
theorem dX1_betterPaper_39 : decode cX1_betterPaper 39 = .ok (.invokevirtual 111, 3) := by decide +kernel
theorem dX1_betterPaper_42 : decode cX1_betterPaper 42 = .ok (.dcmp .l, 1) := by decide +kernel
theorem dX1_betterPaper_43 : decode cX1_betterPaper 43 = .ok (.ifCond .le 7, 3) := by decide +kernel
theorem dX1_betterPaper_46 : decode cX1_betterPaper 46 = .ok (.iload_n 2, 1) := by decide +kernel
theorem dX1_betterPaper_47 : decode cX1_betterPaper 47 = .ok (.goto 4, 3) := by decide +kernel
theorem dX1_betterPaper_50 : decode cX1_betterPaper 50 = .ok (.iload_n 1, 1) := by decide +kernel
theorem dX1_betterPaper_51 : decode cX1_betterPaper 51 = .ok (.ireturn, 1) := by decide +kernel
theorem dX1_findForms_0 : decode cX1_findForms 0 = .ok (.aload_n 0, 1) := by decide +kernel
theorem dX1_findForms_1 : decode cX1_findForms 1 = .ok (.invokevirtual 118, 3) := by decide +kernel
theorem dX1_findForms_4 : decode cX1_findForms 4 = .ok (.ldc2_w 121, 3) := by decide +kernel
theorem dX1_findForms_7 : decode cX1_findForms 7 = .ok (.dstore_n 1, 1) := by decide +kernel
theorem dX1_findForms_8 : decode cX1_findForms 8 = .ok (.iconst 0, 1) := by decide +kernel
theorem dX1_findForms_9 : decode cX1_findForms 9 = .ok (.istore_n 3, 1) := by decide +kernel
theorem dX1_findForms_10 : decode cX1_findForms 10 = .ok (.iload_n 3, 1) := by decide +kernel
theorem dX1_findForms_11 : decode cX1_findForms 11 = .ok (.aload_n 0, 1) := by decide +kernel
theorem dX1_findForms_12 : decode cX1_findForms 12 = .ok (.getfield 108, 3) := by decide +kernel
theorem dX1_findForms_15 : decode cX1_findForms 15 = .ok (.if_icmp .ge 124, 3) := by decide +kernel
theorem dX1_findForms_18 : decode cX1_findForms 18 = .ok (.iload_n 3, 1) := by decide +kernel
theorem dX1_findForms_19 : decode cX1_findForms 19 = .ok (.iconst 1, 1) := by decide +kernel
theorem dX1_findForms_20 : decode cX1_findForms 20 = .ok (.iadd, 1) := by decide +kernel
theorem dX1_findForms_21 : decode cX1_findForms 21 = .ok (.istore 4, 2) := by decide +kernel
theorem dX1_findForms_23 : decode cX1_findForms 23 = .ok (.iload 4, 2) := by decide +kernel
theorem dX1_findForms_25 : decode cX1_findForms 25 = .ok (.aload_n 0, 1) := by decide +kernel
theorem dX1_findForms_26 : decode cX1_findForms 26 = .ok (.getfield 108, 3) := by decide +kernel
theorem dX1_findForms_29 : decode cX1_findForms 29 = .ok (.if_icmp .ge 104, 3) := by decide +kernel
theorem dX1_findForms_32 : decode cX1_findForms 32 = .ok (.aload_n 0, 1) := by decide +kernel
theorem dX1_findForms_33 : decode cX1_findForms 33 = .ok (.getfield 33, 3) := by decide +kernel
theorem dX1_findForms_36 : decode cX1_findForms 36 = .ok (.iload_n 3, 1) := by decide +kernel
theorem dX1_findForms_37 : decode cX1_findForms 37 = .ok (.daload, 1) := by decide +kernel
theorem dX1_findForms_38 : decode cX1_findForms 38 = .ok (.dload_n 1, 1) := by decide +kernel
theorem dX1_findForms_39 : decode cX1_findForms 39 = .ok (.dcmp .l, 1) := by decide +kernel
theorem dX1_findForms_40 : decode cX1_findForms 40 = .ok (.ifCond .le 93, 3) := by decide +kernel
theorem dX1_findForms_43 : decode cX1_findForms 43 = .ok (.aload_n 0, 1) := by decide +kernel
theorem dX1_findForms_44 : decode cX1_findForms 44 = .ok (.getfield 33, 3) := by decide +kernel
theorem dX1_findForms_47 : decode cX1_findForms 47 = .ok (.iload 4, 2) := by decide +kernel
theorem dX1_findForms_49 : decode cX1_findForms 49 = .ok (.daload, 1) := by decide +kernel
theorem dX1_findForms_50 : decode cX1_findForms 50 = .ok (.dload_n 1, 1) := by decide +kernel
theorem dX1_findForms_51 : decode cX1_findForms 51 = .ok (.dcmp .l, 1) := by decide +kernel
theorem dX1_findForms_52 : decode cX1_findForms 52 = .ok (.ifCond .le 75, 3) := by decide +kernel
theorem dX1_findForms_55 : decode cX1_findForms 55 = .ok (.aload_n 0, 1) := by decide +kernel
theorem dX1_findForms_56 : decode cX1_findForms 56 = .ok (.getfield 30, 3) := by decide +kernel
theorem dX1_findForms_59 : decode cX1_findForms 59 = .ok (.iload_n 3, 1) := by decide +kernel
theorem dX1_findForms_60 : decode cX1_findForms 60 = .ok (.iaload, 1) := by decide +kernel
theorem dX1_findForms_61 : decode cX1_findForms 61 = .ok (.aload_n 0, 1) := by decide +kernel
theorem dX1_findForms_62 : decode cX1_findForms 62 = .ok (.getfield 30, 3) := by decide +kernel
theorem dX1_findForms_65 : decode cX1_findForms 65 = .ok (.iload 4, 2) := by decide +kernel
theorem dX1_findForms_67 : decode cX1_findForms 67 = .ok (.iaload, 1) := by decide +kernel
theorem dX1_findForms_68 : decode cX1_findForms 68 = .ok (.iand, 1) := by decide +kernel
theorem dX1_findForms_69 : decode cX1_findForms 69 = .ok (.ifCond .ne 58, 3) := by decide +kernel
theorem dX1_findForms_72 : decode cX1_findForms 72 = .ok (.aload_n 0, 1) := by decide +kernel
theorem dX1_findForms_73 : decode cX1_findForms 73 = .ok (.getfield 33, 3) := by decide +kernel
theorem dX1_findForms_76 : decode cX1_findForms 76 = .ok (.iload_n 3, 1) := by decide +kernel
theorem dX1_findForms_77 : decode cX1_findForms 77 = .ok (.daload, 1) := by decide +kernel
theorem dX1_findForms_78 : decode cX1_findForms 78 = .ok (.aload_n 0, 1) := by decide +kernel
theorem dX1_findForms_79 : decode cX1_findForms 79 = .ok (.getfield 33, 3) := by decide +kernel
theorem dX1_findForms_82 : decode cX1_findForms 82 = .ok (.iload 4, 2) := by decide +kernel
theorem dX1_findForms_84 : decode cX1_findForms 84 = .ok (.daload, 1) := by decide +kernel
theorem dX1_findForms_85 : decode cX1_findForms 85 = .ok (.dcmp .g, 1) := by decide +kernel
theorem dX1_findForms_86 : decode cX1_findForms 86 = .ok (.ifCond .ge 12, 3) := by decide +kernel
theorem dX1_findForms_89 : decode cX1_findForms 89 = .ok (.aload_n 0, 1) := by decide +kernel
theorem dX1_findForms_90 : decode cX1_findForms 90 = .ok (.getfield 33, 3) := by decide +kernel
theorem dX1_findForms_93 : decode cX1_findForms 93 = .ok (.iload_n 3, 1) := by decide +kernel
theorem dX1_findForms_94 : decode cX1_findForms 94 = .ok (.daload, 1) := by decide +kernel
theorem dX1_findForms_95 : decode cX1_findForms 95 = .ok (.goto 10, 3) := by decide +kernel
theorem dX1_findForms_98 : decode cX1_findForms 98 = .ok (.aload_n 0, 1) := by decide +kernel
theorem dX1_findForms_99 : decode cX1_findForms 99 = .ok (.getfield 33, 3) := by decide +kernel
theorem dX1_findForms_102 : decode cX1_findForms 102 = .ok (.iload 4, 2) := by decide +kernel
theorem dX1_findForms_104 : decode cX1_findForms 104 = .ok (.daload, 1) := by decide +kernel
theorem dX1_findForms_105 : decode cX1_findForms 105 = .ok (.dstore_n 1, 1) := by decide +kernel
theorem dX1_findForms_106 : decode cX1_findForms 106 = .ok (.aload_n 0, 1) := by decide +kernel
theorem dX1_findForms_107 : decode cX1_findForms 107 = .ok (.aload_n 0, 1) := by decide +kernel
theorem dX1_findForms_108 : decode cX1_findForms 108 = .ok (.getfield 30, 3) := by decide +kernel
theorem dX1_findForms_111 : decode cX1_findForms 111 = .ok (.iload_n 3, 1) := by decide +kernel
theorem dX1_findForms_112 : decode cX1_findForms 112 = .ok (.iaload, 1) := by decide +kernel
theorem dX1_findForms_113 : decode cX1_findForms 113 = .ok (.putfield 123, 3) := by decide +kernel
theorem dX1_findForms_116 : decode cX1_findForms 116 = .ok (.aload_n 0, 1) := by decide +kernel
theorem dX1_findForms_117 : decode cX1_findForms 117 = .ok (.aload_n 0, 1) := by decide +kernel
theorem dX1_findForms_118 : decode cX1_findForms 118 = .ok (.getfield 30, 3) := by decide +kernel
theorem dX1_findForms_121 : decode cX1_findForms 121 = .ok (.iload 4, 2) := by decide +kernel
theorem dX1_findForms_123 : decode cX1_findForms 123 = .ok (.iaload, 1) := by decide +kernel
theorem dX1_findForms_124 : decode cX1_findForms 124 = .ok (.putfield 126, 3) := by decide +kernel
theorem dX1_findForms_127 : decode cX1_findForms 127 = .ok (.iinc 4 1, 3) := by decide +kernel
theorem dX1_findForms_130 : decode cX1_findForms 130 = .ok (.goto (-107), 3) := by decide +kernel
theorem dX1_findForms_133 : decode cX1_findForms 133 = .ok (.iinc 3 1, 3) := by decide +kernel
theorem dX1_findForms_136 : decode cX1_findForms 136 = .ok (.goto (-126), 3) := by decide +kernel
theorem dX1_findForms_139 : decode cX1_findForms 139 = .ok (.dload_n 1, 1) := by decide +kernel
theorem dX1_findForms_140 : decode cX1_findForms 140 = .ok (.dconst 0, 1) := by decide +kernel
theorem dX1_findForms_141 : decode cX1_findForms 141 = .ok (.dcmp .l, 1) := by decide +kernel
theorem dX1_findForms_142 : decode cX1_findForms 142 = .ok (.ifCond .lt 7, 3) := by decide +kernel
theorem dX1_findForms_145 : decode cX1_findForms 145 = .ok (.iconst 1, 1) := by decide +kernel
theorem dX1_findForms_146 : decode cX1_findForms 146 = .ok (.goto 4, 3) := by decide +kernel
theorem dX1_findForms_149 : decode cX1_findForms 149 = .ok (.iconst 0, 1) := by decide +kernel
theorem dX1_findForms_150 : decode cX1_findForms 150 = .ok (.ireturn, 1) := by decide +kernel
theorem dX1_formsGap_0 : decode cX1_formsGap 0 = .ok (.aload_n 0, 1) := by decide +kernel
theorem dX1_formsGap_1 : decode cX1_formsGap 1 = .ok (.aload_n 0, 1) := by decide +kernel
theorem dX1_formsGap_2 : decode cX1_formsGap 2 = .ok (.getfield 123, 3) := by decide +kernel
theorem dX1_formsGap_5 : decode cX1_formsGap 5 = .ok (.invokevirtual 111, 3) := by decide +kernel
theorem dX1_formsGap_8 : decode cX1_formsGap 8 = .ok (.aload_n 0, 1) := by decide +kernel
theorem dX1_formsGap_9 : decode cX1_formsGap 9 = .ok (.aload_n 0, 1) := by decide +kernel
theorem dX1_formsGap_10 : decode cX1_formsGap 10 = .ok (.getfield 126, 3) := by decide +kernel
theorem dX1_formsGap_13 : decode cX1_formsGap 13 = .ok (.invokevirtual 111, 3) := by decide +kernel
theorem dX1_formsGap_16 : decode cX1_formsGap 16 = .ok (.dsub, 1) := by decide +kernel
theorem dX1_formsGap_17 : decode cX1_formsGap 17 = .ok (.dstore_n 1, 1) := by decide +kernel
theorem dX1_formsGap_18 : decode cX1_formsGap 18 = .ok (.dload_n 1, 1) := by decide +kernel
theorem dX1_formsGap_19 : decode cX1_formsGap 19 = .ok (.invokestatic 129, 3) := by decide +kernel
theorem dX1_formsGap_22 : decode cX1_formsGap 22 = .ok (.dreturn, 1) := by decide +kernel
theorem dX2_floatBits_0 : decode cX2_floatBits 0 = .ok (.fload_n 0, 1) := by decide +kernel
theorem dX2_floatBits_1 : decode cX2_floatBits 1 = .ok (.f2d, 1) := by decide +kernel
theorem dX2_floatBits_2 : decode cX2_floatBits 2 = .ok (.invokestatic 7, 3) := by decide +kernel
theorem dX2_floatBits_5 : decode cX2_floatBits 5 = .ok (.bipush 23, 2) := by decide +kernel
theorem dX2_floatBits_7 : decode cX2_floatBits 7 = .ok (.bipush 127, 2) := by decide +kernel
theorem dX2_floatBits_9 : decode cX2_floatBits 9 = .ok (.invokestatic 13, 3) := by decide +kernel
theorem dX2_floatBits_12 : decode cX2_floatBits 12 = .ok (.l2i, 1) := by decide +kernel
theorem dX2_floatBits_13 : decode cX2_floatBits 13 = .ok (.istore_n 1, 1) := by decide +kernel
theorem dX2_floatBits_14 : decode cX2_floatBits 14 = .ok (.fload_n 0, 1) := by decide +kernel
theorem dX2_floatBits_15 : decode cX2_floatBits 15 = .ok (.f2d, 1) := by decide +kernel
theorem dX2_floatBits_16 : decode cX2_floatBits 16 = .ok (.invokestatic 17, 3) := by decide +kernel
theorem dX2_floatBits_19 : decode cX2_floatBits 19 = .ok (.ifCond .eq 10, 3) := by decide +kernel
theorem dX2_floatBits_22 : decode cX2_floatBits 22 = .ok (.iload_n 1, 1) := by decide +kernel
theorem dX2_floatBits_23 : decode cX2_floatBits 23 = .ok (.ldc 23, 2) := by decide +kernel
theorem dX2_floatBits_25 : decode cX2_floatBits 25 = .ok (.ior, 1) := by decide +kernel
theorem dX2_floatBits_26 : decode cX2_floatBits 26 = .ok (.goto 4, 3) := by decide +kernel
theorem dX2_floatBits_29 : decode cX2_floatBits 29 = .ok (.iload_n 1, 1) := by decide +kernel
theorem dX2_floatBits_30 : decode cX2_floatBits 30 = .ok (.ireturn, 1) := by decide +kernel
theorem dX2_doubleBits_0 : decode cX2_doubleBits 0 = .ok (.dload_n 0, 1) := by decide +kernel
theorem dX2_doubleBits_1 : decode cX2_doubleBits 1 = .ok (.invokestatic 7, 3) := by decide +kernel
theorem dX2_doubleBits_4 : decode cX2_doubleBits 4 = .ok (.bipush 52, 2) := by decide +kernel
theorem dX2_doubleBits_6 : decode cX2_doubleBits 6 = .ok (.sipush 1023, 3) := by decide +kernel
theorem dX2_doubleBits_9 : decode cX2_doubleBits 9 = .ok (.invokestatic 13, 3) := by decide +kernel
theorem dX2_doubleBits_12 : decode cX2_doubleBits 12 = .ok (.lstore_n 2, 1) := by decide +kernel
theorem dX2_doubleBits_13 : decode cX2_doubleBits 13 = .ok (.dload_n 0, 1) := by decide +kernel
theorem dX2_doubleBits_14 : decode cX2_doubleBits 14 = .ok (.invokestatic 17, 3) := by decide +kernel
theorem dX2_doubleBits_17 : decode cX2_doubleBits 17 = .ok (.ifCond .eq 11, 3) := by decide +kernel
theorem dX2_doubleBits_20 : decode cX2_doubleBits 20 = .ok (.lload_n 2, 1) := by decide +kernel
theorem dX2_doubleBits_21 : decode cX2_doubleBits 21 = .ok (.ldc2_w 26, 3) := by decide +kernel
theorem dX2_doubleBits_24 : decode cX2_doubleBits 24 = .ok (.lor, 1) := by decide +kernel
theorem dX2_doubleBits_25 : decode cX2_doubleBits 25 = .ok (.goto 4, 3) := by decide +kernel
theorem dX2_doubleBits_28 : decode cX2_doubleBits 28 = .ok (.lload_n 2, 1) := by decide +kernel
theorem dX2_doubleBits_29 : decode cX2_doubleBits 29 = .ok (.lreturn, 1) := by decide +kernel
theorem dX2_size_0 : decode cX2_size 0 = .ok (.dload_n 0, 1) := by decide +kernel
theorem dX2_size_1 : decode cX2_size 1 = .ok (.dconst 0, 1) := by decide +kernel
theorem dX2_size_2 : decode cX2_size 2 = .ok (.dcmp .g, 1) := by decide +kernel
theorem dX2_size_3 : decode cX2_size 3 = .ok (.ifCond .ge 8, 3) := by decide +kernel
theorem dX2_size_6 : decode cX2_size 6 = .ok (.dload_n 0, 1) := by decide +kernel
theorem dX2_size_7 : decode cX2_size 7 = .ok (.dneg, 1) := by decide +kernel
theorem dX2_size_8 : decode cX2_size 8 = .ok (.goto 4, 3) := by decide +kernel
theorem dX2_size_11 : decode cX2_size 11 = .ok (.dload_n 0, 1) := by decide +kernel
theorem dX2_size_12 : decode cX2_size 12 = .ok (.dreturn, 1) := by decide +kernel
theorem dX2_isMinus_0 : decode cX2_isMinus 0 = .ok (.dload_n 0, 1) := by decide +kernel
theorem dX2_isMinus_1 : decode cX2_isMinus 1 = .ok (.dconst 0, 1) := by decide +kernel
theorem dX2_isMinus_2 : decode cX2_isMinus 2 = .ok (.dcmp .g, 1) := by decide +kernel
theorem dX2_isMinus_3 : decode cX2_isMinus 3 = .ok (.ifCond .lt 17, 3) := by decide +kernel
theorem dX2_isMinus_6 : decode cX2_isMinus 6 = .ok (.dload_n 0, 1) := by decide +kernel
theorem dX2_isMinus_7 : decode cX2_isMinus 7 = .ok (.dconst 0, 1) := by decide +kernel
theorem dX2_isMinus_8 : decode cX2_isMinus 8 = .ok (.dcmp .l, 1) := by decide +kernel
theorem dX2_isMinus_9 : decode cX2_isMinus 9 = .ok (.ifCond .ne 15, 3) := by decide +kernel
theorem dX2_isMinus_12 : decode cX2_isMinus 12 = .ok (.dconst 1, 1) := by decide +kernel
theorem dX2_isMinus_13 : decode cX2_isMinus 13 = .ok (.dload_n 0, 1) := by decide +kernel
theorem dX2_isMinus_14 : decode cX2_isMinus 14 = .ok (.ddiv, 1) := by decide +kernel
theorem dX2_isMinus_15 : decode cX2_isMinus 15 = .ok (.dconst 0, 1) := by decide +kernel
theorem dX2_isMinus_16 : decode cX2_isMinus 16 = .ok (.dcmp .g, 1) := by decide +kernel
theorem dX2_isMinus_17 : decode cX2_isMinus 17 = .ok (.ifCond .ge 7, 3) := by decide +kernel
theorem dX2_isMinus_20 : decode cX2_isMinus 20 = .ok (.iconst 1, 1) := by decide +kernel
theorem dX2_isMinus_21 : decode cX2_isMinus 21 = .ok (.goto 4, 3) := by decide +kernel
theorem dX2_isMinus_24 : decode cX2_isMinus 24 = .ok (.iconst 0, 1) := by decide +kernel
theorem dX2_isMinus_25 : decode cX2_isMinus 25 = .ok (.ireturn, 1) := by decide +kernel
theorem dX2_sizeBits_0 : decode cX2_sizeBits 0 = .ok (.dload_n 0, 1) := by decide +kernel
theorem dX2_sizeBits_1 : decode cX2_sizeBits 1 = .ok (.dconst 0, 1) := by decide +kernel
theorem dX2_sizeBits_2 : decode cX2_sizeBits 2 = .ok (.dcmp .l, 1) := by decide +kernel
theorem dX2_sizeBits_3 : decode cX2_sizeBits 3 = .ok (.ifCond .ne 5, 3) := by decide +kernel
theorem dX2_sizeBits_6 : decode cX2_sizeBits 6 = .ok (.lconst 0, 1) := by decide +kernel
theorem dX2_sizeBits_7 : decode cX2_sizeBits 7 = .ok (.lreturn, 1) := by decide +kernel
theorem dX2_sizeBits_8 : decode cX2_sizeBits 8 = .ok (.dload_n 0, 1) := by decide +kernel
theorem dX2_sizeBits_9 : decode cX2_sizeBits 9 = .ok (.dstore 4, 2) := by decide +kernel
theorem dX2_sizeBits_11 : decode cX2_sizeBits 11 = .ok (.iload_n 3, 1) := by decide +kernel
theorem dX2_sizeBits_12 : decode cX2_sizeBits 12 = .ok (.i2l, 1) := by decide +kernel
theorem dX2_sizeBits_13 : decode cX2_sizeBits 13 = .ok (.lstore 6, 2) := by decide +kernel
theorem dX2_sizeBits_15 : decode cX2_sizeBits 15 = .ok (.dload 4, 2) := by decide +kernel
theorem dX2_sizeBits_17 : decode cX2_sizeBits 17 = .ok (.ldc2_w 28, 3) := by decide +kernel
theorem dX2_sizeBits_20 : decode cX2_sizeBits 20 = .ok (.dcmp .l, 1) := by decide +kernel
theorem dX2_sizeBits_21 : decode cX2_sizeBits 21 = .ok (.ifCond .lt 30, 3) := by decide +kernel
theorem dX2_sizeBits_24 : decode cX2_sizeBits 24 = .ok (.lload 6, 2) := by decide +kernel
theorem dX2_sizeBits_26 : decode cX2_sizeBits 26 = .ok (.iconst 2, 1) := by decide +kernel
theorem dX2_sizeBits_27 : decode cX2_sizeBits 27 = .ok (.iload_n 3, 1) := by decide +kernel
theorem dX2_sizeBits_28 : decode cX2_sizeBits 28 = .ok (.imul, 1) := by decide +kernel
theorem dX2_sizeBits_29 : decode cX2_sizeBits 29 = .ok (.i2l, 1) := by decide +kernel
theorem dX2_sizeBits_30 : decode cX2_sizeBits 30 = .ok (.lcmp, 1) := by decide +kernel
theorem dX2_sizeBits_31 : decode cX2_sizeBits 31 = .ok (.ifCond .ge 20, 3) := by decide +kernel
theorem dX2_sizeBits_34 : decode cX2_sizeBits 34 = .ok (.dload 4, 2) := by decide +kernel
theorem dX2_sizeBits_36 : decode cX2_sizeBits 36 = .ok (.ldc2_w 30, 3) := by decide +kernel
theorem dX2_sizeBits_39 : decode cX2_sizeBits 39 = .ok (.dmul, 1) := by decide +kernel
theorem dX2_sizeBits_40 : decode cX2_sizeBits 40 = .ok (.dstore 4, 2) := by decide +kernel
theorem dX2_sizeBits_42 : decode cX2_sizeBits 42 = .ok (.lload 6, 2) := by decide +kernel
theorem dX2_sizeBits_44 : decode cX2_sizeBits 44 = .ok (.lconst 1, 1) := by decide +kernel
theorem dX2_sizeBits_45 : decode cX2_sizeBits 45 = .ok (.ladd, 1) := by decide +kernel
theorem dX2_sizeBits_46 : decode cX2_sizeBits 46 = .ok (.lstore 6, 2) := by decide +kernel
theorem dX2_sizeBits_48 : decode cX2_sizeBits 48 = .ok (.goto (-33), 3) := by decide +kernel
theorem dX2_sizeBits_51 : decode cX2_sizeBits 51 = .ok (.dload 4, 2) := by decide +kernel
theorem dX2_sizeBits_53 : decode cX2_sizeBits 53 = .ok (.dconst 1, 1) := by decide +kernel
theorem dX2_sizeBits_54 : decode cX2_sizeBits 54 = .ok (.dcmp .g, 1) := by decide +kernel
theorem dX2_sizeBits_55 : decode cX2_sizeBits 55 = .ok (.ifCond .ge 27, 3) := by decide +kernel
theorem dX2_sizeBits_58 : decode cX2_sizeBits 58 = .ok (.lload 6, 2) := by decide +kernel
theorem dX2_sizeBits_60 : decode cX2_sizeBits 60 = .ok (.lconst 1, 1) := by decide +kernel
theorem dX2_sizeBits_61 : decode cX2_sizeBits 61 = .ok (.lcmp, 1) := by decide +kernel
theorem dX2_sizeBits_62 : decode cX2_sizeBits 62 = .ok (.ifCond .le 20, 3) := by decide +kernel
theorem dX2_sizeBits_65 : decode cX2_sizeBits 65 = .ok (.dload 4, 2) := by decide +kernel
theorem dX2_sizeBits_67 : decode cX2_sizeBits 67 = .ok (.ldc2_w 28, 3) := by decide +kernel
theorem dX2_sizeBits_70 : decode cX2_sizeBits 70 = .ok (.dmul, 1) := by decide +kernel
theorem dX2_sizeBits_71 : decode cX2_sizeBits 71 = .ok (.dstore 4, 2) := by decide +kernel
theorem dX2_sizeBits_73 : decode cX2_sizeBits 73 = .ok (.lload 6, 2) := by decide +kernel
theorem dX2_sizeBits_75 : decode cX2_sizeBits 75 = .ok (.lconst 1, 1) := by decide +kernel
theorem dX2_sizeBits_76 : decode cX2_sizeBits 76 = .ok (.lsub, 1) := by decide +kernel
theorem dX2_sizeBits_77 : decode cX2_sizeBits 77 = .ok (.lstore 6, 2) := by decide +kernel
theorem dX2_sizeBits_79 : decode cX2_sizeBits 79 = .ok (.goto (-28), 3) := by decide +kernel
theorem dX2_sizeBits_82 : decode cX2_sizeBits 82 = .ok (.lload 6, 2) := by decide +kernel
theorem dX2_sizeBits_84 : decode cX2_sizeBits 84 = .ok (.iload_n 2, 1) := by decide +kernel
theorem dX2_sizeBits_85 : decode cX2_sizeBits 85 = .ok (.lshl, 1) := by decide +kernel
theorem dX2_sizeBits_86 : decode cX2_sizeBits 86 = .ok (.dload 4, 2) := by decide +kernel
theorem dX2_sizeBits_88 : decode cX2_sizeBits 88 = .ok (.dconst 1, 1) := by decide +kernel
theorem dX2_sizeBits_89 : decode cX2_sizeBits 89 = .ok (.dsub, 1) := by decide +kernel
theorem dX2_sizeBits_90 : decode cX2_sizeBits 90 = .ok (.lconst 1, 1) := by decide +kernel
theorem dX2_sizeBits_91 : decode cX2_sizeBits 91 = .ok (.iload_n 2, 1) := by decide +kernel
theorem dX2_sizeBits_92 : decode cX2_sizeBits 92 = .ok (.lshl, 1) := by decide +kernel
theorem dX2_sizeBits_93 : decode cX2_sizeBits 93 = .ok (.l2d, 1) := by decide +kernel
theorem dX2_sizeBits_94 : decode cX2_sizeBits 94 = .ok (.dmul, 1) := by decide +kernel
theorem dX2_sizeBits_95 : decode cX2_sizeBits 95 = .ok (.d2l, 1) := by decide +kernel
theorem dX2_sizeBits_96 : decode cX2_sizeBits 96 = .ok (.ladd, 1) := by decide +kernel
theorem dX2_sizeBits_97 : decode cX2_sizeBits 97 = .ok (.lreturn, 1) := by decide +kernel
theorem dX2_rest_0 : decode cX2_rest 0 = .ok (.dload_n 0, 1) := by decide +kernel
theorem dX2_rest_1 : decode cX2_rest 1 = .ok (.invokestatic 7, 3) := by decide +kernel
theorem dX2_rest_4 : decode cX2_rest 4 = .ok (.dstore 4, 2) := by decide +kernel
theorem dX2_rest_6 : decode cX2_rest 6 = .ok (.dload 4, 2) := by decide +kernel
theorem dX2_rest_8 : decode cX2_rest 8 = .ok (.dload_n 2, 1) := by decide +kernel
theorem dX2_rest_9 : decode cX2_rest 9 = .ok (.dcmp .g, 1) := by decide +kernel
theorem dX2_rest_10 : decode cX2_rest 10 = .ok (.ifCond .ge 5, 3) := by decide +kernel
theorem dX2_rest_13 : decode cX2_rest 13 = .ok (.dload_n 0, 1) := by decide +kernel
theorem dX2_rest_14 : decode cX2_rest 14 = .ok (.dreturn, 1) := by decide +kernel
theorem dX2_rest_15 : decode cX2_rest 15 = .ok (.dload_n 2, 1) := by decide +kernel
theorem dX2_rest_16 : decode cX2_rest 16 = .ok (.dstore 6, 2) := by decide +kernel
theorem dX2_rest_18 : decode cX2_rest 18 = .ok (.iconst 0, 1) := by decide +kernel
theorem dX2_rest_19 : decode cX2_rest 19 = .ok (.istore 8, 2) := by decide +kernel
theorem dX2_rest_21 : decode cX2_rest 21 = .ok (.dload 6, 2) := by decide +kernel
theorem dX2_rest_23 : decode cX2_rest 23 = .ok (.dload 4, 2) := by decide +kernel
theorem dX2_rest_25 : decode cX2_rest 25 = .ok (.ldc2_w 30, 3) := by decide +kernel
theorem dX2_rest_28 : decode cX2_rest 28 = .ok (.dmul, 1) := by decide +kernel
theorem dX2_rest_29 : decode cX2_rest 29 = .ok (.dcmp .g, 1) := by decide +kernel
theorem dX2_rest_30 : decode cX2_rest 30 = .ok (.ifCond .gt 25, 3) := by decide +kernel
theorem dX2_rest_33 : decode cX2_rest 33 = .ok (.iload 8, 2) := by decide +kernel
theorem dX2_rest_35 : decode cX2_rest 35 = .ok (.sipush 1023, 3) := by decide +kernel
theorem dX2_rest_38 : decode cX2_rest 38 = .ok (.if_icmp .ge 17, 3) := by decide +kernel
theorem dX2_rest_41 : decode cX2_rest 41 = .ok (.dload 6, 2) := by decide +kernel
theorem dX2_rest_43 : decode cX2_rest 43 = .ok (.ldc2_w 28, 3) := by decide +kernel
theorem dX2_rest_46 : decode cX2_rest 46 = .ok (.dmul, 1) := by decide +kernel
theorem dX2_rest_47 : decode cX2_rest 47 = .ok (.dstore 6, 2) := by decide +kernel
theorem dX2_rest_49 : decode cX2_rest 49 = .ok (.iinc 8 1, 3) := by decide +kernel
theorem dX2_rest_52 : decode cX2_rest 52 = .ok (.goto (-31), 3) := by decide +kernel
theorem dX2_rest_55 : decode cX2_rest 55 = .ok (.iload 8, 2) := by decide +kernel
theorem dX2_rest_57 : decode cX2_rest 57 = .ok (.istore 9, 2) := by decide +kernel
theorem dX2_rest_59 : decode cX2_rest 59 = .ok (.iload 9, 2) := by decide +kernel
theorem dX2_rest_61 : decode cX2_rest 61 = .ok (.ifCond .lt 32, 3) := by decide +kernel
theorem dX2_rest_64 : decode cX2_rest 64 = .ok (.dload 4, 2) := by decide +kernel
theorem dX2_rest_66 : decode cX2_rest 66 = .ok (.dload 6, 2) := by decide +kernel
theorem dX2_rest_68 : decode cX2_rest 68 = .ok (.dcmp .l, 1) := by decide +kernel
theorem dX2_rest_69 : decode cX2_rest 69 = .ok (.ifCond .lt 10, 3) := by decide +kernel
theorem dX2_rest_72 : decode cX2_rest 72 = .ok (.dload 4, 2) := by decide +kernel
theorem dX2_rest_74 : decode cX2_rest 74 = .ok (.dload 6, 2) := by decide +kernel
theorem dX2_rest_76 : decode cX2_rest 76 = .ok (.dsub, 1) := by decide +kernel
theorem dX2_rest_77 : decode cX2_rest 77 = .ok (.dstore 4, 2) := by decide +kernel
theorem dX2_rest_79 : decode cX2_rest 79 = .ok (.dload 6, 2) := by decide +kernel
theorem dX2_rest_81 : decode cX2_rest 81 = .ok (.ldc2_w 30, 3) := by decide +kernel
theorem dX2_rest_84 : decode cX2_rest 84 = .ok (.dmul, 1) := by decide +kernel
theorem dX2_rest_85 : decode cX2_rest 85 = .ok (.dstore 6, 2) := by decide +kernel
theorem dX2_rest_87 : decode cX2_rest 87 = .ok (.iinc 9 (-1), 3) := by decide +kernel
theorem dX2_rest_90 : decode cX2_rest 90 = .ok (.goto (-31), 3) := by decide +kernel
theorem dX2_rest_93 : decode cX2_rest 93 = .ok (.dload_n 0, 1) := by decide +kernel
theorem dX2_rest_94 : decode cX2_rest 94 = .ok (.dconst 0, 1) := by decide +kernel
theorem dX2_rest_95 : decode cX2_rest 95 = .ok (.dcmp .g, 1) := by decide +kernel
theorem dX2_rest_96 : decode cX2_rest 96 = .ok (.ifCond .ge 9, 3) := by decide +kernel
theorem dX2_rest_99 : decode cX2_rest 99 = .ok (.dload 4, 2) := by decide +kernel
theorem dX2_rest_101 : decode cX2_rest 101 = .ok (.dneg, 1) := by decide +kernel
theorem dX2_rest_102 : decode cX2_rest 102 = .ok (.goto 5, 3) := by decide +kernel
theorem dX2_rest_105 : decode cX2_rest 105 = .ok (.dload 4, 2) := by decide +kernel
theorem dX2_rest_107 : decode cX2_rest 107 = .ok (.dreturn, 1) := by decide +kernel
theorem dX3_init_0 : decode cX3_init 0 = .ok (.aload_n 0, 1) := by decide +kernel
theorem dX3_init_1 : decode cX3_init 1 = .ok (.invokespecial 3, 3) := by decide +kernel
theorem dX3_init_4 : decode cX3_init 4 = .ok (.aload_n 0, 1) := by decide +kernel
theorem dX3_init_5 : decode cX3_init 5 = .ok (.iconst (-1), 1) := by decide +kernel
theorem dX3_init_6 : decode cX3_init 6 = .ok (.putfield 9, 3) := by decide +kernel
theorem dX3_init_9 : decode cX3_init 9 = .ok (.aload_n 0, 1) := by decide +kernel
theorem dX3_init_10 : decode cX3_init 10 = .ok (.bipush 40, 2) := by decide +kernel
theorem dX3_init_12 : decode cX3_init 12 = .ok (.newarray .double, 2) := by decide +kernel
theorem dX3_init_14 : decode cX3_init 14 = .ok (.putfield 15, 3) := by decide +kernel
theorem dX3_init_17 : decode cX3_init 17 = .ok (.return_, 1) := by decide +kernel
theorem dX3_become_0 : decode cX3_become 0 = .ok (.aload_n 0, 1) := by decide +kernel
theorem dX3_become_1 : decode cX3_become 1 = .ok (.iload_n 1, 1) := by decide +kernel
theorem dX3_become_2 : decode cX3_become 2 = .ok (.putfield 9, 3) := by decide +kernel
theorem dX3_become_5 : decode cX3_become 5 = .ok (.aload_n 0, 1) := by decide +kernel
theorem dX3_become_6 : decode cX3_become 6 = .ok (.iload_n 2, 1) := by decide +kernel
theorem dX3_become_7 : decode cX3_become 7 = .ok (.putfield 19, 3) := by decide +kernel
theorem dX3_become_10 : decode cX3_become 10 = .ok (.iconst 0, 1) := by decide +kernel
theorem dX3_become_11 : decode cX3_become 11 = .ok (.istore_n 3, 1) := by decide +kernel
theorem dX3_become_12 : decode cX3_become 12 = .ok (.iload_n 3, 1) := by decide +kernel
theorem dX3_become_13 : decode cX3_become 13 = .ok (.bipush 40, 2) := by decide +kernel
theorem dX3_become_15 : decode cX3_become 15 = .ok (.if_icmp .ge 16, 3) := by decide +kernel
theorem dX3_become_18 : decode cX3_become 18 = .ok (.aload_n 0, 1) := by decide +kernel
theorem dX3_become_19 : decode cX3_become 19 = .ok (.getfield 15, 3) := by decide +kernel
theorem dX3_become_22 : decode cX3_become 22 = .ok (.iload_n 3, 1) := by decide +kernel
theorem dX3_become_23 : decode cX3_become 23 = .ok (.dconst 0, 1) := by decide +kernel
theorem dX3_become_24 : decode cX3_become 24 = .ok (.dastore, 1) := by decide +kernel
theorem dX3_become_25 : decode cX3_become 25 = .ok (.iinc 3 1, 3) := by decide +kernel
theorem dX3_become_28 : decode cX3_become 28 = .ok (.goto (-16), 3) := by decide +kernel
theorem dX3_become_31 : decode cX3_become 31 = .ok (.return_, 1) := by decide +kernel
theorem dX3_isMissing_0 : decode cX3_isMissing 0 = .ok (.aload_n 0, 1) := by decide +kernel
theorem dX3_isMissing_1 : decode cX3_isMissing 1 = .ok (.getfield 9, 3) := by decide +kernel
theorem dX3_isMissing_4 : decode cX3_isMissing 4 = .ok (.iconst (-1), 1) := by decide +kernel
theorem dX3_isMissing_5 : decode cX3_isMissing 5 = .ok (.if_icmp .ne 7, 3) := by decide +kernel
theorem dX3_isMissing_8 : decode cX3_isMissing 8 = .ok (.iconst 1, 1) := by decide +kernel
theorem dX3_isMissing_9 : decode cX3_isMissing 9 = .ok (.goto 4, 3) := by decide +kernel
theorem dX3_isMissing_12 : decode cX3_isMissing 12 = .ok (.iconst 0, 1) := by decide +kernel
theorem dX3_isMissing_13 : decode cX3_isMissing 13 = .ok (.ireturn, 1) := by decide +kernel
theorem dX3_has_0 : decode cX3_has 0 = .ok (.iload_n 1, 1) := by decide +kernel
theorem dX3_has_1 : decode cX3_has 1 = .ok (.ifCond .lt 15, 3) := by decide +kernel
theorem dX3_has_4 : decode cX3_has 4 = .ok (.iload_n 1, 1) := by decide +kernel
theorem dX3_has_5 : decode cX3_has 5 = .ok (.aload_n 0, 1) := by decide +kernel
theorem dX3_has_6 : decode cX3_has 6 = .ok (.getfield 19, 3) := by decide +kernel
theorem dX3_has_9 : decode cX3_has 9 = .ok (.if_icmp .ge 7, 3) := by decide +kernel
theorem dX3_has_12 : decode cX3_has 12 = .ok (.iconst 1, 1) := by decide +kernel
theorem dX3_has_13 : decode cX3_has 13 = .ok (.goto 4, 3) := by decide +kernel
theorem dX3_has_16 : decode cX3_has 16 = .ok (.iconst 0, 1) := by decide +kernel
theorem dX3_has_17 : decode cX3_has 17 = .ok (.ireturn, 1) := by decide +kernel
theorem dX3_hasRun_0 : decode cX3_hasRun 0 = .ok (.iload_n 1, 1) := by decide +kernel
theorem dX3_hasRun_1 : decode cX3_hasRun 1 = .ok (.ifCond .lt 29, 3) := by decide +kernel
theorem dX3_hasRun_4 : decode cX3_hasRun 4 = .ok (.iload_n 2, 1) := by decide +kernel
theorem dX3_hasRun_5 : decode cX3_hasRun 5 = .ok (.ifCond .lt 25, 3) := by decide +kernel
theorem dX3_hasRun_8 : decode cX3_hasRun 8 = .ok (.iload_n 1, 1) := by decide +kernel
theorem dX3_hasRun_9 : decode cX3_hasRun 9 = .ok (.aload_n 0, 1) := by decide +kernel
theorem dX3_hasRun_10 : decode cX3_hasRun 10 = .ok (.getfield 19, 3) := by decide +kernel
theorem dX3_hasRun_13 : decode cX3_hasRun 13 = .ok (.if_icmp .gt 17, 3) := by decide +kernel
theorem dX3_hasRun_16 : decode cX3_hasRun 16 = .ok (.iload_n 2, 1) := by decide +kernel
theorem dX3_hasRun_17 : decode cX3_hasRun 17 = .ok (.aload_n 0, 1) := by decide +kernel
theorem dX3_hasRun_18 : decode cX3_hasRun 18 = .ok (.getfield 19, 3) := by decide +kernel
theorem dX3_hasRun_21 : decode cX3_hasRun 21 = .ok (.iload_n 1, 1) := by decide +kernel
theorem dX3_hasRun_22 : decode cX3_hasRun 22 = .ok (.isub, 1) := by decide +kernel
theorem dX3_hasRun_23 : decode cX3_hasRun 23 = .ok (.if_icmp .gt 7, 3) := by decide +kernel
theorem dX3_hasRun_26 : decode cX3_hasRun 26 = .ok (.iconst 1, 1) := by decide +kernel
theorem dX3_hasRun_27 : decode cX3_hasRun 27 = .ok (.goto 4, 3) := by decide +kernel
theorem dX3_hasRun_30 : decode cX3_hasRun 30 = .ok (.iconst 0, 1) := by decide +kernel
theorem dX3_hasRun_31 : decode cX3_hasRun 31 = .ok (.ireturn, 1) := by decide +kernel
theorem dX3_put_0 : decode cX3_put 0 = .ok (.aload_n 0, 1) := by decide +kernel
theorem dX3_put_1 : decode cX3_put 1 = .ok (.getfield 9, 3) := by decide +kernel
theorem dX3_put_4 : decode cX3_put 4 = .ok (.ifCond .ne 15, 3) := by decide +kernel
theorem dX3_put_7 : decode cX3_put 7 = .ok (.aload_n 0, 1) := by decide +kernel
theorem dX3_put_8 : decode cX3_put 8 = .ok (.getfield 15, 3) := by decide +kernel
theorem dX3_put_11 : decode cX3_put 11 = .ok (.iload_n 1, 1) := by decide +kernel
theorem dX3_put_12 : decode cX3_put 12 = .ok (.dload_n 2, 1) := by decide +kernel
theorem dX3_put_13 : decode cX3_put 13 = .ok (.d2i, 1) := by decide +kernel
theorem dX3_put_14 : decode cX3_put 14 = .ok (.i2d, 1) := by decide +kernel
theorem dX3_put_15 : decode cX3_put 15 = .ok (.dastore, 1) := by decide +kernel
theorem dX3_put_16 : decode cX3_put 16 = .ok (.goto 30, 3) := by decide +kernel
theorem dX3_put_19 : decode cX3_put 19 = .ok (.aload_n 0, 1) := by decide +kernel
theorem dX3_put_20 : decode cX3_put 20 = .ok (.getfield 9, 3) := by decide +kernel
theorem dX3_put_23 : decode cX3_put 23 = .ok (.iconst 1, 1) := by decide +kernel
theorem dX3_put_24 : decode cX3_put 24 = .ok (.if_icmp .ne 15, 3) := by decide +kernel
theorem dX3_put_27 : decode cX3_put 27 = .ok (.aload_n 0, 1) := by decide +kernel
theorem dX3_put_28 : decode cX3_put 28 = .ok (.getfield 15, 3) := by decide +kernel
theorem dX3_put_31 : decode cX3_put 31 = .ok (.iload_n 1, 1) := by decide +kernel
theorem dX3_put_32 : decode cX3_put 32 = .ok (.dload_n 2, 1) := by decide +kernel
theorem dX3_put_33 : decode cX3_put 33 = .ok (.d2f, 1) := by decide +kernel
theorem dX3_put_34 : decode cX3_put 34 = .ok (.f2d, 1) := by decide +kernel
theorem dX3_put_35 : decode cX3_put 35 = .ok (.dastore, 1) := by decide +kernel
theorem dX3_put_36 : decode cX3_put 36 = .ok (.goto 10, 3) := by decide +kernel
theorem dX3_put_39 : decode cX3_put 39 = .ok (.aload_n 0, 1) := by decide +kernel
theorem dX3_put_40 : decode cX3_put 40 = .ok (.getfield 15, 3) := by decide +kernel
theorem dX3_put_43 : decode cX3_put 43 = .ok (.iload_n 1, 1) := by decide +kernel
theorem dX3_put_44 : decode cX3_put 44 = .ok (.dload_n 2, 1) := by decide +kernel
theorem dX3_put_45 : decode cX3_put 45 = .ok (.dastore, 1) := by decide +kernel
theorem dX3_put_46 : decode cX3_put 46 = .ok (.return_, 1) := by decide +kernel
theorem dX3_eighths_0 : decode cX3_eighths 0 = .ok (.aload_n 0, 1) := by decide +kernel
theorem dX3_eighths_1 : decode cX3_eighths 1 = .ok (.getfield 9, 3) := by decide +kernel
theorem dX3_eighths_4 : decode cX3_eighths 4 = .ok (.ifCond .ne 6, 3) := by decide +kernel
theorem dX3_eighths_7 : decode cX3_eighths 7 = .ok (.iload_n 1, 1) := by decide +kernel
theorem dX3_eighths_8 : decode cX3_eighths 8 = .ok (.i2d, 1) := by decide +kernel
theorem dX3_eighths_9 : decode cX3_eighths 9 = .ok (.dreturn, 1) := by decide +kernel
theorem dX3_eighths_10 : decode cX3_eighths 10 = .ok (.aload_n 0, 1) := by decide +kernel
theorem dX3_eighths_11 : decode cX3_eighths 11 = .ok (.getfield 9, 3) := by decide +kernel
theorem dX3_eighths_14 : decode cX3_eighths 14 = .ok (.iconst 1, 1) := by decide +kernel
theorem dX3_eighths_15 : decode cX3_eighths 15 = .ok (.if_icmp .ne 12, 3) := by decide +kernel
theorem dX3_eighths_18 : decode cX3_eighths 18 = .ok (.iload_n 1, 1) := by decide +kernel
theorem dX3_eighths_19 : decode cX3_eighths 19 = .ok (.i2f, 1) := by decide +kernel
theorem dX3_eighths_20 : decode cX3_eighths 20 = .ok (.ldc 22, 2) := by decide +kernel
theorem dX3_eighths_22 : decode cX3_eighths 22 = .ok (.fdiv, 1) := by decide +kernel
theorem dX3_eighths_23 : decode cX3_eighths 23 = .ok (.f2d, 1) := by decide +kernel
theorem dX3_eighths_24 : decode cX3_eighths 24 = .ok (.goto 9, 3) := by decide +kernel
theorem dX3_eighths_27 : decode cX3_eighths 27 = .ok (.iload_n 1, 1) := by decide +kernel
theorem dX3_eighths_28 : decode cX3_eighths 28 = .ok (.i2d, 1) := by decide +kernel
theorem dX3_eighths_29 : decode cX3_eighths 29 = .ok (.ldc2_w 23, 3) := by decide +kernel
theorem dX3_eighths_32 : decode cX3_eighths 32 = .ok (.ddiv, 1) := by decide +kernel
theorem dX3_eighths_33 : decode cX3_eighths 33 = .ok (.dreturn, 1) := by decide +kernel
theorem dX3_bitsAt_0 : decode cX3_bitsAt 0 = .ok (.aload_n 0, 1) := by decide +kernel
theorem dX3_bitsAt_1 : decode cX3_bitsAt 1 = .ok (.getfield 9, 3) := by decide +kernel
theorem dX3_bitsAt_4 : decode cX3_bitsAt 4 = .ok (.ifCond .ne 11, 3) := by decide +kernel
theorem dX3_bitsAt_7 : decode cX3_bitsAt 7 = .ok (.aload_n 0, 1) := by decide +kernel
theorem dX3_bitsAt_8 : decode cX3_bitsAt 8 = .ok (.getfield 15, 3) := by decide +kernel
theorem dX3_bitsAt_11 : decode cX3_bitsAt 11 = .ok (.iload_n 1, 1) := by decide +kernel
theorem dX3_bitsAt_12 : decode cX3_bitsAt 12 = .ok (.daload, 1) := by decide +kernel
theorem dX3_bitsAt_13 : decode cX3_bitsAt 13 = .ok (.d2l, 1) := by decide +kernel
theorem dX3_bitsAt_14 : decode cX3_bitsAt 14 = .ok (.lreturn, 1) := by decide +kernel
theorem dX3_bitsAt_15 : decode cX3_bitsAt 15 = .ok (.aload_n 0, 1) := by decide +kernel
theorem dX3_bitsAt_16 : decode cX3_bitsAt 16 = .ok (.getfield 9, 3) := by decide +kernel
theorem dX3_bitsAt_19 : decode cX3_bitsAt 19 = .ok (.iconst 1, 1) := by decide +kernel
theorem dX3_bitsAt_20 : decode cX3_bitsAt 20 = .ok (.if_icmp .ne 17, 3) := by decide +kernel
theorem dX3_bitsAt_23 : decode cX3_bitsAt 23 = .ok (.aload_n 0, 1) := by decide +kernel
theorem dX3_bitsAt_24 : decode cX3_bitsAt 24 = .ok (.getfield 15, 3) := by decide +kernel
theorem dX3_bitsAt_27 : decode cX3_bitsAt 27 = .ok (.iload_n 1, 1) := by decide +kernel
theorem dX3_bitsAt_28 : decode cX3_bitsAt 28 = .ok (.daload, 1) := by decide +kernel
theorem dX3_bitsAt_29 : decode cX3_bitsAt 29 = .ok (.d2f, 1) := by decide +kernel
theorem dX3_bitsAt_30 : decode cX3_bitsAt 30 = .ok (.invokestatic 25, 3) := by decide +kernel
theorem dX3_bitsAt_33 : decode cX3_bitsAt 33 = .ok (.i2l, 1) := by decide +kernel
theorem dX3_bitsAt_34 : decode cX3_bitsAt 34 = .ok (.goto 12, 3) := by decide +kernel
theorem dX3_bitsAt_37 : decode cX3_bitsAt 37 = .ok (.aload_n 0, 1) := by decide +kernel
theorem dX3_bitsAt_38 : decode cX3_bitsAt 38 = .ok (.getfield 15, 3) := by decide +kernel
theorem dX3_bitsAt_41 : decode cX3_bitsAt 41 = .ok (.iload_n 1, 1) := by decide +kernel
theorem dX3_bitsAt_42 : decode cX3_bitsAt 42 = .ok (.daload, 1) := by decide +kernel
theorem dX3_bitsAt_43 : decode cX3_bitsAt 43 = .ok (.invokestatic 31, 3) := by decide +kernel
theorem dX3_bitsAt_46 : decode cX3_bitsAt 46 = .ok (.lreturn, 1) := by decide +kernel
theorem dX4_init_0 : decode cX4_init 0 = .ok (.aload_n 0, 1) := by decide +kernel
theorem dX4_init_1 : decode cX4_init 1 = .ok (.invokespecial 3, 3) := by decide +kernel
theorem dX4_init_4 : decode cX4_init 4 = .ok (.aload_n 0, 1) := by decide +kernel
theorem dX4_init_5 : decode cX4_init 5 = .ok (.bipush 6, 2) := by decide +kernel
theorem dX4_init_7 : decode cX4_init 7 = .ok (.newarray .int, 2) := by decide +kernel
theorem dX4_init_9 : decode cX4_init 9 = .ok (.dup, 1) := by decide +kernel
theorem dX4_init_10 : decode cX4_init 10 = .ok (.iconst 0, 1) := by decide +kernel
theorem dX4_init_11 : decode cX4_init 11 = .ok (.iconst (-1), 1) := by decide +kernel
theorem dX4_init_12 : decode cX4_init 12 = .ok (.iastore, 1) := by decide +kernel
theorem dX4_init_13 : decode cX4_init 13 = .ok (.dup, 1) := by decide +kernel
theorem dX4_init_14 : decode cX4_init 14 = .ok (.iconst 1, 1) := by decide +kernel
theorem dX4_init_15 : decode cX4_init 15 = .ok (.iconst (-1), 1) := by decide +kernel
theorem dX4_init_16 : decode cX4_init 16 = .ok (.iastore, 1) := by decide +kernel
theorem dX4_init_17 : decode cX4_init 17 = .ok (.dup, 1) := by decide +kernel
theorem dX4_init_18 : decode cX4_init 18 = .ok (.iconst 2, 1) := by decide +kernel
theorem dX4_init_19 : decode cX4_init 19 = .ok (.iconst (-1), 1) := by decide +kernel
theorem dX4_init_20 : decode cX4_init 20 = .ok (.iastore, 1) := by decide +kernel
theorem dX4_init_21 : decode cX4_init 21 = .ok (.dup, 1) := by decide +kernel
theorem dX4_init_22 : decode cX4_init 22 = .ok (.iconst 3, 1) := by decide +kernel
theorem dX4_init_23 : decode cX4_init 23 = .ok (.iconst (-1), 1) := by decide +kernel
theorem dX4_init_24 : decode cX4_init 24 = .ok (.iastore, 1) := by decide +kernel
theorem dX4_init_25 : decode cX4_init 25 = .ok (.dup, 1) := by decide +kernel
theorem dX4_init_26 : decode cX4_init 26 = .ok (.iconst 4, 1) := by decide +kernel
theorem dX4_init_27 : decode cX4_init 27 = .ok (.iconst (-1), 1) := by decide +kernel
theorem dX4_init_28 : decode cX4_init 28 = .ok (.iastore, 1) := by decide +kernel
theorem dX4_init_29 : decode cX4_init 29 = .ok (.dup, 1) := by decide +kernel
theorem dX4_init_30 : decode cX4_init 30 = .ok (.iconst 5, 1) := by decide +kernel
theorem dX4_init_31 : decode cX4_init 31 = .ok (.iconst (-1), 1) := by decide +kernel
theorem dX4_init_32 : decode cX4_init 32 = .ok (.iastore, 1) := by decide +kernel
theorem dX4_init_33 : decode cX4_init 33 = .ok (.putfield 9, 3) := by decide +kernel
theorem dX4_init_36 : decode cX4_init 36 = .ok (.aload_n 0, 1) := by decide +kernel
theorem dX4_init_37 : decode cX4_init 37 = .ok (.bipush 6, 2) := by decide +kernel
theorem dX4_init_39 : decode cX4_init 39 = .ok (.newarray .int, 2) := by decide +kernel
theorem dX4_init_41 : decode cX4_init 41 = .ok (.putfield 15, 3) := by decide +kernel
theorem dX4_init_44 : decode cX4_init 44 = .ok (.return_, 1) := by decide +kernel
theorem dX4_becomeFor_0 : decode cX4_becomeFor 0 = .ok (.aload_n 0, 1) := by decide +kernel
theorem dX4_becomeFor_1 : decode cX4_becomeFor 1 = .ok (.iload_n 1, 1) := by decide +kernel
theorem dX4_becomeFor_2 : decode cX4_becomeFor 2 = .ok (.putfield 18, 3) := by decide +kernel
theorem dX4_becomeFor_5 : decode cX4_becomeFor 5 = .ok (.iconst 0, 1) := by decide +kernel
theorem dX4_becomeFor_6 : decode cX4_becomeFor 6 = .ok (.istore_n 2, 1) := by decide +kernel
theorem dX4_becomeFor_7 : decode cX4_becomeFor 7 = .ok (.iload_n 2, 1) := by decide +kernel
theorem dX4_becomeFor_8 : decode cX4_becomeFor 8 = .ok (.bipush 6, 2) := by decide +kernel
theorem dX4_becomeFor_10 : decode cX4_becomeFor 10 = .ok (.if_icmp .ge 16, 3) := by decide +kernel
theorem dX4_becomeFor_13 : decode cX4_becomeFor 13 = .ok (.aload_n 0, 1) := by decide +kernel
theorem dX4_becomeFor_14 : decode cX4_becomeFor 14 = .ok (.getfield 9, 3) := by decide +kernel
theorem dX4_becomeFor_17 : decode cX4_becomeFor 17 = .ok (.iload_n 2, 1) := by decide +kernel
theorem dX4_becomeFor_18 : decode cX4_becomeFor 18 = .ok (.iconst (-1), 1) := by decide +kernel
theorem dX4_becomeFor_19 : decode cX4_becomeFor 19 = .ok (.iastore, 1) := by decide +kernel
theorem dX4_becomeFor_20 : decode cX4_becomeFor 20 = .ok (.iinc 2 1, 3) := by decide +kernel
theorem dX4_becomeFor_23 : decode cX4_becomeFor 23 = .ok (.goto (-16), 3) := by decide +kernel
theorem dX4_becomeFor_26 : decode cX4_becomeFor 26 = .ok (.return_, 1) := by decide +kernel
theorem dX4_isEmptyAt_0 : decode cX4_isEmptyAt 0 = .ok (.aload_n 0, 1) := by decide +kernel
theorem dX4_isEmptyAt_1 : decode cX4_isEmptyAt 1 = .ok (.getfield 9, 3) := by decide +kernel
theorem dX4_isEmptyAt_4 : decode cX4_isEmptyAt 4 = .ok (.iload_n 1, 1) := by decide +kernel
theorem dX4_isEmptyAt_5 : decode cX4_isEmptyAt 5 = .ok (.iaload, 1) := by decide +kernel
theorem dX4_isEmptyAt_6 : decode cX4_isEmptyAt 6 = .ok (.ifCond .ge 7, 3) := by decide +kernel
theorem dX4_isEmptyAt_9 : decode cX4_isEmptyAt 9 = .ok (.iconst 1, 1) := by decide +kernel
theorem dX4_isEmptyAt_10 : decode cX4_isEmptyAt 10 = .ok (.goto 4, 3) := by decide +kernel
theorem dX4_isEmptyAt_13 : decode cX4_isEmptyAt 13 = .ok (.iconst 0, 1) := by decide +kernel
theorem dX4_isEmptyAt_14 : decode cX4_isEmptyAt 14 = .ok (.ireturn, 1) := by decide +kernel
theorem dX4_standing_0 : decode cX4_standing 0 = .ok (.iconst 0, 1) := by decide +kernel
theorem dX4_standing_1 : decode cX4_standing 1 = .ok (.istore_n 1, 1) := by decide +kernel
theorem dX4_standing_2 : decode cX4_standing 2 = .ok (.iconst 0, 1) := by decide +kernel
theorem dX4_standing_3 : decode cX4_standing 3 = .ok (.istore_n 2, 1) := by decide +kernel
theorem dX4_standing_4 : decode cX4_standing 4 = .ok (.iload_n 2, 1) := by decide +kernel
theorem dX4_standing_5 : decode cX4_standing 5 = .ok (.bipush 6, 2) := by decide +kernel
theorem dX4_standing_7 : decode cX4_standing 7 = .ok (.if_icmp .ge 20, 3) := by decide +kernel
theorem dX4_standing_10 : decode cX4_standing 10 = .ok (.aload_n 0, 1) := by decide +kernel
theorem dX4_standing_11 : decode cX4_standing 11 = .ok (.iload_n 2, 1) := by decide +kernel
theorem dX4_standing_12 : decode cX4_standing 12 = .ok (.invokevirtual 22, 3) := by decide +kernel
theorem dX4_standing_15 : decode cX4_standing 15 = .ok (.ifCond .ne 6, 3) := by decide +kernel
theorem dX4_standing_18 : decode cX4_standing 18 = .ok (.iinc 1 1, 3) := by decide +kernel
theorem dX4_standing_21 : decode cX4_standing 21 = .ok (.iinc 2 1, 3) := by decide +kernel
theorem dX4_standing_24 : decode cX4_standing 24 = .ok (.goto (-20), 3) := by decide +kernel
theorem dX4_standing_27 : decode cX4_standing 27 = .ok (.iload_n 1, 1) := by decide +kernel
theorem dX4_standing_28 : decode cX4_standing 28 = .ok (.ireturn, 1) := by decide +kernel
theorem dX4_takeFrom_0 : decode cX4_takeFrom 0 = .ok (.iconst 0, 1) := by decide +kernel
theorem dX4_takeFrom_1 : decode cX4_takeFrom 1 = .ok (.istore_n 2, 1) := by decide +kernel
theorem dX4_takeFrom_2 : decode cX4_takeFrom 2 = .ok (.iload_n 2, 1) := by decide +kernel
theorem dX4_takeFrom_3 : decode cX4_takeFrom 3 = .ok (.bipush 6, 2) := by decide +kernel
theorem dX4_takeFrom_5 : decode cX4_takeFrom 5 = .ok (.if_icmp .ge 59, 3) := by decide +kernel
theorem dX4_takeFrom_8 : decode cX4_takeFrom 8 = .ok (.aload_n 1, 1) := by decide +kernel
theorem dX4_takeFrom_9 : decode cX4_takeFrom 9 = .ok (.iload_n 2, 1) := by decide +kernel
theorem dX4_takeFrom_10 : decode cX4_takeFrom 10 = .ok (.invokevirtual 22, 3) := by decide +kernel
theorem dX4_takeFrom_13 : decode cX4_takeFrom 13 = .ok (.ifCond .ne 21, 3) := by decide +kernel
theorem dX4_takeFrom_16 : decode cX4_takeFrom 16 = .ok (.aload_n 1, 1) := by decide +kernel
theorem dX4_takeFrom_17 : decode cX4_takeFrom 17 = .ok (.getfield 15, 3) := by decide +kernel
theorem dX4_takeFrom_20 : decode cX4_takeFrom 20 = .ok (.iload_n 2, 1) := by decide +kernel
theorem dX4_takeFrom_21 : decode cX4_takeFrom 21 = .ok (.iaload, 1) := by decide +kernel
theorem dX4_takeFrom_22 : decode cX4_takeFrom 22 = .ok (.aload_n 0, 1) := by decide +kernel
theorem dX4_takeFrom_23 : decode cX4_takeFrom 23 = .ok (.getfield 18, 3) := by decide +kernel
theorem dX4_takeFrom_26 : decode cX4_takeFrom 26 = .ok (.invokestatic 26, 3) := by decide +kernel
theorem dX4_takeFrom_29 : decode cX4_takeFrom 29 = .ok (.ifCond .ne 5, 3) := by decide +kernel
theorem dX4_takeFrom_32 : decode cX4_takeFrom 32 = .ok (.iload_n 2, 1) := by decide +kernel
theorem dX4_takeFrom_33 : decode cX4_takeFrom 33 = .ok (.ireturn, 1) := by decide +kernel
theorem dX4_takeFrom_34 : decode cX4_takeFrom 34 = .ok (.aload_n 0, 1) := by decide +kernel
theorem dX4_takeFrom_35 : decode cX4_takeFrom 35 = .ok (.getfield 9, 3) := by decide +kernel
theorem dX4_takeFrom_38 : decode cX4_takeFrom 38 = .ok (.iload_n 2, 1) := by decide +kernel
theorem dX4_takeFrom_39 : decode cX4_takeFrom 39 = .ok (.aload_n 1, 1) := by decide +kernel
theorem dX4_takeFrom_40 : decode cX4_takeFrom 40 = .ok (.getfield 9, 3) := by decide +kernel
theorem dX4_takeFrom_43 : decode cX4_takeFrom 43 = .ok (.iload_n 2, 1) := by decide +kernel
theorem dX4_takeFrom_44 : decode cX4_takeFrom 44 = .ok (.iaload, 1) := by decide +kernel
theorem dX4_takeFrom_45 : decode cX4_takeFrom 45 = .ok (.iastore, 1) := by decide +kernel
theorem dX4_takeFrom_46 : decode cX4_takeFrom 46 = .ok (.aload_n 0, 1) := by decide +kernel
theorem dX4_takeFrom_47 : decode cX4_takeFrom 47 = .ok (.getfield 15, 3) := by decide +kernel
theorem dX4_takeFrom_50 : decode cX4_takeFrom 50 = .ok (.iload_n 2, 1) := by decide +kernel
theorem dX4_takeFrom_51 : decode cX4_takeFrom 51 = .ok (.aload_n 1, 1) := by decide +kernel
theorem dX4_takeFrom_52 : decode cX4_takeFrom 52 = .ok (.getfield 15, 3) := by decide +kernel
theorem dX4_takeFrom_55 : decode cX4_takeFrom 55 = .ok (.iload_n 2, 1) := by decide +kernel
theorem dX4_takeFrom_56 : decode cX4_takeFrom 56 = .ok (.iaload, 1) := by decide +kernel
theorem dX4_takeFrom_57 : decode cX4_takeFrom 57 = .ok (.iastore, 1) := by decide +kernel
theorem dX4_takeFrom_58 : decode cX4_takeFrom 58 = .ok (.iinc 2 1, 3) := by decide +kernel
theorem dX4_takeFrom_61 : decode cX4_takeFrom 61 = .ok (.goto (-59), 3) := by decide +kernel
theorem dX4_takeFrom_64 : decode cX4_takeFrom 64 = .ok (.bipush 6, 2) := by decide +kernel
theorem dX4_takeFrom_66 : decode cX4_takeFrom 66 = .ok (.ireturn, 1) := by decide +kernel
theorem dX5_init_0 : decode cX5_init 0 = .ok (.aload_n 0, 1) := by decide +kernel
theorem dX5_init_1 : decode cX5_init 1 = .ok (.invokespecial 1, 3) := by decide +kernel
theorem dX5_init_4 : decode cX5_init 4 = .ok (.aload_n 0, 1) := by decide +kernel
theorem dX5_init_5 : decode cX5_init 5 = .ok (.bipush 8, 2) := by decide +kernel
theorem dX5_init_7 : decode cX5_init 7 = .ok (.newarray .int, 2) := by decide +kernel
theorem dX5_init_9 : decode cX5_init 9 = .ok (.putfield 9, 3) := by decide +kernel
theorem dX5_init_12 : decode cX5_init 12 = .ok (.aload_n 0, 1) := by decide +kernel
theorem dX5_init_13 : decode cX5_init 13 = .ok (.new 13, 3) := by decide +kernel
theorem dX5_init_16 : decode cX5_init 16 = .ok (.dup, 1) := by decide +kernel
theorem dX5_init_17 : decode cX5_init 17 = .ok (.invokespecial 15, 3) := by decide +kernel
theorem dX5_init_20 : decode cX5_init 20 = .ok (.putfield 16, 3) := by decide +kernel
theorem dX5_init_23 : decode cX5_init 23 = .ok (.aload_n 0, 1) := by decide +kernel
theorem dX5_init_24 : decode cX5_init 24 = .ok (.aload_n 0, 1) := by decide +kernel
theorem dX5_init_25 : decode cX5_init 25 = .ok (.getfield 16, 3) := by decide +kernel
theorem dX5_init_28 : decode cX5_init 28 = .ok (.getfield 20, 3) := by decide +kernel
theorem dX5_init_31 : decode cX5_init 31 = .ok (.putfield 24, 3) := by decide +kernel
theorem dX5_init_34 : decode cX5_init 34 = .ok (.aload_n 0, 1) := by decide +kernel
theorem dX5_init_35 : decode cX5_init 35 = .ok (.new 25, 3) := by decide +kernel
theorem dX5_init_38 : decode cX5_init 38 = .ok (.dup, 1) := by decide +kernel
theorem dX5_init_39 : decode cX5_init 39 = .ok (.invokespecial 27, 3) := by decide +kernel
theorem dX5_init_42 : decode cX5_init 42 = .ok (.putfield 28, 3) := by decide +kernel
theorem dX5_init_45 : decode cX5_init 45 = .ok (.aload_n 0, 1) := by decide +kernel
theorem dX5_init_46 : decode cX5_init 46 = .ok (.iconst 4, 1) := by decide +kernel
theorem dX5_init_47 : decode cX5_init 47 = .ok (.anewarray 31, 3) := by decide +kernel
theorem dX5_init_50 : decode cX5_init 50 = .ok (.putfield 33, 3) := by decide +kernel
theorem dX5_init_53 : decode cX5_init 53 = .ok (.aload_n 0, 1) := by decide +kernel
theorem dX5_init_54 : decode cX5_init 54 = .ok (.iconst 4, 1) := by decide +kernel
theorem dX5_init_55 : decode cX5_init 55 = .ok (.anewarray 37, 3) := by decide +kernel
theorem dX5_init_58 : decode cX5_init 58 = .ok (.putfield 39, 3) := by decide +kernel
theorem dX5_init_61 : decode cX5_init 61 = .ok (.iconst 0, 1) := by decide +kernel
theorem dX5_init_62 : decode cX5_init 62 = .ok (.istore_n 1, 1) := by decide +kernel
theorem dX5_init_63 : decode cX5_init 63 = .ok (.iload_n 1, 1) := by decide +kernel
theorem dX5_init_64 : decode cX5_init 64 = .ok (.iconst 4, 1) := by decide +kernel
theorem dX5_init_65 : decode cX5_init 65 = .ok (.if_icmp .ge 22, 3) := by decide +kernel
theorem dX5_init_68 : decode cX5_init 68 = .ok (.aload_n 0, 1) := by decide +kernel
theorem dX5_init_69 : decode cX5_init 69 = .ok (.getfield 33, 3) := by decide +kernel
theorem dX5_init_72 : decode cX5_init 72 = .ok (.iload_n 1, 1) := by decide +kernel
theorem dX5_init_73 : decode cX5_init 73 = .ok (.new 31, 3) := by decide +kernel
theorem dX5_init_76 : decode cX5_init 76 = .ok (.dup, 1) := by decide +kernel
theorem dX5_init_77 : decode cX5_init 77 = .ok (.invokespecial 43, 3) := by decide +kernel
theorem dX5_init_80 : decode cX5_init 80 = .ok (.aastore, 1) := by decide +kernel
theorem dX5_init_81 : decode cX5_init 81 = .ok (.iinc 1 1, 3) := by decide +kernel
theorem dX5_init_84 : decode cX5_init 84 = .ok (.goto (-21), 3) := by decide +kernel
theorem dX5_init_87 : decode cX5_init 87 = .ok (.iconst 0, 1) := by decide +kernel
theorem dX5_init_88 : decode cX5_init 88 = .ok (.istore_n 1, 1) := by decide +kernel
theorem dX5_init_89 : decode cX5_init 89 = .ok (.iload_n 1, 1) := by decide +kernel
theorem dX5_init_90 : decode cX5_init 90 = .ok (.iconst 4, 1) := by decide +kernel
theorem dX5_init_91 : decode cX5_init 91 = .ok (.if_icmp .ge 22, 3) := by decide +kernel
theorem dX5_init_94 : decode cX5_init 94 = .ok (.aload_n 0, 1) := by decide +kernel
theorem dX5_init_95 : decode cX5_init 95 = .ok (.getfield 39, 3) := by decide +kernel
theorem dX5_init_98 : decode cX5_init 98 = .ok (.iload_n 1, 1) := by decide +kernel
theorem dX5_init_99 : decode cX5_init 99 = .ok (.new 37, 3) := by decide +kernel
theorem dX5_init_102 : decode cX5_init 102 = .ok (.dup, 1) := by decide +kernel
theorem dX5_init_103 : decode cX5_init 103 = .ok (.invokespecial 44, 3) := by decide +kernel
theorem dX5_init_106 : decode cX5_init 106 = .ok (.aastore, 1) := by decide +kernel
theorem dX5_init_107 : decode cX5_init 107 = .ok (.iinc 1 1, 3) := by decide +kernel
theorem dX5_init_110 : decode cX5_init 110 = .ok (.goto (-21), 3) := by decide +kernel
theorem dX5_init_113 : decode cX5_init 113 = .ok (.return_, 1) := by decide +kernel
theorem dX5_add_0 : decode cX5_add 0 = .ok (.iconst 0, 1) := by decide +kernel
theorem dX5_add_1 : decode cX5_add 1 = .ok (.iload_n 1, 1) := by decide +kernel
theorem dX5_add_2 : decode cX5_add 2 = .ok (.invokestatic 45, 3) := by decide +kernel
theorem dX5_add_5 : decode cX5_add 5 = .ok (.ifCond .eq 46, 3) := by decide +kernel
theorem dX5_add_8 : decode cX5_add 8 = .ok (.iconst 1, 1) := by decide +kernel
theorem dX5_add_9 : decode cX5_add 9 = .ok (.iload_n 2, 1) := by decide +kernel
theorem dX5_add_10 : decode cX5_add 10 = .ok (.invokestatic 45, 3) := by decide +kernel
theorem dX5_add_13 : decode cX5_add 13 = .ok (.ifCond .eq 38, 3) := by decide +kernel
theorem dX5_add_16 : decode cX5_add 16 = .ok (.iconst 2, 1) := by decide +kernel
theorem dX5_add_17 : decode cX5_add 17 = .ok (.iload_n 3, 1) := by decide +kernel
theorem dX5_add_18 : decode cX5_add 18 = .ok (.invokestatic 45, 3) := by decide +kernel
theorem dX5_add_21 : decode cX5_add 21 = .ok (.ifCond .eq 30, 3) := by decide +kernel
theorem dX5_add_24 : decode cX5_add 24 = .ok (.iconst 3, 1) := by decide +kernel
theorem dX5_add_25 : decode cX5_add 25 = .ok (.iload 4, 2) := by decide +kernel
theorem dX5_add_27 : decode cX5_add 27 = .ok (.invokestatic 45, 3) := by decide +kernel
theorem dX5_add_30 : decode cX5_add 30 = .ok (.ifCond .eq 21, 3) := by decide +kernel
theorem dX5_add_33 : decode cX5_add 33 = .ok (.iconst 4, 1) := by decide +kernel
theorem dX5_add_34 : decode cX5_add 34 = .ok (.iload 5, 2) := by decide +kernel
theorem dX5_add_36 : decode cX5_add 36 = .ok (.invokestatic 45, 3) := by decide +kernel
theorem dX5_add_39 : decode cX5_add 39 = .ok (.ifCond .eq 12, 3) := by decide +kernel
theorem dX5_add_42 : decode cX5_add 42 = .ok (.iconst 5, 1) := by decide +kernel
theorem dX5_add_43 : decode cX5_add 43 = .ok (.iload 6, 2) := by decide +kernel
theorem dX5_add_45 : decode cX5_add 45 = .ok (.invokestatic 45, 3) := by decide +kernel
theorem dX5_add_48 : decode cX5_add 48 = .ok (.ifCond .ne 9, 3) := by decide +kernel
theorem dX5_add_51 : decode cX5_add 51 = .ok (.aload_n 0, 1) := by decide +kernel
theorem dX5_add_52 : decode cX5_add 52 = .ok (.iconst 0, 1) := by decide +kernel
theorem dX5_add_53 : decode cX5_add 53 = .ok (.invokevirtual 49, 3) := by decide +kernel
theorem dX5_add_56 : decode cX5_add 56 = .ok (.ireturn, 1) := by decide +kernel
theorem dX5_add_57 : decode cX5_add 57 = .ok (.aload_n 0, 1) := by decide +kernel
theorem dX5_add_58 : decode cX5_add 58 = .ok (.getfield 24, 3) := by decide +kernel
theorem dX5_add_61 : decode cX5_add 61 = .ok (.getfield 53, 3) := by decide +kernel
theorem dX5_add_64 : decode cX5_add 64 = .ok (.bipush 12, 2) := by decide +kernel
theorem dX5_add_66 : decode cX5_add 66 = .ok (.if_icmp .lt 9, 3) := by decide +kernel
theorem dX5_add_69 : decode cX5_add 69 = .ok (.aload_n 0, 1) := by decide +kernel
theorem dX5_add_70 : decode cX5_add 70 = .ok (.iconst 1, 1) := by decide +kernel
theorem dX5_add_71 : decode cX5_add 71 = .ok (.invokevirtual 49, 3) := by decide +kernel
theorem dX5_add_74 : decode cX5_add 74 = .ok (.ireturn, 1) := by decide +kernel
theorem dX5_add_75 : decode cX5_add 75 = .ok (.aload_n 0, 1) := by decide +kernel
theorem dX5_add_76 : decode cX5_add 76 = .ok (.getfield 24, 3) := by decide +kernel
theorem dX5_add_79 : decode cX5_add 79 = .ok (.getfield 53, 3) := by decide +kernel
theorem dX5_add_82 : decode cX5_add 82 = .ok (.istore 7, 2) := by decide +kernel
theorem dX5_add_84 : decode cX5_add 84 = .ok (.aload_n 0, 1) := by decide +kernel
theorem dX5_add_85 : decode cX5_add 85 = .ok (.getfield 24, 3) := by decide +kernel
theorem dX5_add_88 : decode cX5_add 88 = .ok (.dup, 1) := by decide +kernel
theorem dX5_add_89 : decode cX5_add 89 = .ok (.getfield 53, 3) := by decide +kernel
theorem dX5_add_92 : decode cX5_add 92 = .ok (.iconst 1, 1) := by decide +kernel
theorem dX5_add_93 : decode cX5_add 93 = .ok (.iadd, 1) := by decide +kernel
theorem dX5_add_94 : decode cX5_add 94 = .ok (.putfield 53, 3) := by decide +kernel
theorem dX5_add_97 : decode cX5_add 97 = .ok (.aload_n 0, 1) := by decide +kernel
theorem dX5_add_98 : decode cX5_add 98 = .ok (.getfield 24, 3) := by decide +kernel
theorem dX5_add_101 : decode cX5_add 101 = .ok (.getfield 57, 3) := by decide +kernel
theorem dX5_add_104 : decode cX5_add 104 = .ok (.iconst 0, 1) := by decide +kernel
theorem dX5_add_105 : decode cX5_add 105 = .ok (.aaload, 1) := by decide +kernel
theorem dX5_add_106 : decode cX5_add 106 = .ok (.iload 7, 2) := by decide +kernel
theorem dX5_add_108 : decode cX5_add 108 = .ok (.iload_n 1, 1) := by decide +kernel
theorem dX5_add_109 : decode cX5_add 109 = .ok (.iastore, 1) := by decide +kernel
theorem dX5_add_110 : decode cX5_add 110 = .ok (.aload_n 0, 1) := by decide +kernel
theorem dX5_add_111 : decode cX5_add 111 = .ok (.getfield 24, 3) := by decide +kernel
theorem dX5_add_114 : decode cX5_add 114 = .ok (.getfield 57, 3) := by decide +kernel
theorem dX5_add_117 : decode cX5_add 117 = .ok (.iconst 1, 1) := by decide +kernel
theorem dX5_add_118 : decode cX5_add 118 = .ok (.aaload, 1) := by decide +kernel
theorem dX5_add_119 : decode cX5_add 119 = .ok (.iload 7, 2) := by decide +kernel
theorem dX5_add_121 : decode cX5_add 121 = .ok (.iload_n 2, 1) := by decide +kernel
theorem dX5_add_122 : decode cX5_add 122 = .ok (.iastore, 1) := by decide +kernel
theorem dX5_add_123 : decode cX5_add 123 = .ok (.aload_n 0, 1) := by decide +kernel
theorem dX5_add_124 : decode cX5_add 124 = .ok (.getfield 24, 3) := by decide +kernel
theorem dX5_add_127 : decode cX5_add 127 = .ok (.getfield 57, 3) := by decide +kernel
theorem dX5_add_130 : decode cX5_add 130 = .ok (.iconst 2, 1) := by decide +kernel
theorem dX5_add_131 : decode cX5_add 131 = .ok (.aaload, 1) := by decide +kernel
theorem dX5_add_132 : decode cX5_add 132 = .ok (.iload 7, 2) := by decide +kernel
theorem dX5_add_134 : decode cX5_add 134 = .ok (.iload_n 3, 1) := by decide +kernel
theorem dX5_add_135 : decode cX5_add 135 = .ok (.iastore, 1) := by decide +kernel
theorem dX5_add_136 : decode cX5_add 136 = .ok (.aload_n 0, 1) := by decide +kernel
theorem dX5_add_137 : decode cX5_add 137 = .ok (.getfield 24, 3) := by decide +kernel
theorem dX5_add_140 : decode cX5_add 140 = .ok (.getfield 57, 3) := by decide +kernel
theorem dX5_add_143 : decode cX5_add 143 = .ok (.iconst 3, 1) := by decide +kernel
theorem dX5_add_144 : decode cX5_add 144 = .ok (.aaload, 1) := by decide +kernel
theorem dX5_add_145 : decode cX5_add 145 = .ok (.iload 7, 2) := by decide +kernel
theorem dX5_add_147 : decode cX5_add 147 = .ok (.iload 4, 2) := by decide +kernel
theorem dX5_add_149 : decode cX5_add 149 = .ok (.iastore, 1) := by decide +kernel
theorem dX5_add_150 : decode cX5_add 150 = .ok (.aload_n 0, 1) := by decide +kernel
theorem dX5_add_151 : decode cX5_add 151 = .ok (.getfield 24, 3) := by decide +kernel
theorem dX5_add_154 : decode cX5_add 154 = .ok (.getfield 57, 3) := by decide +kernel
theorem dX5_add_157 : decode cX5_add 157 = .ok (.iconst 4, 1) := by decide +kernel
theorem dX5_add_158 : decode cX5_add 158 = .ok (.aaload, 1) := by decide +kernel
theorem dX5_add_159 : decode cX5_add 159 = .ok (.iload 7, 2) := by decide +kernel
theorem dX5_add_161 : decode cX5_add 161 = .ok (.iload 5, 2) := by decide +kernel
theorem dX5_add_163 : decode cX5_add 163 = .ok (.iastore, 1) := by decide +kernel
theorem dX5_add_164 : decode cX5_add 164 = .ok (.aload_n 0, 1) := by decide +kernel
theorem dX5_add_165 : decode cX5_add 165 = .ok (.getfield 24, 3) := by decide +kernel
theorem dX5_add_168 : decode cX5_add 168 = .ok (.getfield 57, 3) := by decide +kernel
theorem dX5_add_171 : decode cX5_add 171 = .ok (.iconst 5, 1) := by decide +kernel
theorem dX5_add_172 : decode cX5_add 172 = .ok (.aaload, 1) := by decide +kernel
theorem dX5_add_173 : decode cX5_add 173 = .ok (.iload 7, 2) := by decide +kernel
theorem dX5_add_175 : decode cX5_add 175 = .ok (.iload 6, 2) := by decide +kernel
theorem dX5_add_177 : decode cX5_add 177 = .ok (.iastore, 1) := by decide +kernel
theorem dX5_add_178 : decode cX5_add 178 = .ok (.aload_n 0, 1) := by decide +kernel
theorem dX5_add_179 : decode cX5_add 179 = .ok (.getfield 24, 3) := by decide +kernel
theorem dX5_add_182 : decode cX5_add 182 = .ok (.getfield 57, 3) := by decide +kernel
theorem dX5_add_185 : decode cX5_add 185 = .ok (.bipush 6, 2) := by decide +kernel
theorem dX5_add_187 : decode cX5_add 187 = .ok (.aaload, 1) := by decide +kernel
theorem dX5_add_188 : decode cX5_add 188 = .ok (.iload 7, 2) := by decide +kernel
theorem dX5_add_190 : decode cX5_add 190 = .ok (.iconst 0, 1) := by decide +kernel
theorem dX5_add_191 : decode cX5_add 191 = .ok (.iastore, 1) := by decide +kernel
theorem dX5_add_192 : decode cX5_add 192 = .ok (.aload_n 0, 1) := by decide +kernel
theorem dX5_add_193 : decode cX5_add 193 = .ok (.getfield 24, 3) := by decide +kernel
theorem dX5_add_196 : decode cX5_add 196 = .ok (.getfield 57, 3) := by decide +kernel
theorem dX5_add_199 : decode cX5_add 199 = .ok (.bipush 7, 2) := by decide +kernel
theorem dX5_add_201 : decode cX5_add 201 = .ok (.aaload, 1) := by decide +kernel
theorem dX5_add_202 : decode cX5_add 202 = .ok (.iload 7, 2) := by decide +kernel
theorem dX5_add_204 : decode cX5_add 204 = .ok (.iconst 0, 1) := by decide +kernel
theorem dX5_add_205 : decode cX5_add 205 = .ok (.iastore, 1) := by decide +kernel
theorem dX5_add_206 : decode cX5_add 206 = .ok (.iload 7, 2) := by decide +kernel
theorem dX5_add_208 : decode cX5_add 208 = .ok (.ireturn, 1) := by decide +kernel
theorem dX5_of_0 : decode cX5_of 0 = .ok (.aload_n 0, 1) := by decide +kernel
theorem dX5_of_1 : decode cX5_of 1 = .ok (.getfield 24, 3) := by decide +kernel
theorem dX5_of_4 : decode cX5_of 4 = .ok (.iload_n 1, 1) := by decide +kernel
theorem dX5_of_5 : decode cX5_of 5 = .ok (.invokevirtual 61, 3) := by decide +kernel
theorem dX5_of_8 : decode cX5_of 8 = .ok (.ifCond .eq 13, 3) := by decide +kernel
theorem dX5_of_11 : decode cX5_of 11 = .ok (.iload_n 2, 1) := by decide +kernel
theorem dX5_of_12 : decode cX5_of 12 = .ok (.iconst 0, 1) := by decide +kernel
theorem dX5_of_13 : decode cX5_of 13 = .ok (.bipush 7, 2) := by decide +kernel
theorem dX5_of_15 : decode cX5_of 15 = .ok (.invokestatic 65, 3) := by decide +kernel
theorem dX5_of_18 : decode cX5_of 18 = .ok (.ifCond .ne 9, 3) := by decide +kernel
theorem dX5_of_21 : decode cX5_of 21 = .ok (.aload_n 0, 1) := by decide +kernel
theorem dX5_of_22 : decode cX5_of 22 = .ok (.iconst 0, 1) := by decide +kernel
theorem dX5_of_23 : decode cX5_of 23 = .ok (.invokevirtual 49, 3) := by decide +kernel
theorem dX5_of_26 : decode cX5_of 26 = .ok (.ireturn, 1) := by decide +kernel
theorem dX5_of_27 : decode cX5_of 27 = .ok (.aload_n 0, 1) := by decide +kernel
theorem dX5_of_28 : decode cX5_of 28 = .ok (.getfield 24, 3) := by decide +kernel
theorem dX5_of_31 : decode cX5_of 31 = .ok (.getfield 57, 3) := by decide +kernel
theorem dX5_of_34 : decode cX5_of 34 = .ok (.iload_n 2, 1) := by decide +kernel
theorem dX5_of_35 : decode cX5_of 35 = .ok (.aaload, 1) := by decide +kernel
theorem dX5_of_36 : decode cX5_of 36 = .ok (.iload_n 1, 1) := by decide +kernel
theorem dX5_of_37 : decode cX5_of 37 = .ok (.iaload, 1) := by decide +kernel
theorem dX5_of_38 : decode cX5_of 38 = .ok (.ireturn, 1) := by decide +kernel
theorem dX5_change_0 : decode cX5_change 0 = .ok (.aload_n 0, 1) := by decide +kernel
theorem dX5_change_1 : decode cX5_change 1 = .ok (.getfield 24, 3) := by decide +kernel
theorem dX5_change_4 : decode cX5_change 4 = .ok (.iload_n 1, 1) := by decide +kernel
theorem dX5_change_5 : decode cX5_change 5 = .ok (.invokevirtual 61, 3) := by decide +kernel
theorem dX5_change_8 : decode cX5_change 8 = .ok (.ifCond .eq 11, 3) := by decide +kernel
theorem dX5_change_11 : decode cX5_change 11 = .ok (.iload_n 2, 1) := by decide +kernel
theorem dX5_change_12 : decode cX5_change 12 = .ok (.iload_n 3, 1) := by decide +kernel
theorem dX5_change_13 : decode cX5_change 13 = .ok (.invokestatic 45, 3) := by decide +kernel
theorem dX5_change_16 : decode cX5_change 16 = .ok (.ifCond .ne 9, 3) := by decide +kernel
theorem dX5_change_19 : decode cX5_change 19 = .ok (.aload_n 0, 1) := by decide +kernel
theorem dX5_change_20 : decode cX5_change 20 = .ok (.iconst 0, 1) := by decide +kernel
theorem dX5_change_21 : decode cX5_change 21 = .ok (.invokevirtual 49, 3) := by decide +kernel
theorem dX5_change_24 : decode cX5_change 24 = .ok (.ireturn, 1) := by decide +kernel
theorem dX5_change_25 : decode cX5_change 25 = .ok (.aload_n 0, 1) := by decide +kernel
theorem dX5_change_26 : decode cX5_change 26 = .ok (.getfield 24, 3) := by decide +kernel
theorem dX5_change_29 : decode cX5_change 29 = .ok (.getfield 57, 3) := by decide +kernel
theorem dX5_change_32 : decode cX5_change 32 = .ok (.iload_n 2, 1) := by decide +kernel
theorem dX5_change_33 : decode cX5_change 33 = .ok (.aaload, 1) := by decide +kernel
theorem dX5_change_34 : decode cX5_change 34 = .ok (.iload_n 1, 1) := by decide +kernel
theorem dX5_change_35 : decode cX5_change 35 = .ok (.iaload, 1) := by decide +kernel
theorem dX5_change_36 : decode cX5_change 36 = .ok (.istore 4, 2) := by decide +kernel
theorem dX5_change_38 : decode cX5_change 38 = .ok (.aload_n 0, 1) := by decide +kernel
theorem dX5_change_39 : decode cX5_change 39 = .ok (.getfield 24, 3) := by decide +kernel
theorem dX5_change_42 : decode cX5_change 42 = .ok (.getfield 57, 3) := by decide +kernel
theorem dX5_change_45 : decode cX5_change 45 = .ok (.iload_n 2, 1) := by decide +kernel
theorem dX5_change_46 : decode cX5_change 46 = .ok (.aaload, 1) := by decide +kernel
theorem dX5_change_47 : decode cX5_change 47 = .ok (.iload_n 1, 1) := by decide +kernel
theorem dX5_change_48 : decode cX5_change 48 = .ok (.iload_n 3, 1) := by decide +kernel
theorem dX5_change_49 : decode cX5_change 49 = .ok (.iastore, 1) := by decide +kernel
theorem dX5_change_50 : decode cX5_change 50 = .ok (.iload 4, 2) := by decide +kernel
theorem dX5_change_52 : decode cX5_change 52 = .ok (.ireturn, 1) := by decide +kernel
theorem dX5_drop_0 : decode cX5_drop 0 = .ok (.aload_n 0, 1) := by decide +kernel
theorem dX5_drop_1 : decode cX5_drop 1 = .ok (.getfield 24, 3) := by decide +kernel
theorem dX5_drop_4 : decode cX5_drop 4 = .ok (.getfield 53, 3) := by decide +kernel
theorem dX5_drop_7 : decode cX5_drop 7 = .ok (.ifCond .ne 9, 3) := by decide +kernel
theorem dX5_drop_10 : decode cX5_drop 10 = .ok (.aload_n 0, 1) := by decide +kernel
theorem dX5_drop_11 : decode cX5_drop 11 = .ok (.iconst 3, 1) := by decide +kernel
theorem dX5_drop_12 : decode cX5_drop 12 = .ok (.invokevirtual 49, 3) := by decide +kernel
theorem dX5_drop_15 : decode cX5_drop 15 = .ok (.ireturn, 1) := by decide +kernel
theorem dX5_drop_16 : decode cX5_drop 16 = .ok (.aload_n 0, 1) := by decide +kernel
theorem dX5_drop_17 : decode cX5_drop 17 = .ok (.getfield 24, 3) := by decide +kernel
theorem dX5_drop_20 : decode cX5_drop 20 = .ok (.invokevirtual 69, 3) := by decide +kernel
theorem dX5_drop_23 : decode cX5_drop 23 = .ok (.aload_n 0, 1) := by decide +kernel
theorem dX5_drop_24 : decode cX5_drop 24 = .ok (.getfield 24, 3) := by decide +kernel
theorem dX5_drop_27 : decode cX5_drop 27 = .ok (.getfield 53, 3) := by decide +kernel
theorem dX5_drop_30 : decode cX5_drop 30 = .ok (.ireturn, 1) := by decide +kernel
theorem dX5_as_0 : decode cX5_as 0 = .ok (.aload_n 0, 1) := by decide +kernel
theorem dX5_as_1 : decode cX5_as 1 = .ok (.getfield 24, 3) := by decide +kernel
theorem dX5_as_4 : decode cX5_as 4 = .ok (.iload_n 1, 1) := by decide +kernel
theorem dX5_as_5 : decode cX5_as 5 = .ok (.invokevirtual 61, 3) := by decide +kernel
theorem dX5_as_8 : decode cX5_as 8 = .ok (.ifCond .eq 11, 3) := by decide +kernel
theorem dX5_as_11 : decode cX5_as 11 = .ok (.iconst 0, 1) := by decide +kernel
theorem dX5_as_12 : decode cX5_as 12 = .ok (.iload_n 2, 1) := by decide +kernel
theorem dX5_as_13 : decode cX5_as 13 = .ok (.invokestatic 45, 3) := by decide +kernel
theorem dX5_as_16 : decode cX5_as 16 = .ok (.ifCond .ne 9, 3) := by decide +kernel
theorem dX5_as_19 : decode cX5_as 19 = .ok (.aload_n 0, 1) := by decide +kernel
theorem dX5_as_20 : decode cX5_as 20 = .ok (.iconst 0, 1) := by decide +kernel
theorem dX5_as_21 : decode cX5_as 21 = .ok (.invokevirtual 49, 3) := by decide +kernel
theorem dX5_as_24 : decode cX5_as 24 = .ok (.ireturn, 1) := by decide +kernel
theorem dX5_as_25 : decode cX5_as 25 = .ok (.aload_n 0, 1) := by decide +kernel
theorem dX5_as_26 : decode cX5_as 26 = .ok (.getfield 24, 3) := by decide +kernel
theorem dX5_as_29 : decode cX5_as 29 = .ok (.getfield 57, 3) := by decide +kernel
theorem dX5_as_32 : decode cX5_as 32 = .ok (.iconst 0, 1) := by decide +kernel
theorem dX5_as_33 : decode cX5_as 33 = .ok (.aaload, 1) := by decide +kernel
theorem dX5_as_34 : decode cX5_as 34 = .ok (.iload_n 1, 1) := by decide +kernel
theorem dX5_as_35 : decode cX5_as 35 = .ok (.iaload, 1) := by decide +kernel
theorem dX5_as_36 : decode cX5_as 36 = .ok (.iload_n 2, 1) := by decide +kernel
theorem dX5_as_37 : decode cX5_as 37 = .ok (.invokestatic 72, 3) := by decide +kernel
theorem dX5_as_40 : decode cX5_as 40 = .ok (.ifCond .ne 9, 3) := by decide +kernel
theorem dX5_as_43 : decode cX5_as 43 = .ok (.aload_n 0, 1) := by decide +kernel
theorem dX5_as_44 : decode cX5_as 44 = .ok (.iconst 2, 1) := by decide +kernel
theorem dX5_as_45 : decode cX5_as 45 = .ok (.invokevirtual 49, 3) := by decide +kernel
theorem dX5_as_48 : decode cX5_as 48 = .ok (.ireturn, 1) := by decide +kernel
theorem dX5_as_49 : decode cX5_as 49 = .ok (.aload_n 0, 1) := by decide +kernel
theorem dX5_as_50 : decode cX5_as 50 = .ok (.getfield 24, 3) := by decide +kernel
theorem dX5_as_53 : decode cX5_as 53 = .ok (.getfield 57, 3) := by decide +kernel
theorem dX5_as_56 : decode cX5_as 56 = .ok (.iconst 2, 1) := by decide +kernel
theorem dX5_as_57 : decode cX5_as 57 = .ok (.aaload, 1) := by decide +kernel
theorem dX5_as_58 : decode cX5_as 58 = .ok (.iload_n 1, 1) := by decide +kernel
theorem dX5_as_59 : decode cX5_as 59 = .ok (.iaload, 1) := by decide +kernel
theorem dX5_as_60 : decode cX5_as 60 = .ok (.ireturn, 1) := by decide +kernel
theorem dX5_enemy_0 : decode cX5_enemy 0 = .ok (.aload_n 0, 1) := by decide +kernel
theorem dX5_enemy_1 : decode cX5_enemy 1 = .ok (.getfield 24, 3) := by decide +kernel
theorem dX5_enemy_4 : decode cX5_enemy 4 = .ok (.iload_n 1, 1) := by decide +kernel
theorem dX5_enemy_5 : decode cX5_enemy 5 = .ok (.invokevirtual 61, 3) := by decide +kernel
theorem dX5_enemy_8 : decode cX5_enemy 8 = .ok (.ifCond .eq 19, 3) := by decide +kernel
theorem dX5_enemy_11 : decode cX5_enemy 11 = .ok (.aload_n 0, 1) := by decide +kernel
theorem dX5_enemy_12 : decode cX5_enemy 12 = .ok (.getfield 24, 3) := by decide +kernel
theorem dX5_enemy_15 : decode cX5_enemy 15 = .ok (.iload_n 2, 1) := by decide +kernel
theorem dX5_enemy_16 : decode cX5_enemy 16 = .ok (.invokevirtual 61, 3) := by decide +kernel
theorem dX5_enemy_19 : decode cX5_enemy 19 = .ok (.ifCond .eq 8, 3) := by decide +kernel
theorem dX5_enemy_22 : decode cX5_enemy 22 = .ok (.iload_n 1, 1) := by decide +kernel
theorem dX5_enemy_23 : decode cX5_enemy 23 = .ok (.iload_n 2, 1) := by decide +kernel
theorem dX5_enemy_24 : decode cX5_enemy 24 = .ok (.if_icmp .ne 9, 3) := by decide +kernel
theorem dX5_enemy_27 : decode cX5_enemy 27 = .ok (.aload_n 0, 1) := by decide +kernel
theorem dX5_enemy_28 : decode cX5_enemy 28 = .ok (.iconst 0, 1) := by decide +kernel
theorem dX5_enemy_29 : decode cX5_enemy 29 = .ok (.invokevirtual 49, 3) := by decide +kernel
theorem dX5_enemy_32 : decode cX5_enemy 32 = .ok (.ireturn, 1) := by decide +kernel
theorem dX5_enemy_33 : decode cX5_enemy 33 = .ok (.aload_n 0, 1) := by decide +kernel
theorem dX5_enemy_34 : decode cX5_enemy 34 = .ok (.getfield 24, 3) := by decide +kernel
theorem dX5_enemy_37 : decode cX5_enemy 37 = .ok (.getfield 57, 3) := by decide +kernel
theorem dX5_enemy_40 : decode cX5_enemy 40 = .ok (.bipush 7, 2) := by decide +kernel
theorem dX5_enemy_42 : decode cX5_enemy 42 = .ok (.aaload, 1) := by decide +kernel
theorem dX5_enemy_43 : decode cX5_enemy 43 = .ok (.astore 4, 2) := by decide +kernel
theorem dX5_enemy_45 : decode cX5_enemy 45 = .ok (.aload 4, 2) := by decide +kernel
theorem dX5_enemy_47 : decode cX5_enemy 47 = .ok (.iload_n 1, 1) := by decide +kernel
theorem dX5_enemy_48 : decode cX5_enemy 48 = .ok (.iaload, 1) := by decide +kernel
theorem dX5_enemy_49 : decode cX5_enemy 49 = .ok (.iload_n 2, 1) := by decide +kernel
theorem dX5_enemy_50 : decode cX5_enemy 50 = .ok (.ishr, 1) := by decide +kernel
theorem dX5_enemy_51 : decode cX5_enemy 51 = .ok (.iconst 1, 1) := by decide +kernel
theorem dX5_enemy_52 : decode cX5_enemy 52 = .ok (.iand, 1) := by decide +kernel
theorem dX5_enemy_53 : decode cX5_enemy 53 = .ok (.istore 5, 2) := by decide +kernel
theorem dX5_enemy_55 : decode cX5_enemy 55 = .ok (.iload_n 3, 1) := by decide +kernel
theorem dX5_enemy_56 : decode cX5_enemy 56 = .ok (.ifCond .eq 26, 3) := by decide +kernel
theorem dX5_enemy_59 : decode cX5_enemy 59 = .ok (.aload 4, 2) := by decide +kernel
theorem dX5_enemy_61 : decode cX5_enemy 61 = .ok (.iload_n 1, 1) := by decide +kernel
theorem dX5_enemy_62 : decode cX5_enemy 62 = .ok (.dup2, 1) := by decide +kernel
theorem dX5_enemy_63 : decode cX5_enemy 63 = .ok (.iaload, 1) := by decide +kernel
theorem dX5_enemy_64 : decode cX5_enemy 64 = .ok (.iconst 1, 1) := by decide +kernel
theorem dX5_enemy_65 : decode cX5_enemy 65 = .ok (.iload_n 2, 1) := by decide +kernel
theorem dX5_enemy_66 : decode cX5_enemy 66 = .ok (.ishl, 1) := by decide +kernel
theorem dX5_enemy_67 : decode cX5_enemy 67 = .ok (.ior, 1) := by decide +kernel
theorem dX5_enemy_68 : decode cX5_enemy 68 = .ok (.iastore, 1) := by decide +kernel
theorem dX5_enemy_69 : decode cX5_enemy 69 = .ok (.aload 4, 2) := by decide +kernel
theorem dX5_enemy_71 : decode cX5_enemy 71 = .ok (.iload_n 2, 1) := by decide +kernel
theorem dX5_enemy_72 : decode cX5_enemy 72 = .ok (.dup2, 1) := by decide +kernel
theorem dX5_enemy_73 : decode cX5_enemy 73 = .ok (.iaload, 1) := by decide +kernel
theorem dX5_enemy_74 : decode cX5_enemy 74 = .ok (.iconst 1, 1) := by decide +kernel
theorem dX5_enemy_75 : decode cX5_enemy 75 = .ok (.iload_n 1, 1) := by decide +kernel
theorem dX5_enemy_76 : decode cX5_enemy 76 = .ok (.ishl, 1) := by decide +kernel
theorem dX5_enemy_77 : decode cX5_enemy 77 = .ok (.ior, 1) := by decide +kernel
theorem dX5_enemy_78 : decode cX5_enemy 78 = .ok (.iastore, 1) := by decide +kernel
theorem dX5_enemy_79 : decode cX5_enemy 79 = .ok (.goto 27, 3) := by decide +kernel
theorem dX5_enemy_82 : decode cX5_enemy 82 = .ok (.aload 4, 2) := by decide +kernel
theorem dX5_enemy_84 : decode cX5_enemy 84 = .ok (.iload_n 1, 1) := by decide +kernel
theorem dX5_enemy_85 : decode cX5_enemy 85 = .ok (.dup2, 1) := by decide +kernel
theorem dX5_enemy_86 : decode cX5_enemy 86 = .ok (.iaload, 1) := by decide +kernel
theorem dX5_enemy_87 : decode cX5_enemy 87 = .ok (.iconst 1, 1) := by decide +kernel
theorem dX5_enemy_88 : decode cX5_enemy 88 = .ok (.iload_n 2, 1) := by decide +kernel
theorem dX5_enemy_89 : decode cX5_enemy 89 = .ok (.ishl, 1) := by decide +kernel
theorem dX5_enemy_90 : decode cX5_enemy 90 = .ok (.iconst (-1), 1) := by decide +kernel
theorem dX5_enemy_91 : decode cX5_enemy 91 = .ok (.ixor, 1) := by decide +kernel
theorem dX5_enemy_92 : decode cX5_enemy 92 = .ok (.iand, 1) := by decide +kernel
theorem dX5_enemy_93 : decode cX5_enemy 93 = .ok (.iastore, 1) := by decide +kernel
theorem dX5_enemy_94 : decode cX5_enemy 94 = .ok (.aload 4, 2) := by decide +kernel
theorem dX5_enemy_96 : decode cX5_enemy 96 = .ok (.iload_n 2, 1) := by decide +kernel
theorem dX5_enemy_97 : decode cX5_enemy 97 = .ok (.dup2, 1) := by decide +kernel
theorem dX5_enemy_98 : decode cX5_enemy 98 = .ok (.iaload, 1) := by decide +kernel
theorem dX5_enemy_99 : decode cX5_enemy 99 = .ok (.iconst 1, 1) := by decide +kernel
theorem dX5_enemy_100 : decode cX5_enemy 100 = .ok (.iload_n 1, 1) := by decide +kernel
theorem dX5_enemy_101 : decode cX5_enemy 101 = .ok (.ishl, 1) := by decide +kernel
theorem dX5_enemy_102 : decode cX5_enemy 102 = .ok (.iconst (-1), 1) := by decide +kernel
theorem dX5_enemy_103 : decode cX5_enemy 103 = .ok (.ixor, 1) := by decide +kernel
theorem dX5_enemy_104 : decode cX5_enemy 104 = .ok (.iand, 1) := by decide +kernel
theorem dX5_enemy_105 : decode cX5_enemy 105 = .ok (.iastore, 1) := by decide +kernel
theorem dX5_enemy_106 : decode cX5_enemy 106 = .ok (.iload 5, 2) := by decide +kernel
theorem dX5_enemy_108 : decode cX5_enemy 108 = .ok (.ireturn, 1) := by decide +kernel
theorem dX5_slope_0 : decode cX5_slope 0 = .ok (.aload_n 0, 1) := by decide +kernel
theorem dX5_slope_1 : decode cX5_slope 1 = .ok (.getfield 24, 3) := by decide +kernel
theorem dX5_slope_4 : decode cX5_slope 4 = .ok (.iload_n 1, 1) := by decide +kernel
theorem dX5_slope_5 : decode cX5_slope 5 = .ok (.invokevirtual 61, 3) := by decide +kernel
theorem dX5_slope_8 : decode cX5_slope 8 = .ok (.ifCond .ne 9, 3) := by decide +kernel
theorem dX5_slope_11 : decode cX5_slope 11 = .ok (.aload_n 0, 1) := by decide +kernel
theorem dX5_slope_12 : decode cX5_slope 12 = .ok (.iconst 0, 1) := by decide +kernel
theorem dX5_slope_13 : decode cX5_slope 13 = .ok (.invokevirtual 49, 3) := by decide +kernel
theorem dX5_slope_16 : decode cX5_slope 16 = .ok (.ireturn, 1) := by decide +kernel
theorem dX5_slope_17 : decode cX5_slope 17 = .ok (.aload_n 0, 1) := by decide +kernel
theorem dX5_slope_18 : decode cX5_slope 18 = .ok (.getfield 24, 3) := by decide +kernel
theorem dX5_slope_21 : decode cX5_slope 21 = .ok (.iload_n 1, 1) := by decide +kernel
theorem dX5_slope_22 : decode cX5_slope 22 = .ok (.invokevirtual 75, 3) := by decide +kernel
theorem dX5_slope_25 : decode cX5_slope 25 = .ok (.invokestatic 79, 3) := by decide +kernel
theorem dX5_slope_28 : decode cX5_slope 28 = .ok (.ireturn, 1) := by decide +kernel
theorem dX5_tells_0 : decode cX5_tells 0 = .ok (.aload_n 0, 1) := by decide +kernel
theorem dX5_tells_1 : decode cX5_tells 1 = .ok (.getfield 24, 3) := by decide +kernel
theorem dX5_tells_4 : decode cX5_tells 4 = .ok (.iload_n 1, 1) := by decide +kernel
theorem dX5_tells_5 : decode cX5_tells 5 = .ok (.invokevirtual 61, 3) := by decide +kernel
theorem dX5_tells_8 : decode cX5_tells 8 = .ok (.ifCond .eq 10, 3) := by decide +kernel
theorem dX5_tells_11 : decode cX5_tells 11 = .ok (.iload_n 2, 1) := by decide +kernel
theorem dX5_tells_12 : decode cX5_tells 12 = .ok (.invokestatic 85, 3) := by decide +kernel
theorem dX5_tells_15 : decode cX5_tells 15 = .ok (.ifCond .ne 9, 3) := by decide +kernel
theorem dX5_tells_18 : decode cX5_tells 18 = .ok (.aload_n 0, 1) := by decide +kernel
theorem dX5_tells_19 : decode cX5_tells 19 = .ok (.iconst 0, 1) := by decide +kernel
theorem dX5_tells_20 : decode cX5_tells 20 = .ok (.invokevirtual 88, 3) := by decide +kernel
theorem dX5_tells_23 : decode cX5_tells 23 = .ok (.lreturn, 1) := by decide +kernel
theorem dX5_tells_24 : decode cX5_tells 24 = .ok (.aload_n 0, 1) := by decide +kernel
theorem dX5_tells_25 : decode cX5_tells 25 = .ok (.getfield 24, 3) := by decide +kernel
theorem dX5_tells_28 : decode cX5_tells 28 = .ok (.iload_n 1, 1) := by decide +kernel
theorem dX5_tells_29 : decode cX5_tells 29 = .ok (.iload_n 2, 1) := by decide +kernel
theorem dX5_tells_30 : decode cX5_tells 30 = .ok (.invokevirtual 92, 3) := by decide +kernel
theorem dX5_tells_33 : decode cX5_tells 33 = .ok (.invokestatic 96, 3) := by decide +kernel
theorem dX5_tells_36 : decode cX5_tells 36 = .ok (.lreturn, 1) := by decide +kernel
theorem dX5_chance_0 : decode cX5_chance 0 = .ok (.aload_n 0, 1) := by decide +kernel
theorem dX5_chance_1 : decode cX5_chance 1 = .ok (.getfield 24, 3) := by decide +kernel
theorem dX5_chance_4 : decode cX5_chance 4 = .ok (.iload_n 1, 1) := by decide +kernel
theorem dX5_chance_5 : decode cX5_chance 5 = .ok (.invokevirtual 61, 3) := by decide +kernel
theorem dX5_chance_8 : decode cX5_chance 8 = .ok (.ifCond .eq 10, 3) := by decide +kernel
theorem dX5_chance_11 : decode cX5_chance 11 = .ok (.iload_n 2, 1) := by decide +kernel
theorem dX5_chance_12 : decode cX5_chance 12 = .ok (.invokestatic 85, 3) := by decide +kernel
theorem dX5_chance_15 : decode cX5_chance 15 = .ok (.ifCond .ne 9, 3) := by decide +kernel
theorem dX5_chance_18 : decode cX5_chance 18 = .ok (.aload_n 0, 1) := by decide +kernel
theorem dX5_chance_19 : decode cX5_chance 19 = .ok (.iconst 0, 1) := by decide +kernel
theorem dX5_chance_20 : decode cX5_chance 20 = .ok (.invokevirtual 88, 3) := by decide +kernel
theorem dX5_chance_23 : decode cX5_chance 23 = .ok (.lreturn, 1) := by decide +kernel
theorem dX5_chance_24 : decode cX5_chance 24 = .ok (.aload_n 0, 1) := by decide +kernel
theorem dX5_chance_25 : decode cX5_chance 25 = .ok (.getfield 24, 3) := by decide +kernel
theorem dX5_chance_28 : decode cX5_chance 28 = .ok (.iload_n 1, 1) := by decide +kernel
theorem dX5_chance_29 : decode cX5_chance 29 = .ok (.iload_n 2, 1) := by decide +kernel
theorem dX5_chance_30 : decode cX5_chance 30 = .ok (.invokevirtual 100, 3) := by decide +kernel
theorem dX5_chance_33 : decode cX5_chance 33 = .ok (.invokestatic 96, 3) := by decide +kernel
theorem dX5_chance_36 : decode cX5_chance 36 = .ok (.lreturn, 1) := by decide +kernel
theorem dX5_aim_0 : decode cX5_aim 0 = .ok (.iload_n 1, 1) := by decide +kernel
theorem dX5_aim_1 : decode cX5_aim 1 = .ok (.iconst 0, 1) := by decide +kernel
theorem dX5_aim_2 : decode cX5_aim 2 = .ok (.iconst 3, 1) := by decide +kernel
theorem dX5_aim_3 : decode cX5_aim 3 = .ok (.invokestatic 65, 3) := by decide +kernel
theorem dX5_aim_6 : decode cX5_aim 6 = .ok (.ifCond .eq 20, 3) := by decide +kernel
theorem dX5_aim_9 : decode cX5_aim 9 = .ok (.iload_n 2, 1) := by decide +kernel
theorem dX5_aim_10 : decode cX5_aim 10 = .ok (.invokestatic 85, 3) := by decide +kernel
theorem dX5_aim_13 : decode cX5_aim 13 = .ok (.ifCond .eq 13, 3) := by decide +kernel
theorem dX5_aim_16 : decode cX5_aim 16 = .ok (.iload_n 3, 1) := by decide +kernel
theorem dX5_aim_17 : decode cX5_aim 17 = .ok (.iconst 0, 1) := by decide +kernel
theorem dX5_aim_18 : decode cX5_aim 18 = .ok (.bipush 9, 2) := by decide +kernel
theorem dX5_aim_20 : decode cX5_aim 20 = .ok (.invokestatic 65, 3) := by decide +kernel
theorem dX5_aim_23 : decode cX5_aim 23 = .ok (.ifCond .ne 9, 3) := by decide +kernel
theorem dX5_aim_26 : decode cX5_aim 26 = .ok (.aload_n 0, 1) := by decide +kernel
theorem dX5_aim_27 : decode cX5_aim 27 = .ok (.iconst 0, 1) := by decide +kernel
theorem dX5_aim_28 : decode cX5_aim 28 = .ok (.invokevirtual 49, 3) := by decide +kernel
theorem dX5_aim_31 : decode cX5_aim 31 = .ok (.ireturn, 1) := by decide +kernel
theorem dX5_aim_32 : decode cX5_aim 32 = .ok (.aload_n 0, 1) := by decide +kernel
theorem dX5_aim_33 : decode cX5_aim 33 = .ok (.getfield 24, 3) := by decide +kernel
theorem dX5_aim_36 : decode cX5_aim 36 = .ok (.getfield 103, 3) := by decide +kernel
theorem dX5_aim_39 : decode cX5_aim 39 = .ok (.iload_n 1, 1) := by decide +kernel
theorem dX5_aim_40 : decode cX5_aim 40 = .ok (.iaload, 1) := by decide +kernel
theorem dX5_aim_41 : decode cX5_aim 41 = .ok (.istore 4, 2) := by decide +kernel
theorem dX5_aim_43 : decode cX5_aim 43 = .ok (.aload_n 0, 1) := by decide +kernel
theorem dX5_aim_44 : decode cX5_aim 44 = .ok (.getfield 24, 3) := by decide +kernel
theorem dX5_aim_47 : decode cX5_aim 47 = .ok (.getfield 106, 3) := by decide +kernel
theorem dX5_aim_50 : decode cX5_aim 50 = .ok (.iload_n 1, 1) := by decide +kernel
theorem dX5_aim_51 : decode cX5_aim 51 = .ok (.iload_n 2, 1) := by decide +kernel
theorem dX5_aim_52 : decode cX5_aim 52 = .ok (.iastore, 1) := by decide +kernel
theorem dX5_aim_53 : decode cX5_aim 53 = .ok (.aload_n 0, 1) := by decide +kernel
theorem dX5_aim_54 : decode cX5_aim 54 = .ok (.getfield 24, 3) := by decide +kernel
theorem dX5_aim_57 : decode cX5_aim 57 = .ok (.getfield 103, 3) := by decide +kernel
theorem dX5_aim_60 : decode cX5_aim 60 = .ok (.iload_n 1, 1) := by decide +kernel
theorem dX5_aim_61 : decode cX5_aim 61 = .ok (.iload_n 3, 1) := by decide +kernel
theorem dX5_aim_62 : decode cX5_aim 62 = .ok (.iastore, 1) := by decide +kernel
theorem dX5_aim_63 : decode cX5_aim 63 = .ok (.iload 4, 2) := by decide +kernel
theorem dX5_aim_65 : decode cX5_aim 65 = .ok (.ireturn, 1) := by decide +kernel
theorem dX5_value_0 : decode cX5_value 0 = .ok (.aload_n 0, 1) := by decide +kernel
theorem dX5_value_1 : decode cX5_value 1 = .ok (.getfield 24, 3) := by decide +kernel
theorem dX5_value_4 : decode cX5_value 4 = .ok (.iload_n 1, 1) := by decide +kernel
theorem dX5_value_5 : decode cX5_value 5 = .ok (.invokevirtual 109, 3) := by decide +kernel
theorem dX5_value_8 : decode cX5_value 8 = .ok (.ifCond .ne 9, 3) := by decide +kernel
theorem dX5_value_11 : decode cX5_value 11 = .ok (.aload_n 0, 1) := by decide +kernel
theorem dX5_value_12 : decode cX5_value 12 = .ok (.iconst 0, 1) := by decide +kernel
theorem dX5_value_13 : decode cX5_value 13 = .ok (.invokevirtual 88, 3) := by decide +kernel
theorem dX5_value_16 : decode cX5_value 16 = .ok (.lreturn, 1) := by decide +kernel
theorem dX5_value_17 : decode cX5_value 17 = .ok (.aload_n 0, 1) := by decide +kernel
theorem dX5_value_18 : decode cX5_value 18 = .ok (.getfield 16, 3) := by decide +kernel
theorem dX5_value_21 : decode cX5_value 21 = .ok (.invokevirtual 112, 3) := by decide +kernel
theorem dX5_value_24 : decode cX5_value 24 = .ok (.aload_n 0, 1) := by decide +kernel
theorem dX5_value_25 : decode cX5_value 25 = .ok (.getfield 16, 3) := by decide +kernel
theorem dX5_value_28 : decode cX5_value 28 = .ok (.iload_n 1, 1) := by decide +kernel
theorem dX5_value_29 : decode cX5_value 29 = .ok (.invokevirtual 115, 3) := by decide +kernel
theorem dX5_value_32 : decode cX5_value 32 = .ok (.invokestatic 96, 3) := by decide +kernel
theorem dX5_value_35 : decode cX5_value 35 = .ok (.lreturn, 1) := by decide +kernel
theorem dX5_worth_0 : decode cX5_worth 0 = .ok (.aload_n 0, 1) := by decide +kernel
theorem dX5_worth_1 : decode cX5_worth 1 = .ok (.getfield 24, 3) := by decide +kernel
theorem dX5_worth_4 : decode cX5_worth 4 = .ok (.iload_n 1, 1) := by decide +kernel
theorem dX5_worth_5 : decode cX5_worth 5 = .ok (.invokevirtual 109, 3) := by decide +kernel
theorem dX5_worth_8 : decode cX5_worth 8 = .ok (.ifCond .ne 9, 3) := by decide +kernel
theorem dX5_worth_11 : decode cX5_worth 11 = .ok (.aload_n 0, 1) := by decide +kernel
theorem dX5_worth_12 : decode cX5_worth 12 = .ok (.iconst 0, 1) := by decide +kernel
theorem dX5_worth_13 : decode cX5_worth 13 = .ok (.invokevirtual 49, 3) := by decide +kernel
theorem dX5_worth_16 : decode cX5_worth 16 = .ok (.ireturn, 1) := by decide +kernel
theorem dX5_worth_17 : decode cX5_worth 17 = .ok (.aload_n 0, 1) := by decide +kernel
theorem dX5_worth_18 : decode cX5_worth 18 = .ok (.getfield 16, 3) := by decide +kernel
theorem dX5_worth_21 : decode cX5_worth 21 = .ok (.invokevirtual 112, 3) := by decide +kernel
theorem dX5_worth_24 : decode cX5_worth 24 = .ok (.aload_n 0, 1) := by decide +kernel
theorem dX5_worth_25 : decode cX5_worth 25 = .ok (.getfield 16, 3) := by decide +kernel
theorem dX5_worth_28 : decode cX5_worth 28 = .ok (.iload_n 1, 1) := by decide +kernel
theorem dX5_worth_29 : decode cX5_worth 29 = .ok (.invokevirtual 115, 3) := by decide +kernel
theorem dX5_worth_32 : decode cX5_worth 32 = .ok (.ldc2_w 119, 3) := by decide +kernel
theorem dX5_worth_35 : decode cX5_worth 35 = .ok (.dmul, 1) := by decide +kernel
theorem dX5_worth_36 : decode cX5_worth 36 = .ok (.d2i, 1) := by decide +kernel
theorem dX5_worth_37 : decode cX5_worth 37 = .ok (.ireturn, 1) := by decide +kernel
theorem dX5_peak_0 : decode cX5_peak 0 = .ok (.aload_n 0, 1) := by decide +kernel
theorem dX5_peak_1 : decode cX5_peak 1 = .ok (.getfield 24, 3) := by decide +kernel
theorem dX5_peak_4 : decode cX5_peak 4 = .ok (.iload_n 1, 1) := by decide +kernel
theorem dX5_peak_5 : decode cX5_peak 5 = .ok (.invokevirtual 109, 3) := by decide +kernel
theorem dX5_peak_8 : decode cX5_peak 8 = .ok (.ifCond .eq 22, 3) := by decide +kernel
theorem dX5_peak_11 : decode cX5_peak 11 = .ok (.iload_n 2, 1) := by decide +kernel
theorem dX5_peak_12 : decode cX5_peak 12 = .ok (.invokestatic 85, 3) := by decide +kernel
theorem dX5_peak_15 : decode cX5_peak 15 = .ok (.ifCond .eq 15, 3) := by decide +kernel
theorem dX5_peak_18 : decode cX5_peak 18 = .ok (.iload_n 3, 1) := by decide +kernel
theorem dX5_peak_19 : decode cX5_peak 19 = .ok (.invokestatic 85, 3) := by decide +kernel
theorem dX5_peak_22 : decode cX5_peak 22 = .ok (.ifCond .eq 8, 3) := by decide +kernel
theorem dX5_peak_25 : decode cX5_peak 25 = .ok (.iload_n 2, 1) := by decide +kernel
theorem dX5_peak_26 : decode cX5_peak 26 = .ok (.iload_n 3, 1) := by decide +kernel
theorem dX5_peak_27 : decode cX5_peak 27 = .ok (.if_icmp .le 9, 3) := by decide +kernel
theorem dX5_peak_30 : decode cX5_peak 30 = .ok (.aload_n 0, 1) := by decide +kernel
theorem dX5_peak_31 : decode cX5_peak 31 = .ok (.iconst 0, 1) := by decide +kernel
theorem dX5_peak_32 : decode cX5_peak 32 = .ok (.invokevirtual 49, 3) := by decide +kernel
theorem dX5_peak_35 : decode cX5_peak 35 = .ok (.ireturn, 1) := by decide +kernel
theorem dX5_peak_36 : decode cX5_peak 36 = .ok (.iload_n 2, 1) := by decide +kernel
theorem dX5_peak_37 : decode cX5_peak 37 = .ok (.istore 4, 2) := by decide +kernel
theorem dX5_peak_39 : decode cX5_peak 39 = .ok (.aload_n 0, 1) := by decide +kernel
theorem dX5_peak_40 : decode cX5_peak 40 = .ok (.getfield 24, 3) := by decide +kernel
theorem dX5_peak_43 : decode cX5_peak 43 = .ok (.iload_n 1, 1) := by decide +kernel
theorem dX5_peak_44 : decode cX5_peak 44 = .ok (.iload_n 2, 1) := by decide +kernel
theorem dX5_peak_45 : decode cX5_peak 45 = .ok (.invokevirtual 121, 3) := by decide +kernel
theorem dX5_peak_48 : decode cX5_peak 48 = .ok (.dstore 5, 2) := by decide +kernel
theorem dX5_peak_50 : decode cX5_peak 50 = .ok (.iload_n 2, 1) := by decide +kernel
theorem dX5_peak_51 : decode cX5_peak 51 = .ok (.iconst 1, 1) := by decide +kernel
theorem dX5_peak_52 : decode cX5_peak 52 = .ok (.iadd, 1) := by decide +kernel
theorem dX5_peak_53 : decode cX5_peak 53 = .ok (.istore 7, 2) := by decide +kernel
theorem dX5_peak_55 : decode cX5_peak 55 = .ok (.iload 7, 2) := by decide +kernel
theorem dX5_peak_57 : decode cX5_peak 57 = .ok (.iload_n 3, 1) := by decide +kernel
theorem dX5_peak_58 : decode cX5_peak 58 = .ok (.if_icmp .gt 37, 3) := by decide +kernel
theorem dX5_peak_61 : decode cX5_peak 61 = .ok (.aload_n 0, 1) := by decide +kernel
theorem dX5_peak_62 : decode cX5_peak 62 = .ok (.getfield 24, 3) := by decide +kernel
theorem dX5_peak_65 : decode cX5_peak 65 = .ok (.iload_n 1, 1) := by decide +kernel
theorem dX5_peak_66 : decode cX5_peak 66 = .ok (.iload 7, 2) := by decide +kernel
theorem dX5_peak_68 : decode cX5_peak 68 = .ok (.invokevirtual 121, 3) := by decide +kernel
theorem dX5_peak_71 : decode cX5_peak 71 = .ok (.dstore 8, 2) := by decide +kernel
theorem dX5_peak_73 : decode cX5_peak 73 = .ok (.dload 8, 2) := by decide +kernel
theorem dX5_peak_75 : decode cX5_peak 75 = .ok (.dload 5, 2) := by decide +kernel
theorem dX5_peak_77 : decode cX5_peak 77 = .ok (.dcmp .l, 1) := by decide +kernel
theorem dX5_peak_78 : decode cX5_peak 78 = .ok (.ifCond .le 11, 3) := by decide +kernel
theorem dX5_peak_81 : decode cX5_peak 81 = .ok (.dload 8, 2) := by decide +kernel
theorem dX5_peak_83 : decode cX5_peak 83 = .ok (.dstore 5, 2) := by decide +kernel
theorem dX5_peak_85 : decode cX5_peak 85 = .ok (.iload 7, 2) := by decide +kernel
theorem dX5_peak_87 : decode cX5_peak 87 = .ok (.istore 4, 2) := by decide +kernel
theorem dX5_peak_89 : decode cX5_peak 89 = .ok (.iinc 7 1, 3) := by decide +kernel
theorem dX5_peak_92 : decode cX5_peak 92 = .ok (.goto (-37), 3) := by decide +kernel
theorem dX5_peak_95 : decode cX5_peak 95 = .ok (.iload 4, 2) := by decide +kernel
theorem dX5_peak_97 : decode cX5_peak 97 = .ok (.ireturn, 1) := by decide +kernel
theorem dX5_topic_0 : decode cX5_topic 0 = .ok (.iload_n 1, 1) := by decide +kernel
theorem dX5_topic_1 : decode cX5_topic 1 = .ok (.iconst 0, 1) := by decide +kernel
theorem dX5_topic_2 : decode cX5_topic 2 = .ok (.iconst 3, 1) := by decide +kernel
theorem dX5_topic_3 : decode cX5_topic 3 = .ok (.invokestatic 65, 3) := by decide +kernel
theorem dX5_topic_6 : decode cX5_topic 6 = .ok (.ifCond .eq 28, 3) := by decide +kernel
theorem dX5_topic_9 : decode cX5_topic 9 = .ok (.iload_n 2, 1) := by decide +kernel
theorem dX5_topic_10 : decode cX5_topic 10 = .ok (.iconst 0, 1) := by decide +kernel
theorem dX5_topic_11 : decode cX5_topic 11 = .ok (.bipush 6, 2) := by decide +kernel
theorem dX5_topic_13 : decode cX5_topic 13 = .ok (.invokestatic 65, 3) := by decide +kernel
theorem dX5_topic_16 : decode cX5_topic 16 = .ok (.ifCond .eq 18, 3) := by decide +kernel
theorem dX5_topic_19 : decode cX5_topic 19 = .ok (.iload_n 3, 1) := by decide +kernel
theorem dX5_topic_20 : decode cX5_topic 20 = .ok (.iconst 0, 1) := by decide +kernel
theorem dX5_topic_21 : decode cX5_topic 21 = .ok (.bipush 6, 2) := by decide +kernel
theorem dX5_topic_23 : decode cX5_topic 23 = .ok (.invokestatic 65, 3) := by decide +kernel
theorem dX5_topic_26 : decode cX5_topic 26 = .ok (.ifCond .eq 8, 3) := by decide +kernel
theorem dX5_topic_29 : decode cX5_topic 29 = .ok (.iload_n 2, 1) := by decide +kernel
theorem dX5_topic_30 : decode cX5_topic 30 = .ok (.iload_n 3, 1) := by decide +kernel
theorem dX5_topic_31 : decode cX5_topic 31 = .ok (.if_icmp .le 9, 3) := by decide +kernel
theorem dX5_topic_34 : decode cX5_topic 34 = .ok (.aload_n 0, 1) := by decide +kernel
theorem dX5_topic_35 : decode cX5_topic 35 = .ok (.iconst 0, 1) := by decide +kernel
theorem dX5_topic_36 : decode cX5_topic 36 = .ok (.invokevirtual 49, 3) := by decide +kernel
theorem dX5_topic_39 : decode cX5_topic 39 = .ok (.ireturn, 1) := by decide +kernel
theorem dX5_topic_40 : decode cX5_topic 40 = .ok (.aload_n 0, 1) := by decide +kernel
theorem dX5_topic_41 : decode cX5_topic 41 = .ok (.getfield 24, 3) := by decide +kernel
theorem dX5_topic_44 : decode cX5_topic 44 = .ok (.iload_n 1, 1) := by decide +kernel
theorem dX5_topic_45 : decode cX5_topic 45 = .ok (.invokevirtual 124, 3) := by decide +kernel
theorem dX5_topic_48 : decode cX5_topic 48 = .ok (.istore 4, 2) := by decide +kernel
theorem dX5_topic_50 : decode cX5_topic 50 = .ok (.aload_n 0, 1) := by decide +kernel
theorem dX5_topic_51 : decode cX5_topic 51 = .ok (.getfield 24, 3) := by decide +kernel
theorem dX5_topic_54 : decode cX5_topic 54 = .ok (.getfield 127, 3) := by decide +kernel
theorem dX5_topic_57 : decode cX5_topic 57 = .ok (.iload_n 1, 1) := by decide +kernel
theorem dX5_topic_58 : decode cX5_topic 58 = .ok (.iload_n 2, 1) := by decide +kernel
theorem dX5_topic_59 : decode cX5_topic 59 = .ok (.iastore, 1) := by decide +kernel
theorem dX5_topic_60 : decode cX5_topic 60 = .ok (.aload_n 0, 1) := by decide +kernel
theorem dX5_topic_61 : decode cX5_topic 61 = .ok (.getfield 24, 3) := by decide +kernel
theorem dX5_topic_64 : decode cX5_topic 64 = .ok (.getfield 130, 3) := by decide +kernel
theorem dX5_topic_67 : decode cX5_topic 67 = .ok (.iload_n 1, 1) := by decide +kernel
theorem dX5_topic_68 : decode cX5_topic 68 = .ok (.iload_n 3, 1) := by decide +kernel
theorem dX5_topic_69 : decode cX5_topic 69 = .ok (.iastore, 1) := by decide +kernel
theorem dX5_topic_70 : decode cX5_topic 70 = .ok (.iload 4, 2) := by decide +kernel
theorem dX5_topic_72 : decode cX5_topic 72 = .ok (.ireturn, 1) := by decide +kernel
theorem dX5_rule_0 : decode cX5_rule 0 = .ok (.iload_n 1, 1) := by decide +kernel
theorem dX5_rule_1 : decode cX5_rule 1 = .ok (.iconst 0, 1) := by decide +kernel
theorem dX5_rule_2 : decode cX5_rule 2 = .ok (.iconst 2, 1) := by decide +kernel
theorem dX5_rule_3 : decode cX5_rule 3 = .ok (.invokestatic 65, 3) := by decide +kernel
theorem dX5_rule_6 : decode cX5_rule 6 = .ok (.ifCond .eq 20, 3) := by decide +kernel
theorem dX5_rule_9 : decode cX5_rule 9 = .ok (.iload_n 2, 1) := by decide +kernel
theorem dX5_rule_10 : decode cX5_rule 10 = .ok (.getstatic 133, 3) := by decide +kernel
theorem dX5_rule_13 : decode cX5_rule 13 = .ok (.iload_n 1, 1) := by decide +kernel
theorem dX5_rule_14 : decode cX5_rule 14 = .ok (.iaload, 1) := by decide +kernel
theorem dX5_rule_15 : decode cX5_rule 15 = .ok (.getstatic 136, 3) := by decide +kernel
theorem dX5_rule_18 : decode cX5_rule 18 = .ok (.iload_n 1, 1) := by decide +kernel
theorem dX5_rule_19 : decode cX5_rule 19 = .ok (.iaload, 1) := by decide +kernel
theorem dX5_rule_20 : decode cX5_rule 20 = .ok (.invokestatic 65, 3) := by decide +kernel
theorem dX5_rule_23 : decode cX5_rule 23 = .ok (.ifCond .ne 9, 3) := by decide +kernel
theorem dX5_rule_26 : decode cX5_rule 26 = .ok (.aload_n 0, 1) := by decide +kernel
theorem dX5_rule_27 : decode cX5_rule 27 = .ok (.iconst 0, 1) := by decide +kernel
theorem dX5_rule_28 : decode cX5_rule 28 = .ok (.invokevirtual 49, 3) := by decide +kernel
theorem dX5_rule_31 : decode cX5_rule 31 = .ok (.ireturn, 1) := by decide +kernel
theorem dX5_rule_32 : decode cX5_rule 32 = .ok (.aload_n 0, 1) := by decide +kernel
theorem dX5_rule_33 : decode cX5_rule 33 = .ok (.getfield 24, 3) := by decide +kernel
theorem dX5_rule_36 : decode cX5_rule 36 = .ok (.getfield 139, 3) := by decide +kernel
theorem dX5_rule_39 : decode cX5_rule 39 = .ok (.iload_n 1, 1) := by decide +kernel
theorem dX5_rule_40 : decode cX5_rule 40 = .ok (.iaload, 1) := by decide +kernel
theorem dX5_rule_41 : decode cX5_rule 41 = .ok (.istore_n 3, 1) := by decide +kernel
theorem dX5_rule_42 : decode cX5_rule 42 = .ok (.aload_n 0, 1) := by decide +kernel
theorem dX5_rule_43 : decode cX5_rule 43 = .ok (.getfield 24, 3) := by decide +kernel
theorem dX5_rule_46 : decode cX5_rule 46 = .ok (.getfield 139, 3) := by decide +kernel
theorem dX5_rule_49 : decode cX5_rule 49 = .ok (.iload_n 1, 1) := by decide +kernel
theorem dX5_rule_50 : decode cX5_rule 50 = .ok (.iload_n 2, 1) := by decide +kernel
theorem dX5_rule_51 : decode cX5_rule 51 = .ok (.iastore, 1) := by decide +kernel
theorem dX5_rule_52 : decode cX5_rule 52 = .ok (.iload_n 3, 1) := by decide +kernel
theorem dX5_rule_53 : decode cX5_rule 53 = .ok (.ireturn, 1) := by decide +kernel
theorem dX5_told_0 : decode cX5_told 0 = .ok (.iload_n 1, 1) := by decide +kernel
theorem dX5_told_1 : decode cX5_told 1 = .ok (.iconst 0, 1) := by decide +kernel
theorem dX5_told_2 : decode cX5_told 2 = .ok (.iconst 2, 1) := by decide +kernel
theorem dX5_told_3 : decode cX5_told 3 = .ok (.invokestatic 65, 3) := by decide +kernel
theorem dX5_told_6 : decode cX5_told 6 = .ok (.ifCond .eq 13, 3) := by decide +kernel
theorem dX5_told_9 : decode cX5_told 9 = .ok (.aload_n 0, 1) := by decide +kernel
theorem dX5_told_10 : decode cX5_told 10 = .ok (.getfield 24, 3) := by decide +kernel
theorem dX5_told_13 : decode cX5_told 13 = .ok (.getfield 139, 3) := by decide +kernel
theorem dX5_told_16 : decode cX5_told 16 = .ok (.iload_n 1, 1) := by decide +kernel
theorem dX5_told_17 : decode cX5_told 17 = .ok (.iaload, 1) := by decide +kernel
theorem dX5_told_18 : decode cX5_told 18 = .ok (.ireturn, 1) := by decide +kernel
theorem dX5_told_19 : decode cX5_told 19 = .ok (.iload_n 1, 1) := by decide +kernel
theorem dX5_told_20 : decode cX5_told 20 = .ok (.bipush 10, 2) := by decide +kernel
theorem dX5_told_22 : decode cX5_told 22 = .ok (.bipush 13, 2) := by decide +kernel
theorem dX5_told_24 : decode cX5_told 24 = .ok (.invokestatic 65, 3) := by decide +kernel
theorem dX5_told_27 : decode cX5_told 27 = .ok (.ifCond .eq 15, 3) := by decide +kernel
theorem dX5_told_30 : decode cX5_told 30 = .ok (.aload_n 0, 1) := by decide +kernel
theorem dX5_told_31 : decode cX5_told 31 = .ok (.getfield 24, 3) := by decide +kernel
theorem dX5_told_34 : decode cX5_told 34 = .ok (.iload_n 1, 1) := by decide +kernel
theorem dX5_told_35 : decode cX5_told 35 = .ok (.bipush 10, 2) := by decide +kernel
theorem dX5_told_37 : decode cX5_told 37 = .ok (.isub, 1) := by decide +kernel
theorem dX5_told_38 : decode cX5_told 38 = .ok (.invokevirtual 124, 3) := by decide +kernel
theorem dX5_told_41 : decode cX5_told 41 = .ok (.ireturn, 1) := by decide +kernel
theorem dX5_told_42 : decode cX5_told 42 = .ok (.iload_n 1, 1) := by decide +kernel
theorem dX5_told_43 : decode cX5_told 43 = .ok (.bipush 20, 2) := by decide +kernel
theorem dX5_told_45 : decode cX5_told 45 = .ok (.bipush 23, 2) := by decide +kernel
theorem dX5_told_47 : decode cX5_told 47 = .ok (.invokestatic 65, 3) := by decide +kernel
theorem dX5_told_50 : decode cX5_told 50 = .ok (.ifCond .eq 16, 3) := by decide +kernel
theorem dX5_told_53 : decode cX5_told 53 = .ok (.aload_n 0, 1) := by decide +kernel
theorem dX5_told_54 : decode cX5_told 54 = .ok (.getfield 24, 3) := by decide +kernel
theorem dX5_told_57 : decode cX5_told 57 = .ok (.getfield 106, 3) := by decide +kernel
theorem dX5_told_60 : decode cX5_told 60 = .ok (.iload_n 1, 1) := by decide +kernel
theorem dX5_told_61 : decode cX5_told 61 = .ok (.bipush 20, 2) := by decide +kernel
theorem dX5_told_63 : decode cX5_told 63 = .ok (.isub, 1) := by decide +kernel
theorem dX5_told_64 : decode cX5_told 64 = .ok (.iaload, 1) := by decide +kernel
theorem dX5_told_65 : decode cX5_told 65 = .ok (.ireturn, 1) := by decide +kernel
theorem dX5_told_66 : decode cX5_told 66 = .ok (.iload_n 1, 1) := by decide +kernel
theorem dX5_told_67 : decode cX5_told 67 = .ok (.bipush 30, 2) := by decide +kernel
theorem dX5_told_69 : decode cX5_told 69 = .ok (.bipush 33, 2) := by decide +kernel
theorem dX5_told_71 : decode cX5_told 71 = .ok (.invokestatic 65, 3) := by decide +kernel
theorem dX5_told_74 : decode cX5_told 74 = .ok (.ifCond .eq 16, 3) := by decide +kernel
theorem dX5_told_77 : decode cX5_told 77 = .ok (.aload_n 0, 1) := by decide +kernel
theorem dX5_told_78 : decode cX5_told 78 = .ok (.getfield 24, 3) := by decide +kernel
theorem dX5_told_81 : decode cX5_told 81 = .ok (.getfield 103, 3) := by decide +kernel
theorem dX5_told_84 : decode cX5_told 84 = .ok (.iload_n 1, 1) := by decide +kernel
theorem dX5_told_85 : decode cX5_told 85 = .ok (.bipush 30, 2) := by decide +kernel
theorem dX5_told_87 : decode cX5_told 87 = .ok (.isub, 1) := by decide +kernel
theorem dX5_told_88 : decode cX5_told 88 = .ok (.iaload, 1) := by decide +kernel
theorem dX5_told_89 : decode cX5_told 89 = .ok (.ireturn, 1) := by decide +kernel
theorem dX5_told_90 : decode cX5_told 90 = .ok (.aload_n 0, 1) := by decide +kernel
theorem dX5_told_91 : decode cX5_told 91 = .ok (.iconst 0, 1) := by decide +kernel
theorem dX5_told_92 : decode cX5_told 92 = .ok (.invokevirtual 49, 3) := by decide +kernel
theorem dX5_told_95 : decode cX5_told 95 = .ok (.ireturn, 1) := by decide +kernel
theorem dX5_against_0 : decode cX5_against 0 = .ok (.aload_n 0, 1) := by decide +kernel
theorem dX5_against_1 : decode cX5_against 1 = .ok (.getfield 24, 3) := by decide +kernel
theorem dX5_against_4 : decode cX5_against 4 = .ok (.iload_n 1, 1) := by decide +kernel
theorem dX5_against_5 : decode cX5_against 5 = .ok (.invokevirtual 109, 3) := by decide +kernel
theorem dX5_against_8 : decode cX5_against 8 = .ok (.ifCond .ne 9, 3) := by decide +kernel
theorem dX5_against_11 : decode cX5_against 11 = .ok (.aload_n 0, 1) := by decide +kernel
theorem dX5_against_12 : decode cX5_against 12 = .ok (.iconst 0, 1) := by decide +kernel
theorem dX5_against_13 : decode cX5_against 13 = .ok (.invokevirtual 49, 3) := by decide +kernel
theorem dX5_against_16 : decode cX5_against 16 = .ok (.ireturn, 1) := by decide +kernel
theorem dX5_against_17 : decode cX5_against 17 = .ok (.aload_n 0, 1) := by decide +kernel
theorem dX5_against_18 : decode cX5_against 18 = .ok (.getfield 16, 3) := by decide +kernel
theorem dX5_against_21 : decode cX5_against 21 = .ok (.invokevirtual 142, 3) := by decide +kernel
theorem dX5_against_24 : decode cX5_against 24 = .ok (.aload_n 0, 1) := by decide +kernel
theorem dX5_against_25 : decode cX5_against 25 = .ok (.getfield 16, 3) := by decide +kernel
theorem dX5_against_28 : decode cX5_against 28 = .ok (.iload_n 1, 1) := by decide +kernel
theorem dX5_against_29 : decode cX5_against 29 = .ok (.iconst 0, 1) := by decide +kernel
theorem dX5_against_30 : decode cX5_against 30 = .ok (.invokevirtual 145, 3) := by decide +kernel
theorem dX5_against_33 : decode cX5_against 33 = .ok (.ireturn, 1) := by decide +kernel
theorem dX5_papers_0 : decode cX5_papers 0 = .ok (.aload_n 0, 1) := by decide +kernel
theorem dX5_papers_1 : decode cX5_papers 1 = .ok (.getfield 16, 3) := by decide +kernel
theorem dX5_papers_4 : decode cX5_papers 4 = .ok (.invokevirtual 142, 3) := by decide +kernel
theorem dX5_papers_7 : decode cX5_papers 7 = .ok (.aload_n 0, 1) := by decide +kernel
theorem dX5_papers_8 : decode cX5_papers 8 = .ok (.getfield 16, 3) := by decide +kernel
theorem dX5_papers_11 : decode cX5_papers 11 = .ok (.iconst 0, 1) := by decide +kernel
theorem dX5_papers_12 : decode cX5_papers 12 = .ok (.invokevirtual 149, 3) := by decide +kernel
theorem dX5_papers_15 : decode cX5_papers 15 = .ok (.ireturn, 1) := by decide +kernel
theorem dX5_without_0 : decode cX5_without 0 = .ok (.iload_n 1, 1) := by decide +kernel
theorem dX5_without_1 : decode cX5_without 1 = .ok (.iconst 1, 1) := by decide +kernel
theorem dX5_without_2 : decode cX5_without 2 = .ok (.bipush 6, 2) := by decide +kernel
theorem dX5_without_4 : decode cX5_without 4 = .ok (.invokestatic 65, 3) := by decide +kernel
theorem dX5_without_7 : decode cX5_without 7 = .ok (.ifCond .ne 9, 3) := by decide +kernel
theorem dX5_without_10 : decode cX5_without 10 = .ok (.aload_n 0, 1) := by decide +kernel
theorem dX5_without_11 : decode cX5_without 11 = .ok (.iconst 0, 1) := by decide +kernel
theorem dX5_without_12 : decode cX5_without 12 = .ok (.invokevirtual 49, 3) := by decide +kernel
theorem dX5_without_15 : decode cX5_without 15 = .ok (.ireturn, 1) := by decide +kernel
theorem dX5_without_16 : decode cX5_without 16 = .ok (.aload_n 0, 1) := by decide +kernel
theorem dX5_without_17 : decode cX5_without 17 = .ok (.getfield 16, 3) := by decide +kernel
theorem dX5_without_20 : decode cX5_without 20 = .ok (.invokevirtual 142, 3) := by decide +kernel
theorem dX5_without_23 : decode cX5_without 23 = .ok (.aload_n 0, 1) := by decide +kernel
theorem dX5_without_24 : decode cX5_without 24 = .ok (.getfield 16, 3) := by decide +kernel
theorem dX5_without_27 : decode cX5_without 27 = .ok (.iload_n 1, 1) := by decide +kernel
theorem dX5_without_28 : decode cX5_without 28 = .ok (.invokevirtual 149, 3) := by decide +kernel
theorem dX5_without_31 : decode cX5_without 31 = .ok (.ireturn, 1) := by decide +kernel
theorem dX5_best_0 : decode cX5_best 0 = .ok (.aload_n 0, 1) := by decide +kernel
theorem dX5_best_1 : decode cX5_best 1 = .ok (.getfield 16, 3) := by decide +kernel
theorem dX5_best_4 : decode cX5_best 4 = .ok (.invokevirtual 152, 3) := by decide +kernel
theorem dX5_best_7 : decode cX5_best 7 = .ok (.aload_n 0, 1) := by decide +kernel
theorem dX5_best_8 : decode cX5_best 8 = .ok (.getfield 16, 3) := by decide +kernel
theorem dX5_best_11 : decode cX5_best 11 = .ok (.invokevirtual 155, 3) := by decide +kernel
theorem dX5_best_14 : decode cX5_best 14 = .ok (.istore_n 1, 1) := by decide +kernel
theorem dX5_best_15 : decode cX5_best 15 = .ok (.iload_n 1, 1) := by decide +kernel
theorem dX5_best_16 : decode cX5_best 16 = .ok (.ifCond .ge 11, 3) := by decide +kernel
theorem dX5_best_19 : decode cX5_best 19 = .ok (.aload_n 0, 1) := by decide +kernel
theorem dX5_best_20 : decode cX5_best 20 = .ok (.iconst 3, 1) := by decide +kernel
theorem dX5_best_21 : decode cX5_best 21 = .ok (.invokevirtual 49, 3) := by decide +kernel
theorem dX5_best_24 : decode cX5_best 24 = .ok (.goto 4, 3) := by decide +kernel
theorem dX5_best_27 : decode cX5_best 27 = .ok (.iload_n 1, 1) := by decide +kernel
theorem dX5_best_28 : decode cX5_best 28 = .ok (.ireturn, 1) := by decide +kernel
theorem dX5_rank_0 : decode cX5_rank 0 = .ok (.aload_n 0, 1) := by decide +kernel
theorem dX5_rank_1 : decode cX5_rank 1 = .ok (.getfield 24, 3) := by decide +kernel
theorem dX5_rank_4 : decode cX5_rank 4 = .ok (.iload_n 1, 1) := by decide +kernel
theorem dX5_rank_5 : decode cX5_rank 5 = .ok (.invokevirtual 109, 3) := by decide +kernel
theorem dX5_rank_8 : decode cX5_rank 8 = .ok (.ifCond .ne 9, 3) := by decide +kernel
theorem dX5_rank_11 : decode cX5_rank 11 = .ok (.aload_n 0, 1) := by decide +kernel
theorem dX5_rank_12 : decode cX5_rank 12 = .ok (.iconst 0, 1) := by decide +kernel
theorem dX5_rank_13 : decode cX5_rank 13 = .ok (.invokevirtual 49, 3) := by decide +kernel
theorem dX5_rank_16 : decode cX5_rank 16 = .ok (.ireturn, 1) := by decide +kernel
theorem dX5_rank_17 : decode cX5_rank 17 = .ok (.aload_n 0, 1) := by decide +kernel
theorem dX5_rank_18 : decode cX5_rank 18 = .ok (.getfield 16, 3) := by decide +kernel
theorem dX5_rank_21 : decode cX5_rank 21 = .ok (.invokevirtual 152, 3) := by decide +kernel
theorem dX5_rank_24 : decode cX5_rank 24 = .ok (.aload_n 0, 1) := by decide +kernel
theorem dX5_rank_25 : decode cX5_rank 25 = .ok (.getfield 16, 3) := by decide +kernel
theorem dX5_rank_28 : decode cX5_rank 28 = .ok (.aload_n 0, 1) := by decide +kernel
theorem dX5_rank_29 : decode cX5_rank 29 = .ok (.getfield 16, 3) := by decide +kernel
theorem dX5_rank_32 : decode cX5_rank 32 = .ok (.iload_n 1, 1) := by decide +kernel
theorem dX5_rank_33 : decode cX5_rank 33 = .ok (.invokevirtual 115, 3) := by decide +kernel
theorem dX5_rank_36 : decode cX5_rank 36 = .ok (.invokevirtual 159, 3) := by decide +kernel
theorem dX5_rank_39 : decode cX5_rank 39 = .ok (.ireturn, 1) := by decide +kernel
theorem dX5_swap_0 : decode cX5_swap 0 = .ok (.aload_n 0, 1) := by decide +kernel
theorem dX5_swap_1 : decode cX5_swap 1 = .ok (.getfield 24, 3) := by decide +kernel
theorem dX5_swap_4 : decode cX5_swap 4 = .ok (.iload_n 1, 1) := by decide +kernel
theorem dX5_swap_5 : decode cX5_swap 5 = .ok (.invokevirtual 109, 3) := by decide +kernel
theorem dX5_swap_8 : decode cX5_swap 8 = .ok (.ifCond .eq 14, 3) := by decide +kernel
theorem dX5_swap_11 : decode cX5_swap 11 = .ok (.aload_n 0, 1) := by decide +kernel
theorem dX5_swap_12 : decode cX5_swap 12 = .ok (.getfield 24, 3) := by decide +kernel
theorem dX5_swap_15 : decode cX5_swap 15 = .ok (.iload_n 2, 1) := by decide +kernel
theorem dX5_swap_16 : decode cX5_swap 16 = .ok (.invokevirtual 61, 3) := by decide +kernel
theorem dX5_swap_19 : decode cX5_swap 19 = .ok (.ifCond .ne 9, 3) := by decide +kernel
theorem dX5_swap_22 : decode cX5_swap 22 = .ok (.aload_n 0, 1) := by decide +kernel
theorem dX5_swap_23 : decode cX5_swap 23 = .ok (.iconst 0, 1) := by decide +kernel
theorem dX5_swap_24 : decode cX5_swap 24 = .ok (.invokevirtual 49, 3) := by decide +kernel
theorem dX5_swap_27 : decode cX5_swap 27 = .ok (.ireturn, 1) := by decide +kernel
theorem dX5_swap_28 : decode cX5_swap 28 = .ok (.aload_n 0, 1) := by decide +kernel
theorem dX5_swap_29 : decode cX5_swap 29 = .ok (.getfield 16, 3) := by decide +kernel
theorem dX5_swap_32 : decode cX5_swap 32 = .ok (.invokevirtual 142, 3) := by decide +kernel
theorem dX5_swap_35 : decode cX5_swap 35 = .ok (.aload_n 0, 1) := by decide +kernel
theorem dX5_swap_36 : decode cX5_swap 36 = .ok (.getfield 16, 3) := by decide +kernel
theorem dX5_swap_39 : decode cX5_swap 39 = .ok (.iload_n 1, 1) := by decide +kernel
theorem dX5_swap_40 : decode cX5_swap 40 = .ok (.invokevirtual 163, 3) := by decide +kernel
theorem dX5_swap_43 : decode cX5_swap 43 = .ok (.ifCond .ne 9, 3) := by decide +kernel
theorem dX5_swap_46 : decode cX5_swap 46 = .ok (.aload_n 0, 1) := by decide +kernel
theorem dX5_swap_47 : decode cX5_swap 47 = .ok (.iconst 4, 1) := by decide +kernel
theorem dX5_swap_48 : decode cX5_swap 48 = .ok (.invokevirtual 49, 3) := by decide +kernel
theorem dX5_swap_51 : decode cX5_swap 51 = .ok (.ireturn, 1) := by decide +kernel
theorem dX5_swap_52 : decode cX5_swap 52 = .ok (.iload_n 1, 1) := by decide +kernel
theorem dX5_swap_53 : decode cX5_swap 53 = .ok (.iload_n 2, 1) := by decide +kernel
theorem dX5_swap_54 : decode cX5_swap 54 = .ok (.ishr, 1) := by decide +kernel
theorem dX5_swap_55 : decode cX5_swap 55 = .ok (.iconst 1, 1) := by decide +kernel
theorem dX5_swap_56 : decode cX5_swap 56 = .ok (.iand, 1) := by decide +kernel
theorem dX5_swap_57 : decode cX5_swap 57 = .ok (.ifCond .ne 9, 3) := by decide +kernel
theorem dX5_swap_60 : decode cX5_swap 60 = .ok (.aload_n 0, 1) := by decide +kernel
theorem dX5_swap_61 : decode cX5_swap 61 = .ok (.iconst 2, 1) := by decide +kernel
theorem dX5_swap_62 : decode cX5_swap 62 = .ok (.invokevirtual 49, 3) := by decide +kernel
theorem dX5_swap_65 : decode cX5_swap 65 = .ok (.ireturn, 1) := by decide +kernel
theorem dX5_swap_66 : decode cX5_swap 66 = .ok (.aload_n 0, 1) := by decide +kernel
theorem dX5_swap_67 : decode cX5_swap 67 = .ok (.getfield 16, 3) := by decide +kernel
theorem dX5_swap_70 : decode cX5_swap 70 = .ok (.invokevirtual 112, 3) := by decide +kernel
theorem dX5_swap_73 : decode cX5_swap 73 = .ok (.aload_n 0, 1) := by decide +kernel
theorem dX5_swap_74 : decode cX5_swap 74 = .ok (.getfield 16, 3) := by decide +kernel
theorem dX5_swap_77 : decode cX5_swap 77 = .ok (.iload_n 1, 1) := by decide +kernel
theorem dX5_swap_78 : decode cX5_swap 78 = .ok (.iload_n 2, 1) := by decide +kernel
theorem dX5_swap_79 : decode cX5_swap 79 = .ok (.invokevirtual 166, 3) := by decide +kernel
theorem dX5_swap_82 : decode cX5_swap 82 = .ok (.istore_n 3, 1) := by decide +kernel
theorem dX5_swap_83 : decode cX5_swap 83 = .ok (.iload_n 3, 1) := by decide +kernel
theorem dX5_swap_84 : decode cX5_swap 84 = .ok (.ifCond .ge 11, 3) := by decide +kernel
theorem dX5_swap_87 : decode cX5_swap 87 = .ok (.aload_n 0, 1) := by decide +kernel
theorem dX5_swap_88 : decode cX5_swap 88 = .ok (.iconst 3, 1) := by decide +kernel
theorem dX5_swap_89 : decode cX5_swap 89 = .ok (.invokevirtual 49, 3) := by decide +kernel
theorem dX5_swap_92 : decode cX5_swap 92 = .ok (.goto 4, 3) := by decide +kernel
theorem dX5_swap_95 : decode cX5_swap 95 = .ok (.iload_n 3, 1) := by decide +kernel
theorem dX5_swap_96 : decode cX5_swap 96 = .ok (.ireturn, 1) := by decide +kernel
theorem dX5_forms_0 : decode cX5_forms 0 = .ok (.iload_n 1, 1) := by decide +kernel
theorem dX5_forms_1 : decode cX5_forms 1 = .ok (.iconst 0, 1) := by decide +kernel
theorem dX5_forms_2 : decode cX5_forms 2 = .ok (.iconst 1, 1) := by decide +kernel
theorem dX5_forms_3 : decode cX5_forms 3 = .ok (.invokestatic 65, 3) := by decide +kernel
theorem dX5_forms_6 : decode cX5_forms 6 = .ok (.ifCond .ne 9, 3) := by decide +kernel
theorem dX5_forms_9 : decode cX5_forms 9 = .ok (.aload_n 0, 1) := by decide +kernel
theorem dX5_forms_10 : decode cX5_forms 10 = .ok (.iconst 0, 1) := by decide +kernel
theorem dX5_forms_11 : decode cX5_forms 11 = .ok (.invokevirtual 49, 3) := by decide +kernel
theorem dX5_forms_14 : decode cX5_forms 14 = .ok (.ireturn, 1) := by decide +kernel
theorem dX5_forms_15 : decode cX5_forms 15 = .ok (.aload_n 0, 1) := by decide +kernel
theorem dX5_forms_16 : decode cX5_forms 16 = .ok (.getfield 16, 3) := by decide +kernel
theorem dX5_forms_19 : decode cX5_forms 19 = .ok (.invokevirtual 169, 3) := by decide +kernel
theorem dX5_forms_22 : decode cX5_forms 22 = .ok (.ifCond .ne 9, 3) := by decide +kernel
theorem dX5_forms_25 : decode cX5_forms 25 = .ok (.aload_n 0, 1) := by decide +kernel
theorem dX5_forms_26 : decode cX5_forms 26 = .ok (.iconst 3, 1) := by decide +kernel
theorem dX5_forms_27 : decode cX5_forms 27 = .ok (.invokevirtual 49, 3) := by decide +kernel
theorem dX5_forms_30 : decode cX5_forms 30 = .ok (.ireturn, 1) := by decide +kernel
theorem dX5_forms_31 : decode cX5_forms 31 = .ok (.iload_n 1, 1) := by decide +kernel
theorem dX5_forms_32 : decode cX5_forms 32 = .ok (.ifCond .ne 13, 3) := by decide +kernel
theorem dX5_forms_35 : decode cX5_forms 35 = .ok (.aload_n 0, 1) := by decide +kernel
theorem dX5_forms_36 : decode cX5_forms 36 = .ok (.getfield 16, 3) := by decide +kernel
theorem dX5_forms_39 : decode cX5_forms 39 = .ok (.getfield 173, 3) := by decide +kernel
theorem dX5_forms_42 : decode cX5_forms 42 = .ok (.goto 10, 3) := by decide +kernel
theorem dX5_forms_45 : decode cX5_forms 45 = .ok (.aload_n 0, 1) := by decide +kernel
theorem dX5_forms_46 : decode cX5_forms 46 = .ok (.getfield 16, 3) := by decide +kernel
theorem dX5_forms_49 : decode cX5_forms 49 = .ok (.getfield 176, 3) := by decide +kernel
theorem dX5_forms_52 : decode cX5_forms 52 = .ok (.ireturn, 1) := by decide +kernel
theorem dX5_gap_0 : decode cX5_gap 0 = .ok (.aload_n 0, 1) := by decide +kernel
theorem dX5_gap_1 : decode cX5_gap 1 = .ok (.getfield 16, 3) := by decide +kernel
theorem dX5_gap_4 : decode cX5_gap 4 = .ok (.invokevirtual 169, 3) := by decide +kernel
theorem dX5_gap_7 : decode cX5_gap 7 = .ok (.ifCond .ne 9, 3) := by decide +kernel
theorem dX5_gap_10 : decode cX5_gap 10 = .ok (.aload_n 0, 1) := by decide +kernel
theorem dX5_gap_11 : decode cX5_gap 11 = .ok (.iconst 3, 1) := by decide +kernel
theorem dX5_gap_12 : decode cX5_gap 12 = .ok (.invokevirtual 88, 3) := by decide +kernel
theorem dX5_gap_15 : decode cX5_gap 15 = .ok (.lreturn, 1) := by decide +kernel
theorem dX5_gap_16 : decode cX5_gap 16 = .ok (.aload_n 0, 1) := by decide +kernel
theorem dX5_gap_17 : decode cX5_gap 17 = .ok (.getfield 16, 3) := by decide +kernel
theorem dX5_gap_20 : decode cX5_gap 20 = .ok (.invokevirtual 179, 3) := by decide +kernel
theorem dX5_gap_23 : decode cX5_gap 23 = .ok (.invokestatic 96, 3) := by decide +kernel
theorem dX5_gap_26 : decode cX5_gap 26 = .ok (.lreturn, 1) := by decide +kernel
theorem dX5_use_0 : decode cX5_use 0 = .ok (.aload_n 0, 1) := by decide +kernel
theorem dX5_use_1 : decode cX5_use 1 = .ok (.getfield 24, 3) := by decide +kernel
theorem dX5_use_4 : decode cX5_use 4 = .ok (.iload_n 1, 1) := by decide +kernel
theorem dX5_use_5 : decode cX5_use 5 = .ok (.invokevirtual 109, 3) := by decide +kernel
theorem dX5_use_8 : decode cX5_use 8 = .ok (.ifCond .ne 9, 3) := by decide +kernel
theorem dX5_use_11 : decode cX5_use 11 = .ok (.aload_n 0, 1) := by decide +kernel
theorem dX5_use_12 : decode cX5_use 12 = .ok (.iconst 0, 1) := by decide +kernel
theorem dX5_use_13 : decode cX5_use 13 = .ok (.invokevirtual 49, 3) := by decide +kernel
theorem dX5_use_16 : decode cX5_use 16 = .ok (.ireturn, 1) := by decide +kernel
theorem dX5_use_17 : decode cX5_use 17 = .ok (.aload_n 0, 1) := by decide +kernel
theorem dX5_use_18 : decode cX5_use 18 = .ok (.getfield 16, 3) := by decide +kernel
theorem dX5_use_21 : decode cX5_use 21 = .ok (.invokevirtual 142, 3) := by decide +kernel
theorem dX5_use_24 : decode cX5_use 24 = .ok (.aload_n 0, 1) := by decide +kernel
theorem dX5_use_25 : decode cX5_use 25 = .ok (.getfield 16, 3) := by decide +kernel
theorem dX5_use_28 : decode cX5_use 28 = .ok (.iload_n 1, 1) := by decide +kernel
theorem dX5_use_29 : decode cX5_use 29 = .ok (.invokevirtual 163, 3) := by decide +kernel
theorem dX5_use_32 : decode cX5_use 32 = .ok (.ifCond .ne 9, 3) := by decide +kernel
theorem dX5_use_35 : decode cX5_use 35 = .ok (.aload_n 0, 1) := by decide +kernel
theorem dX5_use_36 : decode cX5_use 36 = .ok (.iconst 4, 1) := by decide +kernel
theorem dX5_use_37 : decode cX5_use 37 = .ok (.invokevirtual 49, 3) := by decide +kernel
theorem dX5_use_40 : decode cX5_use 40 = .ok (.ireturn, 1) := by decide +kernel
theorem dX5_use_41 : decode cX5_use 41 = .ok (.aload_n 0, 1) := by decide +kernel
theorem dX5_use_42 : decode cX5_use 42 = .ok (.getfield 24, 3) := by decide +kernel
theorem dX5_use_45 : decode cX5_use 45 = .ok (.iload_n 1, 1) := by decide +kernel
theorem dX5_use_46 : decode cX5_use 46 = .ok (.invokevirtual 183, 3) := by decide +kernel
theorem dX5_use_49 : decode cX5_use 49 = .ok (.aload_n 0, 1) := by decide +kernel
theorem dX5_use_50 : decode cX5_use 50 = .ok (.getfield 24, 3) := by decide +kernel
theorem dX5_use_53 : decode cX5_use 53 = .ok (.invokevirtual 187, 3) := by decide +kernel
theorem dX5_use_56 : decode cX5_use 56 = .ok (.invokestatic 190, 3) := by decide +kernel
theorem dX5_use_59 : decode cX5_use 59 = .ok (.ireturn, 1) := by decide +kernel
theorem dX5_uses_0 : decode cX5_uses 0 = .ok (.iload_n 1, 1) := by decide +kernel
theorem dX5_uses_1 : decode cX5_uses 1 = .ok (.iconst 1, 1) := by decide +kernel
theorem dX5_uses_2 : decode cX5_uses 2 = .ok (.bipush 20, 2) := by decide +kernel
theorem dX5_uses_4 : decode cX5_uses 4 = .ok (.invokestatic 65, 3) := by decide +kernel
theorem dX5_uses_7 : decode cX5_uses 7 = .ok (.ifCond .ne 9, 3) := by decide +kernel
theorem dX5_uses_10 : decode cX5_uses 10 = .ok (.aload_n 0, 1) := by decide +kernel
theorem dX5_uses_11 : decode cX5_uses 11 = .ok (.iconst 0, 1) := by decide +kernel
theorem dX5_uses_12 : decode cX5_uses 12 = .ok (.invokevirtual 49, 3) := by decide +kernel
theorem dX5_uses_15 : decode cX5_uses 15 = .ok (.ireturn, 1) := by decide +kernel
theorem dX5_uses_16 : decode cX5_uses 16 = .ok (.aload_n 0, 1) := by decide +kernel
theorem dX5_uses_17 : decode cX5_uses 17 = .ok (.getfield 16, 3) := by decide +kernel
theorem dX5_uses_20 : decode cX5_uses 20 = .ok (.invokevirtual 152, 3) := by decide +kernel
theorem dX5_uses_23 : decode cX5_uses 23 = .ok (.iconst 0, 1) := by decide +kernel
theorem dX5_uses_24 : decode cX5_uses 24 = .ok (.istore_n 2, 1) := by decide +kernel
theorem dX5_uses_25 : decode cX5_uses 25 = .ok (.iload_n 2, 1) := by decide +kernel
theorem dX5_uses_26 : decode cX5_uses 26 = .ok (.iload_n 1, 1) := by decide +kernel
theorem dX5_uses_27 : decode cX5_uses 27 = .ok (.if_icmp .ge 31, 3) := by decide +kernel
theorem dX5_uses_30 : decode cX5_uses 30 = .ok (.aload_n 0, 1) := by decide +kernel
theorem dX5_uses_31 : decode cX5_uses 31 = .ok (.getfield 16, 3) := by decide +kernel
theorem dX5_uses_34 : decode cX5_uses 34 = .ok (.invokevirtual 155, 3) := by decide +kernel
theorem dX5_uses_37 : decode cX5_uses 37 = .ok (.istore_n 3, 1) := by decide +kernel
theorem dX5_uses_38 : decode cX5_uses 38 = .ok (.iload_n 3, 1) := by decide +kernel
theorem dX5_uses_39 : decode cX5_uses 39 = .ok (.ifCond .ge 5, 3) := by decide +kernel
theorem dX5_uses_42 : decode cX5_uses 42 = .ok (.iload_n 2, 1) := by decide +kernel
theorem dX5_uses_43 : decode cX5_uses 43 = .ok (.ireturn, 1) := by decide +kernel
theorem dX5_uses_44 : decode cX5_uses 44 = .ok (.aload_n 0, 1) := by decide +kernel
theorem dX5_uses_45 : decode cX5_uses 45 = .ok (.getfield 24, 3) := by decide +kernel
theorem dX5_uses_48 : decode cX5_uses 48 = .ok (.iload_n 3, 1) := by decide +kernel
theorem dX5_uses_49 : decode cX5_uses 49 = .ok (.invokevirtual 183, 3) := by decide +kernel
theorem dX5_uses_52 : decode cX5_uses 52 = .ok (.iinc 2 1, 3) := by decide +kernel
theorem dX5_uses_55 : decode cX5_uses 55 = .ok (.goto (-30), 3) := by decide +kernel
theorem dX5_uses_58 : decode cX5_uses 58 = .ok (.iload_n 1, 1) := by decide +kernel
theorem dX5_uses_59 : decode cX5_uses 59 = .ok (.ireturn, 1) := by decide +kernel
theorem dX5_loose_0 : decode cX5_loose 0 = .ok (.iload_n 1, 1) := by decide +kernel
theorem dX5_loose_1 : decode cX5_loose 1 = .ok (.iconst 1, 1) := by decide +kernel
theorem dX5_loose_2 : decode cX5_loose 2 = .ok (.bipush 20, 2) := by decide +kernel
theorem dX5_loose_4 : decode cX5_loose 4 = .ok (.invokestatic 65, 3) := by decide +kernel
theorem dX5_loose_7 : decode cX5_loose 7 = .ok (.ifCond .ne 9, 3) := by decide +kernel
theorem dX5_loose_10 : decode cX5_loose 10 = .ok (.aload_n 0, 1) := by decide +kernel
theorem dX5_loose_11 : decode cX5_loose 11 = .ok (.iconst 0, 1) := by decide +kernel
theorem dX5_loose_12 : decode cX5_loose 12 = .ok (.invokevirtual 49, 3) := by decide +kernel
theorem dX5_loose_15 : decode cX5_loose 15 = .ok (.ireturn, 1) := by decide +kernel
theorem dX5_loose_16 : decode cX5_loose 16 = .ok (.aload_n 0, 1) := by decide +kernel
theorem dX5_loose_17 : decode cX5_loose 17 = .ok (.getfield 16, 3) := by decide +kernel
theorem dX5_loose_20 : decode cX5_loose 20 = .ok (.invokevirtual 112, 3) := by decide +kernel
theorem dX5_loose_23 : decode cX5_loose 23 = .ok (.iconst 0, 1) := by decide +kernel
theorem dX5_loose_24 : decode cX5_loose 24 = .ok (.istore_n 2, 1) := by decide +kernel
theorem dX5_loose_25 : decode cX5_loose 25 = .ok (.iconst 0, 1) := by decide +kernel
theorem dX5_loose_26 : decode cX5_loose 26 = .ok (.istore_n 3, 1) := by decide +kernel
theorem dX5_loose_27 : decode cX5_loose 27 = .ok (.iload_n 3, 1) := by decide +kernel
theorem dX5_loose_28 : decode cX5_loose 28 = .ok (.iload_n 1, 1) := by decide +kernel
theorem dX5_loose_29 : decode cX5_loose 29 = .ok (.if_icmp .ge 64, 3) := by decide +kernel
theorem dX5_loose_32 : decode cX5_loose 32 = .ok (.aload_n 0, 1) := by decide +kernel
theorem dX5_loose_33 : decode cX5_loose 33 = .ok (.getfield 16, 3) := by decide +kernel
theorem dX5_loose_36 : decode cX5_loose 36 = .ok (.invokevirtual 142, 3) := by decide +kernel
theorem dX5_loose_39 : decode cX5_loose 39 = .ok (.aload_n 0, 1) := by decide +kernel
theorem dX5_loose_40 : decode cX5_loose 40 = .ok (.getfield 24, 3) := by decide +kernel
theorem dX5_loose_43 : decode cX5_loose 43 = .ok (.invokevirtual 195, 3) := by decide +kernel
theorem dX5_loose_46 : decode cX5_loose 46 = .ok (.istore 4, 2) := by decide +kernel
theorem dX5_loose_48 : decode cX5_loose 48 = .ok (.aload_n 0, 1) := by decide +kernel
theorem dX5_loose_49 : decode cX5_loose 49 = .ok (.getfield 24, 3) := by decide +kernel
theorem dX5_loose_52 : decode cX5_loose 52 = .ok (.invokevirtual 195, 3) := by decide +kernel
theorem dX5_loose_55 : decode cX5_loose 55 = .ok (.istore 5, 2) := by decide +kernel
theorem dX5_loose_57 : decode cX5_loose 57 = .ok (.aload_n 0, 1) := by decide +kernel
theorem dX5_loose_58 : decode cX5_loose 58 = .ok (.getfield 16, 3) := by decide +kernel
theorem dX5_loose_61 : decode cX5_loose 61 = .ok (.iload 4, 2) := by decide +kernel
theorem dX5_loose_63 : decode cX5_loose 63 = .ok (.iload 5, 2) := by decide +kernel
theorem dX5_loose_65 : decode cX5_loose 65 = .ok (.invokevirtual 198, 3) := by decide +kernel
theorem dX5_loose_68 : decode cX5_loose 68 = .ok (.istore 6, 2) := by decide +kernel
theorem dX5_loose_70 : decode cX5_loose 70 = .ok (.iload 6, 2) := by decide +kernel
theorem dX5_loose_72 : decode cX5_loose 72 = .ok (.ifCond .lt 15, 3) := by decide +kernel
theorem dX5_loose_75 : decode cX5_loose 75 = .ok (.aload_n 0, 1) := by decide +kernel
theorem dX5_loose_76 : decode cX5_loose 76 = .ok (.getfield 24, 3) := by decide +kernel
theorem dX5_loose_79 : decode cX5_loose 79 = .ok (.iload 6, 2) := by decide +kernel
theorem dX5_loose_81 : decode cX5_loose 81 = .ok (.invokevirtual 183, 3) := by decide +kernel
theorem dX5_loose_84 : decode cX5_loose 84 = .ok (.iinc 2 1, 3) := by decide +kernel
theorem dX5_loose_87 : decode cX5_loose 87 = .ok (.iinc 3 1, 3) := by decide +kernel
theorem dX5_loose_90 : decode cX5_loose 90 = .ok (.goto (-63), 3) := by decide +kernel
theorem dX5_loose_93 : decode cX5_loose 93 = .ok (.iload_n 2, 1) := by decide +kernel
theorem dX5_loose_94 : decode cX5_loose 94 = .ok (.ireturn, 1) := by decide +kernel
theorem dX5_seed_0 : decode cX5_seed 0 = .ok (.aload_n 0, 1) := by decide +kernel
theorem dX5_seed_1 : decode cX5_seed 1 = .ok (.getfield 24, 3) := by decide +kernel
theorem dX5_seed_4 : decode cX5_seed 4 = .ok (.getfield 201, 3) := by decide +kernel
theorem dX5_seed_7 : decode cX5_seed 7 = .ok (.istore_n 2, 1) := by decide +kernel
theorem dX5_seed_8 : decode cX5_seed 8 = .ok (.aload_n 0, 1) := by decide +kernel
theorem dX5_seed_9 : decode cX5_seed 9 = .ok (.getfield 24, 3) := by decide +kernel
theorem dX5_seed_12 : decode cX5_seed 12 = .ok (.iload_n 1, 1) := by decide +kernel
theorem dX5_seed_13 : decode cX5_seed 13 = .ok (.putfield 201, 3) := by decide +kernel
theorem dX5_seed_16 : decode cX5_seed 16 = .ok (.iload_n 2, 1) := by decide +kernel
theorem dX5_seed_17 : decode cX5_seed 17 = .ok (.ireturn, 1) := by decide +kernel
theorem dX5_shelf_0 : decode cX5_shelf 0 = .ok (.iload_n 1, 1) := by decide +kernel
theorem dX5_shelf_1 : decode cX5_shelf 1 = .ok (.iconst 0, 1) := by decide +kernel
theorem dX5_shelf_2 : decode cX5_shelf 2 = .ok (.iconst 3, 1) := by decide +kernel
theorem dX5_shelf_3 : decode cX5_shelf 3 = .ok (.invokestatic 65, 3) := by decide +kernel
theorem dX5_shelf_6 : decode cX5_shelf 6 = .ok (.ifCond .eq 11, 3) := by decide +kernel
theorem dX5_shelf_9 : decode cX5_shelf 9 = .ok (.iconst 0, 1) := by decide +kernel
theorem dX5_shelf_10 : decode cX5_shelf 10 = .ok (.iload_n 2, 1) := by decide +kernel
theorem dX5_shelf_11 : decode cX5_shelf 11 = .ok (.invokestatic 45, 3) := by decide +kernel
theorem dX5_shelf_14 : decode cX5_shelf 14 = .ok (.ifCond .ne 9, 3) := by decide +kernel
theorem dX5_shelf_17 : decode cX5_shelf 17 = .ok (.aload_n 0, 1) := by decide +kernel
theorem dX5_shelf_18 : decode cX5_shelf 18 = .ok (.iconst 0, 1) := by decide +kernel
theorem dX5_shelf_19 : decode cX5_shelf 19 = .ok (.invokevirtual 49, 3) := by decide +kernel
theorem dX5_shelf_22 : decode cX5_shelf 22 = .ok (.ireturn, 1) := by decide +kernel
theorem dX5_shelf_23 : decode cX5_shelf 23 = .ok (.aload_n 0, 1) := by decide +kernel
theorem dX5_shelf_24 : decode cX5_shelf 24 = .ok (.getfield 33, 3) := by decide +kernel
theorem dX5_shelf_27 : decode cX5_shelf 27 = .ok (.iload_n 1, 1) := by decide +kernel
theorem dX5_shelf_28 : decode cX5_shelf 28 = .ok (.aaload, 1) := by decide +kernel
theorem dX5_shelf_29 : decode cX5_shelf 29 = .ok (.invokevirtual 204, 3) := by decide +kernel
theorem dX5_shelf_32 : decode cX5_shelf 32 = .ok (.istore_n 3, 1) := by decide +kernel
theorem dX5_shelf_33 : decode cX5_shelf 33 = .ok (.aload_n 0, 1) := by decide +kernel
theorem dX5_shelf_34 : decode cX5_shelf 34 = .ok (.getfield 33, 3) := by decide +kernel
theorem dX5_shelf_37 : decode cX5_shelf 37 = .ok (.iload_n 1, 1) := by decide +kernel
theorem dX5_shelf_38 : decode cX5_shelf 38 = .ok (.aaload, 1) := by decide +kernel
theorem dX5_shelf_39 : decode cX5_shelf 39 = .ok (.iload_n 2, 1) := by decide +kernel
theorem dX5_shelf_40 : decode cX5_shelf 40 = .ok (.invokevirtual 207, 3) := by decide +kernel
theorem dX5_shelf_43 : decode cX5_shelf 43 = .ok (.iload_n 3, 1) := by decide +kernel
theorem dX5_shelf_44 : decode cX5_shelf 44 = .ok (.ireturn, 1) := by decide +kernel
theorem dX5_lay_0 : decode cX5_lay 0 = .ok (.iload_n 1, 1) := by decide +kernel
theorem dX5_lay_1 : decode cX5_lay 1 = .ok (.iconst 0, 1) := by decide +kernel
theorem dX5_lay_2 : decode cX5_lay 2 = .ok (.iconst 3, 1) := by decide +kernel
theorem dX5_lay_3 : decode cX5_lay 3 = .ok (.invokestatic 65, 3) := by decide +kernel
theorem dX5_lay_6 : decode cX5_lay 6 = .ok (.ifCond .eq 23, 3) := by decide +kernel
theorem dX5_lay_9 : decode cX5_lay 9 = .ok (.iload_n 2, 1) := by decide +kernel
theorem dX5_lay_10 : decode cX5_lay 10 = .ok (.iconst 0, 1) := by decide +kernel
theorem dX5_lay_11 : decode cX5_lay 11 = .ok (.iconst 5, 1) := by decide +kernel
theorem dX5_lay_12 : decode cX5_lay 12 = .ok (.invokestatic 65, 3) := by decide +kernel
theorem dX5_lay_15 : decode cX5_lay 15 = .ok (.ifCond .eq 14, 3) := by decide +kernel
theorem dX5_lay_18 : decode cX5_lay 18 = .ok (.aload_n 0, 1) := by decide +kernel
theorem dX5_lay_19 : decode cX5_lay 19 = .ok (.getfield 24, 3) := by decide +kernel
theorem dX5_lay_22 : decode cX5_lay 22 = .ok (.iload_n 3, 1) := by decide +kernel
theorem dX5_lay_23 : decode cX5_lay 23 = .ok (.invokevirtual 61, 3) := by decide +kernel
theorem dX5_lay_26 : decode cX5_lay 26 = .ok (.ifCond .ne 9, 3) := by decide +kernel
theorem dX5_lay_29 : decode cX5_lay 29 = .ok (.aload_n 0, 1) := by decide +kernel
theorem dX5_lay_30 : decode cX5_lay 30 = .ok (.iconst 0, 1) := by decide +kernel
theorem dX5_lay_31 : decode cX5_lay 31 = .ok (.invokevirtual 49, 3) := by decide +kernel
theorem dX5_lay_34 : decode cX5_lay 34 = .ok (.ireturn, 1) := by decide +kernel
theorem dX5_lay_35 : decode cX5_lay 35 = .ok (.aload_n 0, 1) := by decide +kernel
theorem dX5_lay_36 : decode cX5_lay 36 = .ok (.getfield 24, 3) := by decide +kernel
theorem dX5_lay_39 : decode cX5_lay 39 = .ok (.getfield 57, 3) := by decide +kernel
theorem dX5_lay_42 : decode cX5_lay 42 = .ok (.iconst 0, 1) := by decide +kernel
theorem dX5_lay_43 : decode cX5_lay 43 = .ok (.aaload, 1) := by decide +kernel
theorem dX5_lay_44 : decode cX5_lay 44 = .ok (.iload_n 3, 1) := by decide +kernel
theorem dX5_lay_45 : decode cX5_lay 45 = .ok (.iaload, 1) := by decide +kernel
theorem dX5_lay_46 : decode cX5_lay 46 = .ok (.istore 4, 2) := by decide +kernel
theorem dX5_lay_48 : decode cX5_lay 48 = .ok (.iload 4, 2) := by decide +kernel
theorem dX5_lay_50 : decode cX5_lay 50 = .ok (.aload_n 0, 1) := by decide +kernel
theorem dX5_lay_51 : decode cX5_lay 51 = .ok (.getfield 33, 3) := by decide +kernel
theorem dX5_lay_54 : decode cX5_lay 54 = .ok (.iload_n 1, 1) := by decide +kernel
theorem dX5_lay_55 : decode cX5_lay 55 = .ok (.aaload, 1) := by decide +kernel
theorem dX5_lay_56 : decode cX5_lay 56 = .ok (.getfield 210, 3) := by decide +kernel
theorem dX5_lay_59 : decode cX5_lay 59 = .ok (.invokestatic 72, 3) := by decide +kernel
theorem dX5_lay_62 : decode cX5_lay 62 = .ok (.ifCond .ne 9, 3) := by decide +kernel
theorem dX5_lay_65 : decode cX5_lay 65 = .ok (.aload_n 0, 1) := by decide +kernel
theorem dX5_lay_66 : decode cX5_lay 66 = .ok (.iconst 2, 1) := by decide +kernel
theorem dX5_lay_67 : decode cX5_lay 67 = .ok (.invokevirtual 49, 3) := by decide +kernel
theorem dX5_lay_70 : decode cX5_lay 70 = .ok (.ireturn, 1) := by decide +kernel
theorem dX5_lay_71 : decode cX5_lay 71 = .ok (.aload_n 0, 1) := by decide +kernel
theorem dX5_lay_72 : decode cX5_lay 72 = .ok (.getfield 33, 3) := by decide +kernel
theorem dX5_lay_75 : decode cX5_lay 75 = .ok (.iload_n 1, 1) := by decide +kernel
theorem dX5_lay_76 : decode cX5_lay 76 = .ok (.aaload, 1) := by decide +kernel
theorem dX5_lay_77 : decode cX5_lay 77 = .ok (.getfield 213, 3) := by decide +kernel
theorem dX5_lay_80 : decode cX5_lay 80 = .ok (.iload_n 2, 1) := by decide +kernel
theorem dX5_lay_81 : decode cX5_lay 81 = .ok (.iaload, 1) := by decide +kernel
theorem dX5_lay_82 : decode cX5_lay 82 = .ok (.istore 5, 2) := by decide +kernel
theorem dX5_lay_84 : decode cX5_lay 84 = .ok (.aload_n 0, 1) := by decide +kernel
theorem dX5_lay_85 : decode cX5_lay 85 = .ok (.getfield 33, 3) := by decide +kernel
theorem dX5_lay_88 : decode cX5_lay 88 = .ok (.iload_n 1, 1) := by decide +kernel
theorem dX5_lay_89 : decode cX5_lay 89 = .ok (.aaload, 1) := by decide +kernel
theorem dX5_lay_90 : decode cX5_lay 90 = .ok (.getfield 213, 3) := by decide +kernel
theorem dX5_lay_93 : decode cX5_lay 93 = .ok (.iload_n 2, 1) := by decide +kernel
theorem dX5_lay_94 : decode cX5_lay 94 = .ok (.iload_n 3, 1) := by decide +kernel
theorem dX5_lay_95 : decode cX5_lay 95 = .ok (.iastore, 1) := by decide +kernel
theorem dX5_lay_96 : decode cX5_lay 96 = .ok (.aload_n 0, 1) := by decide +kernel
theorem dX5_lay_97 : decode cX5_lay 97 = .ok (.getfield 33, 3) := by decide +kernel
theorem dX5_lay_100 : decode cX5_lay 100 = .ok (.iload_n 1, 1) := by decide +kernel
theorem dX5_lay_101 : decode cX5_lay 101 = .ok (.aaload, 1) := by decide +kernel
theorem dX5_lay_102 : decode cX5_lay 102 = .ok (.getfield 216, 3) := by decide +kernel
theorem dX5_lay_105 : decode cX5_lay 105 = .ok (.iload_n 2, 1) := by decide +kernel
theorem dX5_lay_106 : decode cX5_lay 106 = .ok (.iload 4, 2) := by decide +kernel
theorem dX5_lay_108 : decode cX5_lay 108 = .ok (.iastore, 1) := by decide +kernel
theorem dX5_lay_109 : decode cX5_lay 109 = .ok (.iload 5, 2) := by decide +kernel
theorem dX5_lay_111 : decode cX5_lay 111 = .ok (.ireturn, 1) := by decide +kernel
theorem dX5_stands_0 : decode cX5_stands 0 = .ok (.iload_n 1, 1) := by decide +kernel
theorem dX5_stands_1 : decode cX5_stands 1 = .ok (.iconst 0, 1) := by decide +kernel
theorem dX5_stands_2 : decode cX5_stands 2 = .ok (.iconst 3, 1) := by decide +kernel
theorem dX5_stands_3 : decode cX5_stands 3 = .ok (.invokestatic 65, 3) := by decide +kernel
theorem dX5_stands_6 : decode cX5_stands 6 = .ok (.ifCond .eq 21, 3) := by decide +kernel
theorem dX5_stands_9 : decode cX5_stands 9 = .ok (.iload_n 2, 1) := by decide +kernel
theorem dX5_stands_10 : decode cX5_stands 10 = .ok (.iconst 0, 1) := by decide +kernel
theorem dX5_stands_11 : decode cX5_stands 11 = .ok (.iconst 5, 1) := by decide +kernel
theorem dX5_stands_12 : decode cX5_stands 12 = .ok (.invokestatic 65, 3) := by decide +kernel
theorem dX5_stands_15 : decode cX5_stands 15 = .ok (.ifCond .eq 12, 3) := by decide +kernel
theorem dX5_stands_18 : decode cX5_stands 18 = .ok (.iload_n 3, 1) := by decide +kernel
theorem dX5_stands_19 : decode cX5_stands 19 = .ok (.iconst 0, 1) := by decide +kernel
theorem dX5_stands_20 : decode cX5_stands 20 = .ok (.iconst 1, 1) := by decide +kernel
theorem dX5_stands_21 : decode cX5_stands 21 = .ok (.invokestatic 65, 3) := by decide +kernel
theorem dX5_stands_24 : decode cX5_stands 24 = .ok (.ifCond .ne 9, 3) := by decide +kernel
theorem dX5_stands_27 : decode cX5_stands 27 = .ok (.aload_n 0, 1) := by decide +kernel
theorem dX5_stands_28 : decode cX5_stands 28 = .ok (.iconst 0, 1) := by decide +kernel
theorem dX5_stands_29 : decode cX5_stands 29 = .ok (.invokevirtual 49, 3) := by decide +kernel
theorem dX5_stands_32 : decode cX5_stands 32 = .ok (.ireturn, 1) := by decide +kernel
theorem dX5_stands_33 : decode cX5_stands 33 = .ok (.aload_n 0, 1) := by decide +kernel
theorem dX5_stands_34 : decode cX5_stands 34 = .ok (.getfield 33, 3) := by decide +kernel
theorem dX5_stands_37 : decode cX5_stands 37 = .ok (.iload_n 1, 1) := by decide +kernel
theorem dX5_stands_38 : decode cX5_stands 38 = .ok (.aaload, 1) := by decide +kernel
theorem dX5_stands_39 : decode cX5_stands 39 = .ok (.iload_n 2, 1) := by decide +kernel
theorem dX5_stands_40 : decode cX5_stands 40 = .ok (.invokevirtual 219, 3) := by decide +kernel
theorem dX5_stands_43 : decode cX5_stands 43 = .ok (.ifCond .eq 9, 3) := by decide +kernel
theorem dX5_stands_46 : decode cX5_stands 46 = .ok (.aload_n 0, 1) := by decide +kernel
theorem dX5_stands_47 : decode cX5_stands 47 = .ok (.iconst 5, 1) := by decide +kernel
theorem dX5_stands_48 : decode cX5_stands 48 = .ok (.invokevirtual 49, 3) := by decide +kernel
theorem dX5_stands_51 : decode cX5_stands 51 = .ok (.ireturn, 1) := by decide +kernel
theorem dX5_stands_52 : decode cX5_stands 52 = .ok (.iload_n 3, 1) := by decide +kernel
theorem dX5_stands_53 : decode cX5_stands 53 = .ok (.ifCond .ne 17, 3) := by decide +kernel
theorem dX5_stands_56 : decode cX5_stands 56 = .ok (.aload_n 0, 1) := by decide +kernel
theorem dX5_stands_57 : decode cX5_stands 57 = .ok (.getfield 33, 3) := by decide +kernel
theorem dX5_stands_60 : decode cX5_stands 60 = .ok (.iload_n 1, 1) := by decide +kernel
theorem dX5_stands_61 : decode cX5_stands 61 = .ok (.aaload, 1) := by decide +kernel
theorem dX5_stands_62 : decode cX5_stands 62 = .ok (.getfield 213, 3) := by decide +kernel
theorem dX5_stands_65 : decode cX5_stands 65 = .ok (.iload_n 2, 1) := by decide +kernel
theorem dX5_stands_66 : decode cX5_stands 66 = .ok (.iaload, 1) := by decide +kernel
theorem dX5_stands_67 : decode cX5_stands 67 = .ok (.goto 14, 3) := by decide +kernel
theorem dX5_stands_70 : decode cX5_stands 70 = .ok (.aload_n 0, 1) := by decide +kernel
theorem dX5_stands_71 : decode cX5_stands 71 = .ok (.getfield 33, 3) := by decide +kernel
theorem dX5_stands_74 : decode cX5_stands 74 = .ok (.iload_n 1, 1) := by decide +kernel
theorem dX5_stands_75 : decode cX5_stands 75 = .ok (.aaload, 1) := by decide +kernel
theorem dX5_stands_76 : decode cX5_stands 76 = .ok (.getfield 216, 3) := by decide +kernel
theorem dX5_stands_79 : decode cX5_stands 79 = .ok (.iload_n 2, 1) := by decide +kernel
theorem dX5_stands_80 : decode cX5_stands 80 = .ok (.iaload, 1) := by decide +kernel
theorem dX5_stands_81 : decode cX5_stands 81 = .ok (.ireturn, 1) := by decide +kernel
theorem dX5_moves_0 : decode cX5_moves 0 = .ok (.iload_n 1, 1) := by decide +kernel
theorem dX5_moves_1 : decode cX5_moves 1 = .ok (.iconst 0, 1) := by decide +kernel
theorem dX5_moves_2 : decode cX5_moves 2 = .ok (.iconst 3, 1) := by decide +kernel
theorem dX5_moves_3 : decode cX5_moves 3 = .ok (.invokestatic 65, 3) := by decide +kernel
theorem dX5_moves_6 : decode cX5_moves 6 = .ok (.ifCond .eq 12, 3) := by decide +kernel
theorem dX5_moves_9 : decode cX5_moves 9 = .ok (.iload_n 2, 1) := by decide +kernel
theorem dX5_moves_10 : decode cX5_moves 10 = .ok (.iconst 0, 1) := by decide +kernel
theorem dX5_moves_11 : decode cX5_moves 11 = .ok (.iconst 3, 1) := by decide +kernel
theorem dX5_moves_12 : decode cX5_moves 12 = .ok (.invokestatic 65, 3) := by decide +kernel
theorem dX5_moves_15 : decode cX5_moves 15 = .ok (.ifCond .ne 9, 3) := by decide +kernel
theorem dX5_moves_18 : decode cX5_moves 18 = .ok (.aload_n 0, 1) := by decide +kernel
theorem dX5_moves_19 : decode cX5_moves 19 = .ok (.iconst 0, 1) := by decide +kernel
theorem dX5_moves_20 : decode cX5_moves 20 = .ok (.invokevirtual 49, 3) := by decide +kernel
theorem dX5_moves_23 : decode cX5_moves 23 = .ok (.ireturn, 1) := by decide +kernel
theorem dX5_moves_24 : decode cX5_moves 24 = .ok (.aload_n 0, 1) := by decide +kernel
theorem dX5_moves_25 : decode cX5_moves 25 = .ok (.getfield 33, 3) := by decide +kernel
theorem dX5_moves_28 : decode cX5_moves 28 = .ok (.iload_n 2, 1) := by decide +kernel
theorem dX5_moves_29 : decode cX5_moves 29 = .ok (.aaload, 1) := by decide +kernel
theorem dX5_moves_30 : decode cX5_moves 30 = .ok (.aload_n 0, 1) := by decide +kernel
theorem dX5_moves_31 : decode cX5_moves 31 = .ok (.getfield 33, 3) := by decide +kernel
theorem dX5_moves_34 : decode cX5_moves 34 = .ok (.iload_n 1, 1) := by decide +kernel
theorem dX5_moves_35 : decode cX5_moves 35 = .ok (.aaload, 1) := by decide +kernel
theorem dX5_moves_36 : decode cX5_moves 36 = .ok (.invokevirtual 222, 3) := by decide +kernel
theorem dX5_moves_39 : decode cX5_moves 39 = .ok (.ireturn, 1) := by decide +kernel
theorem dX5_sheet_0 : decode cX5_sheet 0 = .ok (.iload_n 1, 1) := by decide +kernel
theorem dX5_sheet_1 : decode cX5_sheet 1 = .ok (.invokestatic 226, 3) := by decide +kernel
theorem dX5_sheet_4 : decode cX5_sheet 4 = .ok (.ifCond .eq 12, 3) := by decide +kernel
theorem dX5_sheet_7 : decode cX5_sheet 7 = .ok (.iload_n 2, 1) := by decide +kernel
theorem dX5_sheet_8 : decode cX5_sheet 8 = .ok (.iconst (-1), 1) := by decide +kernel
theorem dX5_sheet_9 : decode cX5_sheet 9 = .ok (.iconst 2, 1) := by decide +kernel
theorem dX5_sheet_10 : decode cX5_sheet 10 = .ok (.invokestatic 65, 3) := by decide +kernel
theorem dX5_sheet_13 : decode cX5_sheet 13 = .ok (.ifCond .ne 9, 3) := by decide +kernel
theorem dX5_sheet_16 : decode cX5_sheet 16 = .ok (.aload_n 0, 1) := by decide +kernel
theorem dX5_sheet_17 : decode cX5_sheet 17 = .ok (.iconst 0, 1) := by decide +kernel
theorem dX5_sheet_18 : decode cX5_sheet 18 = .ok (.invokevirtual 49, 3) := by decide +kernel
theorem dX5_sheet_21 : decode cX5_sheet 21 = .ok (.ireturn, 1) := by decide +kernel
theorem dX5_sheet_22 : decode cX5_sheet 22 = .ok (.iload_n 2, 1) := by decide +kernel
theorem dX5_sheet_23 : decode cX5_sheet 23 = .ok (.iconst (-1), 1) := by decide +kernel
theorem dX5_sheet_24 : decode cX5_sheet 24 = .ok (.if_icmp .ne 16, 3) := by decide +kernel
theorem dX5_sheet_27 : decode cX5_sheet 27 = .ok (.aload_n 0, 1) := by decide +kernel
theorem dX5_sheet_28 : decode cX5_sheet 28 = .ok (.getfield 39, 3) := by decide +kernel
theorem dX5_sheet_31 : decode cX5_sheet 31 = .ok (.iload_n 1, 1) := by decide +kernel
theorem dX5_sheet_32 : decode cX5_sheet 32 = .ok (.aaload, 1) := by decide +kernel
theorem dX5_sheet_33 : decode cX5_sheet 33 = .ok (.iconst (-1), 1) := by decide +kernel
theorem dX5_sheet_34 : decode cX5_sheet 34 = .ok (.iconst 0, 1) := by decide +kernel
theorem dX5_sheet_35 : decode cX5_sheet 35 = .ok (.invokevirtual 229, 3) := by decide +kernel
theorem dX5_sheet_38 : decode cX5_sheet 38 = .ok (.iconst 0, 1) := by decide +kernel
theorem dX5_sheet_39 : decode cX5_sheet 39 = .ok (.ireturn, 1) := by decide +kernel
theorem dX5_sheet_40 : decode cX5_sheet 40 = .ok (.iload_n 3, 1) := by decide +kernel
theorem dX5_sheet_41 : decode cX5_sheet 41 = .ok (.ifCond .ge 10, 3) := by decide +kernel
theorem dX5_sheet_44 : decode cX5_sheet 44 = .ok (.aload_n 0, 1) := by decide +kernel
theorem dX5_sheet_45 : decode cX5_sheet 45 = .ok (.bipush 6, 2) := by decide +kernel
theorem dX5_sheet_47 : decode cX5_sheet 47 = .ok (.invokevirtual 49, 3) := by decide +kernel
theorem dX5_sheet_50 : decode cX5_sheet 50 = .ok (.ireturn, 1) := by decide +kernel
theorem dX5_sheet_51 : decode cX5_sheet 51 = .ok (.iload_n 3, 1) := by decide +kernel
theorem dX5_sheet_52 : decode cX5_sheet 52 = .ok (.bipush 40, 2) := by decide +kernel
theorem dX5_sheet_54 : decode cX5_sheet 54 = .ok (.if_icmp .le 9, 3) := by decide +kernel
theorem dX5_sheet_57 : decode cX5_sheet 57 = .ok (.aload_n 0, 1) := by decide +kernel
theorem dX5_sheet_58 : decode cX5_sheet 58 = .ok (.iconst 0, 1) := by decide +kernel
theorem dX5_sheet_59 : decode cX5_sheet 59 = .ok (.invokevirtual 49, 3) := by decide +kernel
theorem dX5_sheet_62 : decode cX5_sheet 62 = .ok (.ireturn, 1) := by decide +kernel
theorem dX5_sheet_63 : decode cX5_sheet 63 = .ok (.aload_n 0, 1) := by decide +kernel
theorem dX5_sheet_64 : decode cX5_sheet 64 = .ok (.getfield 39, 3) := by decide +kernel
theorem dX5_sheet_67 : decode cX5_sheet 67 = .ok (.iload_n 1, 1) := by decide +kernel
theorem dX5_sheet_68 : decode cX5_sheet 68 = .ok (.aaload, 1) := by decide +kernel
theorem dX5_sheet_69 : decode cX5_sheet 69 = .ok (.iload_n 2, 1) := by decide +kernel
theorem dX5_sheet_70 : decode cX5_sheet 70 = .ok (.iload_n 3, 1) := by decide +kernel
theorem dX5_sheet_71 : decode cX5_sheet 71 = .ok (.invokevirtual 229, 3) := by decide +kernel
theorem dX5_sheet_74 : decode cX5_sheet 74 = .ok (.iload_n 3, 1) := by decide +kernel
theorem dX5_sheet_75 : decode cX5_sheet 75 = .ok (.ireturn, 1) := by decide +kernel
theorem dX5_write_0 : decode cX5_write 0 = .ok (.iload_n 1, 1) := by decide +kernel
theorem dX5_write_1 : decode cX5_write 1 = .ok (.invokestatic 226, 3) := by decide +kernel
theorem dX5_write_4 : decode cX5_write 4 = .ok (.ifCond .ne 9, 3) := by decide +kernel
theorem dX5_write_7 : decode cX5_write 7 = .ok (.aload_n 0, 1) := by decide +kernel
theorem dX5_write_8 : decode cX5_write 8 = .ok (.iconst 0, 1) := by decide +kernel
theorem dX5_write_9 : decode cX5_write 9 = .ok (.invokevirtual 49, 3) := by decide +kernel
theorem dX5_write_12 : decode cX5_write 12 = .ok (.ireturn, 1) := by decide +kernel
theorem dX5_write_13 : decode cX5_write 13 = .ok (.aload_n 0, 1) := by decide +kernel
theorem dX5_write_14 : decode cX5_write 14 = .ok (.getfield 39, 3) := by decide +kernel
theorem dX5_write_17 : decode cX5_write 17 = .ok (.iload_n 1, 1) := by decide +kernel
theorem dX5_write_18 : decode cX5_write 18 = .ok (.aaload, 1) := by decide +kernel
theorem dX5_write_19 : decode cX5_write 19 = .ok (.invokevirtual 233, 3) := by decide +kernel
theorem dX5_write_22 : decode cX5_write 22 = .ok (.ifCond .eq 9, 3) := by decide +kernel
theorem dX5_write_25 : decode cX5_write 25 = .ok (.aload_n 0, 1) := by decide +kernel
theorem dX5_write_26 : decode cX5_write 26 = .ok (.iconst 5, 1) := by decide +kernel
theorem dX5_write_27 : decode cX5_write 27 = .ok (.invokevirtual 49, 3) := by decide +kernel
theorem dX5_write_30 : decode cX5_write 30 = .ok (.ireturn, 1) := by decide +kernel
theorem dX5_write_31 : decode cX5_write 31 = .ok (.aload_n 0, 1) := by decide +kernel
theorem dX5_write_32 : decode cX5_write 32 = .ok (.getfield 39, 3) := by decide +kernel
theorem dX5_write_35 : decode cX5_write 35 = .ok (.iload_n 1, 1) := by decide +kernel
theorem dX5_write_36 : decode cX5_write 36 = .ok (.aaload, 1) := by decide +kernel
theorem dX5_write_37 : decode cX5_write 37 = .ok (.iload_n 2, 1) := by decide +kernel
theorem dX5_write_38 : decode cX5_write 38 = .ok (.invokevirtual 236, 3) := by decide +kernel
theorem dX5_write_41 : decode cX5_write 41 = .ok (.ifCond .ne 9, 3) := by decide +kernel
theorem dX5_write_44 : decode cX5_write 44 = .ok (.aload_n 0, 1) := by decide +kernel
theorem dX5_write_45 : decode cX5_write 45 = .ok (.iconst 0, 1) := by decide +kernel
theorem dX5_write_46 : decode cX5_write 46 = .ok (.invokevirtual 49, 3) := by decide +kernel
theorem dX5_write_49 : decode cX5_write 49 = .ok (.ireturn, 1) := by decide +kernel
theorem dX5_write_50 : decode cX5_write 50 = .ok (.aload_n 0, 1) := by decide +kernel
theorem dX5_write_51 : decode cX5_write 51 = .ok (.getfield 39, 3) := by decide +kernel
theorem dX5_write_54 : decode cX5_write 54 = .ok (.iload_n 1, 1) := by decide +kernel
theorem dX5_write_55 : decode cX5_write 55 = .ok (.aaload, 1) := by decide +kernel
theorem dX5_write_56 : decode cX5_write 56 = .ok (.iload_n 2, 1) := by decide +kernel
theorem dX5_write_57 : decode cX5_write 57 = .ok (.aload_n 0, 1) := by decide +kernel
theorem dX5_write_58 : decode cX5_write 58 = .ok (.getfield 39, 3) := by decide +kernel
theorem dX5_write_61 : decode cX5_write 61 = .ok (.iload_n 1, 1) := by decide +kernel
theorem dX5_write_62 : decode cX5_write 62 = .ok (.aaload, 1) := by decide +kernel
theorem dX5_write_63 : decode cX5_write 63 = .ok (.iload_n 3, 1) := by decide +kernel
theorem dX5_write_64 : decode cX5_write 64 = .ok (.invokevirtual 237, 3) := by decide +kernel
theorem dX5_write_67 : decode cX5_write 67 = .ok (.invokevirtual 240, 3) := by decide +kernel
theorem dX5_write_70 : decode cX5_write 70 = .ok (.iconst 1, 1) := by decide +kernel
theorem dX5_write_71 : decode cX5_write 71 = .ok (.ireturn, 1) := by decide +kernel
theorem dX5_item_0 : decode cX5_item 0 = .ok (.iload_n 1, 1) := by decide +kernel
theorem dX5_item_1 : decode cX5_item 1 = .ok (.invokestatic 226, 3) := by decide +kernel
theorem dX5_item_4 : decode cX5_item 4 = .ok (.ifCond .ne 9, 3) := by decide +kernel
theorem dX5_item_7 : decode cX5_item 7 = .ok (.aload_n 0, 1) := by decide +kernel
theorem dX5_item_8 : decode cX5_item 8 = .ok (.iconst 0, 1) := by decide +kernel
theorem dX5_item_9 : decode cX5_item 9 = .ok (.invokevirtual 88, 3) := by decide +kernel
theorem dX5_item_12 : decode cX5_item 12 = .ok (.lreturn, 1) := by decide +kernel
theorem dX5_item_13 : decode cX5_item 13 = .ok (.aload_n 0, 1) := by decide +kernel
theorem dX5_item_14 : decode cX5_item 14 = .ok (.getfield 39, 3) := by decide +kernel
theorem dX5_item_17 : decode cX5_item 17 = .ok (.iload_n 1, 1) := by decide +kernel
theorem dX5_item_18 : decode cX5_item 18 = .ok (.aaload, 1) := by decide +kernel
theorem dX5_item_19 : decode cX5_item 19 = .ok (.invokevirtual 233, 3) := by decide +kernel
theorem dX5_item_22 : decode cX5_item 22 = .ok (.ifCond .eq 9, 3) := by decide +kernel
theorem dX5_item_25 : decode cX5_item 25 = .ok (.aload_n 0, 1) := by decide +kernel
theorem dX5_item_26 : decode cX5_item 26 = .ok (.iconst 5, 1) := by decide +kernel
theorem dX5_item_27 : decode cX5_item 27 = .ok (.invokevirtual 88, 3) := by decide +kernel
theorem dX5_item_30 : decode cX5_item 30 = .ok (.lreturn, 1) := by decide +kernel
theorem dX5_item_31 : decode cX5_item 31 = .ok (.aload_n 0, 1) := by decide +kernel
theorem dX5_item_32 : decode cX5_item 32 = .ok (.getfield 39, 3) := by decide +kernel
theorem dX5_item_35 : decode cX5_item 35 = .ok (.iload_n 1, 1) := by decide +kernel
theorem dX5_item_36 : decode cX5_item 36 = .ok (.aaload, 1) := by decide +kernel
theorem dX5_item_37 : decode cX5_item 37 = .ok (.iload_n 2, 1) := by decide +kernel
theorem dX5_item_38 : decode cX5_item 38 = .ok (.invokevirtual 236, 3) := by decide +kernel
theorem dX5_item_41 : decode cX5_item 41 = .ok (.ifCond .ne 9, 3) := by decide +kernel
theorem dX5_item_44 : decode cX5_item 44 = .ok (.aload_n 0, 1) := by decide +kernel
theorem dX5_item_45 : decode cX5_item 45 = .ok (.iconst 0, 1) := by decide +kernel
theorem dX5_item_46 : decode cX5_item 46 = .ok (.invokevirtual 88, 3) := by decide +kernel
theorem dX5_item_49 : decode cX5_item 49 = .ok (.lreturn, 1) := by decide +kernel
theorem dX5_item_50 : decode cX5_item 50 = .ok (.aload_n 0, 1) := by decide +kernel
theorem dX5_item_51 : decode cX5_item 51 = .ok (.getfield 39, 3) := by decide +kernel
theorem dX5_item_54 : decode cX5_item 54 = .ok (.iload_n 1, 1) := by decide +kernel
theorem dX5_item_55 : decode cX5_item 55 = .ok (.aaload, 1) := by decide +kernel
theorem dX5_item_56 : decode cX5_item 56 = .ok (.iload_n 2, 1) := by decide +kernel
theorem dX5_item_57 : decode cX5_item 57 = .ok (.invokevirtual 244, 3) := by decide +kernel
theorem dX5_item_60 : decode cX5_item 60 = .ok (.lreturn, 1) := by decide +kernel
theorem dX5_copy_0 : decode cX5_copy 0 = .ok (.iload_n 1, 1) := by decide +kernel
theorem dX5_copy_1 : decode cX5_copy 1 = .ok (.invokestatic 226, 3) := by decide +kernel
theorem dX5_copy_4 : decode cX5_copy 4 = .ok (.ifCond .eq 10, 3) := by decide +kernel
theorem dX5_copy_7 : decode cX5_copy 7 = .ok (.iload_n 3, 1) := by decide +kernel
theorem dX5_copy_8 : decode cX5_copy 8 = .ok (.invokestatic 226, 3) := by decide +kernel
theorem dX5_copy_11 : decode cX5_copy 11 = .ok (.ifCond .ne 9, 3) := by decide +kernel
theorem dX5_copy_14 : decode cX5_copy 14 = .ok (.aload_n 0, 1) := by decide +kernel
theorem dX5_copy_15 : decode cX5_copy 15 = .ok (.iconst 0, 1) := by decide +kernel
theorem dX5_copy_16 : decode cX5_copy 16 = .ok (.invokevirtual 49, 3) := by decide +kernel
theorem dX5_copy_19 : decode cX5_copy 19 = .ok (.ireturn, 1) := by decide +kernel
theorem dX5_copy_20 : decode cX5_copy 20 = .ok (.aload_n 0, 1) := by decide +kernel
theorem dX5_copy_21 : decode cX5_copy 21 = .ok (.getfield 39, 3) := by decide +kernel
theorem dX5_copy_24 : decode cX5_copy 24 = .ok (.iload_n 1, 1) := by decide +kernel
theorem dX5_copy_25 : decode cX5_copy 25 = .ok (.aaload, 1) := by decide +kernel
theorem dX5_copy_26 : decode cX5_copy 26 = .ok (.invokevirtual 233, 3) := by decide +kernel
theorem dX5_copy_29 : decode cX5_copy 29 = .ok (.ifCond .ne 15, 3) := by decide +kernel
theorem dX5_copy_32 : decode cX5_copy 32 = .ok (.aload_n 0, 1) := by decide +kernel
theorem dX5_copy_33 : decode cX5_copy 33 = .ok (.getfield 39, 3) := by decide +kernel
theorem dX5_copy_36 : decode cX5_copy 36 = .ok (.iload_n 3, 1) := by decide +kernel
theorem dX5_copy_37 : decode cX5_copy 37 = .ok (.aaload, 1) := by decide +kernel
theorem dX5_copy_38 : decode cX5_copy 38 = .ok (.invokevirtual 233, 3) := by decide +kernel
theorem dX5_copy_41 : decode cX5_copy 41 = .ok (.ifCond .eq 9, 3) := by decide +kernel
theorem dX5_copy_44 : decode cX5_copy 44 = .ok (.aload_n 0, 1) := by decide +kernel
theorem dX5_copy_45 : decode cX5_copy 45 = .ok (.iconst 5, 1) := by decide +kernel
theorem dX5_copy_46 : decode cX5_copy 46 = .ok (.invokevirtual 49, 3) := by decide +kernel
theorem dX5_copy_49 : decode cX5_copy 49 = .ok (.ireturn, 1) := by decide +kernel
theorem dX5_copy_50 : decode cX5_copy 50 = .ok (.aload_n 0, 1) := by decide +kernel
theorem dX5_copy_51 : decode cX5_copy 51 = .ok (.getfield 39, 3) := by decide +kernel
theorem dX5_copy_54 : decode cX5_copy 54 = .ok (.iload_n 1, 1) := by decide +kernel
theorem dX5_copy_55 : decode cX5_copy 55 = .ok (.aaload, 1) := by decide +kernel
theorem dX5_copy_56 : decode cX5_copy 56 = .ok (.getfield 247, 3) := by decide +kernel
theorem dX5_copy_59 : decode cX5_copy 59 = .ok (.aload_n 0, 1) := by decide +kernel
theorem dX5_copy_60 : decode cX5_copy 60 = .ok (.getfield 39, 3) := by decide +kernel
theorem dX5_copy_63 : decode cX5_copy 63 = .ok (.iload_n 3, 1) := by decide +kernel
theorem dX5_copy_64 : decode cX5_copy 64 = .ok (.aaload, 1) := by decide +kernel
theorem dX5_copy_65 : decode cX5_copy 65 = .ok (.getfield 247, 3) := by decide +kernel
theorem dX5_copy_68 : decode cX5_copy 68 = .ok (.if_icmp .eq 9, 3) := by decide +kernel
theorem dX5_copy_71 : decode cX5_copy 71 = .ok (.aload_n 0, 1) := by decide +kernel
theorem dX5_copy_72 : decode cX5_copy 72 = .ok (.iconst 2, 1) := by decide +kernel
theorem dX5_copy_73 : decode cX5_copy 73 = .ok (.invokevirtual 49, 3) := by decide +kernel
theorem dX5_copy_76 : decode cX5_copy 76 = .ok (.ireturn, 1) := by decide +kernel
theorem dX5_copy_77 : decode cX5_copy 77 = .ok (.aload_n 0, 1) := by decide +kernel
theorem dX5_copy_78 : decode cX5_copy 78 = .ok (.getfield 39, 3) := by decide +kernel
theorem dX5_copy_81 : decode cX5_copy 81 = .ok (.iload_n 1, 1) := by decide +kernel
theorem dX5_copy_82 : decode cX5_copy 82 = .ok (.aaload, 1) := by decide +kernel
theorem dX5_copy_83 : decode cX5_copy 83 = .ok (.iload_n 2, 1) := by decide +kernel
theorem dX5_copy_84 : decode cX5_copy 84 = .ok (.iload 5, 2) := by decide +kernel
theorem dX5_copy_86 : decode cX5_copy 86 = .ok (.invokevirtual 250, 3) := by decide +kernel
theorem dX5_copy_89 : decode cX5_copy 89 = .ok (.ifCond .eq 19, 3) := by decide +kernel
theorem dX5_copy_92 : decode cX5_copy 92 = .ok (.aload_n 0, 1) := by decide +kernel
theorem dX5_copy_93 : decode cX5_copy 93 = .ok (.getfield 39, 3) := by decide +kernel
theorem dX5_copy_96 : decode cX5_copy 96 = .ok (.iload_n 3, 1) := by decide +kernel
theorem dX5_copy_97 : decode cX5_copy 97 = .ok (.aaload, 1) := by decide +kernel
theorem dX5_copy_98 : decode cX5_copy 98 = .ok (.iload 4, 2) := by decide +kernel
theorem dX5_copy_100 : decode cX5_copy 100 = .ok (.iload 5, 2) := by decide +kernel
theorem dX5_copy_102 : decode cX5_copy 102 = .ok (.invokevirtual 250, 3) := by decide +kernel
theorem dX5_copy_105 : decode cX5_copy 105 = .ok (.ifCond .ne 9, 3) := by decide +kernel
theorem dX5_copy_108 : decode cX5_copy 108 = .ok (.aload_n 0, 1) := by decide +kernel
theorem dX5_copy_109 : decode cX5_copy 109 = .ok (.iconst 0, 1) := by decide +kernel
theorem dX5_copy_110 : decode cX5_copy 110 = .ok (.invokevirtual 49, 3) := by decide +kernel
theorem dX5_copy_113 : decode cX5_copy 113 = .ok (.ireturn, 1) := by decide +kernel
theorem dX5_copy_114 : decode cX5_copy 114 = .ok (.aload_n 0, 1) := by decide +kernel
theorem dX5_copy_115 : decode cX5_copy 115 = .ok (.getfield 39, 3) := by decide +kernel
theorem dX5_copy_118 : decode cX5_copy 118 = .ok (.iload_n 1, 1) := by decide +kernel
theorem dX5_copy_119 : decode cX5_copy 119 = .ok (.aaload, 1) := by decide +kernel
theorem dX5_copy_120 : decode cX5_copy 120 = .ok (.getfield 253, 3) := by decide +kernel
theorem dX5_copy_123 : decode cX5_copy 123 = .ok (.iload_n 2, 1) := by decide +kernel
theorem dX5_copy_124 : decode cX5_copy 124 = .ok (.aload_n 0, 1) := by decide +kernel
theorem dX5_copy_125 : decode cX5_copy 125 = .ok (.getfield 39, 3) := by decide +kernel
theorem dX5_copy_128 : decode cX5_copy 128 = .ok (.iload_n 3, 1) := by decide +kernel
theorem dX5_copy_129 : decode cX5_copy 129 = .ok (.aaload, 1) := by decide +kernel
theorem dX5_copy_130 : decode cX5_copy 130 = .ok (.getfield 253, 3) := by decide +kernel
theorem dX5_copy_133 : decode cX5_copy 133 = .ok (.iload 4, 2) := by decide +kernel
theorem dX5_copy_135 : decode cX5_copy 135 = .ok (.iload 5, 2) := by decide +kernel
theorem dX5_copy_137 : decode cX5_copy 137 = .ok (.invokestatic 257, 3) := by decide +kernel
theorem dX5_copy_140 : decode cX5_copy 140 = .ok (.iload 5, 2) := by decide +kernel
theorem dX5_copy_142 : decode cX5_copy 142 = .ok (.ireturn, 1) := by decide +kernel
theorem dX5_casts_0 : decode cX5_casts 0 = .ok (.iload_n 1, 1) := by decide +kernel
theorem dX5_casts_1 : decode cX5_casts 1 = .ok (.invokestatic 226, 3) := by decide +kernel
theorem dX5_casts_4 : decode cX5_casts 4 = .ok (.ifCond .eq 10, 3) := by decide +kernel
theorem dX5_casts_7 : decode cX5_casts 7 = .ok (.iload_n 2, 1) := by decide +kernel
theorem dX5_casts_8 : decode cX5_casts 8 = .ok (.invokestatic 226, 3) := by decide +kernel
theorem dX5_casts_11 : decode cX5_casts 11 = .ok (.ifCond .ne 9, 3) := by decide +kernel
theorem dX5_casts_14 : decode cX5_casts 14 = .ok (.aload_n 0, 1) := by decide +kernel
theorem dX5_casts_15 : decode cX5_casts 15 = .ok (.iconst 0, 1) := by decide +kernel
theorem dX5_casts_16 : decode cX5_casts 16 = .ok (.invokevirtual 49, 3) := by decide +kernel
theorem dX5_casts_19 : decode cX5_casts 19 = .ok (.ireturn, 1) := by decide +kernel
theorem dX5_casts_20 : decode cX5_casts 20 = .ok (.aload_n 0, 1) := by decide +kernel
theorem dX5_casts_21 : decode cX5_casts 21 = .ok (.getfield 39, 3) := by decide +kernel
theorem dX5_casts_24 : decode cX5_casts 24 = .ok (.iload_n 1, 1) := by decide +kernel
theorem dX5_casts_25 : decode cX5_casts 25 = .ok (.aaload, 1) := by decide +kernel
theorem dX5_casts_26 : decode cX5_casts 26 = .ok (.invokevirtual 233, 3) := by decide +kernel
theorem dX5_casts_29 : decode cX5_casts 29 = .ok (.ifCond .ne 15, 3) := by decide +kernel
theorem dX5_casts_32 : decode cX5_casts 32 = .ok (.aload_n 0, 1) := by decide +kernel
theorem dX5_casts_33 : decode cX5_casts 33 = .ok (.getfield 39, 3) := by decide +kernel
theorem dX5_casts_36 : decode cX5_casts 36 = .ok (.iload_n 2, 1) := by decide +kernel
theorem dX5_casts_37 : decode cX5_casts 37 = .ok (.aaload, 1) := by decide +kernel
theorem dX5_casts_38 : decode cX5_casts 38 = .ok (.invokevirtual 233, 3) := by decide +kernel
theorem dX5_casts_41 : decode cX5_casts 41 = .ok (.ifCond .eq 9, 3) := by decide +kernel
theorem dX5_casts_44 : decode cX5_casts 44 = .ok (.aload_n 0, 1) := by decide +kernel
theorem dX5_casts_45 : decode cX5_casts 45 = .ok (.iconst 5, 1) := by decide +kernel
theorem dX5_casts_46 : decode cX5_casts 46 = .ok (.invokevirtual 49, 3) := by decide +kernel
theorem dX5_casts_49 : decode cX5_casts 49 = .ok (.ireturn, 1) := by decide +kernel
theorem dX5_casts_50 : decode cX5_casts 50 = .ok (.aload_n 0, 1) := by decide +kernel
theorem dX5_casts_51 : decode cX5_casts 51 = .ok (.getfield 39, 3) := by decide +kernel
theorem dX5_casts_54 : decode cX5_casts 54 = .ok (.iload_n 1, 1) := by decide +kernel
theorem dX5_casts_55 : decode cX5_casts 55 = .ok (.aaload, 1) := by decide +kernel
theorem dX5_casts_56 : decode cX5_casts 56 = .ok (.getfield 263, 3) := by decide +kernel
theorem dX5_casts_59 : decode cX5_casts 59 = .ok (.aload_n 0, 1) := by decide +kernel
theorem dX5_casts_60 : decode cX5_casts 60 = .ok (.getfield 39, 3) := by decide +kernel
theorem dX5_casts_63 : decode cX5_casts 63 = .ok (.iload_n 2, 1) := by decide +kernel
theorem dX5_casts_64 : decode cX5_casts 64 = .ok (.aaload, 1) := by decide +kernel
theorem dX5_casts_65 : decode cX5_casts 65 = .ok (.getfield 263, 3) := by decide +kernel
theorem dX5_casts_68 : decode cX5_casts 68 = .ok (.invokestatic 266, 3) := by decide +kernel
theorem dX5_casts_71 : decode cX5_casts 71 = .ok (.istore_n 3, 1) := by decide +kernel
theorem dX5_casts_72 : decode cX5_casts 72 = .ok (.iconst 0, 1) := by decide +kernel
theorem dX5_casts_73 : decode cX5_casts 73 = .ok (.istore 4, 2) := by decide +kernel
theorem dX5_casts_75 : decode cX5_casts 75 = .ok (.iload 4, 2) := by decide +kernel
theorem dX5_casts_77 : decode cX5_casts 77 = .ok (.iload_n 3, 1) := by decide +kernel
theorem dX5_casts_78 : decode cX5_casts 78 = .ok (.if_icmp .ge 32, 3) := by decide +kernel
theorem dX5_casts_81 : decode cX5_casts 81 = .ok (.aload_n 0, 1) := by decide +kernel
theorem dX5_casts_82 : decode cX5_casts 82 = .ok (.getfield 39, 3) := by decide +kernel
theorem dX5_casts_85 : decode cX5_casts 85 = .ok (.iload_n 2, 1) := by decide +kernel
theorem dX5_casts_86 : decode cX5_casts 86 = .ok (.aaload, 1) := by decide +kernel
theorem dX5_casts_87 : decode cX5_casts 87 = .ok (.iload 4, 2) := by decide +kernel
theorem dX5_casts_89 : decode cX5_casts 89 = .ok (.aload_n 0, 1) := by decide +kernel
theorem dX5_casts_90 : decode cX5_casts 90 = .ok (.getfield 39, 3) := by decide +kernel
theorem dX5_casts_93 : decode cX5_casts 93 = .ok (.iload_n 1, 1) := by decide +kernel
theorem dX5_casts_94 : decode cX5_casts 94 = .ok (.aaload, 1) := by decide +kernel
theorem dX5_casts_95 : decode cX5_casts 95 = .ok (.getfield 253, 3) := by decide +kernel
theorem dX5_casts_98 : decode cX5_casts 98 = .ok (.iload 4, 2) := by decide +kernel
theorem dX5_casts_100 : decode cX5_casts 100 = .ok (.daload, 1) := by decide +kernel
theorem dX5_casts_101 : decode cX5_casts 101 = .ok (.invokevirtual 240, 3) := by decide +kernel
theorem dX5_casts_104 : decode cX5_casts 104 = .ok (.iinc 4 1, 3) := by decide +kernel
theorem dX5_casts_107 : decode cX5_casts 107 = .ok (.goto (-32), 3) := by decide +kernel
theorem dX5_casts_110 : decode cX5_casts 110 = .ok (.iload_n 3, 1) := by decide +kernel
theorem dX5_casts_111 : decode cX5_casts 111 = .ok (.ireturn, 1) := by decide +kernel
theorem dX5_table_0 : decode cX5_table 0 = .ok (.iload_n 1, 1) := by decide +kernel
theorem dX5_table_1 : decode cX5_table 1 = .ok (.invokestatic 226, 3) := by decide +kernel
theorem dX5_table_4 : decode cX5_table 4 = .ok (.ifCond .eq 29, 3) := by decide +kernel
theorem dX5_table_7 : decode cX5_table 7 = .ok (.aload_n 0, 1) := by decide +kernel
theorem dX5_table_8 : decode cX5_table 8 = .ok (.getfield 24, 3) := by decide +kernel
theorem dX5_table_11 : decode cX5_table 11 = .ok (.iload_n 2, 1) := by decide +kernel
theorem dX5_table_12 : decode cX5_table 12 = .ok (.invokevirtual 61, 3) := by decide +kernel
theorem dX5_table_15 : decode cX5_table 15 = .ok (.ifCond .eq 18, 3) := by decide +kernel
theorem dX5_table_18 : decode cX5_table 18 = .ok (.iload_n 3, 1) := by decide +kernel
theorem dX5_table_19 : decode cX5_table 19 = .ok (.invokestatic 85, 3) := by decide +kernel
theorem dX5_table_22 : decode cX5_table 22 = .ok (.ifCond .eq 11, 3) := by decide +kernel
theorem dX5_table_25 : decode cX5_table 25 = .ok (.iload 4, 2) := by decide +kernel
theorem dX5_table_27 : decode cX5_table 27 = .ok (.invokestatic 85, 3) := by decide +kernel
theorem dX5_table_30 : decode cX5_table 30 = .ok (.ifCond .ne 9, 3) := by decide +kernel
theorem dX5_table_33 : decode cX5_table 33 = .ok (.aload_n 0, 1) := by decide +kernel
theorem dX5_table_34 : decode cX5_table 34 = .ok (.iconst 0, 1) := by decide +kernel
theorem dX5_table_35 : decode cX5_table 35 = .ok (.invokevirtual 49, 3) := by decide +kernel
theorem dX5_table_38 : decode cX5_table 38 = .ok (.ireturn, 1) := by decide +kernel
theorem dX5_table_39 : decode cX5_table 39 = .ok (.aload_n 0, 1) := by decide +kernel
theorem dX5_table_40 : decode cX5_table 40 = .ok (.getfield 39, 3) := by decide +kernel
theorem dX5_table_43 : decode cX5_table 43 = .ok (.iload_n 1, 1) := by decide +kernel
theorem dX5_table_44 : decode cX5_table 44 = .ok (.aaload, 1) := by decide +kernel
theorem dX5_table_45 : decode cX5_table 45 = .ok (.invokevirtual 233, 3) := by decide +kernel
theorem dX5_table_48 : decode cX5_table 48 = .ok (.ifCond .eq 9, 3) := by decide +kernel
theorem dX5_table_51 : decode cX5_table 51 = .ok (.aload_n 0, 1) := by decide +kernel
theorem dX5_table_52 : decode cX5_table 52 = .ok (.iconst 5, 1) := by decide +kernel
theorem dX5_table_53 : decode cX5_table 53 = .ok (.invokevirtual 49, 3) := by decide +kernel
theorem dX5_table_56 : decode cX5_table 56 = .ok (.ireturn, 1) := by decide +kernel
theorem dX5_table_57 : decode cX5_table 57 = .ok (.iload_n 3, 1) := by decide +kernel
theorem dX5_table_58 : decode cX5_table 58 = .ok (.istore 5, 2) := by decide +kernel
theorem dX5_table_60 : decode cX5_table 60 = .ok (.iconst 0, 1) := by decide +kernel
theorem dX5_table_61 : decode cX5_table 61 = .ok (.istore 6, 2) := by decide +kernel
theorem dX5_table_63 : decode cX5_table 63 = .ok (.iload 6, 2) := by decide +kernel
theorem dX5_table_65 : decode cX5_table 65 = .ok (.aload_n 0, 1) := by decide +kernel
theorem dX5_table_66 : decode cX5_table 66 = .ok (.getfield 39, 3) := by decide +kernel
theorem dX5_table_69 : decode cX5_table 69 = .ok (.iload_n 1, 1) := by decide +kernel
theorem dX5_table_70 : decode cX5_table 70 = .ok (.aaload, 1) := by decide +kernel
theorem dX5_table_71 : decode cX5_table 71 = .ok (.getfield 263, 3) := by decide +kernel
theorem dX5_table_74 : decode cX5_table 74 = .ok (.if_icmp .ge 48, 3) := by decide +kernel
theorem dX5_table_77 : decode cX5_table 77 = .ok (.iload 5, 2) := by decide +kernel
theorem dX5_table_79 : decode cX5_table 79 = .ok (.invokestatic 85, 3) := by decide +kernel
theorem dX5_table_82 : decode cX5_table 82 = .ok (.ifCond .ne 6, 3) := by decide +kernel
theorem dX5_table_85 : decode cX5_table 85 = .ok (.iload 6, 2) := by decide +kernel
theorem dX5_table_87 : decode cX5_table 87 = .ok (.ireturn, 1) := by decide +kernel
theorem dX5_table_88 : decode cX5_table 88 = .ok (.aload_n 0, 1) := by decide +kernel
theorem dX5_table_89 : decode cX5_table 89 = .ok (.getfield 39, 3) := by decide +kernel
theorem dX5_table_92 : decode cX5_table 92 = .ok (.iload_n 1, 1) := by decide +kernel
theorem dX5_table_93 : decode cX5_table 93 = .ok (.aaload, 1) := by decide +kernel
theorem dX5_table_94 : decode cX5_table 94 = .ok (.iload 6, 2) := by decide +kernel
theorem dX5_table_96 : decode cX5_table 96 = .ok (.aload_n 0, 1) := by decide +kernel
theorem dX5_table_97 : decode cX5_table 97 = .ok (.getfield 24, 3) := by decide +kernel
theorem dX5_table_100 : decode cX5_table 100 = .ok (.iload_n 2, 1) := by decide +kernel
theorem dX5_table_101 : decode cX5_table 101 = .ok (.iload 5, 2) := by decide +kernel
theorem dX5_table_103 : decode cX5_table 103 = .ok (.invokevirtual 92, 3) := by decide +kernel
theorem dX5_table_106 : decode cX5_table 106 = .ok (.invokevirtual 240, 3) := by decide +kernel
theorem dX5_table_109 : decode cX5_table 109 = .ok (.iload 5, 2) := by decide +kernel
theorem dX5_table_111 : decode cX5_table 111 = .ok (.iload 4, 2) := by decide +kernel
theorem dX5_table_113 : decode cX5_table 113 = .ok (.iadd, 1) := by decide +kernel
theorem dX5_table_114 : decode cX5_table 114 = .ok (.istore 5, 2) := by decide +kernel
theorem dX5_table_116 : decode cX5_table 116 = .ok (.iinc 6 1, 3) := by decide +kernel
theorem dX5_table_119 : decode cX5_table 119 = .ok (.goto (-56), 3) := by decide +kernel
theorem dX5_table_122 : decode cX5_table 122 = .ok (.aload_n 0, 1) := by decide +kernel
theorem dX5_table_123 : decode cX5_table 123 = .ok (.getfield 39, 3) := by decide +kernel
theorem dX5_table_126 : decode cX5_table 126 = .ok (.iload_n 1, 1) := by decide +kernel
theorem dX5_table_127 : decode cX5_table 127 = .ok (.aaload, 1) := by decide +kernel
theorem dX5_table_128 : decode cX5_table 128 = .ok (.getfield 263, 3) := by decide +kernel
theorem dX5_table_131 : decode cX5_table 131 = .ok (.ireturn, 1) := by decide +kernel
theorem dX5_rests_0 : decode cX5_rests 0 = .ok (.iload_n 1, 1) := by decide +kernel
theorem dX5_rests_1 : decode cX5_rests 1 = .ok (.invokestatic 226, 3) := by decide +kernel
theorem dX5_rests_4 : decode cX5_rests 4 = .ok (.ifCond .eq 14, 3) := by decide +kernel
theorem dX5_rests_7 : decode cX5_rests 7 = .ok (.iload_n 2, 1) := by decide +kernel
theorem dX5_rests_8 : decode cX5_rests 8 = .ok (.iconst 1, 1) := by decide +kernel
theorem dX5_rests_9 : decode cX5_rests 9 = .ok (.sipush 800, 3) := by decide +kernel
theorem dX5_rests_12 : decode cX5_rests 12 = .ok (.invokestatic 65, 3) := by decide +kernel
theorem dX5_rests_15 : decode cX5_rests 15 = .ok (.ifCond .ne 9, 3) := by decide +kernel
theorem dX5_rests_18 : decode cX5_rests 18 = .ok (.aload_n 0, 1) := by decide +kernel
theorem dX5_rests_19 : decode cX5_rests 19 = .ok (.iconst 0, 1) := by decide +kernel
theorem dX5_rests_20 : decode cX5_rests 20 = .ok (.invokevirtual 49, 3) := by decide +kernel
theorem dX5_rests_23 : decode cX5_rests 23 = .ok (.ireturn, 1) := by decide +kernel
theorem dX5_rests_24 : decode cX5_rests 24 = .ok (.aload_n 0, 1) := by decide +kernel
theorem dX5_rests_25 : decode cX5_rests 25 = .ok (.getfield 39, 3) := by decide +kernel
theorem dX5_rests_28 : decode cX5_rests 28 = .ok (.iload_n 1, 1) := by decide +kernel
theorem dX5_rests_29 : decode cX5_rests 29 = .ok (.aaload, 1) := by decide +kernel
theorem dX5_rests_30 : decode cX5_rests 30 = .ok (.invokevirtual 233, 3) := by decide +kernel
theorem dX5_rests_33 : decode cX5_rests 33 = .ok (.ifCond .eq 9, 3) := by decide +kernel
theorem dX5_rests_36 : decode cX5_rests 36 = .ok (.aload_n 0, 1) := by decide +kernel
theorem dX5_rests_37 : decode cX5_rests 37 = .ok (.iconst 5, 1) := by decide +kernel
theorem dX5_rests_38 : decode cX5_rests 38 = .ok (.invokevirtual 49, 3) := by decide +kernel
theorem dX5_rests_41 : decode cX5_rests 41 = .ok (.ireturn, 1) := by decide +kernel
theorem dX5_rests_42 : decode cX5_rests 42 = .ok (.aload_n 0, 1) := by decide +kernel
theorem dX5_rests_43 : decode cX5_rests 43 = .ok (.getfield 39, 3) := by decide +kernel
theorem dX5_rests_46 : decode cX5_rests 46 = .ok (.iload_n 1, 1) := by decide +kernel
theorem dX5_rests_47 : decode cX5_rests 47 = .ok (.aaload, 1) := by decide +kernel
theorem dX5_rests_48 : decode cX5_rests 48 = .ok (.iload_n 2, 1) := by decide +kernel
theorem dX5_rests_49 : decode cX5_rests 49 = .ok (.invokevirtual 237, 3) := by decide +kernel
theorem dX5_rests_52 : decode cX5_rests 52 = .ok (.dstore_n 3, 1) := by decide +kernel
theorem dX5_rests_53 : decode cX5_rests 53 = .ok (.iconst 0, 1) := by decide +kernel
theorem dX5_rests_54 : decode cX5_rests 54 = .ok (.istore 5, 2) := by decide +kernel
theorem dX5_rests_56 : decode cX5_rests 56 = .ok (.iload 5, 2) := by decide +kernel
theorem dX5_rests_58 : decode cX5_rests 58 = .ok (.aload_n 0, 1) := by decide +kernel
theorem dX5_rests_59 : decode cX5_rests 59 = .ok (.getfield 39, 3) := by decide +kernel
theorem dX5_rests_62 : decode cX5_rests 62 = .ok (.iload_n 1, 1) := by decide +kernel
theorem dX5_rests_63 : decode cX5_rests 63 = .ok (.aaload, 1) := by decide +kernel
theorem dX5_rests_64 : decode cX5_rests 64 = .ok (.getfield 263, 3) := by decide +kernel
theorem dX5_rests_67 : decode cX5_rests 67 = .ok (.if_icmp .ge 36, 3) := by decide +kernel
theorem dX5_rests_70 : decode cX5_rests 70 = .ok (.aload_n 0, 1) := by decide +kernel
theorem dX5_rests_71 : decode cX5_rests 71 = .ok (.getfield 39, 3) := by decide +kernel
theorem dX5_rests_74 : decode cX5_rests 74 = .ok (.iload_n 1, 1) := by decide +kernel
theorem dX5_rests_75 : decode cX5_rests 75 = .ok (.aaload, 1) := by decide +kernel
theorem dX5_rests_76 : decode cX5_rests 76 = .ok (.iload 5, 2) := by decide +kernel
theorem dX5_rests_78 : decode cX5_rests 78 = .ok (.aload_n 0, 1) := by decide +kernel
theorem dX5_rests_79 : decode cX5_rests 79 = .ok (.getfield 39, 3) := by decide +kernel
theorem dX5_rests_82 : decode cX5_rests 82 = .ok (.iload_n 1, 1) := by decide +kernel
theorem dX5_rests_83 : decode cX5_rests 83 = .ok (.aaload, 1) := by decide +kernel
theorem dX5_rests_84 : decode cX5_rests 84 = .ok (.getfield 253, 3) := by decide +kernel
theorem dX5_rests_87 : decode cX5_rests 87 = .ok (.iload 5, 2) := by decide +kernel
theorem dX5_rests_89 : decode cX5_rests 89 = .ok (.daload, 1) := by decide +kernel
theorem dX5_rests_90 : decode cX5_rests 90 = .ok (.dload_n 3, 1) := by decide +kernel
theorem dX5_rests_91 : decode cX5_rests 91 = .ok (.invokestatic 271, 3) := by decide +kernel
theorem dX5_rests_94 : decode cX5_rests 94 = .ok (.invokevirtual 240, 3) := by decide +kernel
theorem dX5_rests_97 : decode cX5_rests 97 = .ok (.iinc 5 1, 3) := by decide +kernel
theorem dX5_rests_100 : decode cX5_rests 100 = .ok (.goto (-44), 3) := by decide +kernel
theorem dX5_rests_103 : decode cX5_rests 103 = .ok (.aload_n 0, 1) := by decide +kernel
theorem dX5_rests_104 : decode cX5_rests 104 = .ok (.getfield 39, 3) := by decide +kernel
theorem dX5_rests_107 : decode cX5_rests 107 = .ok (.iload_n 1, 1) := by decide +kernel
theorem dX5_rests_108 : decode cX5_rests 108 = .ok (.aaload, 1) := by decide +kernel
theorem dX5_rests_109 : decode cX5_rests 109 = .ok (.getfield 263, 3) := by decide +kernel
theorem dX5_rests_112 : decode cX5_rests 112 = .ok (.ireturn, 1) := by decide +kernel
theorem dX5_sum_0 : decode cX5_sum 0 = .ok (.iload_n 1, 1) := by decide +kernel
theorem dX5_sum_1 : decode cX5_sum 1 = .ok (.invokestatic 226, 3) := by decide +kernel
theorem dX5_sum_4 : decode cX5_sum 4 = .ok (.ifCond .ne 9, 3) := by decide +kernel
theorem dX5_sum_7 : decode cX5_sum 7 = .ok (.aload_n 0, 1) := by decide +kernel
theorem dX5_sum_8 : decode cX5_sum 8 = .ok (.iconst 0, 1) := by decide +kernel
theorem dX5_sum_9 : decode cX5_sum 9 = .ok (.invokevirtual 88, 3) := by decide +kernel
theorem dX5_sum_12 : decode cX5_sum 12 = .ok (.lreturn, 1) := by decide +kernel
theorem dX5_sum_13 : decode cX5_sum 13 = .ok (.aload_n 0, 1) := by decide +kernel
theorem dX5_sum_14 : decode cX5_sum 14 = .ok (.getfield 39, 3) := by decide +kernel
theorem dX5_sum_17 : decode cX5_sum 17 = .ok (.iload_n 1, 1) := by decide +kernel
theorem dX5_sum_18 : decode cX5_sum 18 = .ok (.aaload, 1) := by decide +kernel
theorem dX5_sum_19 : decode cX5_sum 19 = .ok (.invokevirtual 233, 3) := by decide +kernel
theorem dX5_sum_22 : decode cX5_sum 22 = .ok (.ifCond .eq 9, 3) := by decide +kernel
theorem dX5_sum_25 : decode cX5_sum 25 = .ok (.aload_n 0, 1) := by decide +kernel
theorem dX5_sum_26 : decode cX5_sum 26 = .ok (.iconst 5, 1) := by decide +kernel
theorem dX5_sum_27 : decode cX5_sum 27 = .ok (.invokevirtual 88, 3) := by decide +kernel
theorem dX5_sum_30 : decode cX5_sum 30 = .ok (.lreturn, 1) := by decide +kernel
theorem dX5_sum_31 : decode cX5_sum 31 = .ok (.dconst 0, 1) := by decide +kernel
theorem dX5_sum_32 : decode cX5_sum 32 = .ok (.dstore_n 2, 1) := by decide +kernel
theorem dX5_sum_33 : decode cX5_sum 33 = .ok (.iconst 0, 1) := by decide +kernel
theorem dX5_sum_34 : decode cX5_sum 34 = .ok (.istore 4, 2) := by decide +kernel
theorem dX5_sum_36 : decode cX5_sum 36 = .ok (.iload 4, 2) := by decide +kernel
theorem dX5_sum_38 : decode cX5_sum 38 = .ok (.aload_n 0, 1) := by decide +kernel
theorem dX5_sum_39 : decode cX5_sum 39 = .ok (.getfield 39, 3) := by decide +kernel
theorem dX5_sum_42 : decode cX5_sum 42 = .ok (.iload_n 1, 1) := by decide +kernel
theorem dX5_sum_43 : decode cX5_sum 43 = .ok (.aaload, 1) := by decide +kernel
theorem dX5_sum_44 : decode cX5_sum 44 = .ok (.getfield 263, 3) := by decide +kernel
theorem dX5_sum_47 : decode cX5_sum 47 = .ok (.if_icmp .ge 24, 3) := by decide +kernel
theorem dX5_sum_50 : decode cX5_sum 50 = .ok (.dload_n 2, 1) := by decide +kernel
theorem dX5_sum_51 : decode cX5_sum 51 = .ok (.aload_n 0, 1) := by decide +kernel
theorem dX5_sum_52 : decode cX5_sum 52 = .ok (.getfield 39, 3) := by decide +kernel
theorem dX5_sum_55 : decode cX5_sum 55 = .ok (.iload_n 1, 1) := by decide +kernel
theorem dX5_sum_56 : decode cX5_sum 56 = .ok (.aaload, 1) := by decide +kernel
theorem dX5_sum_57 : decode cX5_sum 57 = .ok (.getfield 253, 3) := by decide +kernel
theorem dX5_sum_60 : decode cX5_sum 60 = .ok (.iload 4, 2) := by decide +kernel
theorem dX5_sum_62 : decode cX5_sum 62 = .ok (.daload, 1) := by decide +kernel
theorem dX5_sum_63 : decode cX5_sum 63 = .ok (.dadd, 1) := by decide +kernel
theorem dX5_sum_64 : decode cX5_sum 64 = .ok (.dstore_n 2, 1) := by decide +kernel
theorem dX5_sum_65 : decode cX5_sum 65 = .ok (.iinc 4 1, 3) := by decide +kernel
theorem dX5_sum_68 : decode cX5_sum 68 = .ok (.goto (-32), 3) := by decide +kernel
theorem dX5_sum_71 : decode cX5_sum 71 = .ok (.dload_n 2, 1) := by decide +kernel
theorem dX5_sum_72 : decode cX5_sum 72 = .ok (.invokestatic 96, 3) := by decide +kernel
theorem dX5_sum_75 : decode cX5_sum 75 = .ok (.lreturn, 1) := by decide +kernel
theorem dX5_image_0 : decode cX5_image 0 = .ok (.aload_n 0, 1) := by decide +kernel
theorem dX5_image_1 : decode cX5_image 1 = .ok (.getfield 28, 3) := by decide +kernel
theorem dX5_image_4 : decode cX5_image 4 = .ok (.aload_n 0, 1) := by decide +kernel
theorem dX5_image_5 : decode cX5_image 5 = .ok (.getfield 24, 3) := by decide +kernel
theorem dX5_image_8 : decode cX5_image 8 = .ok (.invokevirtual 275, 3) := by decide +kernel
theorem dX5_image_11 : decode cX5_image 11 = .ok (.aload_n 0, 1) := by decide +kernel
theorem dX5_image_12 : decode cX5_image 12 = .ok (.iconst 1, 1) := by decide +kernel
theorem dX5_image_13 : decode cX5_image 13 = .ok (.putfield 278, 3) := by decide +kernel
theorem dX5_image_16 : decode cX5_image 16 = .ok (.iconst 1, 1) := by decide +kernel
theorem dX5_image_17 : decode cX5_image 17 = .ok (.ireturn, 1) := by decide +kernel
theorem dX5_back_0 : decode cX5_back 0 = .ok (.aload_n 0, 1) := by decide +kernel
theorem dX5_back_1 : decode cX5_back 1 = .ok (.getfield 278, 3) := by decide +kernel
theorem dX5_back_4 : decode cX5_back 4 = .ok (.ifCond .ne 9, 3) := by decide +kernel
theorem dX5_back_7 : decode cX5_back 7 = .ok (.aload_n 0, 1) := by decide +kernel
theorem dX5_back_8 : decode cX5_back 8 = .ok (.iconst 3, 1) := by decide +kernel
theorem dX5_back_9 : decode cX5_back 9 = .ok (.invokevirtual 49, 3) := by decide +kernel
theorem dX5_back_12 : decode cX5_back 12 = .ok (.ireturn, 1) := by decide +kernel
theorem dX5_back_13 : decode cX5_back 13 = .ok (.aload_n 0, 1) := by decide +kernel
theorem dX5_back_14 : decode cX5_back 14 = .ok (.getfield 24, 3) := by decide +kernel
theorem dX5_back_17 : decode cX5_back 17 = .ok (.aload_n 0, 1) := by decide +kernel
theorem dX5_back_18 : decode cX5_back 18 = .ok (.getfield 28, 3) := by decide +kernel
theorem dX5_back_21 : decode cX5_back 21 = .ok (.invokevirtual 275, 3) := by decide +kernel
theorem dX5_back_24 : decode cX5_back 24 = .ok (.aload_n 0, 1) := by decide +kernel
theorem dX5_back_25 : decode cX5_back 25 = .ok (.getfield 24, 3) := by decide +kernel
theorem dX5_back_28 : decode cX5_back 28 = .ok (.getfield 53, 3) := by decide +kernel
theorem dX5_back_31 : decode cX5_back 31 = .ok (.ireturn, 1) := by decide +kernel
theorem dX5_count_0 : decode cX5_count 0 = .ok (.iload_n 1, 1) := by decide +kernel
theorem dX5_count_1 : decode cX5_count 1 = .ok (.tableswitch 87 0 5 #[39, 47, 55, 65, 74, 82], 39) := by decide +kernel
theorem dX5_count_40 : decode cX5_count 40 = .ok (.aload_n 0, 1) := by decide +kernel
theorem dX5_count_41 : decode cX5_count 41 = .ok (.getfield 24, 3) := by decide +kernel
theorem dX5_count_44 : decode cX5_count 44 = .ok (.getfield 53, 3) := by decide +kernel
theorem dX5_count_47 : decode cX5_count 47 = .ok (.ireturn, 1) := by decide +kernel
theorem dX5_count_48 : decode cX5_count 48 = .ok (.aload_n 0, 1) := by decide +kernel
theorem dX5_count_49 : decode cX5_count 49 = .ok (.getfield 24, 3) := by decide +kernel
theorem dX5_count_52 : decode cX5_count 52 = .ok (.invokevirtual 282, 3) := by decide +kernel
theorem dX5_count_55 : decode cX5_count 55 = .ok (.ireturn, 1) := by decide +kernel
theorem dX5_count_56 : decode cX5_count 56 = .ok (.aload_n 0, 1) := by decide +kernel
theorem dX5_count_57 : decode cX5_count 57 = .ok (.getfield 24, 3) := by decide +kernel
theorem dX5_count_60 : decode cX5_count 60 = .ok (.bipush 6, 2) := by decide +kernel
theorem dX5_count_62 : decode cX5_count 62 = .ok (.invokevirtual 285, 3) := by decide +kernel
theorem dX5_count_65 : decode cX5_count 65 = .ok (.ireturn, 1) := by decide +kernel
theorem dX5_count_66 : decode cX5_count 66 = .ok (.aload_n 0, 1) := by decide +kernel
theorem dX5_count_67 : decode cX5_count 67 = .ok (.getfield 24, 3) := by decide +kernel
theorem dX5_count_70 : decode cX5_count 70 = .ok (.iconst 2, 1) := by decide +kernel
theorem dX5_count_71 : decode cX5_count 71 = .ok (.invokevirtual 285, 3) := by decide +kernel
theorem dX5_count_74 : decode cX5_count 74 = .ok (.ireturn, 1) := by decide +kernel
theorem dX5_count_75 : decode cX5_count 75 = .ok (.aload_n 0, 1) := by decide +kernel
theorem dX5_count_76 : decode cX5_count 76 = .ok (.getfield 24, 3) := by decide +kernel
theorem dX5_count_79 : decode cX5_count 79 = .ok (.getfield 201, 3) := by decide +kernel
theorem dX5_count_82 : decode cX5_count 82 = .ok (.ireturn, 1) := by decide +kernel
theorem dX5_count_83 : decode cX5_count 83 = .ok (.aload_n 0, 1) := by decide +kernel
theorem dX5_count_84 : decode cX5_count 84 = .ok (.invokevirtual 288, 3) := by decide +kernel
theorem dX5_count_87 : decode cX5_count 87 = .ok (.ireturn, 1) := by decide +kernel
theorem dX5_count_88 : decode cX5_count 88 = .ok (.aload_n 0, 1) := by decide +kernel
theorem dX5_count_89 : decode cX5_count 89 = .ok (.iconst 0, 1) := by decide +kernel
theorem dX5_count_90 : decode cX5_count 90 = .ok (.invokevirtual 49, 3) := by decide +kernel
theorem dX5_count_93 : decode cX5_count 93 = .ok (.ireturn, 1) := by decide +kernel
theorem dX5_status_0 : decode cX5_status 0 = .ok (.iload_n 1, 1) := by decide +kernel
theorem dX5_status_1 : decode cX5_status 1 = .ok (.iconst (-1), 1) := by decide +kernel
theorem dX5_status_2 : decode cX5_status 2 = .ok (.bipush 7, 2) := by decide +kernel
theorem dX5_status_4 : decode cX5_status 4 = .ok (.invokestatic 65, 3) := by decide +kernel
theorem dX5_status_7 : decode cX5_status 7 = .ok (.ifCond .ne 9, 3) := by decide +kernel
theorem dX5_status_10 : decode cX5_status 10 = .ok (.aload_n 0, 1) := by decide +kernel
theorem dX5_status_11 : decode cX5_status 11 = .ok (.iconst 0, 1) := by decide +kernel
theorem dX5_status_12 : decode cX5_status 12 = .ok (.invokevirtual 49, 3) := by decide +kernel
theorem dX5_status_15 : decode cX5_status 15 = .ok (.ireturn, 1) := by decide +kernel
theorem dX5_status_16 : decode cX5_status 16 = .ok (.iload_n 1, 1) := by decide +kernel
theorem dX5_status_17 : decode cX5_status 17 = .ok (.ifCond .lt 10, 3) := by decide +kernel
theorem dX5_status_20 : decode cX5_status 20 = .ok (.aload_n 0, 1) := by decide +kernel
theorem dX5_status_21 : decode cX5_status 21 = .ok (.getfield 9, 3) := by decide +kernel
theorem dX5_status_24 : decode cX5_status 24 = .ok (.iload_n 1, 1) := by decide +kernel
theorem dX5_status_25 : decode cX5_status 25 = .ok (.iaload, 1) := by decide +kernel
theorem dX5_status_26 : decode cX5_status 26 = .ok (.ireturn, 1) := by decide +kernel
theorem dX5_status_27 : decode cX5_status 27 = .ok (.iconst 0, 1) := by decide +kernel
theorem dX5_status_28 : decode cX5_status 28 = .ok (.istore_n 2, 1) := by decide +kernel
theorem dX5_status_29 : decode cX5_status 29 = .ok (.iconst 0, 1) := by decide +kernel
theorem dX5_status_30 : decode cX5_status 30 = .ok (.istore_n 3, 1) := by decide +kernel
theorem dX5_status_31 : decode cX5_status 31 = .ok (.iload_n 3, 1) := by decide +kernel
theorem dX5_status_32 : decode cX5_status 32 = .ok (.bipush 8, 2) := by decide +kernel
theorem dX5_status_34 : decode cX5_status 34 = .ok (.if_icmp .ge 18, 3) := by decide +kernel
theorem dX5_status_37 : decode cX5_status 37 = .ok (.iload_n 2, 1) := by decide +kernel
theorem dX5_status_38 : decode cX5_status 38 = .ok (.aload_n 0, 1) := by decide +kernel
theorem dX5_status_39 : decode cX5_status 39 = .ok (.getfield 9, 3) := by decide +kernel
theorem dX5_status_42 : decode cX5_status 42 = .ok (.iload_n 3, 1) := by decide +kernel
theorem dX5_status_43 : decode cX5_status 43 = .ok (.iaload, 1) := by decide +kernel
theorem dX5_status_44 : decode cX5_status 44 = .ok (.iadd, 1) := by decide +kernel
theorem dX5_status_45 : decode cX5_status 45 = .ok (.istore_n 2, 1) := by decide +kernel
theorem dX5_status_46 : decode cX5_status 46 = .ok (.iinc 3 1, 3) := by decide +kernel
theorem dX5_status_49 : decode cX5_status 49 = .ok (.goto (-18), 3) := by decide +kernel
theorem dX5_status_52 : decode cX5_status 52 = .ok (.iload_n 2, 1) := by decide +kernel
theorem dX5_status_53 : decode cX5_status 53 = .ok (.ireturn, 1) := by decide +kernel
theorem dX5_finding_0 : decode cX5_finding 0 = .ok (.aload_n 0, 1) := by decide +kernel
theorem dX5_finding_1 : decode cX5_finding 1 = .ok (.getfield 9, 3) := by decide +kernel
theorem dX5_finding_4 : decode cX5_finding 4 = .ok (.iload_n 1, 1) := by decide +kernel
theorem dX5_finding_5 : decode cX5_finding 5 = .ok (.dup2, 1) := by decide +kernel
theorem dX5_finding_6 : decode cX5_finding 6 = .ok (.iaload, 1) := by decide +kernel
theorem dX5_finding_7 : decode cX5_finding 7 = .ok (.iconst 1, 1) := by decide +kernel
theorem dX5_finding_8 : decode cX5_finding 8 = .ok (.iadd, 1) := by decide +kernel
theorem dX5_finding_9 : decode cX5_finding 9 = .ok (.iastore, 1) := by decide +kernel
theorem dX5_finding_10 : decode cX5_finding 10 = .ok (.ldc_w 291, 3) := by decide +kernel
theorem dX5_finding_13 : decode cX5_finding 13 = .ok (.iload_n 1, 1) := by decide +kernel
theorem dX5_finding_14 : decode cX5_finding 14 = .ok (.isub, 1) := by decide +kernel
theorem dX5_finding_15 : decode cX5_finding 15 = .ok (.ireturn, 1) := by decide +kernel
theorem dX5_longFinding_0 : decode cX5_longFinding 0 = .ok (.aload_n 0, 1) := by decide +kernel
theorem dX5_longFinding_1 : decode cX5_longFinding 1 = .ok (.getfield 9, 3) := by decide +kernel
theorem dX5_longFinding_4 : decode cX5_longFinding 4 = .ok (.iload_n 1, 1) := by decide +kernel
theorem dX5_longFinding_5 : decode cX5_longFinding 5 = .ok (.dup2, 1) := by decide +kernel
theorem dX5_longFinding_6 : decode cX5_longFinding 6 = .ok (.iaload, 1) := by decide +kernel
theorem dX5_longFinding_7 : decode cX5_longFinding 7 = .ok (.iconst 1, 1) := by decide +kernel
theorem dX5_longFinding_8 : decode cX5_longFinding 8 = .ok (.iadd, 1) := by decide +kernel
theorem dX5_longFinding_9 : decode cX5_longFinding 9 = .ok (.iastore, 1) := by decide +kernel
theorem dX5_longFinding_10 : decode cX5_longFinding 10 = .ok (.ldc2_w 292, 3) := by decide +kernel
theorem dX5_longFinding_13 : decode cX5_longFinding 13 = .ok (.iload_n 1, 1) := by decide +kernel
theorem dX5_longFinding_14 : decode cX5_longFinding 14 = .ok (.i2l, 1) := by decide +kernel
theorem dX5_longFinding_15 : decode cX5_longFinding 15 = .ok (.lsub, 1) := by decide +kernel
theorem dX5_longFinding_16 : decode cX5_longFinding 16 = .ok (.lreturn, 1) := by decide +kernel
theorem dX5_standingOnAll_0 : decode cX5_standingOnAll 0 = .ok (.iconst 0, 1) := by decide +kernel
theorem dX5_standingOnAll_1 : decode cX5_standingOnAll 1 = .ok (.istore_n 1, 1) := by decide +kernel
theorem dX5_standingOnAll_2 : decode cX5_standingOnAll 2 = .ok (.iconst 0, 1) := by decide +kernel
theorem dX5_standingOnAll_3 : decode cX5_standingOnAll 3 = .ok (.istore_n 2, 1) := by decide +kernel
theorem dX5_standingOnAll_4 : decode cX5_standingOnAll 4 = .ok (.iload_n 2, 1) := by decide +kernel
theorem dX5_standingOnAll_5 : decode cX5_standingOnAll 5 = .ok (.iconst 4, 1) := by decide +kernel
theorem dX5_standingOnAll_6 : decode cX5_standingOnAll 6 = .ok (.if_icmp .ge 21, 3) := by decide +kernel
theorem dX5_standingOnAll_9 : decode cX5_standingOnAll 9 = .ok (.iload_n 1, 1) := by decide +kernel
theorem dX5_standingOnAll_10 : decode cX5_standingOnAll 10 = .ok (.aload_n 0, 1) := by decide +kernel
theorem dX5_standingOnAll_11 : decode cX5_standingOnAll 11 = .ok (.getfield 33, 3) := by decide +kernel
theorem dX5_standingOnAll_14 : decode cX5_standingOnAll 14 = .ok (.iload_n 2, 1) := by decide +kernel
theorem dX5_standingOnAll_15 : decode cX5_standingOnAll 15 = .ok (.aaload, 1) := by decide +kernel
theorem dX5_standingOnAll_16 : decode cX5_standingOnAll 16 = .ok (.invokevirtual 204, 3) := by decide +kernel
theorem dX5_standingOnAll_19 : decode cX5_standingOnAll 19 = .ok (.iadd, 1) := by decide +kernel
theorem dX5_standingOnAll_20 : decode cX5_standingOnAll 20 = .ok (.istore_n 1, 1) := by decide +kernel
theorem dX5_standingOnAll_21 : decode cX5_standingOnAll 21 = .ok (.iinc 2 1, 3) := by decide +kernel
theorem dX5_standingOnAll_24 : decode cX5_standingOnAll 24 = .ok (.goto (-20), 3) := by decide +kernel
theorem dX5_standingOnAll_27 : decode cX5_standingOnAll 27 = .ok (.iload_n 1, 1) := by decide +kernel
theorem dX5_standingOnAll_28 : decode cX5_standingOnAll 28 = .ok (.ireturn, 1) := by decide +kernel
theorem dX5_within_0 : decode cX5_within 0 = .ok (.iload_n 0, 1) := by decide +kernel
theorem dX5_within_1 : decode cX5_within 1 = .ok (.iload_n 1, 1) := by decide +kernel
theorem dX5_within_2 : decode cX5_within 2 = .ok (.if_icmp .lt 12, 3) := by decide +kernel
theorem dX5_within_5 : decode cX5_within 5 = .ok (.iload_n 0, 1) := by decide +kernel
theorem dX5_within_6 : decode cX5_within 6 = .ok (.iload_n 2, 1) := by decide +kernel
theorem dX5_within_7 : decode cX5_within 7 = .ok (.if_icmp .gt 7, 3) := by decide +kernel
theorem dX5_within_10 : decode cX5_within 10 = .ok (.iconst 1, 1) := by decide +kernel
theorem dX5_within_11 : decode cX5_within 11 = .ok (.goto 4, 3) := by decide +kernel
theorem dX5_within_14 : decode cX5_within 14 = .ok (.iconst 0, 1) := by decide +kernel
theorem dX5_within_15 : decode cX5_within 15 = .ok (.ireturn, 1) := by decide +kernel
theorem dX5_isAbility_0 : decode cX5_isAbility 0 = .ok (.iload_n 0, 1) := by decide +kernel
theorem dX5_isAbility_1 : decode cX5_isAbility 1 = .ok (.bipush (-64), 2) := by decide +kernel
theorem dX5_isAbility_3 : decode cX5_isAbility 3 = .ok (.bipush 64, 2) := by decide +kernel
theorem dX5_isAbility_5 : decode cX5_isAbility 5 = .ok (.invokestatic 65, 3) := by decide +kernel
theorem dX5_isAbility_8 : decode cX5_isAbility 8 = .ok (.ireturn, 1) := by decide +kernel
theorem dX5_isSheet_0 : decode cX5_isSheet 0 = .ok (.iload_n 0, 1) := by decide +kernel
theorem dX5_isSheet_1 : decode cX5_isSheet 1 = .ok (.iconst 0, 1) := by decide +kernel
theorem dX5_isSheet_2 : decode cX5_isSheet 2 = .ok (.iconst 3, 1) := by decide +kernel
theorem dX5_isSheet_3 : decode cX5_isSheet 3 = .ok (.invokestatic 65, 3) := by decide +kernel
theorem dX5_isSheet_6 : decode cX5_isSheet 6 = .ok (.ireturn, 1) := by decide +kernel
theorem dX5_factFits_0 : decode cX5_factFits 0 = .ok (.iload_n 0, 1) := by decide +kernel
theorem dX5_factFits_1 : decode cX5_factFits 1 = .ok (.iconst 0, 1) := by decide +kernel
theorem dX5_factFits_2 : decode cX5_factFits 2 = .ok (.bipush 6, 2) := by decide +kernel
theorem dX5_factFits_4 : decode cX5_factFits 4 = .ok (.invokestatic 65, 3) := by decide +kernel
theorem dX5_factFits_7 : decode cX5_factFits 7 = .ok (.ifCond .eq 24, 3) := by decide +kernel
theorem dX5_factFits_10 : decode cX5_factFits 10 = .ok (.iload_n 1, 1) := by decide +kernel
theorem dX5_factFits_11 : decode cX5_factFits 11 = .ok (.getstatic 294, 3) := by decide +kernel
theorem dX5_factFits_14 : decode cX5_factFits 14 = .ok (.iload_n 0, 1) := by decide +kernel
theorem dX5_factFits_15 : decode cX5_factFits 15 = .ok (.iaload, 1) := by decide +kernel
theorem dX5_factFits_16 : decode cX5_factFits 16 = .ok (.getstatic 297, 3) := by decide +kernel
theorem dX5_factFits_19 : decode cX5_factFits 19 = .ok (.iload_n 0, 1) := by decide +kernel
theorem dX5_factFits_20 : decode cX5_factFits 20 = .ok (.iaload, 1) := by decide +kernel
theorem dX5_factFits_21 : decode cX5_factFits 21 = .ok (.invokestatic 65, 3) := by decide +kernel
theorem dX5_factFits_24 : decode cX5_factFits 24 = .ok (.ifCond .eq 7, 3) := by decide +kernel
theorem dX5_factFits_27 : decode cX5_factFits 27 = .ok (.iconst 1, 1) := by decide +kernel
theorem dX5_factFits_28 : decode cX5_factFits 28 = .ok (.goto 4, 3) := by decide +kernel
theorem dX5_factFits_31 : decode cX5_factFits 31 = .ok (.iconst 0, 1) := by decide +kernel
theorem dX5_factFits_32 : decode cX5_factFits 32 = .ok (.ireturn, 1) := by decide +kernel
theorem dX5_isOfKind_0 : decode cX5_isOfKind 0 = .ok (.iload_n 0, 1) := by decide +kernel
theorem dX5_isOfKind_1 : decode cX5_isOfKind 1 = .ok (.istore_n 2, 1) := by decide +kernel
theorem dX5_isOfKind_2 : decode cX5_isOfKind 2 = .ok (.iconst 0, 1) := by decide +kernel
theorem dX5_isOfKind_3 : decode cX5_isOfKind 3 = .ok (.istore_n 3, 1) := by decide +kernel
theorem dX5_isOfKind_4 : decode cX5_isOfKind 4 = .ok (.iload_n 3, 1) := by decide +kernel
theorem dX5_isOfKind_5 : decode cX5_isOfKind 5 = .ok (.getstatic 300, 3) := by decide +kernel
theorem dX5_isOfKind_8 : decode cX5_isOfKind 8 = .ok (.arraylength, 1) := by decide +kernel
theorem dX5_isOfKind_9 : decode cX5_isOfKind 9 = .ok (.if_icmp .ge 36, 3) := by decide +kernel
theorem dX5_isOfKind_12 : decode cX5_isOfKind 12 = .ok (.iload_n 2, 1) := by decide +kernel
theorem dX5_isOfKind_13 : decode cX5_isOfKind 13 = .ok (.iload_n 1, 1) := by decide +kernel
theorem dX5_isOfKind_14 : decode cX5_isOfKind 14 = .ok (.if_icmp .ne 5, 3) := by decide +kernel
theorem dX5_isOfKind_17 : decode cX5_isOfKind 17 = .ok (.iconst 1, 1) := by decide +kernel
theorem dX5_isOfKind_18 : decode cX5_isOfKind 18 = .ok (.ireturn, 1) := by decide +kernel
theorem dX5_isOfKind_19 : decode cX5_isOfKind 19 = .ok (.iload_n 2, 1) := by decide +kernel
theorem dX5_isOfKind_20 : decode cX5_isOfKind 20 = .ok (.ifCond .lt 11, 3) := by decide +kernel
theorem dX5_isOfKind_23 : decode cX5_isOfKind 23 = .ok (.iload_n 2, 1) := by decide +kernel
theorem dX5_isOfKind_24 : decode cX5_isOfKind 24 = .ok (.getstatic 300, 3) := by decide +kernel
theorem dX5_isOfKind_27 : decode cX5_isOfKind 27 = .ok (.arraylength, 1) := by decide +kernel
theorem dX5_isOfKind_28 : decode cX5_isOfKind 28 = .ok (.if_icmp .lt 5, 3) := by decide +kernel
theorem dX5_isOfKind_31 : decode cX5_isOfKind 31 = .ok (.iconst 0, 1) := by decide +kernel
theorem dX5_isOfKind_32 : decode cX5_isOfKind 32 = .ok (.ireturn, 1) := by decide +kernel
theorem dX5_isOfKind_33 : decode cX5_isOfKind 33 = .ok (.getstatic 300, 3) := by decide +kernel
theorem dX5_isOfKind_36 : decode cX5_isOfKind 36 = .ok (.iload_n 2, 1) := by decide +kernel
theorem dX5_isOfKind_37 : decode cX5_isOfKind 37 = .ok (.iaload, 1) := by decide +kernel
theorem dX5_isOfKind_38 : decode cX5_isOfKind 38 = .ok (.istore_n 2, 1) := by decide +kernel
theorem dX5_isOfKind_39 : decode cX5_isOfKind 39 = .ok (.iinc 3 1, 3) := by decide +kernel
theorem dX5_isOfKind_42 : decode cX5_isOfKind 42 = .ok (.goto (-38), 3) := by decide +kernel
theorem dX5_isOfKind_45 : decode cX5_isOfKind 45 = .ok (.iconst 0, 1) := by decide +kernel
theorem dX5_isOfKind_46 : decode cX5_isOfKind 46 = .ok (.ireturn, 1) := by decide +kernel
theorem dX6_init_0 : decode cX6_init 0 = .ok (.aload_n 0, 1) := by decide +kernel
theorem dX6_init_1 : decode cX6_init 1 = .ok (.invokespecial 1, 3) := by decide +kernel
theorem dX6_init_4 : decode cX6_init 4 = .ok (.aload_n 0, 1) := by decide +kernel
theorem dX6_init_5 : decode cX6_init 5 = .ok (.bipush 117, 2) := by decide +kernel
theorem dX6_init_7 : decode cX6_init 7 = .ok (.newarray .int, 2) := by decide +kernel
theorem dX6_init_9 : decode cX6_init 9 = .ok (.putfield 9, 3) := by decide +kernel
theorem dX6_init_12 : decode cX6_init 12 = .ok (.aload_n 0, 1) := by decide +kernel
theorem dX6_init_13 : decode cX6_init 13 = .ok (.bipush 117, 2) := by decide +kernel
theorem dX6_init_15 : decode cX6_init 15 = .ok (.newarray .int, 2) := by decide +kernel
theorem dX6_init_17 : decode cX6_init 17 = .ok (.putfield 13, 3) := by decide +kernel
theorem dX6_init_20 : decode cX6_init 20 = .ok (.aload_n 0, 1) := by decide +kernel
theorem dX6_init_21 : decode cX6_init 21 = .ok (.bipush 8, 2) := by decide +kernel
theorem dX6_init_23 : decode cX6_init 23 = .ok (.newarray .int, 2) := by decide +kernel
theorem dX6_init_25 : decode cX6_init 25 = .ok (.putfield 16, 3) := by decide +kernel
theorem dX6_init_28 : decode cX6_init 28 = .ok (.aload_n 0, 1) := by decide +kernel
theorem dX6_init_29 : decode cX6_init 29 = .ok (.sipush 4096, 3) := by decide +kernel
theorem dX6_init_32 : decode cX6_init 32 = .ok (.newarray .int, 2) := by decide +kernel
theorem dX6_init_34 : decode cX6_init 34 = .ok (.putfield 19, 3) := by decide +kernel
theorem dX6_init_37 : decode cX6_init 37 = .ok (.aload_n 0, 1) := by decide +kernel
theorem dX6_init_38 : decode cX6_init 38 = .ok (.sipush 4096, 3) := by decide +kernel
theorem dX6_init_41 : decode cX6_init 41 = .ok (.newarray .double, 2) := by decide +kernel
theorem dX6_init_43 : decode cX6_init 43 = .ok (.putfield 22, 3) := by decide +kernel
theorem dX6_init_46 : decode cX6_init 46 = .ok (.aload_n 0, 1) := by decide +kernel
theorem dX6_init_47 : decode cX6_init 47 = .ok (.iconst 4, 1) := by decide +kernel
theorem dX6_init_48 : decode cX6_init 48 = .ok (.newarray .int, 2) := by decide +kernel
theorem dX6_init_50 : decode cX6_init 50 = .ok (.putfield 26, 3) := by decide +kernel
theorem dX6_init_53 : decode cX6_init 53 = .ok (.aload_n 0, 1) := by decide +kernel
theorem dX6_init_54 : decode cX6_init 54 = .ok (.iconst 4, 1) := by decide +kernel
theorem dX6_init_55 : decode cX6_init 55 = .ok (.bipush 6, 2) := by decide +kernel
theorem dX6_init_57 : decode cX6_init 57 = .ok (.multianewarray 29 2, 4) := by decide +kernel
theorem dX6_init_61 : decode cX6_init 61 = .ok (.putfield 31, 3) := by decide +kernel
theorem dX6_init_64 : decode cX6_init 64 = .ok (.aload_n 0, 1) := by decide +kernel
theorem dX6_init_65 : decode cX6_init 65 = .ok (.iconst 4, 1) := by decide +kernel
theorem dX6_init_66 : decode cX6_init 66 = .ok (.bipush 6, 2) := by decide +kernel
theorem dX6_init_68 : decode cX6_init 68 = .ok (.multianewarray 29 2, 4) := by decide +kernel
theorem dX6_init_72 : decode cX6_init 72 = .ok (.putfield 34, 3) := by decide +kernel
theorem dX6_init_75 : decode cX6_init 75 = .ok (.aload_n 0, 1) := by decide +kernel
theorem dX6_init_76 : decode cX6_init 76 = .ok (.iconst 4, 1) := by decide +kernel
theorem dX6_init_77 : decode cX6_init 77 = .ok (.newarray .int, 2) := by decide +kernel
theorem dX6_init_79 : decode cX6_init 79 = .ok (.dup, 1) := by decide +kernel
theorem dX6_init_80 : decode cX6_init 80 = .ok (.iconst 0, 1) := by decide +kernel
theorem dX6_init_81 : decode cX6_init 81 = .ok (.iconst (-1), 1) := by decide +kernel
theorem dX6_init_82 : decode cX6_init 82 = .ok (.iastore, 1) := by decide +kernel
theorem dX6_init_83 : decode cX6_init 83 = .ok (.dup, 1) := by decide +kernel
theorem dX6_init_84 : decode cX6_init 84 = .ok (.iconst 1, 1) := by decide +kernel
theorem dX6_init_85 : decode cX6_init 85 = .ok (.iconst (-1), 1) := by decide +kernel
theorem dX6_init_86 : decode cX6_init 86 = .ok (.iastore, 1) := by decide +kernel
theorem dX6_init_87 : decode cX6_init 87 = .ok (.dup, 1) := by decide +kernel
theorem dX6_init_88 : decode cX6_init 88 = .ok (.iconst 2, 1) := by decide +kernel
theorem dX6_init_89 : decode cX6_init 89 = .ok (.iconst (-1), 1) := by decide +kernel
theorem dX6_init_90 : decode cX6_init 90 = .ok (.iastore, 1) := by decide +kernel
theorem dX6_init_91 : decode cX6_init 91 = .ok (.dup, 1) := by decide +kernel
theorem dX6_init_92 : decode cX6_init 92 = .ok (.iconst 3, 1) := by decide +kernel
theorem dX6_init_93 : decode cX6_init 93 = .ok (.iconst (-1), 1) := by decide +kernel
theorem dX6_init_94 : decode cX6_init 94 = .ok (.iastore, 1) := by decide +kernel
theorem dX6_init_95 : decode cX6_init 95 = .ok (.putfield 37, 3) := by decide +kernel
theorem dX6_init_98 : decode cX6_init 98 = .ok (.aload_n 0, 1) := by decide +kernel
theorem dX6_init_99 : decode cX6_init 99 = .ok (.iconst 4, 1) := by decide +kernel
theorem dX6_init_100 : decode cX6_init 100 = .ok (.newarray .int, 2) := by decide +kernel
theorem dX6_init_102 : decode cX6_init 102 = .ok (.putfield 40, 3) := by decide +kernel
theorem dX6_init_105 : decode cX6_init 105 = .ok (.aload_n 0, 1) := by decide +kernel
theorem dX6_init_106 : decode cX6_init 106 = .ok (.iconst 4, 1) := by decide +kernel
theorem dX6_init_107 : decode cX6_init 107 = .ok (.bipush 40, 2) := by decide +kernel
theorem dX6_init_109 : decode cX6_init 109 = .ok (.multianewarray 29 2, 4) := by decide +kernel
theorem dX6_init_113 : decode cX6_init 113 = .ok (.putfield 43, 3) := by decide +kernel
theorem dX6_init_116 : decode cX6_init 116 = .ok (.aload_n 0, 1) := by decide +kernel
theorem dX6_init_117 : decode cX6_init 117 = .ok (.iconst 4, 1) := by decide +kernel
theorem dX6_init_118 : decode cX6_init 118 = .ok (.bipush 40, 2) := by decide +kernel
theorem dX6_init_120 : decode cX6_init 120 = .ok (.multianewarray 46 2, 4) := by decide +kernel
theorem dX6_init_124 : decode cX6_init 124 = .ok (.putfield 48, 3) := by decide +kernel
theorem dX6_init_127 : decode cX6_init 127 = .ok (.aload_n 0, 1) := by decide +kernel
theorem dX6_init_128 : decode cX6_init 128 = .ok (.iconst 4, 1) := by decide +kernel
theorem dX6_init_129 : decode cX6_init 129 = .ok (.bipush 40, 2) := by decide +kernel
theorem dX6_init_131 : decode cX6_init 131 = .ok (.multianewarray 51 2, 4) := by decide +kernel
theorem dX6_init_135 : decode cX6_init 135 = .ok (.putfield 53, 3) := by decide +kernel
theorem dX6_init_138 : decode cX6_init 138 = .ok (.aload_n 0, 1) := by decide +kernel
theorem dX6_init_139 : decode cX6_init 139 = .ok (.bipush 40, 2) := by decide +kernel
theorem dX6_init_141 : decode cX6_init 141 = .ok (.newarray .int, 2) := by decide +kernel
theorem dX6_init_143 : decode cX6_init 143 = .ok (.putfield 56, 3) := by decide +kernel
theorem dX6_init_146 : decode cX6_init 146 = .ok (.aload_n 0, 1) := by decide +kernel
theorem dX6_init_147 : decode cX6_init 147 = .ok (.bipush 40, 2) := by decide +kernel
theorem dX6_init_149 : decode cX6_init 149 = .ok (.newarray .float, 2) := by decide +kernel
theorem dX6_init_151 : decode cX6_init 151 = .ok (.putfield 59, 3) := by decide +kernel
theorem dX6_init_154 : decode cX6_init 154 = .ok (.aload_n 0, 1) := by decide +kernel
theorem dX6_init_155 : decode cX6_init 155 = .ok (.bipush 40, 2) := by decide +kernel
theorem dX6_init_157 : decode cX6_init 157 = .ok (.newarray .double, 2) := by decide +kernel
theorem dX6_init_159 : decode cX6_init 159 = .ok (.putfield 63, 3) := by decide +kernel
theorem dX6_init_162 : decode cX6_init 162 = .ok (.iconst 0, 1) := by decide +kernel
theorem dX6_init_163 : decode cX6_init 163 = .ok (.istore_n 1, 1) := by decide +kernel
theorem dX6_init_164 : decode cX6_init 164 = .ok (.iload_n 1, 1) := by decide +kernel
theorem dX6_init_165 : decode cX6_init 165 = .ok (.iconst 4, 1) := by decide +kernel
theorem dX6_init_166 : decode cX6_init 166 = .ok (.if_icmp .ge 24, 3) := by decide +kernel
theorem dX6_init_169 : decode cX6_init 169 = .ok (.aload_n 0, 1) := by decide +kernel
theorem dX6_init_170 : decode cX6_init 170 = .ok (.getfield 9, 3) := by decide +kernel
theorem dX6_init_173 : decode cX6_init 173 = .ok (.bipush 105, 2) := by decide +kernel
theorem dX6_init_175 : decode cX6_init 175 = .ok (.iconst 2, 1) := by decide +kernel
theorem dX6_init_176 : decode cX6_init 176 = .ok (.iload_n 1, 1) := by decide +kernel
theorem dX6_init_177 : decode cX6_init 177 = .ok (.imul, 1) := by decide +kernel
theorem dX6_init_178 : decode cX6_init 178 = .ok (.iadd, 1) := by decide +kernel
theorem dX6_init_179 : decode cX6_init 179 = .ok (.iconst 1, 1) := by decide +kernel
theorem dX6_init_180 : decode cX6_init 180 = .ok (.iadd, 1) := by decide +kernel
theorem dX6_init_181 : decode cX6_init 181 = .ok (.bipush 6, 2) := by decide +kernel
theorem dX6_init_183 : decode cX6_init 183 = .ok (.iastore, 1) := by decide +kernel
theorem dX6_init_184 : decode cX6_init 184 = .ok (.iinc 1 1, 3) := by decide +kernel
theorem dX6_init_187 : decode cX6_init 187 = .ok (.goto (-23), 3) := by decide +kernel
theorem dX6_init_190 : decode cX6_init 190 = .ok (.aload_n 0, 1) := by decide +kernel
theorem dX6_init_191 : decode cX6_init 191 = .ok (.getfield 9, 3) := by decide +kernel
theorem dX6_init_194 : decode cX6_init 194 = .ok (.bipush 113, 2) := by decide +kernel
theorem dX6_init_196 : decode cX6_init 196 = .ok (.iconst 2, 1) := by decide +kernel
theorem dX6_init_197 : decode cX6_init 197 = .ok (.iastore, 1) := by decide +kernel
theorem dX6_init_198 : decode cX6_init 198 = .ok (.aload_n 0, 1) := by decide +kernel
theorem dX6_init_199 : decode cX6_init 199 = .ok (.getfield 9, 3) := by decide +kernel
theorem dX6_init_202 : decode cX6_init 202 = .ok (.bipush 114, 2) := by decide +kernel
theorem dX6_init_204 : decode cX6_init 204 = .ok (.bipush 60, 2) := by decide +kernel
theorem dX6_init_206 : decode cX6_init 206 = .ok (.iastore, 1) := by decide +kernel
theorem dX6_init_207 : decode cX6_init 207 = .ok (.aload_n 0, 1) := by decide +kernel
theorem dX6_init_208 : decode cX6_init 208 = .ok (.getfield 9, 3) := by decide +kernel
theorem dX6_init_211 : decode cX6_init 211 = .ok (.bipush 115, 2) := by decide +kernel
theorem dX6_init_213 : decode cX6_init 213 = .ok (.sipush 999, 3) := by decide +kernel
theorem dX6_init_216 : decode cX6_init 216 = .ok (.iastore, 1) := by decide +kernel
theorem dX6_init_217 : decode cX6_init 217 = .ok (.aload_n 0, 1) := by decide +kernel
theorem dX6_init_218 : decode cX6_init 218 = .ok (.getfield 9, 3) := by decide +kernel
theorem dX6_init_221 : decode cX6_init 221 = .ok (.bipush 116, 2) := by decide +kernel
theorem dX6_init_223 : decode cX6_init 223 = .ok (.iconst 1, 1) := by decide +kernel
theorem dX6_init_224 : decode cX6_init 224 = .ok (.iastore, 1) := by decide +kernel
theorem dX6_init_225 : decode cX6_init 225 = .ok (.return_, 1) := by decide +kernel
theorem dX6_finds_0 : decode cX6_finds 0 = .ok (.aload_n 0, 1) := by decide +kernel
theorem dX6_finds_1 : decode cX6_finds 1 = .ok (.getfield 16, 3) := by decide +kernel
theorem dX6_finds_4 : decode cX6_finds 4 = .ok (.iload_n 1, 1) := by decide +kernel
theorem dX6_finds_5 : decode cX6_finds 5 = .ok (.dup2, 1) := by decide +kernel
theorem dX6_finds_6 : decode cX6_finds 6 = .ok (.iaload, 1) := by decide +kernel
theorem dX6_finds_7 : decode cX6_finds 7 = .ok (.iconst 1, 1) := by decide +kernel
theorem dX6_finds_8 : decode cX6_finds 8 = .ok (.iadd, 1) := by decide +kernel
theorem dX6_finds_9 : decode cX6_finds 9 = .ok (.iastore, 1) := by decide +kernel
theorem dX6_finds_10 : decode cX6_finds 10 = .ok (.ldc 66, 2) := by decide +kernel
theorem dX6_finds_12 : decode cX6_finds 12 = .ok (.iload_n 1, 1) := by decide +kernel
theorem dX6_finds_13 : decode cX6_finds 13 = .ok (.isub, 1) := by decide +kernel
theorem dX6_finds_14 : decode cX6_finds 14 = .ok (.ireturn, 1) := by decide +kernel
theorem dX6_findsLong_0 : decode cX6_findsLong 0 = .ok (.aload_n 0, 1) := by decide +kernel
theorem dX6_findsLong_1 : decode cX6_findsLong 1 = .ok (.getfield 16, 3) := by decide +kernel
theorem dX6_findsLong_4 : decode cX6_findsLong 4 = .ok (.iload_n 1, 1) := by decide +kernel
theorem dX6_findsLong_5 : decode cX6_findsLong 5 = .ok (.dup2, 1) := by decide +kernel
theorem dX6_findsLong_6 : decode cX6_findsLong 6 = .ok (.iaload, 1) := by decide +kernel
theorem dX6_findsLong_7 : decode cX6_findsLong 7 = .ok (.iconst 1, 1) := by decide +kernel
theorem dX6_findsLong_8 : decode cX6_findsLong 8 = .ok (.iadd, 1) := by decide +kernel
theorem dX6_findsLong_9 : decode cX6_findsLong 9 = .ok (.iastore, 1) := by decide +kernel
theorem dX6_findsLong_10 : decode cX6_findsLong 10 = .ok (.ldc2_w 67, 3) := by decide +kernel
theorem dX6_findsLong_13 : decode cX6_findsLong 13 = .ok (.iload_n 1, 1) := by decide +kernel
theorem dX6_findsLong_14 : decode cX6_findsLong 14 = .ok (.i2l, 1) := by decide +kernel
theorem dX6_findsLong_15 : decode cX6_findsLong 15 = .ok (.lsub, 1) := by decide +kernel
theorem dX6_findsLong_16 : decode cX6_findsLong 16 = .ok (.lreturn, 1) := by decide +kernel
theorem dX6_in_0 : decode cX6_in 0 = .ok (.lload_n 0, 1) := by decide +kernel
theorem dX6_in_1 : decode cX6_in 1 = .ok (.lload_n 2, 1) := by decide +kernel
theorem dX6_in_2 : decode cX6_in 2 = .ok (.lcmp, 1) := by decide +kernel
theorem dX6_in_3 : decode cX6_in 3 = .ok (.ifCond .lt 14, 3) := by decide +kernel
theorem dX6_in_6 : decode cX6_in 6 = .ok (.lload_n 0, 1) := by decide +kernel
theorem dX6_in_7 : decode cX6_in 7 = .ok (.lload 4, 2) := by decide +kernel
theorem dX6_in_9 : decode cX6_in 9 = .ok (.lcmp, 1) := by decide +kernel
theorem dX6_in_10 : decode cX6_in 10 = .ok (.ifCond .gt 7, 3) := by decide +kernel
theorem dX6_in_13 : decode cX6_in 13 = .ok (.iconst 1, 1) := by decide +kernel
theorem dX6_in_14 : decode cX6_in 14 = .ok (.goto 4, 3) := by decide +kernel
theorem dX6_in_17 : decode cX6_in 17 = .ok (.iconst 0, 1) := by decide +kernel
theorem dX6_in_18 : decode cX6_in 18 = .ok (.ireturn, 1) := by decide +kernel
theorem dX6_has_0 : decode cX6_has 0 = .ok (.iload_n 0, 1) := by decide +kernel
theorem dX6_has_1 : decode cX6_has 1 = .ok (.iload_n 1, 1) := by decide +kernel
theorem dX6_has_2 : decode cX6_has 2 = .ok (.ishr, 1) := by decide +kernel
theorem dX6_has_3 : decode cX6_has 3 = .ok (.iconst 1, 1) := by decide +kernel
theorem dX6_has_4 : decode cX6_has 4 = .ok (.iand, 1) := by decide +kernel
theorem dX6_has_5 : decode cX6_has 5 = .ok (.iconst 1, 1) := by decide +kernel
theorem dX6_has_6 : decode cX6_has 6 = .ok (.if_icmp .ne 7, 3) := by decide +kernel
theorem dX6_has_9 : decode cX6_has 9 = .ok (.iconst 1, 1) := by decide +kernel
theorem dX6_has_10 : decode cX6_has 10 = .ok (.goto 4, 3) := by decide +kernel
theorem dX6_has_13 : decode cX6_has 13 = .ok (.iconst 0, 1) := by decide +kernel
theorem dX6_has_14 : decode cX6_has 14 = .ok (.ireturn, 1) := by decide +kernel
theorem dX6_bits_0 : decode cX6_bits 0 = .ok (.iconst 0, 1) := by decide +kernel
theorem dX6_bits_1 : decode cX6_bits 1 = .ok (.istore_n 1, 1) := by decide +kernel
theorem dX6_bits_2 : decode cX6_bits 2 = .ok (.iconst 0, 1) := by decide +kernel
theorem dX6_bits_3 : decode cX6_bits 3 = .ok (.istore_n 2, 1) := by decide +kernel
theorem dX6_bits_4 : decode cX6_bits 4 = .ok (.iload_n 2, 1) := by decide +kernel
theorem dX6_bits_5 : decode cX6_bits 5 = .ok (.bipush 12, 2) := by decide +kernel
theorem dX6_bits_7 : decode cX6_bits 7 = .ok (.if_icmp .ge 17, 3) := by decide +kernel
theorem dX6_bits_10 : decode cX6_bits 10 = .ok (.iload_n 1, 1) := by decide +kernel
theorem dX6_bits_11 : decode cX6_bits 11 = .ok (.iload_n 0, 1) := by decide +kernel
theorem dX6_bits_12 : decode cX6_bits 12 = .ok (.iload_n 2, 1) := by decide +kernel
theorem dX6_bits_13 : decode cX6_bits 13 = .ok (.ishr, 1) := by decide +kernel
theorem dX6_bits_14 : decode cX6_bits 14 = .ok (.iconst 1, 1) := by decide +kernel
theorem dX6_bits_15 : decode cX6_bits 15 = .ok (.iand, 1) := by decide +kernel
theorem dX6_bits_16 : decode cX6_bits 16 = .ok (.iadd, 1) := by decide +kernel
theorem dX6_bits_17 : decode cX6_bits 17 = .ok (.istore_n 1, 1) := by decide +kernel
theorem dX6_bits_18 : decode cX6_bits 18 = .ok (.iinc 2 1, 3) := by decide +kernel
theorem dX6_bits_21 : decode cX6_bits 21 = .ok (.goto (-17), 3) := by decide +kernel
theorem dX6_bits_24 : decode cX6_bits 24 = .ok (.iload_n 1, 1) := by decide +kernel
theorem dX6_bits_25 : decode cX6_bits 25 = .ok (.ireturn, 1) := by decide +kernel
theorem dX6_it_0 : decode cX6_it 0 = .ok (.aload_n 0, 1) := by decide +kernel
theorem dX6_it_1 : decode cX6_it 1 = .ok (.getfield 9, 3) := by decide +kernel
theorem dX6_it_4 : decode cX6_it 4 = .ok (.iconst 1, 1) := by decide +kernel
theorem dX6_it_5 : decode cX6_it 5 = .ok (.bipush 8, 2) := by decide +kernel
theorem dX6_it_7 : decode cX6_it 7 = .ok (.iload_n 1, 1) := by decide +kernel
theorem dX6_it_8 : decode cX6_it 8 = .ok (.imul, 1) := by decide +kernel
theorem dX6_it_9 : decode cX6_it 9 = .ok (.iadd, 1) := by decide +kernel
theorem dX6_it_10 : decode cX6_it 10 = .ok (.iload_n 2, 1) := by decide +kernel
theorem dX6_it_11 : decode cX6_it 11 = .ok (.iadd, 1) := by decide +kernel
theorem dX6_it_12 : decode cX6_it 12 = .ok (.iaload, 1) := by decide +kernel
theorem dX6_it_13 : decode cX6_it 13 = .ok (.ireturn, 1) := by decide +kernel
theorem dX6_isItem_0 : decode cX6_isItem 0 = .ok (.iload_n 1, 1) := by decide +kernel
theorem dX6_isItem_1 : decode cX6_isItem 1 = .ok (.i2l, 1) := by decide +kernel
theorem dX6_isItem_2 : decode cX6_isItem 2 = .ok (.lconst 0, 1) := by decide +kernel
theorem dX6_isItem_3 : decode cX6_isItem 3 = .ok (.aload_n 0, 1) := by decide +kernel
theorem dX6_isItem_4 : decode cX6_isItem 4 = .ok (.getfield 9, 3) := by decide +kernel
theorem dX6_isItem_7 : decode cX6_isItem 7 = .ok (.iconst 0, 1) := by decide +kernel
theorem dX6_isItem_8 : decode cX6_isItem 8 = .ok (.iaload, 1) := by decide +kernel
theorem dX6_isItem_9 : decode cX6_isItem 9 = .ok (.iconst 1, 1) := by decide +kernel
theorem dX6_isItem_10 : decode cX6_isItem 10 = .ok (.isub, 1) := by decide +kernel
theorem dX6_isItem_11 : decode cX6_isItem 11 = .ok (.i2l, 1) := by decide +kernel
theorem dX6_isItem_12 : decode cX6_isItem 12 = .ok (.invokestatic 69, 3) := by decide +kernel
theorem dX6_isItem_15 : decode cX6_isItem 15 = .ok (.ireturn, 1) := by decide +kernel
theorem dX6_areItems_0 : decode cX6_areItems 0 = .ok (.iload_n 1, 1) := by decide +kernel
theorem dX6_areItems_1 : decode cX6_areItems 1 = .ok (.i2l, 1) := by decide +kernel
theorem dX6_areItems_2 : decode cX6_areItems 2 = .ok (.lconst 0, 1) := by decide +kernel
theorem dX6_areItems_3 : decode cX6_areItems 3 = .ok (.iconst 1, 1) := by decide +kernel
theorem dX6_areItems_4 : decode cX6_areItems 4 = .ok (.aload_n 0, 1) := by decide +kernel
theorem dX6_areItems_5 : decode cX6_areItems 5 = .ok (.getfield 9, 3) := by decide +kernel
theorem dX6_areItems_8 : decode cX6_areItems 8 = .ok (.iconst 0, 1) := by decide +kernel
theorem dX6_areItems_9 : decode cX6_areItems 9 = .ok (.iaload, 1) := by decide +kernel
theorem dX6_areItems_10 : decode cX6_areItems 10 = .ok (.ishl, 1) := by decide +kernel
theorem dX6_areItems_11 : decode cX6_areItems 11 = .ok (.iconst 1, 1) := by decide +kernel
theorem dX6_areItems_12 : decode cX6_areItems 12 = .ok (.isub, 1) := by decide +kernel
theorem dX6_areItems_13 : decode cX6_areItems 13 = .ok (.i2l, 1) := by decide +kernel
theorem dX6_areItems_14 : decode cX6_areItems 14 = .ok (.invokestatic 69, 3) := by decide +kernel
theorem dX6_areItems_17 : decode cX6_areItems 17 = .ok (.ireturn, 1) := by decide +kernel
theorem dX6_isKind_0 : decode cX6_isKind 0 = .ok (.iload_n 0, 1) := by decide +kernel
theorem dX6_isKind_1 : decode cX6_isKind 1 = .ok (.i2l, 1) := by decide +kernel
theorem dX6_isKind_2 : decode cX6_isKind 2 = .ok (.lconst 0, 1) := by decide +kernel
theorem dX6_isKind_3 : decode cX6_isKind 3 = .ok (.ldc2_w 73, 3) := by decide +kernel
theorem dX6_isKind_6 : decode cX6_isKind 6 = .ok (.invokestatic 69, 3) := by decide +kernel
theorem dX6_isKind_9 : decode cX6_isKind 9 = .ok (.ireturn, 1) := by decide +kernel
theorem dX6_isAbility_0 : decode cX6_isAbility 0 = .ok (.iload_n 0, 1) := by decide +kernel
theorem dX6_isAbility_1 : decode cX6_isAbility 1 = .ok (.i2l, 1) := by decide +kernel
theorem dX6_isAbility_2 : decode cX6_isAbility 2 = .ok (.ldc2_w 75, 3) := by decide +kernel
theorem dX6_isAbility_5 : decode cX6_isAbility 5 = .ok (.ldc2_w 77, 3) := by decide +kernel
theorem dX6_isAbility_8 : decode cX6_isAbility 8 = .ok (.invokestatic 69, 3) := by decide +kernel
theorem dX6_isAbility_11 : decode cX6_isAbility 11 = .ok (.ireturn, 1) := by decide +kernel
theorem dX6_mayBe_0 : decode cX6_mayBe 0 = .ok (.iload_n 0, 1) := by decide +kernel
theorem dX6_mayBe_1 : decode cX6_mayBe 1 = .ok (.tableswitch 98 0 5 #[39, 44, 54, 64, 74, 86], 39) := by decide +kernel
theorem dX6_mayBe_40 : decode cX6_mayBe 40 = .ok (.iload_n 1, 1) := by decide +kernel
theorem dX6_mayBe_41 : decode cX6_mayBe 41 = .ok (.invokestatic 79, 3) := by decide +kernel
theorem dX6_mayBe_44 : decode cX6_mayBe 44 = .ok (.ireturn, 1) := by decide +kernel
theorem dX6_mayBe_45 : decode cX6_mayBe 45 = .ok (.iload_n 1, 1) := by decide +kernel
theorem dX6_mayBe_46 : decode cX6_mayBe 46 = .ok (.i2l, 1) := by decide +kernel
theorem dX6_mayBe_47 : decode cX6_mayBe 47 = .ok (.lconst 0, 1) := by decide +kernel
theorem dX6_mayBe_48 : decode cX6_mayBe 48 = .ok (.ldc2_w 83, 3) := by decide +kernel
theorem dX6_mayBe_51 : decode cX6_mayBe 51 = .ok (.invokestatic 69, 3) := by decide +kernel
theorem dX6_mayBe_54 : decode cX6_mayBe 54 = .ok (.ireturn, 1) := by decide +kernel
theorem dX6_mayBe_55 : decode cX6_mayBe 55 = .ok (.iload_n 1, 1) := by decide +kernel
theorem dX6_mayBe_56 : decode cX6_mayBe 56 = .ok (.i2l, 1) := by decide +kernel
theorem dX6_mayBe_57 : decode cX6_mayBe 57 = .ok (.lconst 1, 1) := by decide +kernel
theorem dX6_mayBe_58 : decode cX6_mayBe 58 = .ok (.ldc2_w 85, 3) := by decide +kernel
theorem dX6_mayBe_61 : decode cX6_mayBe 61 = .ok (.invokestatic 69, 3) := by decide +kernel
theorem dX6_mayBe_64 : decode cX6_mayBe 64 = .ok (.ireturn, 1) := by decide +kernel
theorem dX6_mayBe_65 : decode cX6_mayBe 65 = .ok (.iload_n 1, 1) := by decide +kernel
theorem dX6_mayBe_66 : decode cX6_mayBe 66 = .ok (.i2l, 1) := by decide +kernel
theorem dX6_mayBe_67 : decode cX6_mayBe 67 = .ok (.lconst 1, 1) := by decide +kernel
theorem dX6_mayBe_68 : decode cX6_mayBe 68 = .ok (.ldc2_w 87, 3) := by decide +kernel
theorem dX6_mayBe_71 : decode cX6_mayBe 71 = .ok (.invokestatic 69, 3) := by decide +kernel
theorem dX6_mayBe_74 : decode cX6_mayBe 74 = .ok (.ireturn, 1) := by decide +kernel
theorem dX6_mayBe_75 : decode cX6_mayBe 75 = .ok (.iload_n 1, 1) := by decide +kernel
theorem dX6_mayBe_76 : decode cX6_mayBe 76 = .ok (.i2l, 1) := by decide +kernel
theorem dX6_mayBe_77 : decode cX6_mayBe 77 = .ok (.ldc2_w 89, 3) := by decide +kernel
theorem dX6_mayBe_80 : decode cX6_mayBe 80 = .ok (.ldc2_w 91, 3) := by decide +kernel
theorem dX6_mayBe_83 : decode cX6_mayBe 83 = .ok (.invokestatic 69, 3) := by decide +kernel
theorem dX6_mayBe_86 : decode cX6_mayBe 86 = .ok (.ireturn, 1) := by decide +kernel
theorem dX6_mayBe_87 : decode cX6_mayBe 87 = .ok (.iload_n 1, 1) := by decide +kernel
theorem dX6_mayBe_88 : decode cX6_mayBe 88 = .ok (.i2l, 1) := by decide +kernel
theorem dX6_mayBe_89 : decode cX6_mayBe 89 = .ok (.ldc2_w 93, 3) := by decide +kernel
theorem dX6_mayBe_92 : decode cX6_mayBe 92 = .ok (.ldc2_w 83, 3) := by decide +kernel
theorem dX6_mayBe_95 : decode cX6_mayBe 95 = .ok (.invokestatic 69, 3) := by decide +kernel
theorem dX6_mayBe_98 : decode cX6_mayBe 98 = .ok (.ireturn, 1) := by decide +kernel
theorem dX6_mayBe_99 : decode cX6_mayBe 99 = .ok (.iload_n 0, 1) := by decide +kernel
theorem dX6_mayBe_100 : decode cX6_mayBe 100 = .ok (.bipush 6, 2) := by decide +kernel
theorem dX6_mayBe_102 : decode cX6_mayBe 102 = .ok (.if_icmp .ne 19, 3) := by decide +kernel
theorem dX6_mayBe_105 : decode cX6_mayBe 105 = .ok (.iload_n 1, 1) := by decide +kernel
theorem dX6_mayBe_106 : decode cX6_mayBe 106 = .ok (.i2l, 1) := by decide +kernel
theorem dX6_mayBe_107 : decode cX6_mayBe 107 = .ok (.lconst 0, 1) := by decide +kernel
theorem dX6_mayBe_108 : decode cX6_mayBe 108 = .ok (.ldc2_w 95, 3) := by decide +kernel
theorem dX6_mayBe_111 : decode cX6_mayBe 111 = .ok (.invokestatic 69, 3) := by decide +kernel
theorem dX6_mayBe_114 : decode cX6_mayBe 114 = .ok (.ifCond .eq 7, 3) := by decide +kernel
theorem dX6_mayBe_117 : decode cX6_mayBe 117 = .ok (.iconst 1, 1) := by decide +kernel
theorem dX6_mayBe_118 : decode cX6_mayBe 118 = .ok (.goto 4, 3) := by decide +kernel
theorem dX6_mayBe_121 : decode cX6_mayBe 121 = .ok (.iconst 0, 1) := by decide +kernel
theorem dX6_mayBe_122 : decode cX6_mayBe 122 = .ok (.ireturn, 1) := by decide +kernel
theorem dX6_add_0 : decode cX6_add 0 = .ok (.iconst 0, 1) := by decide +kernel
theorem dX6_add_1 : decode cX6_add 1 = .ok (.iload_n 1, 1) := by decide +kernel
theorem dX6_add_2 : decode cX6_add 2 = .ok (.invokestatic 97, 3) := by decide +kernel
theorem dX6_add_5 : decode cX6_add 5 = .ok (.ifCond .eq 46, 3) := by decide +kernel
theorem dX6_add_8 : decode cX6_add 8 = .ok (.iconst 1, 1) := by decide +kernel
theorem dX6_add_9 : decode cX6_add 9 = .ok (.iload_n 2, 1) := by decide +kernel
theorem dX6_add_10 : decode cX6_add 10 = .ok (.invokestatic 97, 3) := by decide +kernel
theorem dX6_add_13 : decode cX6_add 13 = .ok (.ifCond .eq 38, 3) := by decide +kernel
theorem dX6_add_16 : decode cX6_add 16 = .ok (.iconst 2, 1) := by decide +kernel
theorem dX6_add_17 : decode cX6_add 17 = .ok (.iload_n 3, 1) := by decide +kernel
theorem dX6_add_18 : decode cX6_add 18 = .ok (.invokestatic 97, 3) := by decide +kernel
theorem dX6_add_21 : decode cX6_add 21 = .ok (.ifCond .eq 30, 3) := by decide +kernel
theorem dX6_add_24 : decode cX6_add 24 = .ok (.iconst 3, 1) := by decide +kernel
theorem dX6_add_25 : decode cX6_add 25 = .ok (.iload 4, 2) := by decide +kernel
theorem dX6_add_27 : decode cX6_add 27 = .ok (.invokestatic 97, 3) := by decide +kernel
theorem dX6_add_30 : decode cX6_add 30 = .ok (.ifCond .eq 21, 3) := by decide +kernel
theorem dX6_add_33 : decode cX6_add 33 = .ok (.iconst 4, 1) := by decide +kernel
theorem dX6_add_34 : decode cX6_add 34 = .ok (.iload 5, 2) := by decide +kernel
theorem dX6_add_36 : decode cX6_add 36 = .ok (.invokestatic 97, 3) := by decide +kernel
theorem dX6_add_39 : decode cX6_add 39 = .ok (.ifCond .eq 12, 3) := by decide +kernel
theorem dX6_add_42 : decode cX6_add 42 = .ok (.iconst 5, 1) := by decide +kernel
theorem dX6_add_43 : decode cX6_add 43 = .ok (.iload 6, 2) := by decide +kernel
theorem dX6_add_45 : decode cX6_add 45 = .ok (.invokestatic 97, 3) := by decide +kernel
theorem dX6_add_48 : decode cX6_add 48 = .ok (.ifCond .ne 9, 3) := by decide +kernel
theorem dX6_add_51 : decode cX6_add 51 = .ok (.aload_n 0, 1) := by decide +kernel
theorem dX6_add_52 : decode cX6_add 52 = .ok (.iconst 0, 1) := by decide +kernel
theorem dX6_add_53 : decode cX6_add 53 = .ok (.invokevirtual 101, 3) := by decide +kernel
theorem dX6_add_56 : decode cX6_add 56 = .ok (.ireturn, 1) := by decide +kernel
theorem dX6_add_57 : decode cX6_add 57 = .ok (.aload_n 0, 1) := by decide +kernel
theorem dX6_add_58 : decode cX6_add 58 = .ok (.getfield 9, 3) := by decide +kernel
theorem dX6_add_61 : decode cX6_add 61 = .ok (.iconst 0, 1) := by decide +kernel
theorem dX6_add_62 : decode cX6_add 62 = .ok (.iaload, 1) := by decide +kernel
theorem dX6_add_63 : decode cX6_add 63 = .ok (.bipush 12, 2) := by decide +kernel
theorem dX6_add_65 : decode cX6_add 65 = .ok (.if_icmp .ne 9, 3) := by decide +kernel
theorem dX6_add_68 : decode cX6_add 68 = .ok (.aload_n 0, 1) := by decide +kernel
theorem dX6_add_69 : decode cX6_add 69 = .ok (.iconst 1, 1) := by decide +kernel
theorem dX6_add_70 : decode cX6_add 70 = .ok (.invokevirtual 101, 3) := by decide +kernel
theorem dX6_add_73 : decode cX6_add 73 = .ok (.ireturn, 1) := by decide +kernel
theorem dX6_add_74 : decode cX6_add 74 = .ok (.iconst 1, 1) := by decide +kernel
theorem dX6_add_75 : decode cX6_add 75 = .ok (.bipush 8, 2) := by decide +kernel
theorem dX6_add_77 : decode cX6_add 77 = .ok (.aload_n 0, 1) := by decide +kernel
theorem dX6_add_78 : decode cX6_add 78 = .ok (.getfield 9, 3) := by decide +kernel
theorem dX6_add_81 : decode cX6_add 81 = .ok (.iconst 0, 1) := by decide +kernel
theorem dX6_add_82 : decode cX6_add 82 = .ok (.iaload, 1) := by decide +kernel
theorem dX6_add_83 : decode cX6_add 83 = .ok (.imul, 1) := by decide +kernel
theorem dX6_add_84 : decode cX6_add 84 = .ok (.iadd, 1) := by decide +kernel
theorem dX6_add_85 : decode cX6_add 85 = .ok (.istore 7, 2) := by decide +kernel
theorem dX6_add_87 : decode cX6_add 87 = .ok (.aload_n 0, 1) := by decide +kernel
theorem dX6_add_88 : decode cX6_add 88 = .ok (.getfield 9, 3) := by decide +kernel
theorem dX6_add_91 : decode cX6_add 91 = .ok (.iload 7, 2) := by decide +kernel
theorem dX6_add_93 : decode cX6_add 93 = .ok (.iconst 0, 1) := by decide +kernel
theorem dX6_add_94 : decode cX6_add 94 = .ok (.iadd, 1) := by decide +kernel
theorem dX6_add_95 : decode cX6_add 95 = .ok (.iload_n 1, 1) := by decide +kernel
theorem dX6_add_96 : decode cX6_add 96 = .ok (.iastore, 1) := by decide +kernel
theorem dX6_add_97 : decode cX6_add 97 = .ok (.aload_n 0, 1) := by decide +kernel
theorem dX6_add_98 : decode cX6_add 98 = .ok (.getfield 9, 3) := by decide +kernel
theorem dX6_add_101 : decode cX6_add 101 = .ok (.iload 7, 2) := by decide +kernel
theorem dX6_add_103 : decode cX6_add 103 = .ok (.iconst 1, 1) := by decide +kernel
theorem dX6_add_104 : decode cX6_add 104 = .ok (.iadd, 1) := by decide +kernel
theorem dX6_add_105 : decode cX6_add 105 = .ok (.iload_n 2, 1) := by decide +kernel
theorem dX6_add_106 : decode cX6_add 106 = .ok (.iastore, 1) := by decide +kernel
theorem dX6_add_107 : decode cX6_add 107 = .ok (.aload_n 0, 1) := by decide +kernel
theorem dX6_add_108 : decode cX6_add 108 = .ok (.getfield 9, 3) := by decide +kernel
theorem dX6_add_111 : decode cX6_add 111 = .ok (.iload 7, 2) := by decide +kernel
theorem dX6_add_113 : decode cX6_add 113 = .ok (.iconst 2, 1) := by decide +kernel
theorem dX6_add_114 : decode cX6_add 114 = .ok (.iadd, 1) := by decide +kernel
theorem dX6_add_115 : decode cX6_add 115 = .ok (.iload_n 3, 1) := by decide +kernel
theorem dX6_add_116 : decode cX6_add 116 = .ok (.iastore, 1) := by decide +kernel
theorem dX6_add_117 : decode cX6_add 117 = .ok (.aload_n 0, 1) := by decide +kernel
theorem dX6_add_118 : decode cX6_add 118 = .ok (.getfield 9, 3) := by decide +kernel
theorem dX6_add_121 : decode cX6_add 121 = .ok (.iload 7, 2) := by decide +kernel
theorem dX6_add_123 : decode cX6_add 123 = .ok (.iconst 3, 1) := by decide +kernel
theorem dX6_add_124 : decode cX6_add 124 = .ok (.iadd, 1) := by decide +kernel
theorem dX6_add_125 : decode cX6_add 125 = .ok (.iload 4, 2) := by decide +kernel
theorem dX6_add_127 : decode cX6_add 127 = .ok (.iastore, 1) := by decide +kernel
theorem dX6_add_128 : decode cX6_add 128 = .ok (.aload_n 0, 1) := by decide +kernel
theorem dX6_add_129 : decode cX6_add 129 = .ok (.getfield 9, 3) := by decide +kernel
theorem dX6_add_132 : decode cX6_add 132 = .ok (.iload 7, 2) := by decide +kernel
theorem dX6_add_134 : decode cX6_add 134 = .ok (.iconst 4, 1) := by decide +kernel
theorem dX6_add_135 : decode cX6_add 135 = .ok (.iadd, 1) := by decide +kernel
theorem dX6_add_136 : decode cX6_add 136 = .ok (.iload 5, 2) := by decide +kernel
theorem dX6_add_138 : decode cX6_add 138 = .ok (.iastore, 1) := by decide +kernel
theorem dX6_add_139 : decode cX6_add 139 = .ok (.aload_n 0, 1) := by decide +kernel
theorem dX6_add_140 : decode cX6_add 140 = .ok (.getfield 9, 3) := by decide +kernel
theorem dX6_add_143 : decode cX6_add 143 = .ok (.iload 7, 2) := by decide +kernel
theorem dX6_add_145 : decode cX6_add 145 = .ok (.iconst 5, 1) := by decide +kernel
theorem dX6_add_146 : decode cX6_add 146 = .ok (.iadd, 1) := by decide +kernel
theorem dX6_add_147 : decode cX6_add 147 = .ok (.iload 6, 2) := by decide +kernel
theorem dX6_add_149 : decode cX6_add 149 = .ok (.iastore, 1) := by decide +kernel
theorem dX6_add_150 : decode cX6_add 150 = .ok (.aload_n 0, 1) := by decide +kernel
theorem dX6_add_151 : decode cX6_add 151 = .ok (.getfield 9, 3) := by decide +kernel
theorem dX6_add_154 : decode cX6_add 154 = .ok (.iload 7, 2) := by decide +kernel
theorem dX6_add_156 : decode cX6_add 156 = .ok (.bipush 6, 2) := by decide +kernel
theorem dX6_add_158 : decode cX6_add 158 = .ok (.iadd, 1) := by decide +kernel
theorem dX6_add_159 : decode cX6_add 159 = .ok (.iconst 0, 1) := by decide +kernel
theorem dX6_add_160 : decode cX6_add 160 = .ok (.iastore, 1) := by decide +kernel
theorem dX6_add_161 : decode cX6_add 161 = .ok (.aload_n 0, 1) := by decide +kernel
theorem dX6_add_162 : decode cX6_add 162 = .ok (.getfield 9, 3) := by decide +kernel
theorem dX6_add_165 : decode cX6_add 165 = .ok (.iload 7, 2) := by decide +kernel
theorem dX6_add_167 : decode cX6_add 167 = .ok (.bipush 7, 2) := by decide +kernel
theorem dX6_add_169 : decode cX6_add 169 = .ok (.iadd, 1) := by decide +kernel
theorem dX6_add_170 : decode cX6_add 170 = .ok (.iconst 0, 1) := by decide +kernel
theorem dX6_add_171 : decode cX6_add 171 = .ok (.iastore, 1) := by decide +kernel
theorem dX6_add_172 : decode cX6_add 172 = .ok (.aload_n 0, 1) := by decide +kernel
theorem dX6_add_173 : decode cX6_add 173 = .ok (.getfield 9, 3) := by decide +kernel
theorem dX6_add_176 : decode cX6_add 176 = .ok (.iconst 0, 1) := by decide +kernel
theorem dX6_add_177 : decode cX6_add 177 = .ok (.dup2, 1) := by decide +kernel
theorem dX6_add_178 : decode cX6_add 178 = .ok (.iaload, 1) := by decide +kernel
theorem dX6_add_179 : decode cX6_add 179 = .ok (.iconst 1, 1) := by decide +kernel
theorem dX6_add_180 : decode cX6_add 180 = .ok (.iadd, 1) := by decide +kernel
theorem dX6_add_181 : decode cX6_add 181 = .ok (.iastore, 1) := by decide +kernel
theorem dX6_add_182 : decode cX6_add 182 = .ok (.aload_n 0, 1) := by decide +kernel
theorem dX6_add_183 : decode cX6_add 183 = .ok (.getfield 9, 3) := by decide +kernel
theorem dX6_add_186 : decode cX6_add 186 = .ok (.iconst 0, 1) := by decide +kernel
theorem dX6_add_187 : decode cX6_add 187 = .ok (.iaload, 1) := by decide +kernel
theorem dX6_add_188 : decode cX6_add 188 = .ok (.iconst 1, 1) := by decide +kernel
theorem dX6_add_189 : decode cX6_add 189 = .ok (.isub, 1) := by decide +kernel
theorem dX6_add_190 : decode cX6_add 190 = .ok (.ireturn, 1) := by decide +kernel
theorem dX6_of_0 : decode cX6_of 0 = .ok (.aload_n 0, 1) := by decide +kernel
theorem dX6_of_1 : decode cX6_of 1 = .ok (.iload_n 1, 1) := by decide +kernel
theorem dX6_of_2 : decode cX6_of 2 = .ok (.invokevirtual 105, 3) := by decide +kernel
theorem dX6_of_5 : decode cX6_of 5 = .ok (.ifCond .eq 24, 3) := by decide +kernel
theorem dX6_of_8 : decode cX6_of 8 = .ok (.iload_n 2, 1) := by decide +kernel
theorem dX6_of_9 : decode cX6_of 9 = .ok (.i2l, 1) := by decide +kernel
theorem dX6_of_10 : decode cX6_of 10 = .ok (.lconst 0, 1) := by decide +kernel
theorem dX6_of_11 : decode cX6_of 11 = .ok (.ldc2_w 108, 3) := by decide +kernel
theorem dX6_of_14 : decode cX6_of 14 = .ok (.invokestatic 69, 3) := by decide +kernel
theorem dX6_of_17 : decode cX6_of 17 = .ok (.ifCond .eq 12, 3) := by decide +kernel
theorem dX6_of_20 : decode cX6_of 20 = .ok (.aload_n 0, 1) := by decide +kernel
theorem dX6_of_21 : decode cX6_of 21 = .ok (.iload_n 1, 1) := by decide +kernel
theorem dX6_of_22 : decode cX6_of 22 = .ok (.iload_n 2, 1) := by decide +kernel
theorem dX6_of_23 : decode cX6_of 23 = .ok (.invokevirtual 110, 3) := by decide +kernel
theorem dX6_of_26 : decode cX6_of 26 = .ok (.goto 8, 3) := by decide +kernel
theorem dX6_of_29 : decode cX6_of 29 = .ok (.aload_n 0, 1) := by decide +kernel
theorem dX6_of_30 : decode cX6_of 30 = .ok (.iconst 0, 1) := by decide +kernel
theorem dX6_of_31 : decode cX6_of 31 = .ok (.invokevirtual 101, 3) := by decide +kernel
theorem dX6_of_34 : decode cX6_of 34 = .ok (.ireturn, 1) := by decide +kernel
theorem dX6_change_0 : decode cX6_change 0 = .ok (.aload_n 0, 1) := by decide +kernel
theorem dX6_change_1 : decode cX6_change 1 = .ok (.iload_n 1, 1) := by decide +kernel
theorem dX6_change_2 : decode cX6_change 2 = .ok (.invokevirtual 105, 3) := by decide +kernel
theorem dX6_change_5 : decode cX6_change 5 = .ok (.ifCond .eq 11, 3) := by decide +kernel
theorem dX6_change_8 : decode cX6_change 8 = .ok (.iload_n 2, 1) := by decide +kernel
theorem dX6_change_9 : decode cX6_change 9 = .ok (.iload_n 3, 1) := by decide +kernel
theorem dX6_change_10 : decode cX6_change 10 = .ok (.invokestatic 97, 3) := by decide +kernel
theorem dX6_change_13 : decode cX6_change 13 = .ok (.ifCond .ne 9, 3) := by decide +kernel
theorem dX6_change_16 : decode cX6_change 16 = .ok (.aload_n 0, 1) := by decide +kernel
theorem dX6_change_17 : decode cX6_change 17 = .ok (.iconst 0, 1) := by decide +kernel
theorem dX6_change_18 : decode cX6_change 18 = .ok (.invokevirtual 101, 3) := by decide +kernel
theorem dX6_change_21 : decode cX6_change 21 = .ok (.ireturn, 1) := by decide +kernel
theorem dX6_change_22 : decode cX6_change 22 = .ok (.aload_n 0, 1) := by decide +kernel
theorem dX6_change_23 : decode cX6_change 23 = .ok (.iload_n 1, 1) := by decide +kernel
theorem dX6_change_24 : decode cX6_change 24 = .ok (.iload_n 2, 1) := by decide +kernel
theorem dX6_change_25 : decode cX6_change 25 = .ok (.invokevirtual 110, 3) := by decide +kernel
theorem dX6_change_28 : decode cX6_change 28 = .ok (.istore 4, 2) := by decide +kernel
theorem dX6_change_30 : decode cX6_change 30 = .ok (.aload_n 0, 1) := by decide +kernel
theorem dX6_change_31 : decode cX6_change 31 = .ok (.getfield 9, 3) := by decide +kernel
theorem dX6_change_34 : decode cX6_change 34 = .ok (.iconst 1, 1) := by decide +kernel
theorem dX6_change_35 : decode cX6_change 35 = .ok (.bipush 8, 2) := by decide +kernel
theorem dX6_change_37 : decode cX6_change 37 = .ok (.iload_n 1, 1) := by decide +kernel
theorem dX6_change_38 : decode cX6_change 38 = .ok (.imul, 1) := by decide +kernel
theorem dX6_change_39 : decode cX6_change 39 = .ok (.iadd, 1) := by decide +kernel
theorem dX6_change_40 : decode cX6_change 40 = .ok (.iload_n 2, 1) := by decide +kernel
theorem dX6_change_41 : decode cX6_change 41 = .ok (.iadd, 1) := by decide +kernel
theorem dX6_change_42 : decode cX6_change 42 = .ok (.iload_n 3, 1) := by decide +kernel
theorem dX6_change_43 : decode cX6_change 43 = .ok (.iastore, 1) := by decide +kernel
theorem dX6_change_44 : decode cX6_change 44 = .ok (.iload 4, 2) := by decide +kernel
theorem dX6_change_46 : decode cX6_change 46 = .ok (.ireturn, 1) := by decide +kernel
theorem dX6_drop_0 : decode cX6_drop 0 = .ok (.aload_n 0, 1) := by decide +kernel
theorem dX6_drop_1 : decode cX6_drop 1 = .ok (.getfield 9, 3) := by decide +kernel
theorem dX6_drop_4 : decode cX6_drop 4 = .ok (.iconst 0, 1) := by decide +kernel
theorem dX6_drop_5 : decode cX6_drop 5 = .ok (.iaload, 1) := by decide +kernel
theorem dX6_drop_6 : decode cX6_drop 6 = .ok (.ifCond .ne 9, 3) := by decide +kernel
theorem dX6_drop_9 : decode cX6_drop 9 = .ok (.aload_n 0, 1) := by decide +kernel
theorem dX6_drop_10 : decode cX6_drop 10 = .ok (.iconst 3, 1) := by decide +kernel
theorem dX6_drop_11 : decode cX6_drop 11 = .ok (.invokevirtual 101, 3) := by decide +kernel
theorem dX6_drop_14 : decode cX6_drop 14 = .ok (.ireturn, 1) := by decide +kernel
theorem dX6_drop_15 : decode cX6_drop 15 = .ok (.aload_n 0, 1) := by decide +kernel
theorem dX6_drop_16 : decode cX6_drop 16 = .ok (.getfield 9, 3) := by decide +kernel
theorem dX6_drop_19 : decode cX6_drop 19 = .ok (.iconst 0, 1) := by decide +kernel
theorem dX6_drop_20 : decode cX6_drop 20 = .ok (.dup2, 1) := by decide +kernel
theorem dX6_drop_21 : decode cX6_drop 21 = .ok (.iaload, 1) := by decide +kernel
theorem dX6_drop_22 : decode cX6_drop 22 = .ok (.iconst 1, 1) := by decide +kernel
theorem dX6_drop_23 : decode cX6_drop 23 = .ok (.isub, 1) := by decide +kernel
theorem dX6_drop_24 : decode cX6_drop 24 = .ok (.iastore, 1) := by decide +kernel
theorem dX6_drop_25 : decode cX6_drop 25 = .ok (.iconst 0, 1) := by decide +kernel
theorem dX6_drop_26 : decode cX6_drop 26 = .ok (.istore_n 1, 1) := by decide +kernel
theorem dX6_drop_27 : decode cX6_drop 27 = .ok (.iload_n 1, 1) := by decide +kernel
theorem dX6_drop_28 : decode cX6_drop 28 = .ok (.aload_n 0, 1) := by decide +kernel
theorem dX6_drop_29 : decode cX6_drop 29 = .ok (.getfield 9, 3) := by decide +kernel
theorem dX6_drop_32 : decode cX6_drop 32 = .ok (.iconst 0, 1) := by decide +kernel
theorem dX6_drop_33 : decode cX6_drop 33 = .ok (.iaload, 1) := by decide +kernel
theorem dX6_drop_34 : decode cX6_drop 34 = .ok (.if_icmp .ge 36, 3) := by decide +kernel
theorem dX6_drop_37 : decode cX6_drop 37 = .ok (.aload_n 0, 1) := by decide +kernel
theorem dX6_drop_38 : decode cX6_drop 38 = .ok (.getfield 9, 3) := by decide +kernel
theorem dX6_drop_41 : decode cX6_drop 41 = .ok (.iconst 1, 1) := by decide +kernel
theorem dX6_drop_42 : decode cX6_drop 42 = .ok (.bipush 8, 2) := by decide +kernel
theorem dX6_drop_44 : decode cX6_drop 44 = .ok (.iload_n 1, 1) := by decide +kernel
theorem dX6_drop_45 : decode cX6_drop 45 = .ok (.imul, 1) := by decide +kernel
theorem dX6_drop_46 : decode cX6_drop 46 = .ok (.iadd, 1) := by decide +kernel
theorem dX6_drop_47 : decode cX6_drop 47 = .ok (.bipush 7, 2) := by decide +kernel
theorem dX6_drop_49 : decode cX6_drop 49 = .ok (.iadd, 1) := by decide +kernel
theorem dX6_drop_50 : decode cX6_drop 50 = .ok (.dup2, 1) := by decide +kernel
theorem dX6_drop_51 : decode cX6_drop 51 = .ok (.iaload, 1) := by decide +kernel
theorem dX6_drop_52 : decode cX6_drop 52 = .ok (.iconst 1, 1) := by decide +kernel
theorem dX6_drop_53 : decode cX6_drop 53 = .ok (.aload_n 0, 1) := by decide +kernel
theorem dX6_drop_54 : decode cX6_drop 54 = .ok (.getfield 9, 3) := by decide +kernel
theorem dX6_drop_57 : decode cX6_drop 57 = .ok (.iconst 0, 1) := by decide +kernel
theorem dX6_drop_58 : decode cX6_drop 58 = .ok (.iaload, 1) := by decide +kernel
theorem dX6_drop_59 : decode cX6_drop 59 = .ok (.ishl, 1) := by decide +kernel
theorem dX6_drop_60 : decode cX6_drop 60 = .ok (.iconst (-1), 1) := by decide +kernel
theorem dX6_drop_61 : decode cX6_drop 61 = .ok (.ixor, 1) := by decide +kernel
theorem dX6_drop_62 : decode cX6_drop 62 = .ok (.iand, 1) := by decide +kernel
theorem dX6_drop_63 : decode cX6_drop 63 = .ok (.iastore, 1) := by decide +kernel
theorem dX6_drop_64 : decode cX6_drop 64 = .ok (.iinc 1 1, 3) := by decide +kernel
theorem dX6_drop_67 : decode cX6_drop 67 = .ok (.goto (-40), 3) := by decide +kernel
theorem dX6_drop_70 : decode cX6_drop 70 = .ok (.aload_n 0, 1) := by decide +kernel
theorem dX6_drop_71 : decode cX6_drop 71 = .ok (.getfield 9, 3) := by decide +kernel
theorem dX6_drop_74 : decode cX6_drop 74 = .ok (.iconst 0, 1) := by decide +kernel
theorem dX6_drop_75 : decode cX6_drop 75 = .ok (.iaload, 1) := by decide +kernel
theorem dX6_drop_76 : decode cX6_drop 76 = .ok (.ireturn, 1) := by decide +kernel
theorem dX6_isUnder_0 : decode cX6_isUnder 0 = .ok (.iload_n 1, 1) := by decide +kernel
theorem dX6_isUnder_1 : decode cX6_isUnder 1 = .ok (.ifCond .eq 28, 3) := by decide +kernel
theorem dX6_isUnder_4 : decode cX6_isUnder 4 = .ok (.iload_n 1, 1) := by decide +kernel
theorem dX6_isUnder_5 : decode cX6_isUnder 5 = .ok (.iload_n 0, 1) := by decide +kernel
theorem dX6_isUnder_6 : decode cX6_isUnder 6 = .ok (.if_icmp .eq 23, 3) := by decide +kernel
theorem dX6_isUnder_9 : decode cX6_isUnder 9 = .ok (.iload_n 0, 1) := by decide +kernel
theorem dX6_isUnder_10 : decode cX6_isUnder 10 = .ok (.iconst 3, 1) := by decide +kernel
theorem dX6_isUnder_11 : decode cX6_isUnder 11 = .ok (.if_icmp .ne 8, 3) := by decide +kernel
theorem dX6_isUnder_14 : decode cX6_isUnder 14 = .ok (.iload_n 1, 1) := by decide +kernel
theorem dX6_isUnder_15 : decode cX6_isUnder 15 = .ok (.iconst 1, 1) := by decide +kernel
theorem dX6_isUnder_16 : decode cX6_isUnder 16 = .ok (.if_icmp .eq 13, 3) := by decide +kernel
theorem dX6_isUnder_19 : decode cX6_isUnder 19 = .ok (.iload_n 0, 1) := by decide +kernel
theorem dX6_isUnder_20 : decode cX6_isUnder 20 = .ok (.iconst 4, 1) := by decide +kernel
theorem dX6_isUnder_21 : decode cX6_isUnder 21 = .ok (.if_icmp .ne 12, 3) := by decide +kernel
theorem dX6_isUnder_24 : decode cX6_isUnder 24 = .ok (.iload_n 1, 1) := by decide +kernel
theorem dX6_isUnder_25 : decode cX6_isUnder 25 = .ok (.iconst 2, 1) := by decide +kernel
theorem dX6_isUnder_26 : decode cX6_isUnder 26 = .ok (.if_icmp .ne 7, 3) := by decide +kernel
theorem dX6_isUnder_29 : decode cX6_isUnder 29 = .ok (.iconst 1, 1) := by decide +kernel
theorem dX6_isUnder_30 : decode cX6_isUnder 30 = .ok (.goto 4, 3) := by decide +kernel
theorem dX6_isUnder_33 : decode cX6_isUnder 33 = .ok (.iconst 0, 1) := by decide +kernel
theorem dX6_isUnder_34 : decode cX6_isUnder 34 = .ok (.ireturn, 1) := by decide +kernel
theorem dX6_as_0 : decode cX6_as 0 = .ok (.aload_n 0, 1) := by decide +kernel
theorem dX6_as_1 : decode cX6_as 1 = .ok (.iload_n 1, 1) := by decide +kernel
theorem dX6_as_2 : decode cX6_as 2 = .ok (.invokevirtual 105, 3) := by decide +kernel
theorem dX6_as_5 : decode cX6_as 5 = .ok (.ifCond .eq 10, 3) := by decide +kernel
theorem dX6_as_8 : decode cX6_as 8 = .ok (.iload_n 2, 1) := by decide +kernel
theorem dX6_as_9 : decode cX6_as 9 = .ok (.invokestatic 79, 3) := by decide +kernel
theorem dX6_as_12 : decode cX6_as 12 = .ok (.ifCond .ne 9, 3) := by decide +kernel
theorem dX6_as_15 : decode cX6_as 15 = .ok (.aload_n 0, 1) := by decide +kernel
theorem dX6_as_16 : decode cX6_as 16 = .ok (.iconst 0, 1) := by decide +kernel
theorem dX6_as_17 : decode cX6_as 17 = .ok (.invokevirtual 101, 3) := by decide +kernel
theorem dX6_as_20 : decode cX6_as 20 = .ok (.ireturn, 1) := by decide +kernel
theorem dX6_as_21 : decode cX6_as 21 = .ok (.aload_n 0, 1) := by decide +kernel
theorem dX6_as_22 : decode cX6_as 22 = .ok (.iload_n 1, 1) := by decide +kernel
theorem dX6_as_23 : decode cX6_as 23 = .ok (.iconst 0, 1) := by decide +kernel
theorem dX6_as_24 : decode cX6_as 24 = .ok (.invokevirtual 110, 3) := by decide +kernel
theorem dX6_as_27 : decode cX6_as 27 = .ok (.iload_n 2, 1) := by decide +kernel
theorem dX6_as_28 : decode cX6_as 28 = .ok (.invokestatic 114, 3) := by decide +kernel
theorem dX6_as_31 : decode cX6_as 31 = .ok (.ifCond .eq 12, 3) := by decide +kernel
theorem dX6_as_34 : decode cX6_as 34 = .ok (.aload_n 0, 1) := by decide +kernel
theorem dX6_as_35 : decode cX6_as 35 = .ok (.iload_n 1, 1) := by decide +kernel
theorem dX6_as_36 : decode cX6_as 36 = .ok (.iconst 2, 1) := by decide +kernel
theorem dX6_as_37 : decode cX6_as 37 = .ok (.invokevirtual 110, 3) := by decide +kernel
theorem dX6_as_40 : decode cX6_as 40 = .ok (.goto 8, 3) := by decide +kernel
theorem dX6_as_43 : decode cX6_as 43 = .ok (.aload_n 0, 1) := by decide +kernel
theorem dX6_as_44 : decode cX6_as 44 = .ok (.iconst 2, 1) := by decide +kernel
theorem dX6_as_45 : decode cX6_as 45 = .ok (.invokevirtual 101, 3) := by decide +kernel
theorem dX6_as_48 : decode cX6_as 48 = .ok (.ireturn, 1) := by decide +kernel
theorem dX6_becomes_0 : decode cX6_becomes 0 = .ok (.iconst 1, 1) := by decide +kernel
theorem dX6_becomes_1 : decode cX6_becomes 1 = .ok (.bipush 8, 2) := by decide +kernel
theorem dX6_becomes_3 : decode cX6_becomes 3 = .ok (.iload_n 1, 1) := by decide +kernel
theorem dX6_becomes_4 : decode cX6_becomes 4 = .ok (.imul, 1) := by decide +kernel
theorem dX6_becomes_5 : decode cX6_becomes 5 = .ok (.iadd, 1) := by decide +kernel
theorem dX6_becomes_6 : decode cX6_becomes 6 = .ok (.bipush 7, 2) := by decide +kernel
theorem dX6_becomes_8 : decode cX6_becomes 8 = .ok (.iadd, 1) := by decide +kernel
theorem dX6_becomes_9 : decode cX6_becomes 9 = .ok (.istore 4, 2) := by decide +kernel
theorem dX6_becomes_11 : decode cX6_becomes 11 = .ok (.aload_n 0, 1) := by decide +kernel
theorem dX6_becomes_12 : decode cX6_becomes 12 = .ok (.getfield 9, 3) := by decide +kernel
theorem dX6_becomes_15 : decode cX6_becomes 15 = .ok (.iload 4, 2) := by decide +kernel
theorem dX6_becomes_17 : decode cX6_becomes 17 = .ok (.aload_n 0, 1) := by decide +kernel
theorem dX6_becomes_18 : decode cX6_becomes 18 = .ok (.getfield 9, 3) := by decide +kernel
theorem dX6_becomes_21 : decode cX6_becomes 21 = .ok (.iload 4, 2) := by decide +kernel
theorem dX6_becomes_23 : decode cX6_becomes 23 = .ok (.iaload, 1) := by decide +kernel
theorem dX6_becomes_24 : decode cX6_becomes 24 = .ok (.iconst 1, 1) := by decide +kernel
theorem dX6_becomes_25 : decode cX6_becomes 25 = .ok (.iload_n 2, 1) := by decide +kernel
theorem dX6_becomes_26 : decode cX6_becomes 26 = .ok (.ishl, 1) := by decide +kernel
theorem dX6_becomes_27 : decode cX6_becomes 27 = .ok (.iconst (-1), 1) := by decide +kernel
theorem dX6_becomes_28 : decode cX6_becomes 28 = .ok (.ixor, 1) := by decide +kernel
theorem dX6_becomes_29 : decode cX6_becomes 29 = .ok (.iand, 1) := by decide +kernel
theorem dX6_becomes_30 : decode cX6_becomes 30 = .ok (.iload_n 3, 1) := by decide +kernel
theorem dX6_becomes_31 : decode cX6_becomes 31 = .ok (.ifCond .eq 9, 3) := by decide +kernel
theorem dX6_becomes_34 : decode cX6_becomes 34 = .ok (.iconst 1, 1) := by decide +kernel
theorem dX6_becomes_35 : decode cX6_becomes 35 = .ok (.iload_n 2, 1) := by decide +kernel
theorem dX6_becomes_36 : decode cX6_becomes 36 = .ok (.ishl, 1) := by decide +kernel
theorem dX6_becomes_37 : decode cX6_becomes 37 = .ok (.goto 4, 3) := by decide +kernel
theorem dX6_becomes_40 : decode cX6_becomes 40 = .ok (.iconst 0, 1) := by decide +kernel
theorem dX6_becomes_41 : decode cX6_becomes 41 = .ok (.ior, 1) := by decide +kernel
theorem dX6_becomes_42 : decode cX6_becomes 42 = .ok (.iastore, 1) := by decide +kernel
theorem dX6_becomes_43 : decode cX6_becomes 43 = .ok (.return_, 1) := by decide +kernel
theorem dX6_enemy_0 : decode cX6_enemy 0 = .ok (.aload_n 0, 1) := by decide +kernel
theorem dX6_enemy_1 : decode cX6_enemy 1 = .ok (.iload_n 1, 1) := by decide +kernel
theorem dX6_enemy_2 : decode cX6_enemy 2 = .ok (.invokevirtual 105, 3) := by decide +kernel
theorem dX6_enemy_5 : decode cX6_enemy 5 = .ok (.ifCond .eq 16, 3) := by decide +kernel
theorem dX6_enemy_8 : decode cX6_enemy 8 = .ok (.aload_n 0, 1) := by decide +kernel
theorem dX6_enemy_9 : decode cX6_enemy 9 = .ok (.iload_n 2, 1) := by decide +kernel
theorem dX6_enemy_10 : decode cX6_enemy 10 = .ok (.invokevirtual 105, 3) := by decide +kernel
theorem dX6_enemy_13 : decode cX6_enemy 13 = .ok (.ifCond .eq 8, 3) := by decide +kernel
theorem dX6_enemy_16 : decode cX6_enemy 16 = .ok (.iload_n 1, 1) := by decide +kernel
theorem dX6_enemy_17 : decode cX6_enemy 17 = .ok (.iload_n 2, 1) := by decide +kernel
theorem dX6_enemy_18 : decode cX6_enemy 18 = .ok (.if_icmp .ne 9, 3) := by decide +kernel
theorem dX6_enemy_21 : decode cX6_enemy 21 = .ok (.aload_n 0, 1) := by decide +kernel
theorem dX6_enemy_22 : decode cX6_enemy 22 = .ok (.iconst 0, 1) := by decide +kernel
theorem dX6_enemy_23 : decode cX6_enemy 23 = .ok (.invokevirtual 101, 3) := by decide +kernel
theorem dX6_enemy_26 : decode cX6_enemy 26 = .ok (.ireturn, 1) := by decide +kernel
theorem dX6_enemy_27 : decode cX6_enemy 27 = .ok (.aload_n 0, 1) := by decide +kernel
theorem dX6_enemy_28 : decode cX6_enemy 28 = .ok (.iload_n 1, 1) := by decide +kernel
theorem dX6_enemy_29 : decode cX6_enemy 29 = .ok (.bipush 7, 2) := by decide +kernel
theorem dX6_enemy_31 : decode cX6_enemy 31 = .ok (.invokevirtual 110, 3) := by decide +kernel
theorem dX6_enemy_34 : decode cX6_enemy 34 = .ok (.iload_n 2, 1) := by decide +kernel
theorem dX6_enemy_35 : decode cX6_enemy 35 = .ok (.invokestatic 117, 3) := by decide +kernel
theorem dX6_enemy_38 : decode cX6_enemy 38 = .ok (.ifCond .eq 7, 3) := by decide +kernel
theorem dX6_enemy_41 : decode cX6_enemy 41 = .ok (.iconst 1, 1) := by decide +kernel
theorem dX6_enemy_42 : decode cX6_enemy 42 = .ok (.goto 4, 3) := by decide +kernel
theorem dX6_enemy_45 : decode cX6_enemy 45 = .ok (.iconst 0, 1) := by decide +kernel
theorem dX6_enemy_46 : decode cX6_enemy 46 = .ok (.istore 4, 2) := by decide +kernel
theorem dX6_enemy_48 : decode cX6_enemy 48 = .ok (.aload_n 0, 1) := by decide +kernel
theorem dX6_enemy_49 : decode cX6_enemy 49 = .ok (.iload_n 1, 1) := by decide +kernel
theorem dX6_enemy_50 : decode cX6_enemy 50 = .ok (.iload_n 2, 1) := by decide +kernel
theorem dX6_enemy_51 : decode cX6_enemy 51 = .ok (.iload_n 3, 1) := by decide +kernel
theorem dX6_enemy_52 : decode cX6_enemy 52 = .ok (.invokevirtual 120, 3) := by decide +kernel
theorem dX6_enemy_55 : decode cX6_enemy 55 = .ok (.aload_n 0, 1) := by decide +kernel
theorem dX6_enemy_56 : decode cX6_enemy 56 = .ok (.iload_n 2, 1) := by decide +kernel
theorem dX6_enemy_57 : decode cX6_enemy 57 = .ok (.iload_n 1, 1) := by decide +kernel
theorem dX6_enemy_58 : decode cX6_enemy 58 = .ok (.iload_n 3, 1) := by decide +kernel
theorem dX6_enemy_59 : decode cX6_enemy 59 = .ok (.invokevirtual 120, 3) := by decide +kernel
theorem dX6_enemy_62 : decode cX6_enemy 62 = .ok (.iload 4, 2) := by decide +kernel
theorem dX6_enemy_64 : decode cX6_enemy 64 = .ok (.ireturn, 1) := by decide +kernel
theorem dX6_slopeOf_0 : decode cX6_slopeOf 0 = .ok (.aload_n 0, 1) := by decide +kernel
theorem dX6_slopeOf_1 : decode cX6_slopeOf 1 = .ok (.iload_n 1, 1) := by decide +kernel
theorem dX6_slopeOf_2 : decode cX6_slopeOf 2 = .ok (.iconst 3, 1) := by decide +kernel
theorem dX6_slopeOf_3 : decode cX6_slopeOf 3 = .ok (.invokevirtual 110, 3) := by decide +kernel
theorem dX6_slopeOf_6 : decode cX6_slopeOf 6 = .ok (.i2f, 1) := by decide +kernel
theorem dX6_slopeOf_7 : decode cX6_slopeOf 7 = .ok (.ldc 124, 2) := by decide +kernel
theorem dX6_slopeOf_9 : decode cX6_slopeOf 9 = .ok (.fdiv, 1) := by decide +kernel
theorem dX6_slopeOf_10 : decode cX6_slopeOf 10 = .ok (.freturn, 1) := by decide +kernel
theorem dX6_offOf_0 : decode cX6_offOf 0 = .ok (.aload_n 0, 1) := by decide +kernel
theorem dX6_offOf_1 : decode cX6_offOf 1 = .ok (.iload_n 1, 1) := by decide +kernel
theorem dX6_offOf_2 : decode cX6_offOf 2 = .ok (.invokevirtual 125, 3) := by decide +kernel
theorem dX6_offOf_5 : decode cX6_offOf 5 = .ok (.iload_n 2, 1) := by decide +kernel
theorem dX6_offOf_6 : decode cX6_offOf 6 = .ok (.i2f, 1) := by decide +kernel
theorem dX6_offOf_7 : decode cX6_offOf 7 = .ok (.ldc 129, 2) := by decide +kernel
theorem dX6_offOf_9 : decode cX6_offOf 9 = .ok (.fdiv, 1) := by decide +kernel
theorem dX6_offOf_10 : decode cX6_offOf 10 = .ok (.aload_n 0, 1) := by decide +kernel
theorem dX6_offOf_11 : decode cX6_offOf 11 = .ok (.iload_n 1, 1) := by decide +kernel
theorem dX6_offOf_12 : decode cX6_offOf 12 = .ok (.iconst 4, 1) := by decide +kernel
theorem dX6_offOf_13 : decode cX6_offOf 13 = .ok (.invokevirtual 110, 3) := by decide +kernel
theorem dX6_offOf_16 : decode cX6_offOf 16 = .ok (.i2f, 1) := by decide +kernel
theorem dX6_offOf_17 : decode cX6_offOf 17 = .ok (.ldc 129, 2) := by decide +kernel
theorem dX6_offOf_19 : decode cX6_offOf 19 = .ok (.fdiv, 1) := by decide +kernel
theorem dX6_offOf_20 : decode cX6_offOf 20 = .ok (.fsub, 1) := by decide +kernel
theorem dX6_offOf_21 : decode cX6_offOf 21 = .ok (.fmul, 1) := by decide +kernel
theorem dX6_offOf_22 : decode cX6_offOf 22 = .ok (.freturn, 1) := by decide +kernel
theorem dX6_chanceOf_0 : decode cX6_chanceOf 0 = .ok (.aload_n 0, 1) := by decide +kernel
theorem dX6_chanceOf_1 : decode cX6_chanceOf 1 = .ok (.iload_n 1, 1) := by decide +kernel
theorem dX6_chanceOf_2 : decode cX6_chanceOf 2 = .ok (.iload_n 2, 1) := by decide +kernel
theorem dX6_chanceOf_3 : decode cX6_chanceOf 3 = .ok (.invokevirtual 130, 3) := by decide +kernel
theorem dX6_chanceOf_6 : decode cX6_chanceOf 6 = .ok (.fstore_n 3, 1) := by decide +kernel
theorem dX6_chanceOf_7 : decode cX6_chanceOf 7 = .ok (.ldc2_w 134, 3) := by decide +kernel
theorem dX6_chanceOf_10 : decode cX6_chanceOf 10 = .ok (.ldc2_w 134, 3) := by decide +kernel
theorem dX6_chanceOf_13 : decode cX6_chanceOf 13 = .ok (.fload_n 3, 1) := by decide +kernel
theorem dX6_chanceOf_14 : decode cX6_chanceOf 14 = .ok (.f2d, 1) := by decide +kernel
theorem dX6_chanceOf_15 : decode cX6_chanceOf 15 = .ok (.dmul, 1) := by decide +kernel
theorem dX6_chanceOf_16 : decode cX6_chanceOf 16 = .ok (.dconst 1, 1) := by decide +kernel
theorem dX6_chanceOf_17 : decode cX6_chanceOf 17 = .ok (.fload_n 3, 1) := by decide +kernel
theorem dX6_chanceOf_18 : decode cX6_chanceOf 18 = .ok (.invokestatic 136, 3) := by decide +kernel
theorem dX6_chanceOf_21 : decode cX6_chanceOf 21 = .ok (.f2d, 1) := by decide +kernel
theorem dX6_chanceOf_22 : decode cX6_chanceOf 22 = .ok (.dadd, 1) := by decide +kernel
theorem dX6_chanceOf_23 : decode cX6_chanceOf 23 = .ok (.ddiv, 1) := by decide +kernel
theorem dX6_chanceOf_24 : decode cX6_chanceOf 24 = .ok (.dadd, 1) := by decide +kernel
theorem dX6_chanceOf_25 : decode cX6_chanceOf 25 = .ok (.dreturn, 1) := by decide +kernel
theorem dX6_tellsOf_0 : decode cX6_tellsOf 0 = .ok (.aload_n 0, 1) := by decide +kernel
theorem dX6_tellsOf_1 : decode cX6_tellsOf 1 = .ok (.iload_n 1, 1) := by decide +kernel
theorem dX6_tellsOf_2 : decode cX6_tellsOf 2 = .ok (.invokevirtual 125, 3) := by decide +kernel
theorem dX6_tellsOf_5 : decode cX6_tellsOf 5 = .ok (.f2d, 1) := by decide +kernel
theorem dX6_tellsOf_6 : decode cX6_tellsOf 6 = .ok (.dstore_n 3, 1) := by decide +kernel
theorem dX6_tellsOf_7 : decode cX6_tellsOf 7 = .ok (.aload_n 0, 1) := by decide +kernel
theorem dX6_tellsOf_8 : decode cX6_tellsOf 8 = .ok (.iload_n 1, 1) := by decide +kernel
theorem dX6_tellsOf_9 : decode cX6_tellsOf 9 = .ok (.iload_n 2, 1) := by decide +kernel
theorem dX6_tellsOf_10 : decode cX6_tellsOf 10 = .ok (.invokevirtual 142, 3) := by decide +kernel
theorem dX6_tellsOf_13 : decode cX6_tellsOf 13 = .ok (.dstore 5, 2) := by decide +kernel
theorem dX6_tellsOf_15 : decode cX6_tellsOf 15 = .ok (.dload_n 3, 1) := by decide +kernel
theorem dX6_tellsOf_16 : decode cX6_tellsOf 16 = .ok (.dload_n 3, 1) := by decide +kernel
theorem dX6_tellsOf_17 : decode cX6_tellsOf 17 = .ok (.dmul, 1) := by decide +kernel
theorem dX6_tellsOf_18 : decode cX6_tellsOf 18 = .ok (.dload 5, 2) := by decide +kernel
theorem dX6_tellsOf_20 : decode cX6_tellsOf 20 = .ok (.dmul, 1) := by decide +kernel
theorem dX6_tellsOf_21 : decode cX6_tellsOf 21 = .ok (.dconst 1, 1) := by decide +kernel
theorem dX6_tellsOf_22 : decode cX6_tellsOf 22 = .ok (.dload 5, 2) := by decide +kernel
theorem dX6_tellsOf_24 : decode cX6_tellsOf 24 = .ok (.dsub, 1) := by decide +kernel
theorem dX6_tellsOf_25 : decode cX6_tellsOf 25 = .ok (.dmul, 1) := by decide +kernel
theorem dX6_tellsOf_26 : decode cX6_tellsOf 26 = .ok (.dstore 7, 2) := by decide +kernel
theorem dX6_tellsOf_28 : decode cX6_tellsOf 28 = .ok (.aload_n 0, 1) := by decide +kernel
theorem dX6_tellsOf_29 : decode cX6_tellsOf 29 = .ok (.iload_n 1, 1) := by decide +kernel
theorem dX6_tellsOf_30 : decode cX6_tellsOf 30 = .ok (.iconst 2, 1) := by decide +kernel
theorem dX6_tellsOf_31 : decode cX6_tellsOf 31 = .ok (.invokevirtual 110, 3) := by decide +kernel
theorem dX6_tellsOf_34 : decode cX6_tellsOf 34 = .ok (.istore 9, 2) := by decide +kernel
theorem dX6_tellsOf_36 : decode cX6_tellsOf 36 = .ok (.aload_n 0, 1) := by decide +kernel
theorem dX6_tellsOf_37 : decode cX6_tellsOf 37 = .ok (.iload_n 1, 1) := by decide +kernel
theorem dX6_tellsOf_38 : decode cX6_tellsOf 38 = .ok (.iconst 0, 1) := by decide +kernel
theorem dX6_tellsOf_39 : decode cX6_tellsOf 39 = .ok (.invokevirtual 110, 3) := by decide +kernel
theorem dX6_tellsOf_42 : decode cX6_tellsOf 42 = .ok (.tableswitch 76 0 4 #[34, 37, 44, 50, 65], 34) := by decide +kernel
theorem dX6_tellsOf_76 : decode cX6_tellsOf 76 = .ok (.dload 7, 2) := by decide +kernel
theorem dX6_tellsOf_78 : decode cX6_tellsOf 78 = .ok (.dreturn, 1) := by decide +kernel
theorem dX6_tellsOf_79 : decode cX6_tellsOf 79 = .ok (.dload 7, 2) := by decide +kernel
theorem dX6_tellsOf_81 : decode cX6_tellsOf 81 = .ok (.ldc2_w 146, 3) := by decide +kernel
theorem dX6_tellsOf_84 : decode cX6_tellsOf 84 = .ok (.dmul, 1) := by decide +kernel
theorem dX6_tellsOf_85 : decode cX6_tellsOf 85 = .ok (.dreturn, 1) := by decide +kernel
theorem dX6_tellsOf_86 : decode cX6_tellsOf 86 = .ok (.dload 7, 2) := by decide +kernel
theorem dX6_tellsOf_88 : decode cX6_tellsOf 88 = .ok (.dload 5, 2) := by decide +kernel
theorem dX6_tellsOf_90 : decode cX6_tellsOf 90 = .ok (.dmul, 1) := by decide +kernel
theorem dX6_tellsOf_91 : decode cX6_tellsOf 91 = .ok (.dreturn, 1) := by decide +kernel
theorem dX6_tellsOf_92 : decode cX6_tellsOf 92 = .ok (.dload 7, 2) := by decide +kernel
theorem dX6_tellsOf_94 : decode cX6_tellsOf 94 = .ok (.ldc2_w 146, 3) := by decide +kernel
theorem dX6_tellsOf_97 : decode cX6_tellsOf 97 = .ok (.dmul, 1) := by decide +kernel
theorem dX6_tellsOf_98 : decode cX6_tellsOf 98 = .ok (.iload 9, 2) := by decide +kernel
theorem dX6_tellsOf_100 : decode cX6_tellsOf 100 = .ok (.i2d, 1) := by decide +kernel
theorem dX6_tellsOf_101 : decode cX6_tellsOf 101 = .ok (.ldc2_w 148, 3) := by decide +kernel
theorem dX6_tellsOf_104 : decode cX6_tellsOf 104 = .ok (.ddiv, 1) := by decide +kernel
theorem dX6_tellsOf_105 : decode cX6_tellsOf 105 = .ok (.dadd, 1) := by decide +kernel
theorem dX6_tellsOf_106 : decode cX6_tellsOf 106 = .ok (.dreturn, 1) := by decide +kernel
theorem dX6_tellsOf_107 : decode cX6_tellsOf 107 = .ok (.dload 7, 2) := by decide +kernel
theorem dX6_tellsOf_109 : decode cX6_tellsOf 109 = .ok (.dload 5, 2) := by decide +kernel
theorem dX6_tellsOf_111 : decode cX6_tellsOf 111 = .ok (.dmul, 1) := by decide +kernel
theorem dX6_tellsOf_112 : decode cX6_tellsOf 112 = .ok (.d2f, 1) := by decide +kernel
theorem dX6_tellsOf_113 : decode cX6_tellsOf 113 = .ok (.ldc 150, 2) := by decide +kernel
theorem dX6_tellsOf_115 : decode cX6_tellsOf 115 = .ok (.fmul, 1) := by decide +kernel
theorem dX6_tellsOf_116 : decode cX6_tellsOf 116 = .ok (.f2d, 1) := by decide +kernel
theorem dX6_tellsOf_117 : decode cX6_tellsOf 117 = .ok (.dreturn, 1) := by decide +kernel
theorem dX6_tellsOf_118 : decode cX6_tellsOf 118 = .ok (.aload_n 0, 1) := by decide +kernel
theorem dX6_tellsOf_119 : decode cX6_tellsOf 119 = .ok (.iload_n 1, 1) := by decide +kernel
theorem dX6_tellsOf_120 : decode cX6_tellsOf 120 = .ok (.iload_n 2, 1) := by decide +kernel
theorem dX6_tellsOf_121 : decode cX6_tellsOf 121 = .ok (.invokevirtual 130, 3) := by decide +kernel
theorem dX6_tellsOf_124 : decode cX6_tellsOf 124 = .ok (.f2d, 1) := by decide +kernel
theorem dX6_tellsOf_125 : decode cX6_tellsOf 125 = .ok (.dstore 10, 2) := by decide +kernel
theorem dX6_tellsOf_127 : decode cX6_tellsOf 127 = .ok (.iload 9, 2) := by decide +kernel
theorem dX6_tellsOf_129 : decode cX6_tellsOf 129 = .ok (.i2d, 1) := by decide +kernel
theorem dX6_tellsOf_130 : decode cX6_tellsOf 130 = .ok (.ldc2_w 151, 3) := by decide +kernel
theorem dX6_tellsOf_133 : decode cX6_tellsOf 133 = .ok (.ddiv, 1) := by decide +kernel
theorem dX6_tellsOf_134 : decode cX6_tellsOf 134 = .ok (.dload 10, 2) := by decide +kernel
theorem dX6_tellsOf_136 : decode cX6_tellsOf 136 = .ok (.invokestatic 153, 3) := by decide +kernel
theorem dX6_tellsOf_139 : decode cX6_tellsOf 139 = .ok (.ldc2_w 156, 3) := by decide +kernel
theorem dX6_tellsOf_142 : decode cX6_tellsOf 142 = .ok (.drem, 1) := by decide +kernel
theorem dX6_tellsOf_143 : decode cX6_tellsOf 143 = .ok (.ldc2_w 158, 3) := by decide +kernel
theorem dX6_tellsOf_146 : decode cX6_tellsOf 146 = .ok (.ddiv, 1) := by decide +kernel
theorem dX6_tellsOf_147 : decode cX6_tellsOf 147 = .ok (.dadd, 1) := by decide +kernel
theorem dX6_tellsOf_148 : decode cX6_tellsOf 148 = .ok (.dreturn, 1) := by decide +kernel
theorem dX6_valueOf_0 : decode cX6_valueOf 0 = .ok (.dconst 0, 1) := by decide +kernel
theorem dX6_valueOf_1 : decode cX6_valueOf 1 = .ok (.dstore_n 2, 1) := by decide +kernel
theorem dX6_valueOf_2 : decode cX6_valueOf 2 = .ok (.iconst 0, 1) := by decide +kernel
theorem dX6_valueOf_3 : decode cX6_valueOf 3 = .ok (.istore 4, 2) := by decide +kernel
theorem dX6_valueOf_5 : decode cX6_valueOf 5 = .ok (.iload 4, 2) := by decide +kernel
theorem dX6_valueOf_7 : decode cX6_valueOf 7 = .ok (.iconst 4, 1) := by decide +kernel
theorem dX6_valueOf_8 : decode cX6_valueOf 8 = .ok (.if_icmp .ge 87, 3) := by decide +kernel
theorem dX6_valueOf_11 : decode cX6_valueOf 11 = .ok (.aload_n 0, 1) := by decide +kernel
theorem dX6_valueOf_12 : decode cX6_valueOf 12 = .ok (.getfield 9, 3) := by decide +kernel
theorem dX6_valueOf_15 : decode cX6_valueOf 15 = .ok (.bipush 97, 2) := by decide +kernel
theorem dX6_valueOf_17 : decode cX6_valueOf 17 = .ok (.iconst 2, 1) := by decide +kernel
theorem dX6_valueOf_18 : decode cX6_valueOf 18 = .ok (.iload 4, 2) := by decide +kernel
theorem dX6_valueOf_20 : decode cX6_valueOf 20 = .ok (.imul, 1) := by decide +kernel
theorem dX6_valueOf_21 : decode cX6_valueOf 21 = .ok (.iadd, 1) := by decide +kernel
theorem dX6_valueOf_22 : decode cX6_valueOf 22 = .ok (.iaload, 1) := by decide +kernel
theorem dX6_valueOf_23 : decode cX6_valueOf 23 = .ok (.istore 5, 2) := by decide +kernel
theorem dX6_valueOf_25 : decode cX6_valueOf 25 = .ok (.aload_n 0, 1) := by decide +kernel
theorem dX6_valueOf_26 : decode cX6_valueOf 26 = .ok (.getfield 9, 3) := by decide +kernel
theorem dX6_valueOf_29 : decode cX6_valueOf 29 = .ok (.bipush 97, 2) := by decide +kernel
theorem dX6_valueOf_31 : decode cX6_valueOf 31 = .ok (.iconst 2, 1) := by decide +kernel
theorem dX6_valueOf_32 : decode cX6_valueOf 32 = .ok (.iload 4, 2) := by decide +kernel
theorem dX6_valueOf_34 : decode cX6_valueOf 34 = .ok (.imul, 1) := by decide +kernel
theorem dX6_valueOf_35 : decode cX6_valueOf 35 = .ok (.iadd, 1) := by decide +kernel
theorem dX6_valueOf_36 : decode cX6_valueOf 36 = .ok (.iconst 1, 1) := by decide +kernel
theorem dX6_valueOf_37 : decode cX6_valueOf 37 = .ok (.iadd, 1) := by decide +kernel
theorem dX6_valueOf_38 : decode cX6_valueOf 38 = .ok (.iaload, 1) := by decide +kernel
theorem dX6_valueOf_39 : decode cX6_valueOf 39 = .ok (.i2f, 1) := by decide +kernel
theorem dX6_valueOf_40 : decode cX6_valueOf 40 = .ok (.ldc 160, 2) := by decide +kernel
theorem dX6_valueOf_42 : decode cX6_valueOf 42 = .ok (.fmul, 1) := by decide +kernel
theorem dX6_valueOf_43 : decode cX6_valueOf 43 = .ok (.fstore 6, 2) := by decide +kernel
theorem dX6_valueOf_45 : decode cX6_valueOf 45 = .ok (.iconst 0, 1) := by decide +kernel
theorem dX6_valueOf_46 : decode cX6_valueOf 46 = .ok (.istore 7, 2) := by decide +kernel
theorem dX6_valueOf_48 : decode cX6_valueOf 48 = .ok (.iload 7, 2) := by decide +kernel
theorem dX6_valueOf_50 : decode cX6_valueOf 50 = .ok (.aload_n 0, 1) := by decide +kernel
theorem dX6_valueOf_51 : decode cX6_valueOf 51 = .ok (.getfield 9, 3) := by decide +kernel
theorem dX6_valueOf_54 : decode cX6_valueOf 54 = .ok (.iconst 0, 1) := by decide +kernel
theorem dX6_valueOf_55 : decode cX6_valueOf 55 = .ok (.iaload, 1) := by decide +kernel
theorem dX6_valueOf_56 : decode cX6_valueOf 56 = .ok (.if_icmp .ge 33, 3) := by decide +kernel
theorem dX6_valueOf_59 : decode cX6_valueOf 59 = .ok (.iload_n 1, 1) := by decide +kernel
theorem dX6_valueOf_60 : decode cX6_valueOf 60 = .ok (.iload 7, 2) := by decide +kernel
theorem dX6_valueOf_62 : decode cX6_valueOf 62 = .ok (.invokestatic 117, 3) := by decide +kernel
theorem dX6_valueOf_65 : decode cX6_valueOf 65 = .ok (.ifCond .eq 18, 3) := by decide +kernel
theorem dX6_valueOf_68 : decode cX6_valueOf 68 = .ok (.dload_n 2, 1) := by decide +kernel
theorem dX6_valueOf_69 : decode cX6_valueOf 69 = .ok (.aload_n 0, 1) := by decide +kernel
theorem dX6_valueOf_70 : decode cX6_valueOf 70 = .ok (.iload 7, 2) := by decide +kernel
theorem dX6_valueOf_72 : decode cX6_valueOf 72 = .ok (.iload 5, 2) := by decide +kernel
theorem dX6_valueOf_74 : decode cX6_valueOf 74 = .ok (.invokevirtual 161, 3) := by decide +kernel
theorem dX6_valueOf_77 : decode cX6_valueOf 77 = .ok (.fload 6, 2) := by decide +kernel
theorem dX6_valueOf_79 : decode cX6_valueOf 79 = .ok (.f2d, 1) := by decide +kernel
theorem dX6_valueOf_80 : decode cX6_valueOf 80 = .ok (.dmul, 1) := by decide +kernel
theorem dX6_valueOf_81 : decode cX6_valueOf 81 = .ok (.dadd, 1) := by decide +kernel
theorem dX6_valueOf_82 : decode cX6_valueOf 82 = .ok (.dstore_n 2, 1) := by decide +kernel
theorem dX6_valueOf_83 : decode cX6_valueOf 83 = .ok (.iinc 7 1, 3) := by decide +kernel
theorem dX6_valueOf_86 : decode cX6_valueOf 86 = .ok (.goto (-38), 3) := by decide +kernel
theorem dX6_valueOf_89 : decode cX6_valueOf 89 = .ok (.iinc 4 1, 3) := by decide +kernel
theorem dX6_valueOf_92 : decode cX6_valueOf 92 = .ok (.goto (-87), 3) := by decide +kernel
theorem dX6_valueOf_95 : decode cX6_valueOf 95 = .ok (.dload_n 2, 1) := by decide +kernel
theorem dX6_valueOf_96 : decode cX6_valueOf 96 = .ok (.dreturn, 1) := by decide +kernel
theorem dX6_slope_0 : decode cX6_slope 0 = .ok (.aload_n 0, 1) := by decide +kernel
theorem dX6_slope_1 : decode cX6_slope 1 = .ok (.iload_n 1, 1) := by decide +kernel
theorem dX6_slope_2 : decode cX6_slope 2 = .ok (.invokevirtual 105, 3) := by decide +kernel
theorem dX6_slope_5 : decode cX6_slope 5 = .ok (.ifCond .eq 14, 3) := by decide +kernel
theorem dX6_slope_8 : decode cX6_slope 8 = .ok (.aload_n 0, 1) := by decide +kernel
theorem dX6_slope_9 : decode cX6_slope 9 = .ok (.iload_n 1, 1) := by decide +kernel
theorem dX6_slope_10 : decode cX6_slope 10 = .ok (.invokevirtual 125, 3) := by decide +kernel
theorem dX6_slope_13 : decode cX6_slope 13 = .ok (.invokestatic 164, 3) := by decide +kernel
theorem dX6_slope_16 : decode cX6_slope 16 = .ok (.goto 8, 3) := by decide +kernel
theorem dX6_slope_19 : decode cX6_slope 19 = .ok (.aload_n 0, 1) := by decide +kernel
theorem dX6_slope_20 : decode cX6_slope 20 = .ok (.iconst 0, 1) := by decide +kernel
theorem dX6_slope_21 : decode cX6_slope 21 = .ok (.invokevirtual 101, 3) := by decide +kernel
theorem dX6_slope_24 : decode cX6_slope 24 = .ok (.ireturn, 1) := by decide +kernel
theorem dX6_tells_0 : decode cX6_tells 0 = .ok (.aload_n 0, 1) := by decide +kernel
theorem dX6_tells_1 : decode cX6_tells 1 = .ok (.iload_n 1, 1) := by decide +kernel
theorem dX6_tells_2 : decode cX6_tells 2 = .ok (.invokevirtual 105, 3) := by decide +kernel
theorem dX6_tells_5 : decode cX6_tells 5 = .ok (.ifCond .eq 22, 3) := by decide +kernel
theorem dX6_tells_8 : decode cX6_tells 8 = .ok (.iload_n 2, 1) := by decide +kernel
theorem dX6_tells_9 : decode cX6_tells 9 = .ok (.invokestatic 170, 3) := by decide +kernel
theorem dX6_tells_12 : decode cX6_tells 12 = .ok (.ifCond .eq 15, 3) := by decide +kernel
theorem dX6_tells_15 : decode cX6_tells 15 = .ok (.aload_n 0, 1) := by decide +kernel
theorem dX6_tells_16 : decode cX6_tells 16 = .ok (.iload_n 1, 1) := by decide +kernel
theorem dX6_tells_17 : decode cX6_tells 17 = .ok (.iload_n 2, 1) := by decide +kernel
theorem dX6_tells_18 : decode cX6_tells 18 = .ok (.invokevirtual 161, 3) := by decide +kernel
theorem dX6_tells_21 : decode cX6_tells 21 = .ok (.invokestatic 173, 3) := by decide +kernel
theorem dX6_tells_24 : decode cX6_tells 24 = .ok (.goto 8, 3) := by decide +kernel
theorem dX6_tells_27 : decode cX6_tells 27 = .ok (.aload_n 0, 1) := by decide +kernel
theorem dX6_tells_28 : decode cX6_tells 28 = .ok (.iconst 0, 1) := by decide +kernel
theorem dX6_tells_29 : decode cX6_tells 29 = .ok (.invokevirtual 179, 3) := by decide +kernel
theorem dX6_tells_32 : decode cX6_tells 32 = .ok (.lreturn, 1) := by decide +kernel
theorem dX6_chance_0 : decode cX6_chance 0 = .ok (.aload_n 0, 1) := by decide +kernel
theorem dX6_chance_1 : decode cX6_chance 1 = .ok (.iload_n 1, 1) := by decide +kernel
theorem dX6_chance_2 : decode cX6_chance 2 = .ok (.invokevirtual 105, 3) := by decide +kernel
theorem dX6_chance_5 : decode cX6_chance 5 = .ok (.ifCond .eq 22, 3) := by decide +kernel
theorem dX6_chance_8 : decode cX6_chance 8 = .ok (.iload_n 2, 1) := by decide +kernel
theorem dX6_chance_9 : decode cX6_chance 9 = .ok (.invokestatic 170, 3) := by decide +kernel
theorem dX6_chance_12 : decode cX6_chance 12 = .ok (.ifCond .eq 15, 3) := by decide +kernel
theorem dX6_chance_15 : decode cX6_chance 15 = .ok (.aload_n 0, 1) := by decide +kernel
theorem dX6_chance_16 : decode cX6_chance 16 = .ok (.iload_n 1, 1) := by decide +kernel
theorem dX6_chance_17 : decode cX6_chance 17 = .ok (.iload_n 2, 1) := by decide +kernel
theorem dX6_chance_18 : decode cX6_chance 18 = .ok (.invokevirtual 142, 3) := by decide +kernel
theorem dX6_chance_21 : decode cX6_chance 21 = .ok (.invokestatic 173, 3) := by decide +kernel
theorem dX6_chance_24 : decode cX6_chance 24 = .ok (.goto 8, 3) := by decide +kernel
theorem dX6_chance_27 : decode cX6_chance 27 = .ok (.aload_n 0, 1) := by decide +kernel
theorem dX6_chance_28 : decode cX6_chance 28 = .ok (.iconst 0, 1) := by decide +kernel
theorem dX6_chance_29 : decode cX6_chance 29 = .ok (.invokevirtual 179, 3) := by decide +kernel
theorem dX6_chance_32 : decode cX6_chance 32 = .ok (.lreturn, 1) := by decide +kernel
theorem dX6_aim_0 : decode cX6_aim 0 = .ok (.iload_n 1, 1) := by decide +kernel
theorem dX6_aim_1 : decode cX6_aim 1 = .ok (.i2l, 1) := by decide +kernel
theorem dX6_aim_2 : decode cX6_aim 2 = .ok (.lconst 0, 1) := by decide +kernel
theorem dX6_aim_3 : decode cX6_aim 3 = .ok (.ldc2_w 83, 3) := by decide +kernel
theorem dX6_aim_6 : decode cX6_aim 6 = .ok (.invokestatic 69, 3) := by decide +kernel
theorem dX6_aim_9 : decode cX6_aim 9 = .ok (.ifCond .eq 22, 3) := by decide +kernel
theorem dX6_aim_12 : decode cX6_aim 12 = .ok (.iload_n 2, 1) := by decide +kernel
theorem dX6_aim_13 : decode cX6_aim 13 = .ok (.invokestatic 170, 3) := by decide +kernel
theorem dX6_aim_16 : decode cX6_aim 16 = .ok (.ifCond .eq 15, 3) := by decide +kernel
theorem dX6_aim_19 : decode cX6_aim 19 = .ok (.iload_n 3, 1) := by decide +kernel
theorem dX6_aim_20 : decode cX6_aim 20 = .ok (.i2l, 1) := by decide +kernel
theorem dX6_aim_21 : decode cX6_aim 21 = .ok (.lconst 0, 1) := by decide +kernel
theorem dX6_aim_22 : decode cX6_aim 22 = .ok (.ldc2_w 183, 3) := by decide +kernel
theorem dX6_aim_25 : decode cX6_aim 25 = .ok (.invokestatic 69, 3) := by decide +kernel
theorem dX6_aim_28 : decode cX6_aim 28 = .ok (.ifCond .ne 9, 3) := by decide +kernel
theorem dX6_aim_31 : decode cX6_aim 31 = .ok (.aload_n 0, 1) := by decide +kernel
theorem dX6_aim_32 : decode cX6_aim 32 = .ok (.iconst 0, 1) := by decide +kernel
theorem dX6_aim_33 : decode cX6_aim 33 = .ok (.invokevirtual 101, 3) := by decide +kernel
theorem dX6_aim_36 : decode cX6_aim 36 = .ok (.ireturn, 1) := by decide +kernel
theorem dX6_aim_37 : decode cX6_aim 37 = .ok (.aload_n 0, 1) := by decide +kernel
theorem dX6_aim_38 : decode cX6_aim 38 = .ok (.getfield 9, 3) := by decide +kernel
theorem dX6_aim_41 : decode cX6_aim 41 = .ok (.bipush 97, 2) := by decide +kernel
theorem dX6_aim_43 : decode cX6_aim 43 = .ok (.iconst 2, 1) := by decide +kernel
theorem dX6_aim_44 : decode cX6_aim 44 = .ok (.iload_n 1, 1) := by decide +kernel
theorem dX6_aim_45 : decode cX6_aim 45 = .ok (.imul, 1) := by decide +kernel
theorem dX6_aim_46 : decode cX6_aim 46 = .ok (.iadd, 1) := by decide +kernel
theorem dX6_aim_47 : decode cX6_aim 47 = .ok (.iconst 1, 1) := by decide +kernel
theorem dX6_aim_48 : decode cX6_aim 48 = .ok (.iadd, 1) := by decide +kernel
theorem dX6_aim_49 : decode cX6_aim 49 = .ok (.iaload, 1) := by decide +kernel
theorem dX6_aim_50 : decode cX6_aim 50 = .ok (.istore 4, 2) := by decide +kernel
theorem dX6_aim_52 : decode cX6_aim 52 = .ok (.aload_n 0, 1) := by decide +kernel
theorem dX6_aim_53 : decode cX6_aim 53 = .ok (.getfield 9, 3) := by decide +kernel
theorem dX6_aim_56 : decode cX6_aim 56 = .ok (.bipush 97, 2) := by decide +kernel
theorem dX6_aim_58 : decode cX6_aim 58 = .ok (.iconst 2, 1) := by decide +kernel
theorem dX6_aim_59 : decode cX6_aim 59 = .ok (.iload_n 1, 1) := by decide +kernel
theorem dX6_aim_60 : decode cX6_aim 60 = .ok (.imul, 1) := by decide +kernel
theorem dX6_aim_61 : decode cX6_aim 61 = .ok (.iadd, 1) := by decide +kernel
theorem dX6_aim_62 : decode cX6_aim 62 = .ok (.iload_n 2, 1) := by decide +kernel
theorem dX6_aim_63 : decode cX6_aim 63 = .ok (.iastore, 1) := by decide +kernel
theorem dX6_aim_64 : decode cX6_aim 64 = .ok (.aload_n 0, 1) := by decide +kernel
theorem dX6_aim_65 : decode cX6_aim 65 = .ok (.getfield 9, 3) := by decide +kernel
theorem dX6_aim_68 : decode cX6_aim 68 = .ok (.bipush 97, 2) := by decide +kernel
theorem dX6_aim_70 : decode cX6_aim 70 = .ok (.iconst 2, 1) := by decide +kernel
theorem dX6_aim_71 : decode cX6_aim 71 = .ok (.iload_n 1, 1) := by decide +kernel
theorem dX6_aim_72 : decode cX6_aim 72 = .ok (.imul, 1) := by decide +kernel
theorem dX6_aim_73 : decode cX6_aim 73 = .ok (.iadd, 1) := by decide +kernel
theorem dX6_aim_74 : decode cX6_aim 74 = .ok (.iconst 1, 1) := by decide +kernel
theorem dX6_aim_75 : decode cX6_aim 75 = .ok (.iadd, 1) := by decide +kernel
theorem dX6_aim_76 : decode cX6_aim 76 = .ok (.iload_n 3, 1) := by decide +kernel
theorem dX6_aim_77 : decode cX6_aim 77 = .ok (.iastore, 1) := by decide +kernel
theorem dX6_aim_78 : decode cX6_aim 78 = .ok (.iload 4, 2) := by decide +kernel
theorem dX6_aim_80 : decode cX6_aim 80 = .ok (.ireturn, 1) := by decide +kernel
theorem dX6_value_0 : decode cX6_value 0 = .ok (.aload_n 0, 1) := by decide +kernel
theorem dX6_value_1 : decode cX6_value 1 = .ok (.iload_n 1, 1) := by decide +kernel
theorem dX6_value_2 : decode cX6_value 2 = .ok (.invokevirtual 185, 3) := by decide +kernel
theorem dX6_value_5 : decode cX6_value 5 = .ok (.ifCond .eq 14, 3) := by decide +kernel
theorem dX6_value_8 : decode cX6_value 8 = .ok (.aload_n 0, 1) := by decide +kernel
theorem dX6_value_9 : decode cX6_value 9 = .ok (.iload_n 1, 1) := by decide +kernel
theorem dX6_value_10 : decode cX6_value 10 = .ok (.invokevirtual 188, 3) := by decide +kernel
theorem dX6_value_13 : decode cX6_value 13 = .ok (.invokestatic 173, 3) := by decide +kernel
theorem dX6_value_16 : decode cX6_value 16 = .ok (.goto 8, 3) := by decide +kernel
theorem dX6_value_19 : decode cX6_value 19 = .ok (.aload_n 0, 1) := by decide +kernel
theorem dX6_value_20 : decode cX6_value 20 = .ok (.iconst 0, 1) := by decide +kernel
theorem dX6_value_21 : decode cX6_value 21 = .ok (.invokevirtual 179, 3) := by decide +kernel
theorem dX6_value_24 : decode cX6_value 24 = .ok (.lreturn, 1) := by decide +kernel
theorem dX6_worth_0 : decode cX6_worth 0 = .ok (.aload_n 0, 1) := by decide +kernel
theorem dX6_worth_1 : decode cX6_worth 1 = .ok (.iload_n 1, 1) := by decide +kernel
theorem dX6_worth_2 : decode cX6_worth 2 = .ok (.invokevirtual 185, 3) := by decide +kernel
theorem dX6_worth_5 : decode cX6_worth 5 = .ok (.ifCond .eq 16, 3) := by decide +kernel
theorem dX6_worth_8 : decode cX6_worth 8 = .ok (.aload_n 0, 1) := by decide +kernel
theorem dX6_worth_9 : decode cX6_worth 9 = .ok (.iload_n 1, 1) := by decide +kernel
theorem dX6_worth_10 : decode cX6_worth 10 = .ok (.invokevirtual 188, 3) := by decide +kernel
theorem dX6_worth_13 : decode cX6_worth 13 = .ok (.ldc2_w 192, 3) := by decide +kernel
theorem dX6_worth_16 : decode cX6_worth 16 = .ok (.dmul, 1) := by decide +kernel
theorem dX6_worth_17 : decode cX6_worth 17 = .ok (.d2i, 1) := by decide +kernel
theorem dX6_worth_18 : decode cX6_worth 18 = .ok (.goto 8, 3) := by decide +kernel
theorem dX6_worth_21 : decode cX6_worth 21 = .ok (.aload_n 0, 1) := by decide +kernel
theorem dX6_worth_22 : decode cX6_worth 22 = .ok (.iconst 0, 1) := by decide +kernel
theorem dX6_worth_23 : decode cX6_worth 23 = .ok (.invokevirtual 101, 3) := by decide +kernel
theorem dX6_worth_26 : decode cX6_worth 26 = .ok (.ireturn, 1) := by decide +kernel
theorem dX6_peak_0 : decode cX6_peak 0 = .ok (.aload_n 0, 1) := by decide +kernel
theorem dX6_peak_1 : decode cX6_peak 1 = .ok (.iload_n 1, 1) := by decide +kernel
theorem dX6_peak_2 : decode cX6_peak 2 = .ok (.invokevirtual 185, 3) := by decide +kernel
theorem dX6_peak_5 : decode cX6_peak 5 = .ok (.ifCond .eq 22, 3) := by decide +kernel
theorem dX6_peak_8 : decode cX6_peak 8 = .ok (.iload_n 2, 1) := by decide +kernel
theorem dX6_peak_9 : decode cX6_peak 9 = .ok (.invokestatic 170, 3) := by decide +kernel
theorem dX6_peak_12 : decode cX6_peak 12 = .ok (.ifCond .eq 15, 3) := by decide +kernel
theorem dX6_peak_15 : decode cX6_peak 15 = .ok (.iload_n 3, 1) := by decide +kernel
theorem dX6_peak_16 : decode cX6_peak 16 = .ok (.invokestatic 170, 3) := by decide +kernel
theorem dX6_peak_19 : decode cX6_peak 19 = .ok (.ifCond .eq 8, 3) := by decide +kernel
theorem dX6_peak_22 : decode cX6_peak 22 = .ok (.iload_n 2, 1) := by decide +kernel
theorem dX6_peak_23 : decode cX6_peak 23 = .ok (.iload_n 3, 1) := by decide +kernel
theorem dX6_peak_24 : decode cX6_peak 24 = .ok (.if_icmp .le 9, 3) := by decide +kernel
theorem dX6_peak_27 : decode cX6_peak 27 = .ok (.aload_n 0, 1) := by decide +kernel
theorem dX6_peak_28 : decode cX6_peak 28 = .ok (.iconst 0, 1) := by decide +kernel
theorem dX6_peak_29 : decode cX6_peak 29 = .ok (.invokevirtual 101, 3) := by decide +kernel
theorem dX6_peak_32 : decode cX6_peak 32 = .ok (.ireturn, 1) := by decide +kernel
theorem dX6_peak_33 : decode cX6_peak 33 = .ok (.iload_n 2, 1) := by decide +kernel
theorem dX6_peak_34 : decode cX6_peak 34 = .ok (.istore 4, 2) := by decide +kernel
theorem dX6_peak_36 : decode cX6_peak 36 = .ok (.ldc2_w 194, 3) := by decide +kernel
theorem dX6_peak_39 : decode cX6_peak 39 = .ok (.dstore 5, 2) := by decide +kernel
theorem dX6_peak_41 : decode cX6_peak 41 = .ok (.iload_n 2, 1) := by decide +kernel
theorem dX6_peak_42 : decode cX6_peak 42 = .ok (.istore 7, 2) := by decide +kernel
theorem dX6_peak_44 : decode cX6_peak 44 = .ok (.iload 7, 2) := by decide +kernel
theorem dX6_peak_46 : decode cX6_peak 46 = .ok (.iload_n 3, 1) := by decide +kernel
theorem dX6_peak_47 : decode cX6_peak 47 = .ok (.if_icmp .gt 78, 3) := by decide +kernel
theorem dX6_peak_50 : decode cX6_peak 50 = .ok (.dconst 0, 1) := by decide +kernel
theorem dX6_peak_51 : decode cX6_peak 51 = .ok (.dstore 8, 2) := by decide +kernel
theorem dX6_peak_53 : decode cX6_peak 53 = .ok (.iconst 0, 1) := by decide +kernel
theorem dX6_peak_54 : decode cX6_peak 54 = .ok (.istore 10, 2) := by decide +kernel
theorem dX6_peak_56 : decode cX6_peak 56 = .ok (.iload 10, 2) := by decide +kernel
theorem dX6_peak_58 : decode cX6_peak 58 = .ok (.aload_n 0, 1) := by decide +kernel
theorem dX6_peak_59 : decode cX6_peak 59 = .ok (.getfield 9, 3) := by decide +kernel
theorem dX6_peak_62 : decode cX6_peak 62 = .ok (.iconst 0, 1) := by decide +kernel
theorem dX6_peak_63 : decode cX6_peak 63 = .ok (.iaload, 1) := by decide +kernel
theorem dX6_peak_64 : decode cX6_peak 64 = .ok (.if_icmp .ge 31, 3) := by decide +kernel
theorem dX6_peak_67 : decode cX6_peak 67 = .ok (.iload_n 1, 1) := by decide +kernel
theorem dX6_peak_68 : decode cX6_peak 68 = .ok (.iload 10, 2) := by decide +kernel
theorem dX6_peak_70 : decode cX6_peak 70 = .ok (.invokestatic 117, 3) := by decide +kernel
theorem dX6_peak_73 : decode cX6_peak 73 = .ok (.ifCond .eq 16, 3) := by decide +kernel
theorem dX6_peak_76 : decode cX6_peak 76 = .ok (.dload 8, 2) := by decide +kernel
theorem dX6_peak_78 : decode cX6_peak 78 = .ok (.aload_n 0, 1) := by decide +kernel
theorem dX6_peak_79 : decode cX6_peak 79 = .ok (.iload 10, 2) := by decide +kernel
theorem dX6_peak_81 : decode cX6_peak 81 = .ok (.iload 7, 2) := by decide +kernel
theorem dX6_peak_83 : decode cX6_peak 83 = .ok (.invokevirtual 161, 3) := by decide +kernel
theorem dX6_peak_86 : decode cX6_peak 86 = .ok (.dadd, 1) := by decide +kernel
theorem dX6_peak_87 : decode cX6_peak 87 = .ok (.dstore 8, 2) := by decide +kernel
theorem dX6_peak_89 : decode cX6_peak 89 = .ok (.iinc 10 1, 3) := by decide +kernel
theorem dX6_peak_92 : decode cX6_peak 92 = .ok (.goto (-36), 3) := by decide +kernel
theorem dX6_peak_95 : decode cX6_peak 95 = .ok (.dload 8, 2) := by decide +kernel
theorem dX6_peak_97 : decode cX6_peak 97 = .ok (.dload 5, 2) := by decide +kernel
theorem dX6_peak_99 : decode cX6_peak 99 = .ok (.dcmp .l, 1) := by decide +kernel
theorem dX6_peak_100 : decode cX6_peak 100 = .ok (.ifCond .le 7, 3) := by decide +kernel
theorem dX6_peak_103 : decode cX6_peak 103 = .ok (.iload 7, 2) := by decide +kernel
theorem dX6_peak_105 : decode cX6_peak 105 = .ok (.istore 4, 2) := by decide +kernel
theorem dX6_peak_107 : decode cX6_peak 107 = .ok (.dload 8, 2) := by decide +kernel
theorem dX6_peak_109 : decode cX6_peak 109 = .ok (.dload 5, 2) := by decide +kernel
theorem dX6_peak_111 : decode cX6_peak 111 = .ok (.dcmp .l, 1) := by decide +kernel
theorem dX6_peak_112 : decode cX6_peak 112 = .ok (.ifCond .le 7, 3) := by decide +kernel
theorem dX6_peak_115 : decode cX6_peak 115 = .ok (.dload 8, 2) := by decide +kernel
theorem dX6_peak_117 : decode cX6_peak 117 = .ok (.dstore 5, 2) := by decide +kernel
theorem dX6_peak_119 : decode cX6_peak 119 = .ok (.iinc 7 1, 3) := by decide +kernel
theorem dX6_peak_122 : decode cX6_peak 122 = .ok (.goto (-78), 3) := by decide +kernel
theorem dX6_peak_125 : decode cX6_peak 125 = .ok (.iload 4, 2) := by decide +kernel
theorem dX6_peak_127 : decode cX6_peak 127 = .ok (.ireturn, 1) := by decide +kernel
theorem dX6_topic_0 : decode cX6_topic 0 = .ok (.iload_n 1, 1) := by decide +kernel
theorem dX6_topic_1 : decode cX6_topic 1 = .ok (.i2l, 1) := by decide +kernel
theorem dX6_topic_2 : decode cX6_topic 2 = .ok (.lconst 0, 1) := by decide +kernel
theorem dX6_topic_3 : decode cX6_topic 3 = .ok (.ldc2_w 83, 3) := by decide +kernel
theorem dX6_topic_6 : decode cX6_topic 6 = .ok (.invokestatic 69, 3) := by decide +kernel
theorem dX6_topic_9 : decode cX6_topic 9 = .ok (.ifCond .eq 28, 3) := by decide +kernel
theorem dX6_topic_12 : decode cX6_topic 12 = .ok (.iload_n 2, 1) := by decide +kernel
theorem dX6_topic_13 : decode cX6_topic 13 = .ok (.i2l, 1) := by decide +kernel
theorem dX6_topic_14 : decode cX6_topic 14 = .ok (.lconst 0, 1) := by decide +kernel
theorem dX6_topic_15 : decode cX6_topic 15 = .ok (.ldc2_w 196, 3) := by decide +kernel
theorem dX6_topic_18 : decode cX6_topic 18 = .ok (.invokestatic 69, 3) := by decide +kernel
theorem dX6_topic_21 : decode cX6_topic 21 = .ok (.ifCond .eq 16, 3) := by decide +kernel
theorem dX6_topic_24 : decode cX6_topic 24 = .ok (.iload_n 3, 1) := by decide +kernel
theorem dX6_topic_25 : decode cX6_topic 25 = .ok (.i2l, 1) := by decide +kernel
theorem dX6_topic_26 : decode cX6_topic 26 = .ok (.iload_n 2, 1) := by decide +kernel
theorem dX6_topic_27 : decode cX6_topic 27 = .ok (.i2l, 1) := by decide +kernel
theorem dX6_topic_28 : decode cX6_topic 28 = .ok (.ldc2_w 196, 3) := by decide +kernel
theorem dX6_topic_31 : decode cX6_topic 31 = .ok (.invokestatic 69, 3) := by decide +kernel
theorem dX6_topic_34 : decode cX6_topic 34 = .ok (.ifCond .ne 9, 3) := by decide +kernel
theorem dX6_topic_37 : decode cX6_topic 37 = .ok (.aload_n 0, 1) := by decide +kernel
theorem dX6_topic_38 : decode cX6_topic 38 = .ok (.iconst 0, 1) := by decide +kernel
theorem dX6_topic_39 : decode cX6_topic 39 = .ok (.invokevirtual 101, 3) := by decide +kernel
theorem dX6_topic_42 : decode cX6_topic 42 = .ok (.ireturn, 1) := by decide +kernel
theorem dX6_topic_43 : decode cX6_topic 43 = .ok (.bipush 105, 2) := by decide +kernel
theorem dX6_topic_45 : decode cX6_topic 45 = .ok (.iconst 2, 1) := by decide +kernel
theorem dX6_topic_46 : decode cX6_topic 46 = .ok (.iload_n 1, 1) := by decide +kernel
theorem dX6_topic_47 : decode cX6_topic 47 = .ok (.imul, 1) := by decide +kernel
theorem dX6_topic_48 : decode cX6_topic 48 = .ok (.iadd, 1) := by decide +kernel
theorem dX6_topic_49 : decode cX6_topic 49 = .ok (.istore 4, 2) := by decide +kernel
theorem dX6_topic_51 : decode cX6_topic 51 = .ok (.bipush 10, 2) := by decide +kernel
theorem dX6_topic_53 : decode cX6_topic 53 = .ok (.aload_n 0, 1) := by decide +kernel
theorem dX6_topic_54 : decode cX6_topic 54 = .ok (.getfield 9, 3) := by decide +kernel
theorem dX6_topic_57 : decode cX6_topic 57 = .ok (.iload 4, 2) := by decide +kernel
theorem dX6_topic_59 : decode cX6_topic 59 = .ok (.iaload, 1) := by decide +kernel
theorem dX6_topic_60 : decode cX6_topic 60 = .ok (.imul, 1) := by decide +kernel
theorem dX6_topic_61 : decode cX6_topic 61 = .ok (.aload_n 0, 1) := by decide +kernel
theorem dX6_topic_62 : decode cX6_topic 62 = .ok (.getfield 9, 3) := by decide +kernel
theorem dX6_topic_65 : decode cX6_topic 65 = .ok (.iload 4, 2) := by decide +kernel
theorem dX6_topic_67 : decode cX6_topic 67 = .ok (.iconst 1, 1) := by decide +kernel
theorem dX6_topic_68 : decode cX6_topic 68 = .ok (.iadd, 1) := by decide +kernel
theorem dX6_topic_69 : decode cX6_topic 69 = .ok (.iaload, 1) := by decide +kernel
theorem dX6_topic_70 : decode cX6_topic 70 = .ok (.iadd, 1) := by decide +kernel
theorem dX6_topic_71 : decode cX6_topic 71 = .ok (.istore 5, 2) := by decide +kernel
theorem dX6_topic_73 : decode cX6_topic 73 = .ok (.aload_n 0, 1) := by decide +kernel
theorem dX6_topic_74 : decode cX6_topic 74 = .ok (.getfield 9, 3) := by decide +kernel
theorem dX6_topic_77 : decode cX6_topic 77 = .ok (.iload 4, 2) := by decide +kernel
theorem dX6_topic_79 : decode cX6_topic 79 = .ok (.iload_n 2, 1) := by decide +kernel
theorem dX6_topic_80 : decode cX6_topic 80 = .ok (.iastore, 1) := by decide +kernel
theorem dX6_topic_81 : decode cX6_topic 81 = .ok (.aload_n 0, 1) := by decide +kernel
theorem dX6_topic_82 : decode cX6_topic 82 = .ok (.getfield 9, 3) := by decide +kernel
theorem dX6_topic_85 : decode cX6_topic 85 = .ok (.iload 4, 2) := by decide +kernel
theorem dX6_topic_87 : decode cX6_topic 87 = .ok (.iconst 1, 1) := by decide +kernel
theorem dX6_topic_88 : decode cX6_topic 88 = .ok (.iadd, 1) := by decide +kernel
theorem dX6_topic_89 : decode cX6_topic 89 = .ok (.iload_n 3, 1) := by decide +kernel
theorem dX6_topic_90 : decode cX6_topic 90 = .ok (.iastore, 1) := by decide +kernel
theorem dX6_topic_91 : decode cX6_topic 91 = .ok (.iload 5, 2) := by decide +kernel
theorem dX6_topic_93 : decode cX6_topic 93 = .ok (.ireturn, 1) := by decide +kernel
theorem dX6_rule_0 : decode cX6_rule 0 = .ok (.iload_n 1, 1) := by decide +kernel
theorem dX6_rule_1 : decode cX6_rule 1 = .ok (.ifCond .ne 15, 3) := by decide +kernel
theorem dX6_rule_4 : decode cX6_rule 4 = .ok (.iload_n 2, 1) := by decide +kernel
theorem dX6_rule_5 : decode cX6_rule 5 = .ok (.i2l, 1) := by decide +kernel
theorem dX6_rule_6 : decode cX6_rule 6 = .ok (.lconst 1, 1) := by decide +kernel
theorem dX6_rule_7 : decode cX6_rule 7 = .ok (.ldc2_w 196, 3) := by decide +kernel
theorem dX6_rule_10 : decode cX6_rule 10 = .ok (.invokestatic 69, 3) := by decide +kernel
theorem dX6_rule_13 : decode cX6_rule 13 = .ok (.goto 42, 3) := by decide +kernel
theorem dX6_rule_16 : decode cX6_rule 16 = .ok (.iload_n 1, 1) := by decide +kernel
theorem dX6_rule_17 : decode cX6_rule 17 = .ok (.iconst 1, 1) := by decide +kernel
theorem dX6_rule_18 : decode cX6_rule 18 = .ok (.if_icmp .ne 15, 3) := by decide +kernel
theorem dX6_rule_21 : decode cX6_rule 21 = .ok (.iload_n 2, 1) := by decide +kernel
theorem dX6_rule_22 : decode cX6_rule 22 = .ok (.i2l, 1) := by decide +kernel
theorem dX6_rule_23 : decode cX6_rule 23 = .ok (.lconst 0, 1) := by decide +kernel
theorem dX6_rule_24 : decode cX6_rule 24 = .ok (.ldc2_w 198, 3) := by decide +kernel
theorem dX6_rule_27 : decode cX6_rule 27 = .ok (.invokestatic 69, 3) := by decide +kernel
theorem dX6_rule_30 : decode cX6_rule 30 = .ok (.goto 25, 3) := by decide +kernel
theorem dX6_rule_33 : decode cX6_rule 33 = .ok (.iload_n 1, 1) := by decide +kernel
theorem dX6_rule_34 : decode cX6_rule 34 = .ok (.iconst 2, 1) := by decide +kernel
theorem dX6_rule_35 : decode cX6_rule 35 = .ok (.if_icmp .ne 19, 3) := by decide +kernel
theorem dX6_rule_38 : decode cX6_rule 38 = .ok (.iload_n 2, 1) := by decide +kernel
theorem dX6_rule_39 : decode cX6_rule 39 = .ok (.i2l, 1) := by decide +kernel
theorem dX6_rule_40 : decode cX6_rule 40 = .ok (.lconst 0, 1) := by decide +kernel
theorem dX6_rule_41 : decode cX6_rule 41 = .ok (.ldc2_w 95, 3) := by decide +kernel
theorem dX6_rule_44 : decode cX6_rule 44 = .ok (.invokestatic 69, 3) := by decide +kernel
theorem dX6_rule_47 : decode cX6_rule 47 = .ok (.ifCond .eq 7, 3) := by decide +kernel
theorem dX6_rule_50 : decode cX6_rule 50 = .ok (.iconst 1, 1) := by decide +kernel
theorem dX6_rule_51 : decode cX6_rule 51 = .ok (.goto 4, 3) := by decide +kernel
theorem dX6_rule_54 : decode cX6_rule 54 = .ok (.iconst 0, 1) := by decide +kernel
theorem dX6_rule_55 : decode cX6_rule 55 = .ok (.istore_n 3, 1) := by decide +kernel
theorem dX6_rule_56 : decode cX6_rule 56 = .ok (.iload_n 3, 1) := by decide +kernel
theorem dX6_rule_57 : decode cX6_rule 57 = .ok (.ifCond .ne 9, 3) := by decide +kernel
theorem dX6_rule_60 : decode cX6_rule 60 = .ok (.aload_n 0, 1) := by decide +kernel
theorem dX6_rule_61 : decode cX6_rule 61 = .ok (.iconst 0, 1) := by decide +kernel
theorem dX6_rule_62 : decode cX6_rule 62 = .ok (.invokevirtual 101, 3) := by decide +kernel
theorem dX6_rule_65 : decode cX6_rule 65 = .ok (.ireturn, 1) := by decide +kernel
theorem dX6_rule_66 : decode cX6_rule 66 = .ok (.aload_n 0, 1) := by decide +kernel
theorem dX6_rule_67 : decode cX6_rule 67 = .ok (.getfield 9, 3) := by decide +kernel
theorem dX6_rule_70 : decode cX6_rule 70 = .ok (.bipush 113, 2) := by decide +kernel
theorem dX6_rule_72 : decode cX6_rule 72 = .ok (.iload_n 1, 1) := by decide +kernel
theorem dX6_rule_73 : decode cX6_rule 73 = .ok (.iadd, 1) := by decide +kernel
theorem dX6_rule_74 : decode cX6_rule 74 = .ok (.iaload, 1) := by decide +kernel
theorem dX6_rule_75 : decode cX6_rule 75 = .ok (.istore 4, 2) := by decide +kernel
theorem dX6_rule_77 : decode cX6_rule 77 = .ok (.aload_n 0, 1) := by decide +kernel
theorem dX6_rule_78 : decode cX6_rule 78 = .ok (.getfield 9, 3) := by decide +kernel
theorem dX6_rule_81 : decode cX6_rule 81 = .ok (.bipush 113, 2) := by decide +kernel
theorem dX6_rule_83 : decode cX6_rule 83 = .ok (.iload_n 1, 1) := by decide +kernel
theorem dX6_rule_84 : decode cX6_rule 84 = .ok (.iadd, 1) := by decide +kernel
theorem dX6_rule_85 : decode cX6_rule 85 = .ok (.iload_n 2, 1) := by decide +kernel
theorem dX6_rule_86 : decode cX6_rule 86 = .ok (.iastore, 1) := by decide +kernel
theorem dX6_rule_87 : decode cX6_rule 87 = .ok (.iload 4, 2) := by decide +kernel
theorem dX6_rule_89 : decode cX6_rule 89 = .ok (.ireturn, 1) := by decide +kernel
theorem dX6_told_0 : decode cX6_told 0 = .ok (.iload_n 1, 1) := by decide +kernel
theorem dX6_told_1 : decode cX6_told 1 = .ok (.i2l, 1) := by decide +kernel
theorem dX6_told_2 : decode cX6_told 2 = .ok (.lconst 0, 1) := by decide +kernel
theorem dX6_told_3 : decode cX6_told 3 = .ok (.ldc2_w 200, 3) := by decide +kernel
theorem dX6_told_6 : decode cX6_told 6 = .ok (.invokestatic 69, 3) := by decide +kernel
theorem dX6_told_9 : decode cX6_told 9 = .ok (.ifCond .eq 13, 3) := by decide +kernel
theorem dX6_told_12 : decode cX6_told 12 = .ok (.aload_n 0, 1) := by decide +kernel
theorem dX6_told_13 : decode cX6_told 13 = .ok (.getfield 9, 3) := by decide +kernel
theorem dX6_told_16 : decode cX6_told 16 = .ok (.bipush 113, 2) := by decide +kernel
theorem dX6_told_18 : decode cX6_told 18 = .ok (.iload_n 1, 1) := by decide +kernel
theorem dX6_told_19 : decode cX6_told 19 = .ok (.iadd, 1) := by decide +kernel
theorem dX6_told_20 : decode cX6_told 20 = .ok (.iaload, 1) := by decide +kernel
theorem dX6_told_21 : decode cX6_told 21 = .ok (.ireturn, 1) := by decide +kernel
theorem dX6_told_22 : decode cX6_told 22 = .ok (.iload_n 1, 1) := by decide +kernel
theorem dX6_told_23 : decode cX6_told 23 = .ok (.i2l, 1) := by decide +kernel
theorem dX6_told_24 : decode cX6_told 24 = .ok (.ldc2_w 202, 3) := by decide +kernel
theorem dX6_told_27 : decode cX6_told 27 = .ok (.ldc2_w 204, 3) := by decide +kernel
theorem dX6_told_30 : decode cX6_told 30 = .ok (.invokestatic 69, 3) := by decide +kernel
theorem dX6_told_33 : decode cX6_told 33 = .ok (.ifCond .eq 38, 3) := by decide +kernel
theorem dX6_told_36 : decode cX6_told 36 = .ok (.bipush 10, 2) := by decide +kernel
theorem dX6_told_38 : decode cX6_told 38 = .ok (.aload_n 0, 1) := by decide +kernel
theorem dX6_told_39 : decode cX6_told 39 = .ok (.getfield 9, 3) := by decide +kernel
theorem dX6_told_42 : decode cX6_told 42 = .ok (.bipush 105, 2) := by decide +kernel
theorem dX6_told_44 : decode cX6_told 44 = .ok (.iconst 2, 1) := by decide +kernel
theorem dX6_told_45 : decode cX6_told 45 = .ok (.iload_n 1, 1) := by decide +kernel
theorem dX6_told_46 : decode cX6_told 46 = .ok (.bipush 10, 2) := by decide +kernel
theorem dX6_told_48 : decode cX6_told 48 = .ok (.isub, 1) := by decide +kernel
theorem dX6_told_49 : decode cX6_told 49 = .ok (.imul, 1) := by decide +kernel
theorem dX6_told_50 : decode cX6_told 50 = .ok (.iadd, 1) := by decide +kernel
theorem dX6_told_51 : decode cX6_told 51 = .ok (.iaload, 1) := by decide +kernel
theorem dX6_told_52 : decode cX6_told 52 = .ok (.imul, 1) := by decide +kernel
theorem dX6_told_53 : decode cX6_told 53 = .ok (.aload_n 0, 1) := by decide +kernel
theorem dX6_told_54 : decode cX6_told 54 = .ok (.getfield 9, 3) := by decide +kernel
theorem dX6_told_57 : decode cX6_told 57 = .ok (.bipush 105, 2) := by decide +kernel
theorem dX6_told_59 : decode cX6_told 59 = .ok (.iconst 2, 1) := by decide +kernel
theorem dX6_told_60 : decode cX6_told 60 = .ok (.iload_n 1, 1) := by decide +kernel
theorem dX6_told_61 : decode cX6_told 61 = .ok (.bipush 10, 2) := by decide +kernel
theorem dX6_told_63 : decode cX6_told 63 = .ok (.isub, 1) := by decide +kernel
theorem dX6_told_64 : decode cX6_told 64 = .ok (.imul, 1) := by decide +kernel
theorem dX6_told_65 : decode cX6_told 65 = .ok (.iadd, 1) := by decide +kernel
theorem dX6_told_66 : decode cX6_told 66 = .ok (.iconst 1, 1) := by decide +kernel
theorem dX6_told_67 : decode cX6_told 67 = .ok (.iadd, 1) := by decide +kernel
theorem dX6_told_68 : decode cX6_told 68 = .ok (.iaload, 1) := by decide +kernel
theorem dX6_told_69 : decode cX6_told 69 = .ok (.iadd, 1) := by decide +kernel
theorem dX6_told_70 : decode cX6_told 70 = .ok (.ireturn, 1) := by decide +kernel
theorem dX6_told_71 : decode cX6_told 71 = .ok (.iload_n 1, 1) := by decide +kernel
theorem dX6_told_72 : decode cX6_told 72 = .ok (.i2l, 1) := by decide +kernel
theorem dX6_told_73 : decode cX6_told 73 = .ok (.ldc2_w 85, 3) := by decide +kernel
theorem dX6_told_76 : decode cX6_told 76 = .ok (.ldc2_w 206, 3) := by decide +kernel
theorem dX6_told_79 : decode cX6_told 79 = .ok (.invokestatic 69, 3) := by decide +kernel
theorem dX6_told_82 : decode cX6_told 82 = .ok (.ifCond .eq 18, 3) := by decide +kernel
theorem dX6_told_85 : decode cX6_told 85 = .ok (.aload_n 0, 1) := by decide +kernel
theorem dX6_told_86 : decode cX6_told 86 = .ok (.getfield 9, 3) := by decide +kernel
theorem dX6_told_89 : decode cX6_told 89 = .ok (.bipush 97, 2) := by decide +kernel
theorem dX6_told_91 : decode cX6_told 91 = .ok (.iconst 2, 1) := by decide +kernel
theorem dX6_told_92 : decode cX6_told 92 = .ok (.iload_n 1, 1) := by decide +kernel
theorem dX6_told_93 : decode cX6_told 93 = .ok (.bipush 20, 2) := by decide +kernel
theorem dX6_told_95 : decode cX6_told 95 = .ok (.isub, 1) := by decide +kernel
theorem dX6_told_96 : decode cX6_told 96 = .ok (.imul, 1) := by decide +kernel
theorem dX6_told_97 : decode cX6_told 97 = .ok (.iadd, 1) := by decide +kernel
theorem dX6_told_98 : decode cX6_told 98 = .ok (.iaload, 1) := by decide +kernel
theorem dX6_told_99 : decode cX6_told 99 = .ok (.ireturn, 1) := by decide +kernel
theorem dX6_told_100 : decode cX6_told 100 = .ok (.iload_n 1, 1) := by decide +kernel
theorem dX6_told_101 : decode cX6_told 101 = .ok (.i2l, 1) := by decide +kernel
theorem dX6_told_102 : decode cX6_told 102 = .ok (.ldc2_w 208, 3) := by decide +kernel
theorem dX6_told_105 : decode cX6_told 105 = .ok (.ldc2_w 210, 3) := by decide +kernel
theorem dX6_told_108 : decode cX6_told 108 = .ok (.invokestatic 69, 3) := by decide +kernel
theorem dX6_told_111 : decode cX6_told 111 = .ok (.ifCond .eq 22, 3) := by decide +kernel
theorem dX6_told_114 : decode cX6_told 114 = .ok (.aload_n 0, 1) := by decide +kernel
theorem dX6_told_115 : decode cX6_told 115 = .ok (.getfield 9, 3) := by decide +kernel
theorem dX6_told_118 : decode cX6_told 118 = .ok (.bipush 97, 2) := by decide +kernel
theorem dX6_told_120 : decode cX6_told 120 = .ok (.iconst 2, 1) := by decide +kernel
theorem dX6_told_121 : decode cX6_told 121 = .ok (.iload_n 1, 1) := by decide +kernel
theorem dX6_told_122 : decode cX6_told 122 = .ok (.bipush 30, 2) := by decide +kernel
theorem dX6_told_124 : decode cX6_told 124 = .ok (.isub, 1) := by decide +kernel
theorem dX6_told_125 : decode cX6_told 125 = .ok (.imul, 1) := by decide +kernel
theorem dX6_told_126 : decode cX6_told 126 = .ok (.iadd, 1) := by decide +kernel
theorem dX6_told_127 : decode cX6_told 127 = .ok (.iconst 1, 1) := by decide +kernel
theorem dX6_told_128 : decode cX6_told 128 = .ok (.iadd, 1) := by decide +kernel
theorem dX6_told_129 : decode cX6_told 129 = .ok (.iaload, 1) := by decide +kernel
theorem dX6_told_130 : decode cX6_told 130 = .ok (.goto 8, 3) := by decide +kernel
theorem dX6_told_133 : decode cX6_told 133 = .ok (.aload_n 0, 1) := by decide +kernel
theorem dX6_told_134 : decode cX6_told 134 = .ok (.iconst 0, 1) := by decide +kernel
theorem dX6_told_135 : decode cX6_told 135 = .ok (.invokevirtual 101, 3) := by decide +kernel
theorem dX6_told_138 : decode cX6_told 138 = .ok (.ireturn, 1) := by decide +kernel
theorem dX6_areTopics_0 : decode cX6_areTopics 0 = .ok (.iconst 0, 1) := by decide +kernel
theorem dX6_areTopics_1 : decode cX6_areTopics 1 = .ok (.istore_n 2, 1) := by decide +kernel
theorem dX6_areTopics_2 : decode cX6_areTopics 2 = .ok (.iload_n 2, 1) := by decide +kernel
theorem dX6_areTopics_3 : decode cX6_areTopics 3 = .ok (.iconst 4, 1) := by decide +kernel
theorem dX6_areTopics_4 : decode cX6_areTopics 4 = .ok (.if_icmp .ge 95, 3) := by decide +kernel
theorem dX6_areTopics_7 : decode cX6_areTopics 7 = .ok (.iconst 0, 1) := by decide +kernel
theorem dX6_areTopics_8 : decode cX6_areTopics 8 = .ok (.istore_n 3, 1) := by decide +kernel
theorem dX6_areTopics_9 : decode cX6_areTopics 9 = .ok (.iconst 0, 1) := by decide +kernel
theorem dX6_areTopics_10 : decode cX6_areTopics 10 = .ok (.istore 4, 2) := by decide +kernel
theorem dX6_areTopics_12 : decode cX6_areTopics 12 = .ok (.iload 4, 2) := by decide +kernel
theorem dX6_areTopics_14 : decode cX6_areTopics 14 = .ok (.aload_n 0, 1) := by decide +kernel
theorem dX6_areTopics_15 : decode cX6_areTopics 15 = .ok (.getfield 9, 3) := by decide +kernel
theorem dX6_areTopics_18 : decode cX6_areTopics 18 = .ok (.iconst 0, 1) := by decide +kernel
theorem dX6_areTopics_19 : decode cX6_areTopics 19 = .ok (.iaload, 1) := by decide +kernel
theorem dX6_areTopics_20 : decode cX6_areTopics 20 = .ok (.if_icmp .ge 37, 3) := by decide +kernel
theorem dX6_areTopics_23 : decode cX6_areTopics 23 = .ok (.iload_n 3, 1) := by decide +kernel
theorem dX6_areTopics_24 : decode cX6_areTopics 24 = .ok (.iload_n 1, 1) := by decide +kernel
theorem dX6_areTopics_25 : decode cX6_areTopics 25 = .ok (.iload 4, 2) := by decide +kernel
theorem dX6_areTopics_27 : decode cX6_areTopics 27 = .ok (.invokestatic 117, 3) := by decide +kernel
theorem dX6_areTopics_30 : decode cX6_areTopics 30 = .ok (.ifCond .eq 18, 3) := by decide +kernel
theorem dX6_areTopics_33 : decode cX6_areTopics 33 = .ok (.aload_n 0, 1) := by decide +kernel
theorem dX6_areTopics_34 : decode cX6_areTopics 34 = .ok (.iload 4, 2) := by decide +kernel
theorem dX6_areTopics_36 : decode cX6_areTopics 36 = .ok (.iconst 1, 1) := by decide +kernel
theorem dX6_areTopics_37 : decode cX6_areTopics 37 = .ok (.invokevirtual 110, 3) := by decide +kernel
theorem dX6_areTopics_40 : decode cX6_areTopics 40 = .ok (.iload_n 2, 1) := by decide +kernel
theorem dX6_areTopics_41 : decode cX6_areTopics 41 = .ok (.if_icmp .ne 7, 3) := by decide +kernel
theorem dX6_areTopics_44 : decode cX6_areTopics 44 = .ok (.iconst 1, 1) := by decide +kernel
theorem dX6_areTopics_45 : decode cX6_areTopics 45 = .ok (.goto 4, 3) := by decide +kernel
theorem dX6_areTopics_48 : decode cX6_areTopics 48 = .ok (.iconst 0, 1) := by decide +kernel
theorem dX6_areTopics_49 : decode cX6_areTopics 49 = .ok (.iadd, 1) := by decide +kernel
theorem dX6_areTopics_50 : decode cX6_areTopics 50 = .ok (.istore_n 3, 1) := by decide +kernel
theorem dX6_areTopics_51 : decode cX6_areTopics 51 = .ok (.iinc 4 1, 3) := by decide +kernel
theorem dX6_areTopics_54 : decode cX6_areTopics 54 = .ok (.goto (-42), 3) := by decide +kernel
theorem dX6_areTopics_57 : decode cX6_areTopics 57 = .ok (.iload_n 3, 1) := by decide +kernel
theorem dX6_areTopics_58 : decode cX6_areTopics 58 = .ok (.i2l, 1) := by decide +kernel
theorem dX6_areTopics_59 : decode cX6_areTopics 59 = .ok (.aload_n 0, 1) := by decide +kernel
theorem dX6_areTopics_60 : decode cX6_areTopics 60 = .ok (.getfield 9, 3) := by decide +kernel
theorem dX6_areTopics_63 : decode cX6_areTopics 63 = .ok (.bipush 105, 2) := by decide +kernel
theorem dX6_areTopics_65 : decode cX6_areTopics 65 = .ok (.iconst 2, 1) := by decide +kernel
theorem dX6_areTopics_66 : decode cX6_areTopics 66 = .ok (.iload_n 2, 1) := by decide +kernel
theorem dX6_areTopics_67 : decode cX6_areTopics 67 = .ok (.imul, 1) := by decide +kernel
theorem dX6_areTopics_68 : decode cX6_areTopics 68 = .ok (.iadd, 1) := by decide +kernel
theorem dX6_areTopics_69 : decode cX6_areTopics 69 = .ok (.iaload, 1) := by decide +kernel
theorem dX6_areTopics_70 : decode cX6_areTopics 70 = .ok (.i2l, 1) := by decide +kernel
theorem dX6_areTopics_71 : decode cX6_areTopics 71 = .ok (.aload_n 0, 1) := by decide +kernel
theorem dX6_areTopics_72 : decode cX6_areTopics 72 = .ok (.getfield 9, 3) := by decide +kernel
theorem dX6_areTopics_75 : decode cX6_areTopics 75 = .ok (.bipush 105, 2) := by decide +kernel
theorem dX6_areTopics_77 : decode cX6_areTopics 77 = .ok (.iconst 2, 1) := by decide +kernel
theorem dX6_areTopics_78 : decode cX6_areTopics 78 = .ok (.iload_n 2, 1) := by decide +kernel
theorem dX6_areTopics_79 : decode cX6_areTopics 79 = .ok (.imul, 1) := by decide +kernel
theorem dX6_areTopics_80 : decode cX6_areTopics 80 = .ok (.iadd, 1) := by decide +kernel
theorem dX6_areTopics_81 : decode cX6_areTopics 81 = .ok (.iconst 1, 1) := by decide +kernel
theorem dX6_areTopics_82 : decode cX6_areTopics 82 = .ok (.iadd, 1) := by decide +kernel
theorem dX6_areTopics_83 : decode cX6_areTopics 83 = .ok (.iaload, 1) := by decide +kernel
theorem dX6_areTopics_84 : decode cX6_areTopics 84 = .ok (.i2l, 1) := by decide +kernel
theorem dX6_areTopics_85 : decode cX6_areTopics 85 = .ok (.invokestatic 69, 3) := by decide +kernel
theorem dX6_areTopics_88 : decode cX6_areTopics 88 = .ok (.ifCond .ne 5, 3) := by decide +kernel
theorem dX6_areTopics_91 : decode cX6_areTopics 91 = .ok (.iconst 0, 1) := by decide +kernel
theorem dX6_areTopics_92 : decode cX6_areTopics 92 = .ok (.ireturn, 1) := by decide +kernel
theorem dX6_areTopics_93 : decode cX6_areTopics 93 = .ok (.iinc 2 1, 3) := by decide +kernel
theorem dX6_areTopics_96 : decode cX6_areTopics 96 = .ok (.goto (-94), 3) := by decide +kernel
theorem dX6_areTopics_99 : decode cX6_areTopics 99 = .ok (.iconst 1, 1) := by decide +kernel
theorem dX6_areTopics_100 : decode cX6_areTopics 100 = .ok (.ireturn, 1) := by decide +kernel
theorem dX6_minutesOf_0 : decode cX6_minutesOf 0 = .ok (.iconst 0, 1) := by decide +kernel
theorem dX6_minutesOf_1 : decode cX6_minutesOf 1 = .ok (.istore_n 2, 1) := by decide +kernel
theorem dX6_minutesOf_2 : decode cX6_minutesOf 2 = .ok (.iconst 0, 1) := by decide +kernel
theorem dX6_minutesOf_3 : decode cX6_minutesOf 3 = .ok (.istore_n 3, 1) := by decide +kernel
theorem dX6_minutesOf_4 : decode cX6_minutesOf 4 = .ok (.iload_n 3, 1) := by decide +kernel
theorem dX6_minutesOf_5 : decode cX6_minutesOf 5 = .ok (.aload_n 0, 1) := by decide +kernel
theorem dX6_minutesOf_6 : decode cX6_minutesOf 6 = .ok (.getfield 9, 3) := by decide +kernel
theorem dX6_minutesOf_9 : decode cX6_minutesOf 9 = .ok (.iconst 0, 1) := by decide +kernel
theorem dX6_minutesOf_10 : decode cX6_minutesOf 10 = .ok (.iaload, 1) := by decide +kernel
theorem dX6_minutesOf_11 : decode cX6_minutesOf 11 = .ok (.if_icmp .ge 30, 3) := by decide +kernel
theorem dX6_minutesOf_14 : decode cX6_minutesOf 14 = .ok (.iload_n 2, 1) := by decide +kernel
theorem dX6_minutesOf_15 : decode cX6_minutesOf 15 = .ok (.iload_n 1, 1) := by decide +kernel
theorem dX6_minutesOf_16 : decode cX6_minutesOf 16 = .ok (.iload_n 3, 1) := by decide +kernel
theorem dX6_minutesOf_17 : decode cX6_minutesOf 17 = .ok (.invokestatic 117, 3) := by decide +kernel
theorem dX6_minutesOf_20 : decode cX6_minutesOf 20 = .ok (.ifCond .eq 12, 3) := by decide +kernel
theorem dX6_minutesOf_23 : decode cX6_minutesOf 23 = .ok (.aload_n 0, 1) := by decide +kernel
theorem dX6_minutesOf_24 : decode cX6_minutesOf 24 = .ok (.iload_n 3, 1) := by decide +kernel
theorem dX6_minutesOf_25 : decode cX6_minutesOf 25 = .ok (.iconst 2, 1) := by decide +kernel
theorem dX6_minutesOf_26 : decode cX6_minutesOf 26 = .ok (.invokevirtual 110, 3) := by decide +kernel
theorem dX6_minutesOf_29 : decode cX6_minutesOf 29 = .ok (.goto 4, 3) := by decide +kernel
theorem dX6_minutesOf_32 : decode cX6_minutesOf 32 = .ok (.iconst 0, 1) := by decide +kernel
theorem dX6_minutesOf_33 : decode cX6_minutesOf 33 = .ok (.iadd, 1) := by decide +kernel
theorem dX6_minutesOf_34 : decode cX6_minutesOf 34 = .ok (.istore_n 2, 1) := by decide +kernel
theorem dX6_minutesOf_35 : decode cX6_minutesOf 35 = .ok (.iinc 3 1, 3) := by decide +kernel
theorem dX6_minutesOf_38 : decode cX6_minutesOf 38 = .ok (.goto (-34), 3) := by decide +kernel
theorem dX6_minutesOf_41 : decode cX6_minutesOf 41 = .ok (.iload_n 2, 1) := by decide +kernel
theorem dX6_minutesOf_42 : decode cX6_minutesOf 42 = .ok (.ireturn, 1) := by decide +kernel
theorem dX6_areFriends_0 : decode cX6_areFriends 0 = .ok (.iconst 0, 1) := by decide +kernel
theorem dX6_areFriends_1 : decode cX6_areFriends 1 = .ok (.istore_n 2, 1) := by decide +kernel
theorem dX6_areFriends_2 : decode cX6_areFriends 2 = .ok (.iload_n 2, 1) := by decide +kernel
theorem dX6_areFriends_3 : decode cX6_areFriends 3 = .ok (.aload_n 0, 1) := by decide +kernel
theorem dX6_areFriends_4 : decode cX6_areFriends 4 = .ok (.getfield 9, 3) := by decide +kernel
theorem dX6_areFriends_7 : decode cX6_areFriends 7 = .ok (.iconst 0, 1) := by decide +kernel
theorem dX6_areFriends_8 : decode cX6_areFriends 8 = .ok (.iaload, 1) := by decide +kernel
theorem dX6_areFriends_9 : decode cX6_areFriends 9 = .ok (.if_icmp .ge 31, 3) := by decide +kernel
theorem dX6_areFriends_12 : decode cX6_areFriends 12 = .ok (.iload_n 1, 1) := by decide +kernel
theorem dX6_areFriends_13 : decode cX6_areFriends 13 = .ok (.iload_n 2, 1) := by decide +kernel
theorem dX6_areFriends_14 : decode cX6_areFriends 14 = .ok (.invokestatic 117, 3) := by decide +kernel
theorem dX6_areFriends_17 : decode cX6_areFriends 17 = .ok (.ifCond .eq 17, 3) := by decide +kernel
theorem dX6_areFriends_20 : decode cX6_areFriends 20 = .ok (.aload_n 0, 1) := by decide +kernel
theorem dX6_areFriends_21 : decode cX6_areFriends 21 = .ok (.iload_n 2, 1) := by decide +kernel
theorem dX6_areFriends_22 : decode cX6_areFriends 22 = .ok (.bipush 7, 2) := by decide +kernel
theorem dX6_areFriends_24 : decode cX6_areFriends 24 = .ok (.invokevirtual 110, 3) := by decide +kernel
theorem dX6_areFriends_27 : decode cX6_areFriends 27 = .ok (.iload_n 1, 1) := by decide +kernel
theorem dX6_areFriends_28 : decode cX6_areFriends 28 = .ok (.iand, 1) := by decide +kernel
theorem dX6_areFriends_29 : decode cX6_areFriends 29 = .ok (.ifCond .eq 5, 3) := by decide +kernel
theorem dX6_areFriends_32 : decode cX6_areFriends 32 = .ok (.iconst 0, 1) := by decide +kernel
theorem dX6_areFriends_33 : decode cX6_areFriends 33 = .ok (.ireturn, 1) := by decide +kernel
theorem dX6_areFriends_34 : decode cX6_areFriends 34 = .ok (.iinc 2 1, 3) := by decide +kernel
theorem dX6_areFriends_37 : decode cX6_areFriends 37 = .ok (.goto (-35), 3) := by decide +kernel
theorem dX6_areFriends_40 : decode cX6_areFriends 40 = .ok (.iconst 1, 1) := by decide +kernel
theorem dX6_areFriends_41 : decode cX6_areFriends 41 = .ok (.ireturn, 1) := by decide +kernel
theorem dX6_areTexts_0 : decode cX6_areTexts 0 = .ok (.iconst 0, 1) := by decide +kernel
theorem dX6_areTexts_1 : decode cX6_areTexts 1 = .ok (.istore_n 2, 1) := by decide +kernel
theorem dX6_areTexts_2 : decode cX6_areTexts 2 = .ok (.iload_n 2, 1) := by decide +kernel
theorem dX6_areTexts_3 : decode cX6_areTexts 3 = .ok (.iconst 4, 1) := by decide +kernel
theorem dX6_areTexts_4 : decode cX6_areTexts 4 = .ok (.if_icmp .ge 66, 3) := by decide +kernel
theorem dX6_areTexts_7 : decode cX6_areTexts 7 = .ok (.iconst 0, 1) := by decide +kernel
theorem dX6_areTexts_8 : decode cX6_areTexts 8 = .ok (.istore_n 3, 1) := by decide +kernel
theorem dX6_areTexts_9 : decode cX6_areTexts 9 = .ok (.iconst 0, 1) := by decide +kernel
theorem dX6_areTexts_10 : decode cX6_areTexts 10 = .ok (.istore 4, 2) := by decide +kernel
theorem dX6_areTexts_12 : decode cX6_areTexts 12 = .ok (.iload 4, 2) := by decide +kernel
theorem dX6_areTexts_14 : decode cX6_areTexts 14 = .ok (.aload_n 0, 1) := by decide +kernel
theorem dX6_areTexts_15 : decode cX6_areTexts 15 = .ok (.getfield 9, 3) := by decide +kernel
theorem dX6_areTexts_18 : decode cX6_areTexts 18 = .ok (.iconst 0, 1) := by decide +kernel
theorem dX6_areTexts_19 : decode cX6_areTexts 19 = .ok (.iaload, 1) := by decide +kernel
theorem dX6_areTexts_20 : decode cX6_areTexts 20 = .ok (.if_icmp .ge 37, 3) := by decide +kernel
theorem dX6_areTexts_23 : decode cX6_areTexts 23 = .ok (.iload_n 3, 1) := by decide +kernel
theorem dX6_areTexts_24 : decode cX6_areTexts 24 = .ok (.iload_n 1, 1) := by decide +kernel
theorem dX6_areTexts_25 : decode cX6_areTexts 25 = .ok (.iload 4, 2) := by decide +kernel
theorem dX6_areTexts_27 : decode cX6_areTexts 27 = .ok (.invokestatic 117, 3) := by decide +kernel
theorem dX6_areTexts_30 : decode cX6_areTexts 30 = .ok (.ifCond .eq 18, 3) := by decide +kernel
theorem dX6_areTexts_33 : decode cX6_areTexts 33 = .ok (.aload_n 0, 1) := by decide +kernel
theorem dX6_areTexts_34 : decode cX6_areTexts 34 = .ok (.iload 4, 2) := by decide +kernel
theorem dX6_areTexts_36 : decode cX6_areTexts 36 = .ok (.iconst 5, 1) := by decide +kernel
theorem dX6_areTexts_37 : decode cX6_areTexts 37 = .ok (.invokevirtual 110, 3) := by decide +kernel
theorem dX6_areTexts_40 : decode cX6_areTexts 40 = .ok (.iload_n 2, 1) := by decide +kernel
theorem dX6_areTexts_41 : decode cX6_areTexts 41 = .ok (.if_icmp .ne 7, 3) := by decide +kernel
theorem dX6_areTexts_44 : decode cX6_areTexts 44 = .ok (.iconst 1, 1) := by decide +kernel
theorem dX6_areTexts_45 : decode cX6_areTexts 45 = .ok (.goto 4, 3) := by decide +kernel
theorem dX6_areTexts_48 : decode cX6_areTexts 48 = .ok (.iconst 0, 1) := by decide +kernel
theorem dX6_areTexts_49 : decode cX6_areTexts 49 = .ok (.iadd, 1) := by decide +kernel
theorem dX6_areTexts_50 : decode cX6_areTexts 50 = .ok (.istore_n 3, 1) := by decide +kernel
theorem dX6_areTexts_51 : decode cX6_areTexts 51 = .ok (.iinc 4 1, 3) := by decide +kernel
theorem dX6_areTexts_54 : decode cX6_areTexts 54 = .ok (.goto (-42), 3) := by decide +kernel
theorem dX6_areTexts_57 : decode cX6_areTexts 57 = .ok (.iload_n 3, 1) := by decide +kernel
theorem dX6_areTexts_58 : decode cX6_areTexts 58 = .ok (.iconst 1, 1) := by decide +kernel
theorem dX6_areTexts_59 : decode cX6_areTexts 59 = .ok (.if_icmp .ne 5, 3) := by decide +kernel
theorem dX6_areTexts_62 : decode cX6_areTexts 62 = .ok (.iconst 0, 1) := by decide +kernel
theorem dX6_areTexts_63 : decode cX6_areTexts 63 = .ok (.ireturn, 1) := by decide +kernel
theorem dX6_areTexts_64 : decode cX6_areTexts 64 = .ok (.iinc 2 1, 3) := by decide +kernel
theorem dX6_areTexts_67 : decode cX6_areTexts 67 = .ok (.goto (-65), 3) := by decide +kernel
theorem dX6_areTexts_70 : decode cX6_areTexts 70 = .ok (.iconst 1, 1) := by decide +kernel
theorem dX6_areTexts_71 : decode cX6_areTexts 71 = .ok (.ireturn, 1) := by decide +kernel
theorem dX6_areFresh_0 : decode cX6_areFresh 0 = .ok (.iconst 0, 1) := by decide +kernel
theorem dX6_areFresh_1 : decode cX6_areFresh 1 = .ok (.istore_n 2, 1) := by decide +kernel
theorem dX6_areFresh_2 : decode cX6_areFresh 2 = .ok (.iload_n 2, 1) := by decide +kernel
theorem dX6_areFresh_3 : decode cX6_areFresh 3 = .ok (.aload_n 0, 1) := by decide +kernel
theorem dX6_areFresh_4 : decode cX6_areFresh 4 = .ok (.getfield 9, 3) := by decide +kernel
theorem dX6_areFresh_7 : decode cX6_areFresh 7 = .ok (.iconst 0, 1) := by decide +kernel
theorem dX6_areFresh_8 : decode cX6_areFresh 8 = .ok (.iaload, 1) := by decide +kernel
theorem dX6_areFresh_9 : decode cX6_areFresh 9 = .ok (.if_icmp .ge 36, 3) := by decide +kernel
theorem dX6_areFresh_12 : decode cX6_areFresh 12 = .ok (.iload_n 1, 1) := by decide +kernel
theorem dX6_areFresh_13 : decode cX6_areFresh 13 = .ok (.iload_n 2, 1) := by decide +kernel
theorem dX6_areFresh_14 : decode cX6_areFresh 14 = .ok (.invokestatic 117, 3) := by decide +kernel
theorem dX6_areFresh_17 : decode cX6_areFresh 17 = .ok (.ifCond .eq 22, 3) := by decide +kernel
theorem dX6_areFresh_20 : decode cX6_areFresh 20 = .ok (.aload_n 0, 1) := by decide +kernel
theorem dX6_areFresh_21 : decode cX6_areFresh 21 = .ok (.iload_n 2, 1) := by decide +kernel
theorem dX6_areFresh_22 : decode cX6_areFresh 22 = .ok (.bipush 6, 2) := by decide +kernel
theorem dX6_areFresh_24 : decode cX6_areFresh 24 = .ok (.invokevirtual 110, 3) := by decide +kernel
theorem dX6_areFresh_27 : decode cX6_areFresh 27 = .ok (.aload_n 0, 1) := by decide +kernel
theorem dX6_areFresh_28 : decode cX6_areFresh 28 = .ok (.getfield 9, 3) := by decide +kernel
theorem dX6_areFresh_31 : decode cX6_areFresh 31 = .ok (.bipush 115, 2) := by decide +kernel
theorem dX6_areFresh_33 : decode cX6_areFresh 33 = .ok (.iaload, 1) := by decide +kernel
theorem dX6_areFresh_34 : decode cX6_areFresh 34 = .ok (.if_icmp .lt 5, 3) := by decide +kernel
theorem dX6_areFresh_37 : decode cX6_areFresh 37 = .ok (.iconst 0, 1) := by decide +kernel
theorem dX6_areFresh_38 : decode cX6_areFresh 38 = .ok (.ireturn, 1) := by decide +kernel
theorem dX6_areFresh_39 : decode cX6_areFresh 39 = .ok (.iinc 2 1, 3) := by decide +kernel
theorem dX6_areFresh_42 : decode cX6_areFresh 42 = .ok (.goto (-40), 3) := by decide +kernel
theorem dX6_areFresh_45 : decode cX6_areFresh 45 = .ok (.iconst 1, 1) := by decide +kernel
theorem dX6_areFresh_46 : decode cX6_areFresh 46 = .ok (.ireturn, 1) := by decide +kernel
theorem dX6_isSo_0 : decode cX6_isSo 0 = .ok (.iload_n 1, 1) := by decide +kernel
theorem dX6_isSo_1 : decode cX6_isSo 1 = .ok (.tableswitch 94 1 5 #[35, 55, 61, 82, 88], 35) := by decide +kernel
theorem dX6_isSo_36 : decode cX6_isSo 36 = .ok (.iload_n 2, 1) := by decide +kernel
theorem dX6_isSo_37 : decode cX6_isSo 37 = .ok (.invokestatic 212, 3) := by decide +kernel
theorem dX6_isSo_40 : decode cX6_isSo 40 = .ok (.aload_n 0, 1) := by decide +kernel
theorem dX6_isSo_41 : decode cX6_isSo 41 = .ok (.getfield 9, 3) := by decide +kernel
theorem dX6_isSo_44 : decode cX6_isSo 44 = .ok (.bipush 113, 2) := by decide +kernel
theorem dX6_isSo_46 : decode cX6_isSo 46 = .ok (.iaload, 1) := by decide +kernel
theorem dX6_isSo_47 : decode cX6_isSo 47 = .ok (.if_icmp .ne 7, 3) := by decide +kernel
theorem dX6_isSo_50 : decode cX6_isSo 50 = .ok (.iconst 1, 1) := by decide +kernel
theorem dX6_isSo_51 : decode cX6_isSo 51 = .ok (.goto 4, 3) := by decide +kernel
theorem dX6_isSo_54 : decode cX6_isSo 54 = .ok (.iconst 0, 1) := by decide +kernel
theorem dX6_isSo_55 : decode cX6_isSo 55 = .ok (.ireturn, 1) := by decide +kernel
theorem dX6_isSo_56 : decode cX6_isSo 56 = .ok (.aload_n 0, 1) := by decide +kernel
theorem dX6_isSo_57 : decode cX6_isSo 57 = .ok (.iload_n 2, 1) := by decide +kernel
theorem dX6_isSo_58 : decode cX6_isSo 58 = .ok (.invokevirtual 215, 3) := by decide +kernel
theorem dX6_isSo_61 : decode cX6_isSo 61 = .ok (.ireturn, 1) := by decide +kernel
theorem dX6_isSo_62 : decode cX6_isSo 62 = .ok (.aload_n 0, 1) := by decide +kernel
theorem dX6_isSo_63 : decode cX6_isSo 63 = .ok (.iload_n 2, 1) := by decide +kernel
theorem dX6_isSo_64 : decode cX6_isSo 64 = .ok (.invokevirtual 218, 3) := by decide +kernel
theorem dX6_isSo_67 : decode cX6_isSo 67 = .ok (.aload_n 0, 1) := by decide +kernel
theorem dX6_isSo_68 : decode cX6_isSo 68 = .ok (.getfield 9, 3) := by decide +kernel
theorem dX6_isSo_71 : decode cX6_isSo 71 = .ok (.bipush 114, 2) := by decide +kernel
theorem dX6_isSo_73 : decode cX6_isSo 73 = .ok (.iaload, 1) := by decide +kernel
theorem dX6_isSo_74 : decode cX6_isSo 74 = .ok (.if_icmp .gt 7, 3) := by decide +kernel
theorem dX6_isSo_77 : decode cX6_isSo 77 = .ok (.iconst 1, 1) := by decide +kernel
theorem dX6_isSo_78 : decode cX6_isSo 78 = .ok (.goto 4, 3) := by decide +kernel
theorem dX6_isSo_81 : decode cX6_isSo 81 = .ok (.iconst 0, 1) := by decide +kernel
theorem dX6_isSo_82 : decode cX6_isSo 82 = .ok (.ireturn, 1) := by decide +kernel
theorem dX6_isSo_83 : decode cX6_isSo 83 = .ok (.aload_n 0, 1) := by decide +kernel
theorem dX6_isSo_84 : decode cX6_isSo 84 = .ok (.iload_n 2, 1) := by decide +kernel
theorem dX6_isSo_85 : decode cX6_isSo 85 = .ok (.invokevirtual 221, 3) := by decide +kernel
theorem dX6_isSo_88 : decode cX6_isSo 88 = .ok (.ireturn, 1) := by decide +kernel
theorem dX6_isSo_89 : decode cX6_isSo 89 = .ok (.aload_n 0, 1) := by decide +kernel
theorem dX6_isSo_90 : decode cX6_isSo 90 = .ok (.iload_n 2, 1) := by decide +kernel
theorem dX6_isSo_91 : decode cX6_isSo 91 = .ok (.invokevirtual 224, 3) := by decide +kernel
theorem dX6_isSo_94 : decode cX6_isSo 94 = .ok (.ireturn, 1) := by decide +kernel
theorem dX6_isSo_95 : decode cX6_isSo 95 = .ok (.aload_n 0, 1) := by decide +kernel
theorem dX6_isSo_96 : decode cX6_isSo 96 = .ok (.iload_n 2, 1) := by decide +kernel
theorem dX6_isSo_97 : decode cX6_isSo 97 = .ok (.invokevirtual 227, 3) := by decide +kernel
theorem dX6_isSo_100 : decode cX6_isSo 100 = .ok (.ireturn, 1) := by decide +kernel
theorem dX6_againstBut_0 : decode cX6_againstBut 0 = .ok (.iconst 1, 1) := by decide +kernel
theorem dX6_againstBut_1 : decode cX6_againstBut 1 = .ok (.istore_n 3, 1) := by decide +kernel
theorem dX6_againstBut_2 : decode cX6_againstBut 2 = .ok (.iload_n 3, 1) := by decide +kernel
theorem dX6_againstBut_3 : decode cX6_againstBut 3 = .ok (.bipush 6, 2) := by decide +kernel
theorem dX6_againstBut_5 : decode cX6_againstBut 5 = .ok (.if_icmp .gt 25, 3) := by decide +kernel
theorem dX6_againstBut_8 : decode cX6_againstBut 8 = .ok (.iload_n 3, 1) := by decide +kernel
theorem dX6_againstBut_9 : decode cX6_againstBut 9 = .ok (.iload_n 2, 1) := by decide +kernel
theorem dX6_againstBut_10 : decode cX6_againstBut 10 = .ok (.if_icmp .eq 14, 3) := by decide +kernel
theorem dX6_againstBut_13 : decode cX6_againstBut 13 = .ok (.aload_n 0, 1) := by decide +kernel
theorem dX6_againstBut_14 : decode cX6_againstBut 14 = .ok (.iload_n 3, 1) := by decide +kernel
theorem dX6_againstBut_15 : decode cX6_againstBut 15 = .ok (.iload_n 1, 1) := by decide +kernel
theorem dX6_againstBut_16 : decode cX6_againstBut 16 = .ok (.invokevirtual 230, 3) := by decide +kernel
theorem dX6_againstBut_19 : decode cX6_againstBut 19 = .ok (.ifCond .ne 5, 3) := by decide +kernel
theorem dX6_againstBut_22 : decode cX6_againstBut 22 = .ok (.iload_n 3, 1) := by decide +kernel
theorem dX6_againstBut_23 : decode cX6_againstBut 23 = .ok (.ireturn, 1) := by decide +kernel
theorem dX6_againstBut_24 : decode cX6_againstBut 24 = .ok (.iinc 3 1, 3) := by decide +kernel
theorem dX6_againstBut_27 : decode cX6_againstBut 27 = .ok (.goto (-25), 3) := by decide +kernel
theorem dX6_againstBut_30 : decode cX6_againstBut 30 = .ok (.iconst 0, 1) := by decide +kernel
theorem dX6_againstBut_31 : decode cX6_againstBut 31 = .ok (.ireturn, 1) := by decide +kernel
theorem dX6_isPaper_0 : decode cX6_isPaper 0 = .ok (.aload_n 0, 1) := by decide +kernel
theorem dX6_isPaper_1 : decode cX6_isPaper 1 = .ok (.iload_n 1, 1) := by decide +kernel
theorem dX6_isPaper_2 : decode cX6_isPaper 2 = .ok (.iconst 0, 1) := by decide +kernel
theorem dX6_isPaper_3 : decode cX6_isPaper 3 = .ok (.invokevirtual 233, 3) := by decide +kernel
theorem dX6_isPaper_6 : decode cX6_isPaper 6 = .ok (.ifCond .ne 7, 3) := by decide +kernel
theorem dX6_isPaper_9 : decode cX6_isPaper 9 = .ok (.iconst 1, 1) := by decide +kernel
theorem dX6_isPaper_10 : decode cX6_isPaper 10 = .ok (.goto 4, 3) := by decide +kernel
theorem dX6_isPaper_13 : decode cX6_isPaper 13 = .ok (.iconst 0, 1) := by decide +kernel
theorem dX6_isPaper_14 : decode cX6_isPaper 14 = .ok (.ireturn, 1) := by decide +kernel
theorem dX6_against_0 : decode cX6_against 0 = .ok (.aload_n 0, 1) := by decide +kernel
theorem dX6_against_1 : decode cX6_against 1 = .ok (.iload_n 1, 1) := by decide +kernel
theorem dX6_against_2 : decode cX6_against 2 = .ok (.invokevirtual 185, 3) := by decide +kernel
theorem dX6_against_5 : decode cX6_against 5 = .ok (.ifCond .eq 12, 3) := by decide +kernel
theorem dX6_against_8 : decode cX6_against 8 = .ok (.aload_n 0, 1) := by decide +kernel
theorem dX6_against_9 : decode cX6_against 9 = .ok (.iload_n 1, 1) := by decide +kernel
theorem dX6_against_10 : decode cX6_against 10 = .ok (.iconst 0, 1) := by decide +kernel
theorem dX6_against_11 : decode cX6_against 11 = .ok (.invokevirtual 233, 3) := by decide +kernel
theorem dX6_against_14 : decode cX6_against 14 = .ok (.goto 8, 3) := by decide +kernel
theorem dX6_against_17 : decode cX6_against 17 = .ok (.aload_n 0, 1) := by decide +kernel
theorem dX6_against_18 : decode cX6_against 18 = .ok (.iconst 0, 1) := by decide +kernel
theorem dX6_against_19 : decode cX6_against 19 = .ok (.invokevirtual 101, 3) := by decide +kernel
theorem dX6_against_22 : decode cX6_against 22 = .ok (.ireturn, 1) := by decide +kernel
theorem dX6_manyBut_0 : decode cX6_manyBut 0 = .ok (.iconst 0, 1) := by decide +kernel
theorem dX6_manyBut_1 : decode cX6_manyBut 1 = .ok (.istore_n 2, 1) := by decide +kernel
theorem dX6_manyBut_2 : decode cX6_manyBut 2 = .ok (.iconst 0, 1) := by decide +kernel
theorem dX6_manyBut_3 : decode cX6_manyBut 3 = .ok (.istore_n 3, 1) := by decide +kernel
theorem dX6_manyBut_4 : decode cX6_manyBut 4 = .ok (.iload_n 3, 1) := by decide +kernel
theorem dX6_manyBut_5 : decode cX6_manyBut 5 = .ok (.iconst 1, 1) := by decide +kernel
theorem dX6_manyBut_6 : decode cX6_manyBut 6 = .ok (.aload_n 0, 1) := by decide +kernel
theorem dX6_manyBut_7 : decode cX6_manyBut 7 = .ok (.getfield 9, 3) := by decide +kernel
theorem dX6_manyBut_10 : decode cX6_manyBut 10 = .ok (.iconst 0, 1) := by decide +kernel
theorem dX6_manyBut_11 : decode cX6_manyBut 11 = .ok (.iaload, 1) := by decide +kernel
theorem dX6_manyBut_12 : decode cX6_manyBut 12 = .ok (.ishl, 1) := by decide +kernel
theorem dX6_manyBut_13 : decode cX6_manyBut 13 = .ok (.if_icmp .ge 26, 3) := by decide +kernel
theorem dX6_manyBut_16 : decode cX6_manyBut 16 = .ok (.iload_n 2, 1) := by decide +kernel
theorem dX6_manyBut_17 : decode cX6_manyBut 17 = .ok (.aload_n 0, 1) := by decide +kernel
theorem dX6_manyBut_18 : decode cX6_manyBut 18 = .ok (.iload_n 3, 1) := by decide +kernel
theorem dX6_manyBut_19 : decode cX6_manyBut 19 = .ok (.iload_n 1, 1) := by decide +kernel
theorem dX6_manyBut_20 : decode cX6_manyBut 20 = .ok (.invokevirtual 233, 3) := by decide +kernel
theorem dX6_manyBut_23 : decode cX6_manyBut 23 = .ok (.ifCond .ne 7, 3) := by decide +kernel
theorem dX6_manyBut_26 : decode cX6_manyBut 26 = .ok (.iconst 1, 1) := by decide +kernel
theorem dX6_manyBut_27 : decode cX6_manyBut 27 = .ok (.goto 4, 3) := by decide +kernel
theorem dX6_manyBut_30 : decode cX6_manyBut 30 = .ok (.iconst 0, 1) := by decide +kernel
theorem dX6_manyBut_31 : decode cX6_manyBut 31 = .ok (.iadd, 1) := by decide +kernel
theorem dX6_manyBut_32 : decode cX6_manyBut 32 = .ok (.istore_n 2, 1) := by decide +kernel
theorem dX6_manyBut_33 : decode cX6_manyBut 33 = .ok (.iinc 3 1, 3) := by decide +kernel
theorem dX6_manyBut_36 : decode cX6_manyBut 36 = .ok (.goto (-32), 3) := by decide +kernel
theorem dX6_manyBut_39 : decode cX6_manyBut 39 = .ok (.iload_n 2, 1) := by decide +kernel
theorem dX6_manyBut_40 : decode cX6_manyBut 40 = .ok (.ireturn, 1) := by decide +kernel
theorem dX6_papers_0 : decode cX6_papers 0 = .ok (.aload_n 0, 1) := by decide +kernel
theorem dX6_papers_1 : decode cX6_papers 1 = .ok (.iconst 0, 1) := by decide +kernel
theorem dX6_papers_2 : decode cX6_papers 2 = .ok (.invokevirtual 236, 3) := by decide +kernel
theorem dX6_papers_5 : decode cX6_papers 5 = .ok (.ireturn, 1) := by decide +kernel
theorem dX6_without_0 : decode cX6_without 0 = .ok (.iload_n 1, 1) := by decide +kernel
theorem dX6_without_1 : decode cX6_without 1 = .ok (.i2l, 1) := by decide +kernel
theorem dX6_without_2 : decode cX6_without 2 = .ok (.lconst 1, 1) := by decide +kernel
theorem dX6_without_3 : decode cX6_without 3 = .ok (.ldc2_w 196, 3) := by decide +kernel
theorem dX6_without_6 : decode cX6_without 6 = .ok (.invokestatic 69, 3) := by decide +kernel
theorem dX6_without_9 : decode cX6_without 9 = .ok (.ifCond .eq 11, 3) := by decide +kernel
theorem dX6_without_12 : decode cX6_without 12 = .ok (.aload_n 0, 1) := by decide +kernel
theorem dX6_without_13 : decode cX6_without 13 = .ok (.iload_n 1, 1) := by decide +kernel
theorem dX6_without_14 : decode cX6_without 14 = .ok (.invokevirtual 236, 3) := by decide +kernel
theorem dX6_without_17 : decode cX6_without 17 = .ok (.goto 8, 3) := by decide +kernel
theorem dX6_without_20 : decode cX6_without 20 = .ok (.aload_n 0, 1) := by decide +kernel
theorem dX6_without_21 : decode cX6_without 21 = .ok (.iconst 0, 1) := by decide +kernel
theorem dX6_without_22 : decode cX6_without 22 = .ok (.invokevirtual 101, 3) := by decide +kernel
theorem dX6_without_25 : decode cX6_without 25 = .ok (.ireturn, 1) := by decide +kernel
theorem dX6_bestOf_0 : decode cX6_bestOf 0 = .ok (.iconst (-1), 1) := by decide +kernel
theorem dX6_bestOf_1 : decode cX6_bestOf 1 = .ok (.istore_n 1, 1) := by decide +kernel
theorem dX6_bestOf_2 : decode cX6_bestOf 2 = .ok (.dconst 0, 1) := by decide +kernel
theorem dX6_bestOf_3 : decode cX6_bestOf 3 = .ok (.dstore_n 2, 1) := by decide +kernel
theorem dX6_bestOf_4 : decode cX6_bestOf 4 = .ok (.iconst 0, 1) := by decide +kernel
theorem dX6_bestOf_5 : decode cX6_bestOf 5 = .ok (.istore 4, 2) := by decide +kernel
theorem dX6_bestOf_7 : decode cX6_bestOf 7 = .ok (.iload 4, 2) := by decide +kernel
theorem dX6_bestOf_9 : decode cX6_bestOf 9 = .ok (.iconst 1, 1) := by decide +kernel
theorem dX6_bestOf_10 : decode cX6_bestOf 10 = .ok (.aload_n 0, 1) := by decide +kernel
theorem dX6_bestOf_11 : decode cX6_bestOf 11 = .ok (.getfield 9, 3) := by decide +kernel
theorem dX6_bestOf_14 : decode cX6_bestOf 14 = .ok (.iconst 0, 1) := by decide +kernel
theorem dX6_bestOf_15 : decode cX6_bestOf 15 = .ok (.iaload, 1) := by decide +kernel
theorem dX6_bestOf_16 : decode cX6_bestOf 16 = .ok (.ishl, 1) := by decide +kernel
theorem dX6_bestOf_17 : decode cX6_bestOf 17 = .ok (.if_icmp .ge 49, 3) := by decide +kernel
theorem dX6_bestOf_20 : decode cX6_bestOf 20 = .ok (.aload_n 0, 1) := by decide +kernel
theorem dX6_bestOf_21 : decode cX6_bestOf 21 = .ok (.iload 4, 2) := by decide +kernel
theorem dX6_bestOf_23 : decode cX6_bestOf 23 = .ok (.invokevirtual 239, 3) := by decide +kernel
theorem dX6_bestOf_26 : decode cX6_bestOf 26 = .ok (.ifCond .ne 6, 3) := by decide +kernel
theorem dX6_bestOf_29 : decode cX6_bestOf 29 = .ok (.goto 31, 3) := by decide +kernel
theorem dX6_bestOf_32 : decode cX6_bestOf 32 = .ok (.aload_n 0, 1) := by decide +kernel
theorem dX6_bestOf_33 : decode cX6_bestOf 33 = .ok (.iload 4, 2) := by decide +kernel
theorem dX6_bestOf_35 : decode cX6_bestOf 35 = .ok (.invokevirtual 188, 3) := by decide +kernel
theorem dX6_bestOf_38 : decode cX6_bestOf 38 = .ok (.dstore 5, 2) := by decide +kernel
theorem dX6_bestOf_40 : decode cX6_bestOf 40 = .ok (.iload_n 1, 1) := by decide +kernel
theorem dX6_bestOf_41 : decode cX6_bestOf 41 = .ok (.ifCond .lt 13, 3) := by decide +kernel
theorem dX6_bestOf_44 : decode cX6_bestOf 44 = .ok (.dload 5, 2) := by decide +kernel
theorem dX6_bestOf_46 : decode cX6_bestOf 46 = .ok (.dload_n 2, 1) := by decide +kernel
theorem dX6_bestOf_47 : decode cX6_bestOf 47 = .ok (.dcmp .g, 1) := by decide +kernel
theorem dX6_bestOf_48 : decode cX6_bestOf 48 = .ok (.ifCond .gt 6, 3) := by decide +kernel
theorem dX6_bestOf_51 : decode cX6_bestOf 51 = .ok (.goto 9, 3) := by decide +kernel
theorem dX6_bestOf_54 : decode cX6_bestOf 54 = .ok (.iload 4, 2) := by decide +kernel
theorem dX6_bestOf_56 : decode cX6_bestOf 56 = .ok (.istore_n 1, 1) := by decide +kernel
theorem dX6_bestOf_57 : decode cX6_bestOf 57 = .ok (.dload 5, 2) := by decide +kernel
theorem dX6_bestOf_59 : decode cX6_bestOf 59 = .ok (.dstore_n 2, 1) := by decide +kernel
theorem dX6_bestOf_60 : decode cX6_bestOf 60 = .ok (.iinc 4 1, 3) := by decide +kernel
theorem dX6_bestOf_63 : decode cX6_bestOf 63 = .ok (.goto (-56), 3) := by decide +kernel
theorem dX6_bestOf_66 : decode cX6_bestOf 66 = .ok (.iload_n 1, 1) := by decide +kernel
theorem dX6_bestOf_67 : decode cX6_bestOf 67 = .ok (.ireturn, 1) := by decide +kernel
theorem dX6_best_0 : decode cX6_best 0 = .ok (.aload_n 0, 1) := by decide +kernel
theorem dX6_best_1 : decode cX6_best 1 = .ok (.invokevirtual 242, 3) := by decide +kernel
theorem dX6_best_4 : decode cX6_best 4 = .ok (.istore_n 1, 1) := by decide +kernel
theorem dX6_best_5 : decode cX6_best 5 = .ok (.iload_n 1, 1) := by decide +kernel
theorem dX6_best_6 : decode cX6_best 6 = .ok (.ifCond .ge 11, 3) := by decide +kernel
theorem dX6_best_9 : decode cX6_best 9 = .ok (.aload_n 0, 1) := by decide +kernel
theorem dX6_best_10 : decode cX6_best 10 = .ok (.iconst 3, 1) := by decide +kernel
theorem dX6_best_11 : decode cX6_best 11 = .ok (.invokevirtual 101, 3) := by decide +kernel
theorem dX6_best_14 : decode cX6_best 14 = .ok (.goto 4, 3) := by decide +kernel
theorem dX6_best_17 : decode cX6_best 17 = .ok (.iload_n 1, 1) := by decide +kernel
theorem dX6_best_18 : decode cX6_best 18 = .ok (.ireturn, 1) := by decide +kernel
theorem dX6_rank_0 : decode cX6_rank 0 = .ok (.aload_n 0, 1) := by decide +kernel
theorem dX6_rank_1 : decode cX6_rank 1 = .ok (.iload_n 1, 1) := by decide +kernel
theorem dX6_rank_2 : decode cX6_rank 2 = .ok (.invokevirtual 185, 3) := by decide +kernel
theorem dX6_rank_5 : decode cX6_rank 5 = .ok (.ifCond .ne 9, 3) := by decide +kernel
theorem dX6_rank_8 : decode cX6_rank 8 = .ok (.aload_n 0, 1) := by decide +kernel
theorem dX6_rank_9 : decode cX6_rank 9 = .ok (.iconst 0, 1) := by decide +kernel
theorem dX6_rank_10 : decode cX6_rank 10 = .ok (.invokevirtual 101, 3) := by decide +kernel
theorem dX6_rank_13 : decode cX6_rank 13 = .ok (.ireturn, 1) := by decide +kernel
theorem dX6_rank_14 : decode cX6_rank 14 = .ok (.aload_n 0, 1) := by decide +kernel
theorem dX6_rank_15 : decode cX6_rank 15 = .ok (.iload_n 1, 1) := by decide +kernel
theorem dX6_rank_16 : decode cX6_rank 16 = .ok (.invokevirtual 188, 3) := by decide +kernel
theorem dX6_rank_19 : decode cX6_rank 19 = .ok (.dstore_n 2, 1) := by decide +kernel
theorem dX6_rank_20 : decode cX6_rank 20 = .ok (.iconst 0, 1) := by decide +kernel
theorem dX6_rank_21 : decode cX6_rank 21 = .ok (.istore 4, 2) := by decide +kernel
theorem dX6_rank_23 : decode cX6_rank 23 = .ok (.iconst 0, 1) := by decide +kernel
theorem dX6_rank_24 : decode cX6_rank 24 = .ok (.istore 5, 2) := by decide +kernel
theorem dX6_rank_26 : decode cX6_rank 26 = .ok (.iload 5, 2) := by decide +kernel
theorem dX6_rank_28 : decode cX6_rank 28 = .ok (.iconst 1, 1) := by decide +kernel
theorem dX6_rank_29 : decode cX6_rank 29 = .ok (.aload_n 0, 1) := by decide +kernel
theorem dX6_rank_30 : decode cX6_rank 30 = .ok (.getfield 9, 3) := by decide +kernel
theorem dX6_rank_33 : decode cX6_rank 33 = .ok (.iconst 0, 1) := by decide +kernel
theorem dX6_rank_34 : decode cX6_rank 34 = .ok (.iaload, 1) := by decide +kernel
theorem dX6_rank_35 : decode cX6_rank 35 = .ok (.ishl, 1) := by decide +kernel
theorem dX6_rank_36 : decode cX6_rank 36 = .ok (.if_icmp .ge 39, 3) := by decide +kernel
theorem dX6_rank_39 : decode cX6_rank 39 = .ok (.iload 4, 2) := by decide +kernel
theorem dX6_rank_41 : decode cX6_rank 41 = .ok (.aload_n 0, 1) := by decide +kernel
theorem dX6_rank_42 : decode cX6_rank 42 = .ok (.iload 5, 2) := by decide +kernel
theorem dX6_rank_44 : decode cX6_rank 44 = .ok (.invokevirtual 239, 3) := by decide +kernel
theorem dX6_rank_47 : decode cX6_rank 47 = .ok (.ifCond .eq 18, 3) := by decide +kernel
theorem dX6_rank_50 : decode cX6_rank 50 = .ok (.aload_n 0, 1) := by decide +kernel
theorem dX6_rank_51 : decode cX6_rank 51 = .ok (.iload 5, 2) := by decide +kernel
theorem dX6_rank_53 : decode cX6_rank 53 = .ok (.invokevirtual 188, 3) := by decide +kernel
theorem dX6_rank_56 : decode cX6_rank 56 = .ok (.dload_n 2, 1) := by decide +kernel
theorem dX6_rank_57 : decode cX6_rank 57 = .ok (.dcmp .l, 1) := by decide +kernel
theorem dX6_rank_58 : decode cX6_rank 58 = .ok (.ifCond .le 7, 3) := by decide +kernel
theorem dX6_rank_61 : decode cX6_rank 61 = .ok (.iconst 1, 1) := by decide +kernel
theorem dX6_rank_62 : decode cX6_rank 62 = .ok (.goto 4, 3) := by decide +kernel
theorem dX6_rank_65 : decode cX6_rank 65 = .ok (.iconst 0, 1) := by decide +kernel
theorem dX6_rank_66 : decode cX6_rank 66 = .ok (.iadd, 1) := by decide +kernel
theorem dX6_rank_67 : decode cX6_rank 67 = .ok (.istore 4, 2) := by decide +kernel
theorem dX6_rank_69 : decode cX6_rank 69 = .ok (.iinc 5 1, 3) := by decide +kernel
theorem dX6_rank_72 : decode cX6_rank 72 = .ok (.goto (-46), 3) := by decide +kernel
theorem dX6_rank_75 : decode cX6_rank 75 = .ok (.iload 4, 2) := by decide +kernel
theorem dX6_rank_77 : decode cX6_rank 77 = .ok (.ireturn, 1) := by decide +kernel
theorem dX6_swap_0 : decode cX6_swap 0 = .ok (.aload_n 0, 1) := by decide +kernel
theorem dX6_swap_1 : decode cX6_swap 1 = .ok (.iload_n 1, 1) := by decide +kernel
theorem dX6_swap_2 : decode cX6_swap 2 = .ok (.invokevirtual 185, 3) := by decide +kernel
theorem dX6_swap_5 : decode cX6_swap 5 = .ok (.ifCond .eq 11, 3) := by decide +kernel
theorem dX6_swap_8 : decode cX6_swap 8 = .ok (.aload_n 0, 1) := by decide +kernel
theorem dX6_swap_9 : decode cX6_swap 9 = .ok (.iload_n 2, 1) := by decide +kernel
theorem dX6_swap_10 : decode cX6_swap 10 = .ok (.invokevirtual 105, 3) := by decide +kernel
theorem dX6_swap_13 : decode cX6_swap 13 = .ok (.ifCond .ne 9, 3) := by decide +kernel
theorem dX6_swap_16 : decode cX6_swap 16 = .ok (.aload_n 0, 1) := by decide +kernel
theorem dX6_swap_17 : decode cX6_swap 17 = .ok (.iconst 0, 1) := by decide +kernel
theorem dX6_swap_18 : decode cX6_swap 18 = .ok (.invokevirtual 101, 3) := by decide +kernel
theorem dX6_swap_21 : decode cX6_swap 21 = .ok (.ireturn, 1) := by decide +kernel
theorem dX6_swap_22 : decode cX6_swap 22 = .ok (.aload_n 0, 1) := by decide +kernel
theorem dX6_swap_23 : decode cX6_swap 23 = .ok (.iload_n 1, 1) := by decide +kernel
theorem dX6_swap_24 : decode cX6_swap 24 = .ok (.invokevirtual 239, 3) := by decide +kernel
theorem dX6_swap_27 : decode cX6_swap 27 = .ok (.ifCond .ne 9, 3) := by decide +kernel
theorem dX6_swap_30 : decode cX6_swap 30 = .ok (.aload_n 0, 1) := by decide +kernel
theorem dX6_swap_31 : decode cX6_swap 31 = .ok (.iconst 4, 1) := by decide +kernel
theorem dX6_swap_32 : decode cX6_swap 32 = .ok (.invokevirtual 101, 3) := by decide +kernel
theorem dX6_swap_35 : decode cX6_swap 35 = .ok (.ireturn, 1) := by decide +kernel
theorem dX6_swap_36 : decode cX6_swap 36 = .ok (.iload_n 1, 1) := by decide +kernel
theorem dX6_swap_37 : decode cX6_swap 37 = .ok (.iload_n 2, 1) := by decide +kernel
theorem dX6_swap_38 : decode cX6_swap 38 = .ok (.invokestatic 117, 3) := by decide +kernel
theorem dX6_swap_41 : decode cX6_swap 41 = .ok (.ifCond .ne 9, 3) := by decide +kernel
theorem dX6_swap_44 : decode cX6_swap 44 = .ok (.aload_n 0, 1) := by decide +kernel
theorem dX6_swap_45 : decode cX6_swap 45 = .ok (.iconst 2, 1) := by decide +kernel
theorem dX6_swap_46 : decode cX6_swap 46 = .ok (.invokevirtual 101, 3) := by decide +kernel
theorem dX6_swap_49 : decode cX6_swap 49 = .ok (.ireturn, 1) := by decide +kernel
theorem dX6_swap_50 : decode cX6_swap 50 = .ok (.iconst (-1), 1) := by decide +kernel
theorem dX6_swap_51 : decode cX6_swap 51 = .ok (.istore_n 3, 1) := by decide +kernel
theorem dX6_swap_52 : decode cX6_swap 52 = .ok (.dconst 0, 1) := by decide +kernel
theorem dX6_swap_53 : decode cX6_swap 53 = .ok (.dstore 4, 2) := by decide +kernel
theorem dX6_swap_55 : decode cX6_swap 55 = .ok (.iconst 0, 1) := by decide +kernel
theorem dX6_swap_56 : decode cX6_swap 56 = .ok (.istore 6, 2) := by decide +kernel
theorem dX6_swap_58 : decode cX6_swap 58 = .ok (.iload 6, 2) := by decide +kernel
theorem dX6_swap_60 : decode cX6_swap 60 = .ok (.aload_n 0, 1) := by decide +kernel
theorem dX6_swap_61 : decode cX6_swap 61 = .ok (.getfield 9, 3) := by decide +kernel
theorem dX6_swap_64 : decode cX6_swap 64 = .ok (.iconst 0, 1) := by decide +kernel
theorem dX6_swap_65 : decode cX6_swap 65 = .ok (.iaload, 1) := by decide +kernel
theorem dX6_swap_66 : decode cX6_swap 66 = .ok (.if_icmp .ge 74, 3) := by decide +kernel
theorem dX6_swap_69 : decode cX6_swap 69 = .ok (.iload_n 1, 1) := by decide +kernel
theorem dX6_swap_70 : decode cX6_swap 70 = .ok (.iconst 1, 1) := by decide +kernel
theorem dX6_swap_71 : decode cX6_swap 71 = .ok (.iload_n 2, 1) := by decide +kernel
theorem dX6_swap_72 : decode cX6_swap 72 = .ok (.ishl, 1) := by decide +kernel
theorem dX6_swap_73 : decode cX6_swap 73 = .ok (.iconst (-1), 1) := by decide +kernel
theorem dX6_swap_74 : decode cX6_swap 74 = .ok (.ixor, 1) := by decide +kernel
theorem dX6_swap_75 : decode cX6_swap 75 = .ok (.iand, 1) := by decide +kernel
theorem dX6_swap_76 : decode cX6_swap 76 = .ok (.iconst 1, 1) := by decide +kernel
theorem dX6_swap_77 : decode cX6_swap 77 = .ok (.iload 6, 2) := by decide +kernel
theorem dX6_swap_79 : decode cX6_swap 79 = .ok (.ishl, 1) := by decide +kernel
theorem dX6_swap_80 : decode cX6_swap 80 = .ok (.ior, 1) := by decide +kernel
theorem dX6_swap_81 : decode cX6_swap 81 = .ok (.istore 7, 2) := by decide +kernel
theorem dX6_swap_83 : decode cX6_swap 83 = .ok (.iload_n 1, 1) := by decide +kernel
theorem dX6_swap_84 : decode cX6_swap 84 = .ok (.iload 6, 2) := by decide +kernel
theorem dX6_swap_86 : decode cX6_swap 86 = .ok (.invokestatic 117, 3) := by decide +kernel
theorem dX6_swap_89 : decode cX6_swap 89 = .ok (.ifCond .ne 45, 3) := by decide +kernel
theorem dX6_swap_92 : decode cX6_swap 92 = .ok (.aload_n 0, 1) := by decide +kernel
theorem dX6_swap_93 : decode cX6_swap 93 = .ok (.iload 7, 2) := by decide +kernel
theorem dX6_swap_95 : decode cX6_swap 95 = .ok (.invokevirtual 239, 3) := by decide +kernel
theorem dX6_swap_98 : decode cX6_swap 98 = .ok (.ifCond .ne 6, 3) := by decide +kernel
theorem dX6_swap_101 : decode cX6_swap 101 = .ok (.goto 33, 3) := by decide +kernel
theorem dX6_swap_104 : decode cX6_swap 104 = .ok (.aload_n 0, 1) := by decide +kernel
theorem dX6_swap_105 : decode cX6_swap 105 = .ok (.iload 7, 2) := by decide +kernel
theorem dX6_swap_107 : decode cX6_swap 107 = .ok (.invokevirtual 188, 3) := by decide +kernel
theorem dX6_swap_110 : decode cX6_swap 110 = .ok (.dstore 8, 2) := by decide +kernel
theorem dX6_swap_112 : decode cX6_swap 112 = .ok (.iload_n 3, 1) := by decide +kernel
theorem dX6_swap_113 : decode cX6_swap 113 = .ok (.ifCond .lt 14, 3) := by decide +kernel
theorem dX6_swap_116 : decode cX6_swap 116 = .ok (.dload 8, 2) := by decide +kernel
theorem dX6_swap_118 : decode cX6_swap 118 = .ok (.dload 4, 2) := by decide +kernel
theorem dX6_swap_120 : decode cX6_swap 120 = .ok (.dcmp .g, 1) := by decide +kernel
theorem dX6_swap_121 : decode cX6_swap 121 = .ok (.ifCond .gt 6, 3) := by decide +kernel
theorem dX6_swap_124 : decode cX6_swap 124 = .ok (.goto 10, 3) := by decide +kernel
theorem dX6_swap_127 : decode cX6_swap 127 = .ok (.iload 6, 2) := by decide +kernel
theorem dX6_swap_129 : decode cX6_swap 129 = .ok (.istore_n 3, 1) := by decide +kernel
theorem dX6_swap_130 : decode cX6_swap 130 = .ok (.dload 8, 2) := by decide +kernel
theorem dX6_swap_132 : decode cX6_swap 132 = .ok (.dstore 4, 2) := by decide +kernel
theorem dX6_swap_134 : decode cX6_swap 134 = .ok (.iinc 6 1, 3) := by decide +kernel
theorem dX6_swap_137 : decode cX6_swap 137 = .ok (.goto (-79), 3) := by decide +kernel
theorem dX6_swap_140 : decode cX6_swap 140 = .ok (.iload_n 3, 1) := by decide +kernel
theorem dX6_swap_141 : decode cX6_swap 141 = .ok (.ifCond .ge 11, 3) := by decide +kernel
theorem dX6_swap_144 : decode cX6_swap 144 = .ok (.aload_n 0, 1) := by decide +kernel
theorem dX6_swap_145 : decode cX6_swap 145 = .ok (.iconst 3, 1) := by decide +kernel
theorem dX6_swap_146 : decode cX6_swap 146 = .ok (.invokevirtual 101, 3) := by decide +kernel
theorem dX6_swap_149 : decode cX6_swap 149 = .ok (.goto 4, 3) := by decide +kernel
theorem dX6_swap_152 : decode cX6_swap 152 = .ok (.iload_n 3, 1) := by decide +kernel
theorem dX6_swap_153 : decode cX6_swap 153 = .ok (.ireturn, 1) := by decide +kernel
theorem dX6_areForms_0 : decode cX6_areForms 0 = .ok (.iconst 0, 1) := by decide +kernel
theorem dX6_areForms_1 : decode cX6_areForms 1 = .ok (.istore_n 1, 1) := by decide +kernel
theorem dX6_areForms_2 : decode cX6_areForms 2 = .ok (.iconst 0, 1) := by decide +kernel
theorem dX6_areForms_3 : decode cX6_areForms 3 = .ok (.istore_n 2, 1) := by decide +kernel
theorem dX6_areForms_4 : decode cX6_areForms 4 = .ok (.iload_n 2, 1) := by decide +kernel
theorem dX6_areForms_5 : decode cX6_areForms 5 = .ok (.iconst 1, 1) := by decide +kernel
theorem dX6_areForms_6 : decode cX6_areForms 6 = .ok (.aload_n 0, 1) := by decide +kernel
theorem dX6_areForms_7 : decode cX6_areForms 7 = .ok (.getfield 9, 3) := by decide +kernel
theorem dX6_areForms_10 : decode cX6_areForms 10 = .ok (.iconst 0, 1) := by decide +kernel
theorem dX6_areForms_11 : decode cX6_areForms 11 = .ok (.iaload, 1) := by decide +kernel
theorem dX6_areForms_12 : decode cX6_areForms 12 = .ok (.ishl, 1) := by decide +kernel
theorem dX6_areForms_13 : decode cX6_areForms 13 = .ok (.if_icmp .ge 41, 3) := by decide +kernel
theorem dX6_areForms_16 : decode cX6_areForms 16 = .ok (.aload_n 0, 1) := by decide +kernel
theorem dX6_areForms_17 : decode cX6_areForms 17 = .ok (.iload_n 2, 1) := by decide +kernel
theorem dX6_areForms_18 : decode cX6_areForms 18 = .ok (.invokevirtual 239, 3) := by decide +kernel
theorem dX6_areForms_21 : decode cX6_areForms 21 = .ok (.ifCond .ne 6, 3) := by decide +kernel
theorem dX6_areForms_24 : decode cX6_areForms 24 = .ok (.goto 24, 3) := by decide +kernel
theorem dX6_areForms_27 : decode cX6_areForms 27 = .ok (.aload_n 0, 1) := by decide +kernel
theorem dX6_areForms_28 : decode cX6_areForms 28 = .ok (.getfield 19, 3) := by decide +kernel
theorem dX6_areForms_31 : decode cX6_areForms 31 = .ok (.iload_n 1, 1) := by decide +kernel
theorem dX6_areForms_32 : decode cX6_areForms 32 = .ok (.iload_n 2, 1) := by decide +kernel
theorem dX6_areForms_33 : decode cX6_areForms 33 = .ok (.iastore, 1) := by decide +kernel
theorem dX6_areForms_34 : decode cX6_areForms 34 = .ok (.aload_n 0, 1) := by decide +kernel
theorem dX6_areForms_35 : decode cX6_areForms 35 = .ok (.getfield 22, 3) := by decide +kernel
theorem dX6_areForms_38 : decode cX6_areForms 38 = .ok (.iload_n 1, 1) := by decide +kernel
theorem dX6_areForms_39 : decode cX6_areForms 39 = .ok (.aload_n 0, 1) := by decide +kernel
theorem dX6_areForms_40 : decode cX6_areForms 40 = .ok (.iload_n 2, 1) := by decide +kernel
theorem dX6_areForms_41 : decode cX6_areForms 41 = .ok (.invokevirtual 188, 3) := by decide +kernel
theorem dX6_areForms_44 : decode cX6_areForms 44 = .ok (.dastore, 1) := by decide +kernel
theorem dX6_areForms_45 : decode cX6_areForms 45 = .ok (.iinc 1 1, 3) := by decide +kernel
theorem dX6_areForms_48 : decode cX6_areForms 48 = .ok (.iinc 2 1, 3) := by decide +kernel
theorem dX6_areForms_51 : decode cX6_areForms 51 = .ok (.goto (-47), 3) := by decide +kernel
theorem dX6_areForms_54 : decode cX6_areForms 54 = .ok (.iconst 0, 1) := by decide +kernel
theorem dX6_areForms_55 : decode cX6_areForms 55 = .ok (.istore_n 2, 1) := by decide +kernel
theorem dX6_areForms_56 : decode cX6_areForms 56 = .ok (.dconst 0, 1) := by decide +kernel
theorem dX6_areForms_57 : decode cX6_areForms 57 = .ok (.dstore_n 3, 1) := by decide +kernel
theorem dX6_areForms_58 : decode cX6_areForms 58 = .ok (.iconst 0, 1) := by decide +kernel
theorem dX6_areForms_59 : decode cX6_areForms 59 = .ok (.istore 5, 2) := by decide +kernel
theorem dX6_areForms_61 : decode cX6_areForms 61 = .ok (.iload 5, 2) := by decide +kernel
theorem dX6_areForms_63 : decode cX6_areForms 63 = .ok (.iload_n 1, 1) := by decide +kernel
theorem dX6_areForms_64 : decode cX6_areForms 64 = .ok (.if_icmp .ge 132, 3) := by decide +kernel
theorem dX6_areForms_67 : decode cX6_areForms 67 = .ok (.iload 5, 2) := by decide +kernel
theorem dX6_areForms_69 : decode cX6_areForms 69 = .ok (.iconst 1, 1) := by decide +kernel
theorem dX6_areForms_70 : decode cX6_areForms 70 = .ok (.iadd, 1) := by decide +kernel
theorem dX6_areForms_71 : decode cX6_areForms 71 = .ok (.istore 6, 2) := by decide +kernel
theorem dX6_areForms_73 : decode cX6_areForms 73 = .ok (.iload 6, 2) := by decide +kernel
theorem dX6_areForms_75 : decode cX6_areForms 75 = .ok (.iload_n 1, 1) := by decide +kernel
theorem dX6_areForms_76 : decode cX6_areForms 76 = .ok (.if_icmp .ge 114, 3) := by decide +kernel
theorem dX6_areForms_79 : decode cX6_areForms 79 = .ok (.aload_n 0, 1) := by decide +kernel
theorem dX6_areForms_80 : decode cX6_areForms 80 = .ok (.getfield 19, 3) := by decide +kernel
theorem dX6_areForms_83 : decode cX6_areForms 83 = .ok (.iload 5, 2) := by decide +kernel
theorem dX6_areForms_85 : decode cX6_areForms 85 = .ok (.iaload, 1) := by decide +kernel
theorem dX6_areForms_86 : decode cX6_areForms 86 = .ok (.aload_n 0, 1) := by decide +kernel
theorem dX6_areForms_87 : decode cX6_areForms 87 = .ok (.getfield 19, 3) := by decide +kernel
theorem dX6_areForms_90 : decode cX6_areForms 90 = .ok (.iload 6, 2) := by decide +kernel
theorem dX6_areForms_92 : decode cX6_areForms 92 = .ok (.iaload, 1) := by decide +kernel
theorem dX6_areForms_93 : decode cX6_areForms 93 = .ok (.iand, 1) := by decide +kernel
theorem dX6_areForms_94 : decode cX6_areForms 94 = .ok (.ifCond .eq 6, 3) := by decide +kernel
theorem dX6_areForms_97 : decode cX6_areForms 97 = .ok (.goto 87, 3) := by decide +kernel
theorem dX6_areForms_100 : decode cX6_areForms 100 = .ok (.aload_n 0, 1) := by decide +kernel
theorem dX6_areForms_101 : decode cX6_areForms 101 = .ok (.getfield 22, 3) := by decide +kernel
theorem dX6_areForms_104 : decode cX6_areForms 104 = .ok (.iload 5, 2) := by decide +kernel
theorem dX6_areForms_106 : decode cX6_areForms 106 = .ok (.daload, 1) := by decide +kernel
theorem dX6_areForms_107 : decode cX6_areForms 107 = .ok (.aload_n 0, 1) := by decide +kernel
theorem dX6_areForms_108 : decode cX6_areForms 108 = .ok (.getfield 22, 3) := by decide +kernel
theorem dX6_areForms_111 : decode cX6_areForms 111 = .ok (.iload 6, 2) := by decide +kernel
theorem dX6_areForms_113 : decode cX6_areForms 113 = .ok (.daload, 1) := by decide +kernel
theorem dX6_areForms_114 : decode cX6_areForms 114 = .ok (.invokestatic 246, 3) := by decide +kernel
theorem dX6_areForms_117 : decode cX6_areForms 117 = .ok (.dstore 7, 2) := by decide +kernel
theorem dX6_areForms_119 : decode cX6_areForms 119 = .ok (.iload_n 2, 1) := by decide +kernel
theorem dX6_areForms_120 : decode cX6_areForms 120 = .ok (.ifCond .eq 13, 3) := by decide +kernel
theorem dX6_areForms_123 : decode cX6_areForms 123 = .ok (.dload 7, 2) := by decide +kernel
theorem dX6_areForms_125 : decode cX6_areForms 125 = .ok (.dload_n 3, 1) := by decide +kernel
theorem dX6_areForms_126 : decode cX6_areForms 126 = .ok (.dcmp .g, 1) := by decide +kernel
theorem dX6_areForms_127 : decode cX6_areForms 127 = .ok (.ifCond .gt 6, 3) := by decide +kernel
theorem dX6_areForms_130 : decode cX6_areForms 130 = .ok (.goto 54, 3) := by decide +kernel
theorem dX6_areForms_133 : decode cX6_areForms 133 = .ok (.iconst 1, 1) := by decide +kernel
theorem dX6_areForms_134 : decode cX6_areForms 134 = .ok (.istore_n 2, 1) := by decide +kernel
theorem dX6_areForms_135 : decode cX6_areForms 135 = .ok (.dload 7, 2) := by decide +kernel
theorem dX6_areForms_137 : decode cX6_areForms 137 = .ok (.dstore_n 3, 1) := by decide +kernel
theorem dX6_areForms_138 : decode cX6_areForms 138 = .ok (.aload_n 0, 1) := by decide +kernel
theorem dX6_areForms_139 : decode cX6_areForms 139 = .ok (.aload_n 0, 1) := by decide +kernel
theorem dX6_areForms_140 : decode cX6_areForms 140 = .ok (.getfield 19, 3) := by decide +kernel
theorem dX6_areForms_143 : decode cX6_areForms 143 = .ok (.iload 5, 2) := by decide +kernel
theorem dX6_areForms_145 : decode cX6_areForms 145 = .ok (.iaload, 1) := by decide +kernel
theorem dX6_areForms_146 : decode cX6_areForms 146 = .ok (.putfield 250, 3) := by decide +kernel
theorem dX6_areForms_149 : decode cX6_areForms 149 = .ok (.aload_n 0, 1) := by decide +kernel
theorem dX6_areForms_150 : decode cX6_areForms 150 = .ok (.aload_n 0, 1) := by decide +kernel
theorem dX6_areForms_151 : decode cX6_areForms 151 = .ok (.getfield 19, 3) := by decide +kernel
theorem dX6_areForms_154 : decode cX6_areForms 154 = .ok (.iload 6, 2) := by decide +kernel
theorem dX6_areForms_156 : decode cX6_areForms 156 = .ok (.iaload, 1) := by decide +kernel
theorem dX6_areForms_157 : decode cX6_areForms 157 = .ok (.putfield 254, 3) := by decide +kernel
theorem dX6_areForms_160 : decode cX6_areForms 160 = .ok (.aload_n 0, 1) := by decide +kernel
theorem dX6_areForms_161 : decode cX6_areForms 161 = .ok (.aload_n 0, 1) := by decide +kernel
theorem dX6_areForms_162 : decode cX6_areForms 162 = .ok (.getfield 22, 3) := by decide +kernel
theorem dX6_areForms_165 : decode cX6_areForms 165 = .ok (.iload 5, 2) := by decide +kernel
theorem dX6_areForms_167 : decode cX6_areForms 167 = .ok (.daload, 1) := by decide +kernel
theorem dX6_areForms_168 : decode cX6_areForms 168 = .ok (.aload_n 0, 1) := by decide +kernel
theorem dX6_areForms_169 : decode cX6_areForms 169 = .ok (.getfield 22, 3) := by decide +kernel
theorem dX6_areForms_172 : decode cX6_areForms 172 = .ok (.iload 6, 2) := by decide +kernel
theorem dX6_areForms_174 : decode cX6_areForms 174 = .ok (.daload, 1) := by decide +kernel
theorem dX6_areForms_175 : decode cX6_areForms 175 = .ok (.invokestatic 257, 3) := by decide +kernel
theorem dX6_areForms_178 : decode cX6_areForms 178 = .ok (.dload 7, 2) := by decide +kernel
theorem dX6_areForms_180 : decode cX6_areForms 180 = .ok (.dsub, 1) := by decide +kernel
theorem dX6_areForms_181 : decode cX6_areForms 181 = .ok (.putfield 260, 3) := by decide +kernel
theorem dX6_areForms_184 : decode cX6_areForms 184 = .ok (.iinc 6 1, 3) := by decide +kernel
theorem dX6_areForms_187 : decode cX6_areForms 187 = .ok (.goto (-114), 3) := by decide +kernel
theorem dX6_areForms_190 : decode cX6_areForms 190 = .ok (.iinc 5 1, 3) := by decide +kernel
theorem dX6_areForms_193 : decode cX6_areForms 193 = .ok (.goto (-132), 3) := by decide +kernel
theorem dX6_areForms_196 : decode cX6_areForms 196 = .ok (.iload_n 2, 1) := by decide +kernel
theorem dX6_areForms_197 : decode cX6_areForms 197 = .ok (.ireturn, 1) := by decide +kernel
theorem dX6_forms_0 : decode cX6_forms 0 = .ok (.iload_n 1, 1) := by decide +kernel
theorem dX6_forms_1 : decode cX6_forms 1 = .ok (.i2l, 1) := by decide +kernel
theorem dX6_forms_2 : decode cX6_forms 2 = .ok (.lconst 0, 1) := by decide +kernel
theorem dX6_forms_3 : decode cX6_forms 3 = .ok (.lconst 1, 1) := by decide +kernel
theorem dX6_forms_4 : decode cX6_forms 4 = .ok (.invokestatic 69, 3) := by decide +kernel
theorem dX6_forms_7 : decode cX6_forms 7 = .ok (.ifCond .ne 9, 3) := by decide +kernel
theorem dX6_forms_10 : decode cX6_forms 10 = .ok (.aload_n 0, 1) := by decide +kernel
theorem dX6_forms_11 : decode cX6_forms 11 = .ok (.iconst 0, 1) := by decide +kernel
theorem dX6_forms_12 : decode cX6_forms 12 = .ok (.invokevirtual 101, 3) := by decide +kernel
theorem dX6_forms_15 : decode cX6_forms 15 = .ok (.ireturn, 1) := by decide +kernel
theorem dX6_forms_16 : decode cX6_forms 16 = .ok (.aload_n 0, 1) := by decide +kernel
theorem dX6_forms_17 : decode cX6_forms 17 = .ok (.invokevirtual 264, 3) := by decide +kernel
theorem dX6_forms_20 : decode cX6_forms 20 = .ok (.ifCond .ne 9, 3) := by decide +kernel
theorem dX6_forms_23 : decode cX6_forms 23 = .ok (.aload_n 0, 1) := by decide +kernel
theorem dX6_forms_24 : decode cX6_forms 24 = .ok (.iconst 3, 1) := by decide +kernel
theorem dX6_forms_25 : decode cX6_forms 25 = .ok (.invokevirtual 101, 3) := by decide +kernel
theorem dX6_forms_28 : decode cX6_forms 28 = .ok (.ireturn, 1) := by decide +kernel
theorem dX6_forms_29 : decode cX6_forms 29 = .ok (.iload_n 1, 1) := by decide +kernel
theorem dX6_forms_30 : decode cX6_forms 30 = .ok (.ifCond .ne 10, 3) := by decide +kernel
theorem dX6_forms_33 : decode cX6_forms 33 = .ok (.aload_n 0, 1) := by decide +kernel
theorem dX6_forms_34 : decode cX6_forms 34 = .ok (.getfield 250, 3) := by decide +kernel
theorem dX6_forms_37 : decode cX6_forms 37 = .ok (.goto 7, 3) := by decide +kernel
theorem dX6_forms_40 : decode cX6_forms 40 = .ok (.aload_n 0, 1) := by decide +kernel
theorem dX6_forms_41 : decode cX6_forms 41 = .ok (.getfield 254, 3) := by decide +kernel
theorem dX6_forms_44 : decode cX6_forms 44 = .ok (.ireturn, 1) := by decide +kernel
theorem dX6_gap_0 : decode cX6_gap 0 = .ok (.aload_n 0, 1) := by decide +kernel
theorem dX6_gap_1 : decode cX6_gap 1 = .ok (.invokevirtual 264, 3) := by decide +kernel
theorem dX6_gap_4 : decode cX6_gap 4 = .ok (.ifCond .eq 13, 3) := by decide +kernel
theorem dX6_gap_7 : decode cX6_gap 7 = .ok (.aload_n 0, 1) := by decide +kernel
theorem dX6_gap_8 : decode cX6_gap 8 = .ok (.getfield 260, 3) := by decide +kernel
theorem dX6_gap_11 : decode cX6_gap 11 = .ok (.invokestatic 173, 3) := by decide +kernel
theorem dX6_gap_14 : decode cX6_gap 14 = .ok (.goto 8, 3) := by decide +kernel
theorem dX6_gap_17 : decode cX6_gap 17 = .ok (.aload_n 0, 1) := by decide +kernel
theorem dX6_gap_18 : decode cX6_gap 18 = .ok (.iconst 3, 1) := by decide +kernel
theorem dX6_gap_19 : decode cX6_gap 19 = .ok (.invokevirtual 179, 3) := by decide +kernel
theorem dX6_gap_22 : decode cX6_gap 22 = .ok (.lreturn, 1) := by decide +kernel
theorem dX6_isUsed_0 : decode cX6_isUsed 0 = .ok (.iconst 0, 1) := by decide +kernel
theorem dX6_isUsed_1 : decode cX6_isUsed 1 = .ok (.istore_n 2, 1) := by decide +kernel
theorem dX6_isUsed_2 : decode cX6_isUsed 2 = .ok (.iload_n 2, 1) := by decide +kernel
theorem dX6_isUsed_3 : decode cX6_isUsed 3 = .ok (.aload_n 0, 1) := by decide +kernel
theorem dX6_isUsed_4 : decode cX6_isUsed 4 = .ok (.getfield 9, 3) := by decide +kernel
theorem dX6_isUsed_7 : decode cX6_isUsed 7 = .ok (.iconst 0, 1) := by decide +kernel
theorem dX6_isUsed_8 : decode cX6_isUsed 8 = .ok (.iaload, 1) := by decide +kernel
theorem dX6_isUsed_9 : decode cX6_isUsed 9 = .ok (.if_icmp .ge 35, 3) := by decide +kernel
theorem dX6_isUsed_12 : decode cX6_isUsed 12 = .ok (.iload_n 1, 1) := by decide +kernel
theorem dX6_isUsed_13 : decode cX6_isUsed 13 = .ok (.iload_n 2, 1) := by decide +kernel
theorem dX6_isUsed_14 : decode cX6_isUsed 14 = .ok (.invokestatic 117, 3) := by decide +kernel
theorem dX6_isUsed_17 : decode cX6_isUsed 17 = .ok (.ifCond .eq 21, 3) := by decide +kernel
theorem dX6_isUsed_20 : decode cX6_isUsed 20 = .ok (.aload_n 0, 1) := by decide +kernel
theorem dX6_isUsed_21 : decode cX6_isUsed 21 = .ok (.getfield 9, 3) := by decide +kernel
theorem dX6_isUsed_24 : decode cX6_isUsed 24 = .ok (.iconst 1, 1) := by decide +kernel
theorem dX6_isUsed_25 : decode cX6_isUsed 25 = .ok (.bipush 8, 2) := by decide +kernel
theorem dX6_isUsed_27 : decode cX6_isUsed 27 = .ok (.iload_n 2, 1) := by decide +kernel
theorem dX6_isUsed_28 : decode cX6_isUsed 28 = .ok (.imul, 1) := by decide +kernel
theorem dX6_isUsed_29 : decode cX6_isUsed 29 = .ok (.iadd, 1) := by decide +kernel
theorem dX6_isUsed_30 : decode cX6_isUsed 30 = .ok (.bipush 6, 2) := by decide +kernel
theorem dX6_isUsed_32 : decode cX6_isUsed 32 = .ok (.iadd, 1) := by decide +kernel
theorem dX6_isUsed_33 : decode cX6_isUsed 33 = .ok (.dup2, 1) := by decide +kernel
theorem dX6_isUsed_34 : decode cX6_isUsed 34 = .ok (.iaload, 1) := by decide +kernel
theorem dX6_isUsed_35 : decode cX6_isUsed 35 = .ok (.iconst 1, 1) := by decide +kernel
theorem dX6_isUsed_36 : decode cX6_isUsed 36 = .ok (.iadd, 1) := by decide +kernel
theorem dX6_isUsed_37 : decode cX6_isUsed 37 = .ok (.iastore, 1) := by decide +kernel
theorem dX6_isUsed_38 : decode cX6_isUsed 38 = .ok (.iinc 2 1, 3) := by decide +kernel
theorem dX6_isUsed_41 : decode cX6_isUsed 41 = .ok (.goto (-39), 3) := by decide +kernel
theorem dX6_isUsed_44 : decode cX6_isUsed 44 = .ok (.return_, 1) := by decide +kernel
theorem dX6_use_0 : decode cX6_use 0 = .ok (.aload_n 0, 1) := by decide +kernel
theorem dX6_use_1 : decode cX6_use 1 = .ok (.iload_n 1, 1) := by decide +kernel
theorem dX6_use_2 : decode cX6_use 2 = .ok (.invokevirtual 185, 3) := by decide +kernel
theorem dX6_use_5 : decode cX6_use 5 = .ok (.ifCond .ne 9, 3) := by decide +kernel
theorem dX6_use_8 : decode cX6_use 8 = .ok (.aload_n 0, 1) := by decide +kernel
theorem dX6_use_9 : decode cX6_use 9 = .ok (.iconst 0, 1) := by decide +kernel
theorem dX6_use_10 : decode cX6_use 10 = .ok (.invokevirtual 101, 3) := by decide +kernel
theorem dX6_use_13 : decode cX6_use 13 = .ok (.ireturn, 1) := by decide +kernel
theorem dX6_use_14 : decode cX6_use 14 = .ok (.aload_n 0, 1) := by decide +kernel
theorem dX6_use_15 : decode cX6_use 15 = .ok (.iload_n 1, 1) := by decide +kernel
theorem dX6_use_16 : decode cX6_use 16 = .ok (.invokevirtual 239, 3) := by decide +kernel
theorem dX6_use_19 : decode cX6_use 19 = .ok (.ifCond .ne 9, 3) := by decide +kernel
theorem dX6_use_22 : decode cX6_use 22 = .ok (.aload_n 0, 1) := by decide +kernel
theorem dX6_use_23 : decode cX6_use 23 = .ok (.iconst 4, 1) := by decide +kernel
theorem dX6_use_24 : decode cX6_use 24 = .ok (.invokevirtual 101, 3) := by decide +kernel
theorem dX6_use_27 : decode cX6_use 27 = .ok (.ireturn, 1) := by decide +kernel
theorem dX6_use_28 : decode cX6_use 28 = .ok (.aload_n 0, 1) := by decide +kernel
theorem dX6_use_29 : decode cX6_use 29 = .ok (.iload_n 1, 1) := by decide +kernel
theorem dX6_use_30 : decode cX6_use 30 = .ok (.invokevirtual 268, 3) := by decide +kernel
theorem dX6_use_33 : decode cX6_use 33 = .ok (.iconst 0, 1) := by decide +kernel
theorem dX6_use_34 : decode cX6_use 34 = .ok (.istore_n 2, 1) := by decide +kernel
theorem dX6_use_35 : decode cX6_use 35 = .ok (.iconst 0, 1) := by decide +kernel
theorem dX6_use_36 : decode cX6_use 36 = .ok (.istore_n 3, 1) := by decide +kernel
theorem dX6_use_37 : decode cX6_use 37 = .ok (.iload_n 3, 1) := by decide +kernel
theorem dX6_use_38 : decode cX6_use 38 = .ok (.aload_n 0, 1) := by decide +kernel
theorem dX6_use_39 : decode cX6_use 39 = .ok (.getfield 9, 3) := by decide +kernel
theorem dX6_use_42 : decode cX6_use 42 = .ok (.iconst 0, 1) := by decide +kernel
theorem dX6_use_43 : decode cX6_use 43 = .ok (.iaload, 1) := by decide +kernel
theorem dX6_use_44 : decode cX6_use 44 = .ok (.if_icmp .ge 34, 3) := by decide +kernel
theorem dX6_use_47 : decode cX6_use 47 = .ok (.iload_n 2, 1) := by decide +kernel
theorem dX6_use_48 : decode cX6_use 48 = .ok (.aload_n 0, 1) := by decide +kernel
theorem dX6_use_49 : decode cX6_use 49 = .ok (.iload_n 3, 1) := by decide +kernel
theorem dX6_use_50 : decode cX6_use 50 = .ok (.bipush 6, 2) := by decide +kernel
theorem dX6_use_52 : decode cX6_use 52 = .ok (.invokevirtual 110, 3) := by decide +kernel
theorem dX6_use_55 : decode cX6_use 55 = .ok (.aload_n 0, 1) := by decide +kernel
theorem dX6_use_56 : decode cX6_use 56 = .ok (.getfield 9, 3) := by decide +kernel
theorem dX6_use_59 : decode cX6_use 59 = .ok (.bipush 115, 2) := by decide +kernel
theorem dX6_use_61 : decode cX6_use 61 = .ok (.iaload, 1) := by decide +kernel
theorem dX6_use_62 : decode cX6_use 62 = .ok (.if_icmp .lt 7, 3) := by decide +kernel
theorem dX6_use_65 : decode cX6_use 65 = .ok (.iconst 1, 1) := by decide +kernel
theorem dX6_use_66 : decode cX6_use 66 = .ok (.goto 4, 3) := by decide +kernel
theorem dX6_use_69 : decode cX6_use 69 = .ok (.iconst 0, 1) := by decide +kernel
theorem dX6_use_70 : decode cX6_use 70 = .ok (.iadd, 1) := by decide +kernel
theorem dX6_use_71 : decode cX6_use 71 = .ok (.istore_n 2, 1) := by decide +kernel
theorem dX6_use_72 : decode cX6_use 72 = .ok (.iinc 3 1, 3) := by decide +kernel
theorem dX6_use_75 : decode cX6_use 75 = .ok (.goto (-38), 3) := by decide +kernel
theorem dX6_use_78 : decode cX6_use 78 = .ok (.iload_n 2, 1) := by decide +kernel
theorem dX6_use_79 : decode cX6_use 79 = .ok (.ireturn, 1) := by decide +kernel
theorem dX6_uses_0 : decode cX6_uses 0 = .ok (.iload_n 1, 1) := by decide +kernel
theorem dX6_uses_1 : decode cX6_uses 1 = .ok (.i2l, 1) := by decide +kernel
theorem dX6_uses_2 : decode cX6_uses 2 = .ok (.lconst 1, 1) := by decide +kernel
theorem dX6_uses_3 : decode cX6_uses 3 = .ok (.ldc2_w 85, 3) := by decide +kernel
theorem dX6_uses_6 : decode cX6_uses 6 = .ok (.invokestatic 69, 3) := by decide +kernel
theorem dX6_uses_9 : decode cX6_uses 9 = .ok (.ifCond .ne 9, 3) := by decide +kernel
theorem dX6_uses_12 : decode cX6_uses 12 = .ok (.aload_n 0, 1) := by decide +kernel
theorem dX6_uses_13 : decode cX6_uses 13 = .ok (.iconst 0, 1) := by decide +kernel
theorem dX6_uses_14 : decode cX6_uses 14 = .ok (.invokevirtual 101, 3) := by decide +kernel
theorem dX6_uses_17 : decode cX6_uses 17 = .ok (.ireturn, 1) := by decide +kernel
theorem dX6_uses_18 : decode cX6_uses 18 = .ok (.iconst 0, 1) := by decide +kernel
theorem dX6_uses_19 : decode cX6_uses 19 = .ok (.istore_n 2, 1) := by decide +kernel
theorem dX6_uses_20 : decode cX6_uses 20 = .ok (.aload_n 0, 1) := by decide +kernel
theorem dX6_uses_21 : decode cX6_uses 21 = .ok (.invokevirtual 242, 3) := by decide +kernel
theorem dX6_uses_24 : decode cX6_uses 24 = .ok (.istore_n 3, 1) := by decide +kernel
theorem dX6_uses_25 : decode cX6_uses 25 = .ok (.iload_n 2, 1) := by decide +kernel
theorem dX6_uses_26 : decode cX6_uses 26 = .ok (.iload_n 1, 1) := by decide +kernel
theorem dX6_uses_27 : decode cX6_uses 27 = .ok (.if_icmp .ge 23, 3) := by decide +kernel
theorem dX6_uses_30 : decode cX6_uses 30 = .ok (.iload_n 3, 1) := by decide +kernel
theorem dX6_uses_31 : decode cX6_uses 31 = .ok (.ifCond .lt 19, 3) := by decide +kernel
theorem dX6_uses_34 : decode cX6_uses 34 = .ok (.aload_n 0, 1) := by decide +kernel
theorem dX6_uses_35 : decode cX6_uses 35 = .ok (.iload_n 3, 1) := by decide +kernel
theorem dX6_uses_36 : decode cX6_uses 36 = .ok (.invokevirtual 268, 3) := by decide +kernel
theorem dX6_uses_39 : decode cX6_uses 39 = .ok (.iinc 2 1, 3) := by decide +kernel
theorem dX6_uses_42 : decode cX6_uses 42 = .ok (.aload_n 0, 1) := by decide +kernel
theorem dX6_uses_43 : decode cX6_uses 43 = .ok (.invokevirtual 242, 3) := by decide +kernel
theorem dX6_uses_46 : decode cX6_uses 46 = .ok (.istore_n 3, 1) := by decide +kernel
theorem dX6_uses_47 : decode cX6_uses 47 = .ok (.goto (-22), 3) := by decide +kernel
theorem dX6_uses_50 : decode cX6_uses 50 = .ok (.iload_n 2, 1) := by decide +kernel
theorem dX6_uses_51 : decode cX6_uses 51 = .ok (.ireturn, 1) := by decide +kernel
theorem dX6_drawn_0 : decode cX6_drawn 0 = .ok (.aload_n 0, 1) := by decide +kernel
theorem dX6_drawn_1 : decode cX6_drawn 1 = .ok (.getfield 9, 3) := by decide +kernel
theorem dX6_drawn_4 : decode cX6_drawn 4 = .ok (.bipush 116, 2) := by decide +kernel
theorem dX6_drawn_6 : decode cX6_drawn 6 = .ok (.aload_n 0, 1) := by decide +kernel
theorem dX6_drawn_7 : decode cX6_drawn 7 = .ok (.getfield 9, 3) := by decide +kernel
theorem dX6_drawn_10 : decode cX6_drawn 10 = .ok (.bipush 116, 2) := by decide +kernel
theorem dX6_drawn_12 : decode cX6_drawn 12 = .ok (.iaload, 1) := by decide +kernel
theorem dX6_drawn_13 : decode cX6_drawn 13 = .ok (.ldc_w 272, 3) := by decide +kernel
theorem dX6_drawn_16 : decode cX6_drawn 16 = .ok (.imul, 1) := by decide +kernel
theorem dX6_drawn_17 : decode cX6_drawn 17 = .ok (.sipush 12345, 3) := by decide +kernel
theorem dX6_drawn_20 : decode cX6_drawn 20 = .ok (.iadd, 1) := by decide +kernel
theorem dX6_drawn_21 : decode cX6_drawn 21 = .ok (.iastore, 1) := by decide +kernel
theorem dX6_drawn_22 : decode cX6_drawn 22 = .ok (.aload_n 0, 1) := by decide +kernel
theorem dX6_drawn_23 : decode cX6_drawn 23 = .ok (.getfield 9, 3) := by decide +kernel
theorem dX6_drawn_26 : decode cX6_drawn 26 = .ok (.bipush 116, 2) := by decide +kernel
theorem dX6_drawn_28 : decode cX6_drawn 28 = .ok (.iaload, 1) := by decide +kernel
theorem dX6_drawn_29 : decode cX6_drawn 29 = .ok (.bipush 8, 2) := by decide +kernel
theorem dX6_drawn_31 : decode cX6_drawn 31 = .ok (.iushr, 1) := by decide +kernel
theorem dX6_drawn_32 : decode cX6_drawn 32 = .ok (.sipush 4096, 3) := by decide +kernel
theorem dX6_drawn_35 : decode cX6_drawn 35 = .ok (.irem, 1) := by decide +kernel
theorem dX6_drawn_36 : decode cX6_drawn 36 = .ok (.iconst 1, 1) := by decide +kernel
theorem dX6_drawn_37 : decode cX6_drawn 37 = .ok (.aload_n 0, 1) := by decide +kernel
theorem dX6_drawn_38 : decode cX6_drawn 38 = .ok (.getfield 9, 3) := by decide +kernel
theorem dX6_drawn_41 : decode cX6_drawn 41 = .ok (.iconst 0, 1) := by decide +kernel
theorem dX6_drawn_42 : decode cX6_drawn 42 = .ok (.iaload, 1) := by decide +kernel
theorem dX6_drawn_43 : decode cX6_drawn 43 = .ok (.ishl, 1) := by decide +kernel
theorem dX6_drawn_44 : decode cX6_drawn 44 = .ok (.iconst 1, 1) := by decide +kernel
theorem dX6_drawn_45 : decode cX6_drawn 45 = .ok (.isub, 1) := by decide +kernel
theorem dX6_drawn_46 : decode cX6_drawn 46 = .ok (.iand, 1) := by decide +kernel
theorem dX6_drawn_47 : decode cX6_drawn 47 = .ok (.ireturn, 1) := by decide +kernel
theorem dX6_loose_0 : decode cX6_loose 0 = .ok (.iload_n 1, 1) := by decide +kernel
theorem dX6_loose_1 : decode cX6_loose 1 = .ok (.i2l, 1) := by decide +kernel
theorem dX6_loose_2 : decode cX6_loose 2 = .ok (.lconst 1, 1) := by decide +kernel
theorem dX6_loose_3 : decode cX6_loose 3 = .ok (.ldc2_w 85, 3) := by decide +kernel
theorem dX6_loose_6 : decode cX6_loose 6 = .ok (.invokestatic 69, 3) := by decide +kernel
theorem dX6_loose_9 : decode cX6_loose 9 = .ok (.ifCond .ne 9, 3) := by decide +kernel
theorem dX6_loose_12 : decode cX6_loose 12 = .ok (.aload_n 0, 1) := by decide +kernel
theorem dX6_loose_13 : decode cX6_loose 13 = .ok (.iconst 0, 1) := by decide +kernel
theorem dX6_loose_14 : decode cX6_loose 14 = .ok (.invokevirtual 101, 3) := by decide +kernel
theorem dX6_loose_17 : decode cX6_loose 17 = .ok (.ireturn, 1) := by decide +kernel
theorem dX6_loose_18 : decode cX6_loose 18 = .ok (.iconst 0, 1) := by decide +kernel
theorem dX6_loose_19 : decode cX6_loose 19 = .ok (.istore_n 2, 1) := by decide +kernel
theorem dX6_loose_20 : decode cX6_loose 20 = .ok (.iconst 0, 1) := by decide +kernel
theorem dX6_loose_21 : decode cX6_loose 21 = .ok (.istore_n 3, 1) := by decide +kernel
theorem dX6_loose_22 : decode cX6_loose 22 = .ok (.iload_n 3, 1) := by decide +kernel
theorem dX6_loose_23 : decode cX6_loose 23 = .ok (.iload_n 1, 1) := by decide +kernel
theorem dX6_loose_24 : decode cX6_loose 24 = .ok (.if_icmp .ge 90, 3) := by decide +kernel
theorem dX6_loose_27 : decode cX6_loose 27 = .ok (.aload_n 0, 1) := by decide +kernel
theorem dX6_loose_28 : decode cX6_loose 28 = .ok (.invokevirtual 273, 3) := by decide +kernel
theorem dX6_loose_31 : decode cX6_loose 31 = .ok (.istore 4, 2) := by decide +kernel
theorem dX6_loose_33 : decode cX6_loose 33 = .ok (.aload_n 0, 1) := by decide +kernel
theorem dX6_loose_34 : decode cX6_loose 34 = .ok (.invokevirtual 273, 3) := by decide +kernel
theorem dX6_loose_37 : decode cX6_loose 37 = .ok (.istore 5, 2) := by decide +kernel
theorem dX6_loose_39 : decode cX6_loose 39 = .ok (.aload_n 0, 1) := by decide +kernel
theorem dX6_loose_40 : decode cX6_loose 40 = .ok (.iload 4, 2) := by decide +kernel
theorem dX6_loose_42 : decode cX6_loose 42 = .ok (.invokevirtual 239, 3) := by decide +kernel
theorem dX6_loose_45 : decode cX6_loose 45 = .ok (.istore 6, 2) := by decide +kernel
theorem dX6_loose_47 : decode cX6_loose 47 = .ok (.aload_n 0, 1) := by decide +kernel
theorem dX6_loose_48 : decode cX6_loose 48 = .ok (.iload 5, 2) := by decide +kernel
theorem dX6_loose_50 : decode cX6_loose 50 = .ok (.invokevirtual 239, 3) := by decide +kernel
theorem dX6_loose_53 : decode cX6_loose 53 = .ok (.istore 7, 2) := by decide +kernel
theorem dX6_loose_55 : decode cX6_loose 55 = .ok (.iload 6, 2) := by decide +kernel
theorem dX6_loose_57 : decode cX6_loose 57 = .ok (.ifCond .ne 11, 3) := by decide +kernel
theorem dX6_loose_60 : decode cX6_loose 60 = .ok (.iload 7, 2) := by decide +kernel
theorem dX6_loose_62 : decode cX6_loose 62 = .ok (.ifCond .ne 6, 3) := by decide +kernel
theorem dX6_loose_65 : decode cX6_loose 65 = .ok (.goto 43, 3) := by decide +kernel
theorem dX6_loose_68 : decode cX6_loose 68 = .ok (.aload_n 0, 1) := by decide +kernel
theorem dX6_loose_69 : decode cX6_loose 69 = .ok (.iload 6, 2) := by decide +kernel
theorem dX6_loose_71 : decode cX6_loose 71 = .ok (.ifCond .eq 29, 3) := by decide +kernel
theorem dX6_loose_74 : decode cX6_loose 74 = .ok (.iload 7, 2) := by decide +kernel
theorem dX6_loose_76 : decode cX6_loose 76 = .ok (.ifCond .eq 19, 3) := by decide +kernel
theorem dX6_loose_79 : decode cX6_loose 79 = .ok (.aload_n 0, 1) := by decide +kernel
theorem dX6_loose_80 : decode cX6_loose 80 = .ok (.iload 4, 2) := by decide +kernel
theorem dX6_loose_82 : decode cX6_loose 82 = .ok (.invokevirtual 188, 3) := by decide +kernel
theorem dX6_loose_85 : decode cX6_loose 85 = .ok (.aload_n 0, 1) := by decide +kernel
theorem dX6_loose_86 : decode cX6_loose 86 = .ok (.iload 5, 2) := by decide +kernel
theorem dX6_loose_88 : decode cX6_loose 88 = .ok (.invokevirtual 188, 3) := by decide +kernel
theorem dX6_loose_91 : decode cX6_loose 91 = .ok (.dcmp .l, 1) := by decide +kernel
theorem dX6_loose_92 : decode cX6_loose 92 = .ok (.ifCond .lt 8, 3) := by decide +kernel
theorem dX6_loose_95 : decode cX6_loose 95 = .ok (.iload 4, 2) := by decide +kernel
theorem dX6_loose_97 : decode cX6_loose 97 = .ok (.goto 5, 3) := by decide +kernel
theorem dX6_loose_100 : decode cX6_loose 100 = .ok (.iload 5, 2) := by decide +kernel
theorem dX6_loose_102 : decode cX6_loose 102 = .ok (.invokevirtual 268, 3) := by decide +kernel
theorem dX6_loose_105 : decode cX6_loose 105 = .ok (.iinc 2 1, 3) := by decide +kernel
theorem dX6_loose_108 : decode cX6_loose 108 = .ok (.iinc 3 1, 3) := by decide +kernel
theorem dX6_loose_111 : decode cX6_loose 111 = .ok (.goto (-89), 3) := by decide +kernel
theorem dX6_loose_114 : decode cX6_loose 114 = .ok (.iload_n 2, 1) := by decide +kernel
theorem dX6_loose_115 : decode cX6_loose 115 = .ok (.ireturn, 1) := by decide +kernel
theorem dX6_seed_0 : decode cX6_seed 0 = .ok (.aload_n 0, 1) := by decide +kernel
theorem dX6_seed_1 : decode cX6_seed 1 = .ok (.getfield 9, 3) := by decide +kernel
theorem dX6_seed_4 : decode cX6_seed 4 = .ok (.bipush 116, 2) := by decide +kernel
theorem dX6_seed_6 : decode cX6_seed 6 = .ok (.iaload, 1) := by decide +kernel
theorem dX6_seed_7 : decode cX6_seed 7 = .ok (.istore_n 2, 1) := by decide +kernel
theorem dX6_seed_8 : decode cX6_seed 8 = .ok (.aload_n 0, 1) := by decide +kernel
theorem dX6_seed_9 : decode cX6_seed 9 = .ok (.getfield 9, 3) := by decide +kernel
theorem dX6_seed_12 : decode cX6_seed 12 = .ok (.bipush 116, 2) := by decide +kernel
theorem dX6_seed_14 : decode cX6_seed 14 = .ok (.iload_n 1, 1) := by decide +kernel
theorem dX6_seed_15 : decode cX6_seed 15 = .ok (.iastore, 1) := by decide +kernel
theorem dX6_seed_16 : decode cX6_seed 16 = .ok (.iload_n 2, 1) := by decide +kernel
theorem dX6_seed_17 : decode cX6_seed 17 = .ok (.ireturn, 1) := by decide +kernel
theorem dX6_isShelf_0 : decode cX6_isShelf 0 = .ok (.iload_n 0, 1) := by decide +kernel
theorem dX6_isShelf_1 : decode cX6_isShelf 1 = .ok (.i2l, 1) := by decide +kernel
theorem dX6_isShelf_2 : decode cX6_isShelf 2 = .ok (.lconst 0, 1) := by decide +kernel
theorem dX6_isShelf_3 : decode cX6_isShelf 3 = .ok (.ldc2_w 83, 3) := by decide +kernel
theorem dX6_isShelf_6 : decode cX6_isShelf 6 = .ok (.invokestatic 69, 3) := by decide +kernel
theorem dX6_isShelf_9 : decode cX6_isShelf 9 = .ok (.ireturn, 1) := by decide +kernel
theorem dX6_standing_0 : decode cX6_standing 0 = .ok (.iconst 0, 1) := by decide +kernel
theorem dX6_standing_1 : decode cX6_standing 1 = .ok (.istore_n 2, 1) := by decide +kernel
theorem dX6_standing_2 : decode cX6_standing 2 = .ok (.iconst 0, 1) := by decide +kernel
theorem dX6_standing_3 : decode cX6_standing 3 = .ok (.istore_n 3, 1) := by decide +kernel
theorem dX6_standing_4 : decode cX6_standing 4 = .ok (.iload_n 3, 1) := by decide +kernel
theorem dX6_standing_5 : decode cX6_standing 5 = .ok (.bipush 6, 2) := by decide +kernel
theorem dX6_standing_7 : decode cX6_standing 7 = .ok (.if_icmp .ge 28, 3) := by decide +kernel
theorem dX6_standing_10 : decode cX6_standing 10 = .ok (.iload_n 2, 1) := by decide +kernel
theorem dX6_standing_11 : decode cX6_standing 11 = .ok (.aload_n 0, 1) := by decide +kernel
theorem dX6_standing_12 : decode cX6_standing 12 = .ok (.getfield 31, 3) := by decide +kernel
theorem dX6_standing_15 : decode cX6_standing 15 = .ok (.iload_n 1, 1) := by decide +kernel
theorem dX6_standing_16 : decode cX6_standing 16 = .ok (.aaload, 1) := by decide +kernel
theorem dX6_standing_17 : decode cX6_standing 17 = .ok (.iload_n 3, 1) := by decide +kernel
theorem dX6_standing_18 : decode cX6_standing 18 = .ok (.iaload, 1) := by decide +kernel
theorem dX6_standing_19 : decode cX6_standing 19 = .ok (.ifCond .le 7, 3) := by decide +kernel
theorem dX6_standing_22 : decode cX6_standing 22 = .ok (.iconst 1, 1) := by decide +kernel
theorem dX6_standing_23 : decode cX6_standing 23 = .ok (.goto 4, 3) := by decide +kernel
theorem dX6_standing_26 : decode cX6_standing 26 = .ok (.iconst 0, 1) := by decide +kernel
theorem dX6_standing_27 : decode cX6_standing 27 = .ok (.iadd, 1) := by decide +kernel
theorem dX6_standing_28 : decode cX6_standing 28 = .ok (.istore_n 2, 1) := by decide +kernel
theorem dX6_standing_29 : decode cX6_standing 29 = .ok (.iinc 3 1, 3) := by decide +kernel
theorem dX6_standing_32 : decode cX6_standing 32 = .ok (.goto (-28), 3) := by decide +kernel
theorem dX6_standing_35 : decode cX6_standing 35 = .ok (.iload_n 2, 1) := by decide +kernel
theorem dX6_standing_36 : decode cX6_standing 36 = .ok (.ireturn, 1) := by decide +kernel
theorem dX6_shelf_0 : decode cX6_shelf 0 = .ok (.iload_n 1, 1) := by decide +kernel
theorem dX6_shelf_1 : decode cX6_shelf 1 = .ok (.invokestatic 276, 3) := by decide +kernel
theorem dX6_shelf_4 : decode cX6_shelf 4 = .ok (.ifCond .eq 10, 3) := by decide +kernel
theorem dX6_shelf_7 : decode cX6_shelf 7 = .ok (.iload_n 2, 1) := by decide +kernel
theorem dX6_shelf_8 : decode cX6_shelf 8 = .ok (.invokestatic 79, 3) := by decide +kernel
theorem dX6_shelf_11 : decode cX6_shelf 11 = .ok (.ifCond .ne 9, 3) := by decide +kernel
theorem dX6_shelf_14 : decode cX6_shelf 14 = .ok (.aload_n 0, 1) := by decide +kernel
theorem dX6_shelf_15 : decode cX6_shelf 15 = .ok (.iconst 0, 1) := by decide +kernel
theorem dX6_shelf_16 : decode cX6_shelf 16 = .ok (.invokevirtual 101, 3) := by decide +kernel
theorem dX6_shelf_19 : decode cX6_shelf 19 = .ok (.ireturn, 1) := by decide +kernel
theorem dX6_shelf_20 : decode cX6_shelf 20 = .ok (.aload_n 0, 1) := by decide +kernel
theorem dX6_shelf_21 : decode cX6_shelf 21 = .ok (.iload_n 1, 1) := by decide +kernel
theorem dX6_shelf_22 : decode cX6_shelf 22 = .ok (.invokevirtual 279, 3) := by decide +kernel
theorem dX6_shelf_25 : decode cX6_shelf 25 = .ok (.istore_n 3, 1) := by decide +kernel
theorem dX6_shelf_26 : decode cX6_shelf 26 = .ok (.aload_n 0, 1) := by decide +kernel
theorem dX6_shelf_27 : decode cX6_shelf 27 = .ok (.getfield 26, 3) := by decide +kernel
theorem dX6_shelf_30 : decode cX6_shelf 30 = .ok (.iload_n 1, 1) := by decide +kernel
theorem dX6_shelf_31 : decode cX6_shelf 31 = .ok (.iload_n 2, 1) := by decide +kernel
theorem dX6_shelf_32 : decode cX6_shelf 32 = .ok (.iastore, 1) := by decide +kernel
theorem dX6_shelf_33 : decode cX6_shelf 33 = .ok (.iconst 0, 1) := by decide +kernel
theorem dX6_shelf_34 : decode cX6_shelf 34 = .ok (.istore 4, 2) := by decide +kernel
theorem dX6_shelf_36 : decode cX6_shelf 36 = .ok (.iload 4, 2) := by decide +kernel
theorem dX6_shelf_38 : decode cX6_shelf 38 = .ok (.bipush 6, 2) := by decide +kernel
theorem dX6_shelf_40 : decode cX6_shelf 40 = .ok (.if_icmp .ge 19, 3) := by decide +kernel
theorem dX6_shelf_43 : decode cX6_shelf 43 = .ok (.aload_n 0, 1) := by decide +kernel
theorem dX6_shelf_44 : decode cX6_shelf 44 = .ok (.getfield 31, 3) := by decide +kernel
theorem dX6_shelf_47 : decode cX6_shelf 47 = .ok (.iload_n 1, 1) := by decide +kernel
theorem dX6_shelf_48 : decode cX6_shelf 48 = .ok (.aaload, 1) := by decide +kernel
theorem dX6_shelf_49 : decode cX6_shelf 49 = .ok (.iload 4, 2) := by decide +kernel
theorem dX6_shelf_51 : decode cX6_shelf 51 = .ok (.iconst 0, 1) := by decide +kernel
theorem dX6_shelf_52 : decode cX6_shelf 52 = .ok (.iastore, 1) := by decide +kernel
theorem dX6_shelf_53 : decode cX6_shelf 53 = .ok (.iinc 4 1, 3) := by decide +kernel
theorem dX6_shelf_56 : decode cX6_shelf 56 = .ok (.goto (-20), 3) := by decide +kernel
theorem dX6_shelf_59 : decode cX6_shelf 59 = .ok (.iload_n 3, 1) := by decide +kernel
theorem dX6_shelf_60 : decode cX6_shelf 60 = .ok (.ireturn, 1) := by decide +kernel
theorem dX6_lay_0 : decode cX6_lay 0 = .ok (.iload_n 1, 1) := by decide +kernel
theorem dX6_lay_1 : decode cX6_lay 1 = .ok (.invokestatic 276, 3) := by decide +kernel
theorem dX6_lay_4 : decode cX6_lay 4 = .ok (.ifCond .eq 23, 3) := by decide +kernel
theorem dX6_lay_7 : decode cX6_lay 7 = .ok (.iload_n 2, 1) := by decide +kernel
theorem dX6_lay_8 : decode cX6_lay 8 = .ok (.i2l, 1) := by decide +kernel
theorem dX6_lay_9 : decode cX6_lay 9 = .ok (.lconst 0, 1) := by decide +kernel
theorem dX6_lay_10 : decode cX6_lay 10 = .ok (.ldc2_w 73, 3) := by decide +kernel
theorem dX6_lay_13 : decode cX6_lay 13 = .ok (.invokestatic 69, 3) := by decide +kernel
theorem dX6_lay_16 : decode cX6_lay 16 = .ok (.ifCond .eq 11, 3) := by decide +kernel
theorem dX6_lay_19 : decode cX6_lay 19 = .ok (.aload_n 0, 1) := by decide +kernel
theorem dX6_lay_20 : decode cX6_lay 20 = .ok (.iload_n 3, 1) := by decide +kernel
theorem dX6_lay_21 : decode cX6_lay 21 = .ok (.invokevirtual 105, 3) := by decide +kernel
theorem dX6_lay_24 : decode cX6_lay 24 = .ok (.ifCond .ne 9, 3) := by decide +kernel
theorem dX6_lay_27 : decode cX6_lay 27 = .ok (.aload_n 0, 1) := by decide +kernel
theorem dX6_lay_28 : decode cX6_lay 28 = .ok (.iconst 0, 1) := by decide +kernel
theorem dX6_lay_29 : decode cX6_lay 29 = .ok (.invokevirtual 101, 3) := by decide +kernel
theorem dX6_lay_32 : decode cX6_lay 32 = .ok (.ireturn, 1) := by decide +kernel
theorem dX6_lay_33 : decode cX6_lay 33 = .ok (.aload_n 0, 1) := by decide +kernel
theorem dX6_lay_34 : decode cX6_lay 34 = .ok (.iload_n 3, 1) := by decide +kernel
theorem dX6_lay_35 : decode cX6_lay 35 = .ok (.iconst 0, 1) := by decide +kernel
theorem dX6_lay_36 : decode cX6_lay 36 = .ok (.invokevirtual 110, 3) := by decide +kernel
theorem dX6_lay_39 : decode cX6_lay 39 = .ok (.aload_n 0, 1) := by decide +kernel
theorem dX6_lay_40 : decode cX6_lay 40 = .ok (.getfield 26, 3) := by decide +kernel
theorem dX6_lay_43 : decode cX6_lay 43 = .ok (.iload_n 1, 1) := by decide +kernel
theorem dX6_lay_44 : decode cX6_lay 44 = .ok (.iaload, 1) := by decide +kernel
theorem dX6_lay_45 : decode cX6_lay 45 = .ok (.invokestatic 114, 3) := by decide +kernel
theorem dX6_lay_48 : decode cX6_lay 48 = .ok (.ifCond .ne 9, 3) := by decide +kernel
theorem dX6_lay_51 : decode cX6_lay 51 = .ok (.aload_n 0, 1) := by decide +kernel
theorem dX6_lay_52 : decode cX6_lay 52 = .ok (.iconst 2, 1) := by decide +kernel
theorem dX6_lay_53 : decode cX6_lay 53 = .ok (.invokevirtual 101, 3) := by decide +kernel
theorem dX6_lay_56 : decode cX6_lay 56 = .ok (.ireturn, 1) := by decide +kernel
theorem dX6_lay_57 : decode cX6_lay 57 = .ok (.aload_n 0, 1) := by decide +kernel
theorem dX6_lay_58 : decode cX6_lay 58 = .ok (.getfield 31, 3) := by decide +kernel
theorem dX6_lay_61 : decode cX6_lay 61 = .ok (.iload_n 1, 1) := by decide +kernel
theorem dX6_lay_62 : decode cX6_lay 62 = .ok (.aaload, 1) := by decide +kernel
theorem dX6_lay_63 : decode cX6_lay 63 = .ok (.iload_n 2, 1) := by decide +kernel
theorem dX6_lay_64 : decode cX6_lay 64 = .ok (.iaload, 1) := by decide +kernel
theorem dX6_lay_65 : decode cX6_lay 65 = .ok (.iconst 1, 1) := by decide +kernel
theorem dX6_lay_66 : decode cX6_lay 66 = .ok (.isub, 1) := by decide +kernel
theorem dX6_lay_67 : decode cX6_lay 67 = .ok (.istore 4, 2) := by decide +kernel
theorem dX6_lay_69 : decode cX6_lay 69 = .ok (.aload_n 0, 1) := by decide +kernel
theorem dX6_lay_70 : decode cX6_lay 70 = .ok (.getfield 31, 3) := by decide +kernel
theorem dX6_lay_73 : decode cX6_lay 73 = .ok (.iload_n 1, 1) := by decide +kernel
theorem dX6_lay_74 : decode cX6_lay 74 = .ok (.aaload, 1) := by decide +kernel
theorem dX6_lay_75 : decode cX6_lay 75 = .ok (.iload_n 2, 1) := by decide +kernel
theorem dX6_lay_76 : decode cX6_lay 76 = .ok (.iload_n 3, 1) := by decide +kernel
theorem dX6_lay_77 : decode cX6_lay 77 = .ok (.iconst 1, 1) := by decide +kernel
theorem dX6_lay_78 : decode cX6_lay 78 = .ok (.iadd, 1) := by decide +kernel
theorem dX6_lay_79 : decode cX6_lay 79 = .ok (.iastore, 1) := by decide +kernel
theorem dX6_lay_80 : decode cX6_lay 80 = .ok (.aload_n 0, 1) := by decide +kernel
theorem dX6_lay_81 : decode cX6_lay 81 = .ok (.getfield 34, 3) := by decide +kernel
theorem dX6_lay_84 : decode cX6_lay 84 = .ok (.iload_n 1, 1) := by decide +kernel
theorem dX6_lay_85 : decode cX6_lay 85 = .ok (.aaload, 1) := by decide +kernel
theorem dX6_lay_86 : decode cX6_lay 86 = .ok (.iload_n 2, 1) := by decide +kernel
theorem dX6_lay_87 : decode cX6_lay 87 = .ok (.aload_n 0, 1) := by decide +kernel
theorem dX6_lay_88 : decode cX6_lay 88 = .ok (.iload_n 3, 1) := by decide +kernel
theorem dX6_lay_89 : decode cX6_lay 89 = .ok (.iconst 0, 1) := by decide +kernel
theorem dX6_lay_90 : decode cX6_lay 90 = .ok (.invokevirtual 110, 3) := by decide +kernel
theorem dX6_lay_93 : decode cX6_lay 93 = .ok (.iastore, 1) := by decide +kernel
theorem dX6_lay_94 : decode cX6_lay 94 = .ok (.iload 4, 2) := by decide +kernel
theorem dX6_lay_96 : decode cX6_lay 96 = .ok (.ireturn, 1) := by decide +kernel
theorem dX6_stands_0 : decode cX6_stands 0 = .ok (.iload_n 1, 1) := by decide +kernel
theorem dX6_stands_1 : decode cX6_stands 1 = .ok (.invokestatic 276, 3) := by decide +kernel
theorem dX6_stands_4 : decode cX6_stands 4 = .ok (.ifCond .eq 25, 3) := by decide +kernel
theorem dX6_stands_7 : decode cX6_stands 7 = .ok (.iload_n 2, 1) := by decide +kernel
theorem dX6_stands_8 : decode cX6_stands 8 = .ok (.i2l, 1) := by decide +kernel
theorem dX6_stands_9 : decode cX6_stands 9 = .ok (.lconst 0, 1) := by decide +kernel
theorem dX6_stands_10 : decode cX6_stands 10 = .ok (.ldc2_w 73, 3) := by decide +kernel
theorem dX6_stands_13 : decode cX6_stands 13 = .ok (.invokestatic 69, 3) := by decide +kernel
theorem dX6_stands_16 : decode cX6_stands 16 = .ok (.ifCond .eq 13, 3) := by decide +kernel
theorem dX6_stands_19 : decode cX6_stands 19 = .ok (.iload_n 3, 1) := by decide +kernel
theorem dX6_stands_20 : decode cX6_stands 20 = .ok (.i2l, 1) := by decide +kernel
theorem dX6_stands_21 : decode cX6_stands 21 = .ok (.lconst 0, 1) := by decide +kernel
theorem dX6_stands_22 : decode cX6_stands 22 = .ok (.lconst 1, 1) := by decide +kernel
theorem dX6_stands_23 : decode cX6_stands 23 = .ok (.invokestatic 69, 3) := by decide +kernel
theorem dX6_stands_26 : decode cX6_stands 26 = .ok (.ifCond .ne 9, 3) := by decide +kernel
theorem dX6_stands_29 : decode cX6_stands 29 = .ok (.aload_n 0, 1) := by decide +kernel
theorem dX6_stands_30 : decode cX6_stands 30 = .ok (.iconst 0, 1) := by decide +kernel
theorem dX6_stands_31 : decode cX6_stands 31 = .ok (.invokevirtual 101, 3) := by decide +kernel
theorem dX6_stands_34 : decode cX6_stands 34 = .ok (.ireturn, 1) := by decide +kernel
theorem dX6_stands_35 : decode cX6_stands 35 = .ok (.aload_n 0, 1) := by decide +kernel
theorem dX6_stands_36 : decode cX6_stands 36 = .ok (.getfield 31, 3) := by decide +kernel
theorem dX6_stands_39 : decode cX6_stands 39 = .ok (.iload_n 1, 1) := by decide +kernel
theorem dX6_stands_40 : decode cX6_stands 40 = .ok (.aaload, 1) := by decide +kernel
theorem dX6_stands_41 : decode cX6_stands 41 = .ok (.iload_n 2, 1) := by decide +kernel
theorem dX6_stands_42 : decode cX6_stands 42 = .ok (.iaload, 1) := by decide +kernel
theorem dX6_stands_43 : decode cX6_stands 43 = .ok (.ifCond .ne 9, 3) := by decide +kernel
theorem dX6_stands_46 : decode cX6_stands 46 = .ok (.aload_n 0, 1) := by decide +kernel
theorem dX6_stands_47 : decode cX6_stands 47 = .ok (.iconst 5, 1) := by decide +kernel
theorem dX6_stands_48 : decode cX6_stands 48 = .ok (.invokevirtual 101, 3) := by decide +kernel
theorem dX6_stands_51 : decode cX6_stands 51 = .ok (.ireturn, 1) := by decide +kernel
theorem dX6_stands_52 : decode cX6_stands 52 = .ok (.iload_n 3, 1) := by decide +kernel
theorem dX6_stands_53 : decode cX6_stands 53 = .ok (.ifCond .ne 16, 3) := by decide +kernel
theorem dX6_stands_56 : decode cX6_stands 56 = .ok (.aload_n 0, 1) := by decide +kernel
theorem dX6_stands_57 : decode cX6_stands 57 = .ok (.getfield 31, 3) := by decide +kernel
theorem dX6_stands_60 : decode cX6_stands 60 = .ok (.iload_n 1, 1) := by decide +kernel
theorem dX6_stands_61 : decode cX6_stands 61 = .ok (.aaload, 1) := by decide +kernel
theorem dX6_stands_62 : decode cX6_stands 62 = .ok (.iload_n 2, 1) := by decide +kernel
theorem dX6_stands_63 : decode cX6_stands 63 = .ok (.iaload, 1) := by decide +kernel
theorem dX6_stands_64 : decode cX6_stands 64 = .ok (.iconst 1, 1) := by decide +kernel
theorem dX6_stands_65 : decode cX6_stands 65 = .ok (.isub, 1) := by decide +kernel
theorem dX6_stands_66 : decode cX6_stands 66 = .ok (.goto 11, 3) := by decide +kernel
theorem dX6_stands_69 : decode cX6_stands 69 = .ok (.aload_n 0, 1) := by decide +kernel
theorem dX6_stands_70 : decode cX6_stands 70 = .ok (.getfield 34, 3) := by decide +kernel
theorem dX6_stands_73 : decode cX6_stands 73 = .ok (.iload_n 1, 1) := by decide +kernel
theorem dX6_stands_74 : decode cX6_stands 74 = .ok (.aaload, 1) := by decide +kernel
theorem dX6_stands_75 : decode cX6_stands 75 = .ok (.iload_n 2, 1) := by decide +kernel
theorem dX6_stands_76 : decode cX6_stands 76 = .ok (.iaload, 1) := by decide +kernel
theorem dX6_stands_77 : decode cX6_stands 77 = .ok (.ireturn, 1) := by decide +kernel
theorem dX6_moves_0 : decode cX6_moves 0 = .ok (.iload_n 1, 1) := by decide +kernel
theorem dX6_moves_1 : decode cX6_moves 1 = .ok (.invokestatic 276, 3) := by decide +kernel
theorem dX6_moves_4 : decode cX6_moves 4 = .ok (.ifCond .eq 10, 3) := by decide +kernel
theorem dX6_moves_7 : decode cX6_moves 7 = .ok (.iload_n 2, 1) := by decide +kernel
theorem dX6_moves_8 : decode cX6_moves 8 = .ok (.invokestatic 276, 3) := by decide +kernel
theorem dX6_moves_11 : decode cX6_moves 11 = .ok (.ifCond .ne 9, 3) := by decide +kernel
theorem dX6_moves_14 : decode cX6_moves 14 = .ok (.aload_n 0, 1) := by decide +kernel
theorem dX6_moves_15 : decode cX6_moves 15 = .ok (.iconst 0, 1) := by decide +kernel
theorem dX6_moves_16 : decode cX6_moves 16 = .ok (.invokevirtual 101, 3) := by decide +kernel
theorem dX6_moves_19 : decode cX6_moves 19 = .ok (.ireturn, 1) := by decide +kernel
theorem dX6_moves_20 : decode cX6_moves 20 = .ok (.iconst 0, 1) := by decide +kernel
theorem dX6_moves_21 : decode cX6_moves 21 = .ok (.istore_n 3, 1) := by decide +kernel
theorem dX6_moves_22 : decode cX6_moves 22 = .ok (.iload_n 3, 1) := by decide +kernel
theorem dX6_moves_23 : decode cX6_moves 23 = .ok (.bipush 6, 2) := by decide +kernel
theorem dX6_moves_25 : decode cX6_moves 25 = .ok (.if_icmp .ge 74, 3) := by decide +kernel
theorem dX6_moves_28 : decode cX6_moves 28 = .ok (.aload_n 0, 1) := by decide +kernel
theorem dX6_moves_29 : decode cX6_moves 29 = .ok (.getfield 31, 3) := by decide +kernel
theorem dX6_moves_32 : decode cX6_moves 32 = .ok (.iload_n 1, 1) := by decide +kernel
theorem dX6_moves_33 : decode cX6_moves 33 = .ok (.aaload, 1) := by decide +kernel
theorem dX6_moves_34 : decode cX6_moves 34 = .ok (.iload_n 3, 1) := by decide +kernel
theorem dX6_moves_35 : decode cX6_moves 35 = .ok (.iaload, 1) := by decide +kernel
theorem dX6_moves_36 : decode cX6_moves 36 = .ok (.ifCond .le 25, 3) := by decide +kernel
theorem dX6_moves_39 : decode cX6_moves 39 = .ok (.aload_n 0, 1) := by decide +kernel
theorem dX6_moves_40 : decode cX6_moves 40 = .ok (.getfield 34, 3) := by decide +kernel
theorem dX6_moves_43 : decode cX6_moves 43 = .ok (.iload_n 1, 1) := by decide +kernel
theorem dX6_moves_44 : decode cX6_moves 44 = .ok (.aaload, 1) := by decide +kernel
theorem dX6_moves_45 : decode cX6_moves 45 = .ok (.iload_n 3, 1) := by decide +kernel
theorem dX6_moves_46 : decode cX6_moves 46 = .ok (.iaload, 1) := by decide +kernel
theorem dX6_moves_47 : decode cX6_moves 47 = .ok (.aload_n 0, 1) := by decide +kernel
theorem dX6_moves_48 : decode cX6_moves 48 = .ok (.getfield 26, 3) := by decide +kernel
theorem dX6_moves_51 : decode cX6_moves 51 = .ok (.iload_n 2, 1) := by decide +kernel
theorem dX6_moves_52 : decode cX6_moves 52 = .ok (.iaload, 1) := by decide +kernel
theorem dX6_moves_53 : decode cX6_moves 53 = .ok (.invokestatic 114, 3) := by decide +kernel
theorem dX6_moves_56 : decode cX6_moves 56 = .ok (.ifCond .ne 5, 3) := by decide +kernel
theorem dX6_moves_59 : decode cX6_moves 59 = .ok (.iload_n 3, 1) := by decide +kernel
theorem dX6_moves_60 : decode cX6_moves 60 = .ok (.ireturn, 1) := by decide +kernel
theorem dX6_moves_61 : decode cX6_moves 61 = .ok (.aload_n 0, 1) := by decide +kernel
theorem dX6_moves_62 : decode cX6_moves 62 = .ok (.getfield 31, 3) := by decide +kernel
theorem dX6_moves_65 : decode cX6_moves 65 = .ok (.iload_n 2, 1) := by decide +kernel
theorem dX6_moves_66 : decode cX6_moves 66 = .ok (.aaload, 1) := by decide +kernel
theorem dX6_moves_67 : decode cX6_moves 67 = .ok (.iload_n 3, 1) := by decide +kernel
theorem dX6_moves_68 : decode cX6_moves 68 = .ok (.aload_n 0, 1) := by decide +kernel
theorem dX6_moves_69 : decode cX6_moves 69 = .ok (.getfield 31, 3) := by decide +kernel
theorem dX6_moves_72 : decode cX6_moves 72 = .ok (.iload_n 1, 1) := by decide +kernel
theorem dX6_moves_73 : decode cX6_moves 73 = .ok (.aaload, 1) := by decide +kernel
theorem dX6_moves_74 : decode cX6_moves 74 = .ok (.iload_n 3, 1) := by decide +kernel
theorem dX6_moves_75 : decode cX6_moves 75 = .ok (.iaload, 1) := by decide +kernel
theorem dX6_moves_76 : decode cX6_moves 76 = .ok (.iastore, 1) := by decide +kernel
theorem dX6_moves_77 : decode cX6_moves 77 = .ok (.aload_n 0, 1) := by decide +kernel
theorem dX6_moves_78 : decode cX6_moves 78 = .ok (.getfield 34, 3) := by decide +kernel
theorem dX6_moves_81 : decode cX6_moves 81 = .ok (.iload_n 2, 1) := by decide +kernel
theorem dX6_moves_82 : decode cX6_moves 82 = .ok (.aaload, 1) := by decide +kernel
theorem dX6_moves_83 : decode cX6_moves 83 = .ok (.iload_n 3, 1) := by decide +kernel
theorem dX6_moves_84 : decode cX6_moves 84 = .ok (.aload_n 0, 1) := by decide +kernel
theorem dX6_moves_85 : decode cX6_moves 85 = .ok (.getfield 34, 3) := by decide +kernel
theorem dX6_moves_88 : decode cX6_moves 88 = .ok (.iload_n 1, 1) := by decide +kernel
theorem dX6_moves_89 : decode cX6_moves 89 = .ok (.aaload, 1) := by decide +kernel
theorem dX6_moves_90 : decode cX6_moves 90 = .ok (.iload_n 3, 1) := by decide +kernel
theorem dX6_moves_91 : decode cX6_moves 91 = .ok (.iaload, 1) := by decide +kernel
theorem dX6_moves_92 : decode cX6_moves 92 = .ok (.iastore, 1) := by decide +kernel
theorem dX6_moves_93 : decode cX6_moves 93 = .ok (.iinc 3 1, 3) := by decide +kernel
theorem dX6_moves_96 : decode cX6_moves 96 = .ok (.goto (-74), 3) := by decide +kernel
theorem dX6_moves_99 : decode cX6_moves 99 = .ok (.bipush 6, 2) := by decide +kernel
theorem dX6_moves_101 : decode cX6_moves 101 = .ok (.ireturn, 1) := by decide +kernel
theorem dX6_isSheet_0 : decode cX6_isSheet 0 = .ok (.iload_n 0, 1) := by decide +kernel
theorem dX6_isSheet_1 : decode cX6_isSheet 1 = .ok (.i2l, 1) := by decide +kernel
theorem dX6_isSheet_2 : decode cX6_isSheet 2 = .ok (.lconst 0, 1) := by decide +kernel
theorem dX6_isSheet_3 : decode cX6_isSheet 3 = .ok (.ldc2_w 83, 3) := by decide +kernel
theorem dX6_isSheet_6 : decode cX6_isSheet 6 = .ok (.invokestatic 69, 3) := by decide +kernel
theorem dX6_isSheet_9 : decode cX6_isSheet 9 = .ok (.ireturn, 1) := by decide +kernel
theorem dX6_sheet_0 : decode cX6_sheet 0 = .ok (.iload_n 1, 1) := by decide +kernel
theorem dX6_sheet_1 : decode cX6_sheet 1 = .ok (.invokestatic 282, 3) := by decide +kernel
theorem dX6_sheet_4 : decode cX6_sheet 4 = .ok (.ifCond .eq 17, 3) := by decide +kernel
theorem dX6_sheet_7 : decode cX6_sheet 7 = .ok (.iload_n 2, 1) := by decide +kernel
theorem dX6_sheet_8 : decode cX6_sheet 8 = .ok (.i2l, 1) := by decide +kernel
theorem dX6_sheet_9 : decode cX6_sheet 9 = .ok (.ldc2_w 93, 3) := by decide +kernel
theorem dX6_sheet_12 : decode cX6_sheet 12 = .ok (.ldc2_w 200, 3) := by decide +kernel
theorem dX6_sheet_15 : decode cX6_sheet 15 = .ok (.invokestatic 69, 3) := by decide +kernel
theorem dX6_sheet_18 : decode cX6_sheet 18 = .ok (.ifCond .ne 9, 3) := by decide +kernel
theorem dX6_sheet_21 : decode cX6_sheet 21 = .ok (.aload_n 0, 1) := by decide +kernel
theorem dX6_sheet_22 : decode cX6_sheet 22 = .ok (.iconst 0, 1) := by decide +kernel
theorem dX6_sheet_23 : decode cX6_sheet 23 = .ok (.invokevirtual 101, 3) := by decide +kernel
theorem dX6_sheet_26 : decode cX6_sheet 26 = .ok (.ireturn, 1) := by decide +kernel
theorem dX6_sheet_27 : decode cX6_sheet 27 = .ok (.iload_n 2, 1) := by decide +kernel
theorem dX6_sheet_28 : decode cX6_sheet 28 = .ok (.ifCond .lt 14, 3) := by decide +kernel
theorem dX6_sheet_31 : decode cX6_sheet 31 = .ok (.iload_n 3, 1) := by decide +kernel
theorem dX6_sheet_32 : decode cX6_sheet 32 = .ok (.ifCond .ge 10, 3) := by decide +kernel
theorem dX6_sheet_35 : decode cX6_sheet 35 = .ok (.aload_n 0, 1) := by decide +kernel
theorem dX6_sheet_36 : decode cX6_sheet 36 = .ok (.bipush 6, 2) := by decide +kernel
theorem dX6_sheet_38 : decode cX6_sheet 38 = .ok (.invokevirtual 101, 3) := by decide +kernel
theorem dX6_sheet_41 : decode cX6_sheet 41 = .ok (.ireturn, 1) := by decide +kernel
theorem dX6_sheet_42 : decode cX6_sheet 42 = .ok (.iload_n 2, 1) := by decide +kernel
theorem dX6_sheet_43 : decode cX6_sheet 43 = .ok (.ifCond .lt 15, 3) := by decide +kernel
theorem dX6_sheet_46 : decode cX6_sheet 46 = .ok (.iload_n 3, 1) := by decide +kernel
theorem dX6_sheet_47 : decode cX6_sheet 47 = .ok (.bipush 40, 2) := by decide +kernel
theorem dX6_sheet_49 : decode cX6_sheet 49 = .ok (.if_icmp .le 9, 3) := by decide +kernel
theorem dX6_sheet_52 : decode cX6_sheet 52 = .ok (.aload_n 0, 1) := by decide +kernel
theorem dX6_sheet_53 : decode cX6_sheet 53 = .ok (.iconst 0, 1) := by decide +kernel
theorem dX6_sheet_54 : decode cX6_sheet 54 = .ok (.invokevirtual 101, 3) := by decide +kernel
theorem dX6_sheet_57 : decode cX6_sheet 57 = .ok (.ireturn, 1) := by decide +kernel
theorem dX6_sheet_58 : decode cX6_sheet 58 = .ok (.aload_n 0, 1) := by decide +kernel
theorem dX6_sheet_59 : decode cX6_sheet 59 = .ok (.getfield 37, 3) := by decide +kernel
theorem dX6_sheet_62 : decode cX6_sheet 62 = .ok (.iload_n 1, 1) := by decide +kernel
theorem dX6_sheet_63 : decode cX6_sheet 63 = .ok (.iload_n 2, 1) := by decide +kernel
theorem dX6_sheet_64 : decode cX6_sheet 64 = .ok (.iastore, 1) := by decide +kernel
theorem dX6_sheet_65 : decode cX6_sheet 65 = .ok (.aload_n 0, 1) := by decide +kernel
theorem dX6_sheet_66 : decode cX6_sheet 66 = .ok (.getfield 40, 3) := by decide +kernel
theorem dX6_sheet_69 : decode cX6_sheet 69 = .ok (.iload_n 1, 1) := by decide +kernel
theorem dX6_sheet_70 : decode cX6_sheet 70 = .ok (.iload_n 2, 1) := by decide +kernel
theorem dX6_sheet_71 : decode cX6_sheet 71 = .ok (.ifCond .ge 7, 3) := by decide +kernel
theorem dX6_sheet_74 : decode cX6_sheet 74 = .ok (.iconst 0, 1) := by decide +kernel
theorem dX6_sheet_75 : decode cX6_sheet 75 = .ok (.goto 4, 3) := by decide +kernel
theorem dX6_sheet_78 : decode cX6_sheet 78 = .ok (.iload_n 3, 1) := by decide +kernel
theorem dX6_sheet_79 : decode cX6_sheet 79 = .ok (.iastore, 1) := by decide +kernel
theorem dX6_sheet_80 : decode cX6_sheet 80 = .ok (.iconst 0, 1) := by decide +kernel
theorem dX6_sheet_81 : decode cX6_sheet 81 = .ok (.istore 4, 2) := by decide +kernel
theorem dX6_sheet_83 : decode cX6_sheet 83 = .ok (.iload 4, 2) := by decide +kernel
theorem dX6_sheet_85 : decode cX6_sheet 85 = .ok (.bipush 40, 2) := by decide +kernel
theorem dX6_sheet_87 : decode cX6_sheet 87 = .ok (.if_icmp .ge 39, 3) := by decide +kernel
theorem dX6_sheet_90 : decode cX6_sheet 90 = .ok (.aload_n 0, 1) := by decide +kernel
theorem dX6_sheet_91 : decode cX6_sheet 91 = .ok (.getfield 43, 3) := by decide +kernel
theorem dX6_sheet_94 : decode cX6_sheet 94 = .ok (.iload_n 1, 1) := by decide +kernel
theorem dX6_sheet_95 : decode cX6_sheet 95 = .ok (.aaload, 1) := by decide +kernel
theorem dX6_sheet_96 : decode cX6_sheet 96 = .ok (.iload 4, 2) := by decide +kernel
theorem dX6_sheet_98 : decode cX6_sheet 98 = .ok (.iconst 0, 1) := by decide +kernel
theorem dX6_sheet_99 : decode cX6_sheet 99 = .ok (.iastore, 1) := by decide +kernel
theorem dX6_sheet_100 : decode cX6_sheet 100 = .ok (.aload_n 0, 1) := by decide +kernel
theorem dX6_sheet_101 : decode cX6_sheet 101 = .ok (.getfield 48, 3) := by decide +kernel
theorem dX6_sheet_104 : decode cX6_sheet 104 = .ok (.iload_n 1, 1) := by decide +kernel
theorem dX6_sheet_105 : decode cX6_sheet 105 = .ok (.aaload, 1) := by decide +kernel
theorem dX6_sheet_106 : decode cX6_sheet 106 = .ok (.iload 4, 2) := by decide +kernel
theorem dX6_sheet_108 : decode cX6_sheet 108 = .ok (.fconst 0, 1) := by decide +kernel
theorem dX6_sheet_109 : decode cX6_sheet 109 = .ok (.fastore, 1) := by decide +kernel
theorem dX6_sheet_110 : decode cX6_sheet 110 = .ok (.aload_n 0, 1) := by decide +kernel
theorem dX6_sheet_111 : decode cX6_sheet 111 = .ok (.getfield 53, 3) := by decide +kernel
theorem dX6_sheet_114 : decode cX6_sheet 114 = .ok (.iload_n 1, 1) := by decide +kernel
theorem dX6_sheet_115 : decode cX6_sheet 115 = .ok (.aaload, 1) := by decide +kernel
theorem dX6_sheet_116 : decode cX6_sheet 116 = .ok (.iload 4, 2) := by decide +kernel
theorem dX6_sheet_118 : decode cX6_sheet 118 = .ok (.dconst 0, 1) := by decide +kernel
theorem dX6_sheet_119 : decode cX6_sheet 119 = .ok (.dastore, 1) := by decide +kernel
theorem dX6_sheet_120 : decode cX6_sheet 120 = .ok (.iinc 4 1, 3) := by decide +kernel
theorem dX6_sheet_123 : decode cX6_sheet 123 = .ok (.goto (-40), 3) := by decide +kernel
theorem dX6_sheet_126 : decode cX6_sheet 126 = .ok (.aload_n 0, 1) := by decide +kernel
theorem dX6_sheet_127 : decode cX6_sheet 127 = .ok (.getfield 40, 3) := by decide +kernel
theorem dX6_sheet_130 : decode cX6_sheet 130 = .ok (.iload_n 1, 1) := by decide +kernel
theorem dX6_sheet_131 : decode cX6_sheet 131 = .ok (.iaload, 1) := by decide +kernel
theorem dX6_sheet_132 : decode cX6_sheet 132 = .ok (.ireturn, 1) := by decide +kernel
theorem dX6_whyNoPlace_0 : decode cX6_whyNoPlace 0 = .ok (.iload_n 1, 1) := by decide +kernel
theorem dX6_whyNoPlace_1 : decode cX6_whyNoPlace 1 = .ok (.invokestatic 282, 3) := by decide +kernel
theorem dX6_whyNoPlace_4 : decode cX6_whyNoPlace 4 = .ok (.ifCond .ne 7, 3) := by decide +kernel
theorem dX6_whyNoPlace_7 : decode cX6_whyNoPlace 7 = .ok (.iconst 0, 1) := by decide +kernel
theorem dX6_whyNoPlace_8 : decode cX6_whyNoPlace 8 = .ok (.goto 39, 3) := by decide +kernel
theorem dX6_whyNoPlace_11 : decode cX6_whyNoPlace 11 = .ok (.aload_n 0, 1) := by decide +kernel
theorem dX6_whyNoPlace_12 : decode cX6_whyNoPlace 12 = .ok (.getfield 37, 3) := by decide +kernel
theorem dX6_whyNoPlace_15 : decode cX6_whyNoPlace 15 = .ok (.iload_n 1, 1) := by decide +kernel
theorem dX6_whyNoPlace_16 : decode cX6_whyNoPlace 16 = .ok (.iaload, 1) := by decide +kernel
theorem dX6_whyNoPlace_17 : decode cX6_whyNoPlace 17 = .ok (.ifCond .ge 7, 3) := by decide +kernel
theorem dX6_whyNoPlace_20 : decode cX6_whyNoPlace 20 = .ok (.iconst 5, 1) := by decide +kernel
theorem dX6_whyNoPlace_21 : decode cX6_whyNoPlace 21 = .ok (.goto 26, 3) := by decide +kernel
theorem dX6_whyNoPlace_24 : decode cX6_whyNoPlace 24 = .ok (.iload_n 2, 1) := by decide +kernel
theorem dX6_whyNoPlace_25 : decode cX6_whyNoPlace 25 = .ok (.i2l, 1) := by decide +kernel
theorem dX6_whyNoPlace_26 : decode cX6_whyNoPlace 26 = .ok (.lconst 0, 1) := by decide +kernel
theorem dX6_whyNoPlace_27 : decode cX6_whyNoPlace 27 = .ok (.aload_n 0, 1) := by decide +kernel
theorem dX6_whyNoPlace_28 : decode cX6_whyNoPlace 28 = .ok (.getfield 40, 3) := by decide +kernel
theorem dX6_whyNoPlace_31 : decode cX6_whyNoPlace 31 = .ok (.iload_n 1, 1) := by decide +kernel
theorem dX6_whyNoPlace_32 : decode cX6_whyNoPlace 32 = .ok (.iaload, 1) := by decide +kernel
theorem dX6_whyNoPlace_33 : decode cX6_whyNoPlace 33 = .ok (.iconst 1, 1) := by decide +kernel
theorem dX6_whyNoPlace_34 : decode cX6_whyNoPlace 34 = .ok (.isub, 1) := by decide +kernel
theorem dX6_whyNoPlace_35 : decode cX6_whyNoPlace 35 = .ok (.i2l, 1) := by decide +kernel
theorem dX6_whyNoPlace_36 : decode cX6_whyNoPlace 36 = .ok (.invokestatic 69, 3) := by decide +kernel
theorem dX6_whyNoPlace_39 : decode cX6_whyNoPlace 39 = .ok (.ifCond .ne 7, 3) := by decide +kernel
theorem dX6_whyNoPlace_42 : decode cX6_whyNoPlace 42 = .ok (.iconst 0, 1) := by decide +kernel
theorem dX6_whyNoPlace_43 : decode cX6_whyNoPlace 43 = .ok (.goto 4, 3) := by decide +kernel
theorem dX6_whyNoPlace_46 : decode cX6_whyNoPlace 46 = .ok (.iconst (-1), 1) := by decide +kernel
theorem dX6_whyNoPlace_47 : decode cX6_whyNoPlace 47 = .ok (.ireturn, 1) := by decide +kernel
theorem dX6_write_0 : decode cX6_write 0 = .ok (.aload_n 0, 1) := by decide +kernel
theorem dX6_write_1 : decode cX6_write 1 = .ok (.iload_n 1, 1) := by decide +kernel
theorem dX6_write_2 : decode cX6_write 2 = .ok (.iload_n 2, 1) := by decide +kernel
theorem dX6_write_3 : decode cX6_write 3 = .ok (.invokevirtual 285, 3) := by decide +kernel
theorem dX6_write_6 : decode cX6_write 6 = .ok (.istore 4, 2) := by decide +kernel
theorem dX6_write_8 : decode cX6_write 8 = .ok (.iload 4, 2) := by decide +kernel
theorem dX6_write_10 : decode cX6_write 10 = .ok (.ifCond .lt 10, 3) := by decide +kernel
theorem dX6_write_13 : decode cX6_write 13 = .ok (.aload_n 0, 1) := by decide +kernel
theorem dX6_write_14 : decode cX6_write 14 = .ok (.iload 4, 2) := by decide +kernel
theorem dX6_write_16 : decode cX6_write 16 = .ok (.invokevirtual 101, 3) := by decide +kernel
theorem dX6_write_19 : decode cX6_write 19 = .ok (.ireturn, 1) := by decide +kernel
theorem dX6_write_20 : decode cX6_write 20 = .ok (.aload_n 0, 1) := by decide +kernel
theorem dX6_write_21 : decode cX6_write 21 = .ok (.getfield 37, 3) := by decide +kernel
theorem dX6_write_24 : decode cX6_write 24 = .ok (.iload_n 1, 1) := by decide +kernel
theorem dX6_write_25 : decode cX6_write 25 = .ok (.iaload, 1) := by decide +kernel
theorem dX6_write_26 : decode cX6_write 26 = .ok (.ifCond .ne 15, 3) := by decide +kernel
theorem dX6_write_29 : decode cX6_write 29 = .ok (.aload_n 0, 1) := by decide +kernel
theorem dX6_write_30 : decode cX6_write 30 = .ok (.getfield 43, 3) := by decide +kernel
theorem dX6_write_33 : decode cX6_write 33 = .ok (.iload_n 1, 1) := by decide +kernel
theorem dX6_write_34 : decode cX6_write 34 = .ok (.aaload, 1) := by decide +kernel
theorem dX6_write_35 : decode cX6_write 35 = .ok (.iload_n 2, 1) := by decide +kernel
theorem dX6_write_36 : decode cX6_write 36 = .ok (.iload_n 3, 1) := by decide +kernel
theorem dX6_write_37 : decode cX6_write 37 = .ok (.iastore, 1) := by decide +kernel
theorem dX6_write_38 : decode cX6_write 38 = .ok (.goto 43, 3) := by decide +kernel
theorem dX6_write_41 : decode cX6_write 41 = .ok (.aload_n 0, 1) := by decide +kernel
theorem dX6_write_42 : decode cX6_write 42 = .ok (.getfield 37, 3) := by decide +kernel
theorem dX6_write_45 : decode cX6_write 45 = .ok (.iload_n 1, 1) := by decide +kernel
theorem dX6_write_46 : decode cX6_write 46 = .ok (.iaload, 1) := by decide +kernel
theorem dX6_write_47 : decode cX6_write 47 = .ok (.iconst 1, 1) := by decide +kernel
theorem dX6_write_48 : decode cX6_write 48 = .ok (.if_icmp .ne 19, 3) := by decide +kernel
theorem dX6_write_51 : decode cX6_write 51 = .ok (.aload_n 0, 1) := by decide +kernel
theorem dX6_write_52 : decode cX6_write 52 = .ok (.getfield 48, 3) := by decide +kernel
theorem dX6_write_55 : decode cX6_write 55 = .ok (.iload_n 1, 1) := by decide +kernel
theorem dX6_write_56 : decode cX6_write 56 = .ok (.aaload, 1) := by decide +kernel
theorem dX6_write_57 : decode cX6_write 57 = .ok (.iload_n 2, 1) := by decide +kernel
theorem dX6_write_58 : decode cX6_write 58 = .ok (.iload_n 3, 1) := by decide +kernel
theorem dX6_write_59 : decode cX6_write 59 = .ok (.i2f, 1) := by decide +kernel
theorem dX6_write_60 : decode cX6_write 60 = .ok (.ldc 129, 2) := by decide +kernel
theorem dX6_write_62 : decode cX6_write 62 = .ok (.fdiv, 1) := by decide +kernel
theorem dX6_write_63 : decode cX6_write 63 = .ok (.fastore, 1) := by decide +kernel
theorem dX6_write_64 : decode cX6_write 64 = .ok (.goto 17, 3) := by decide +kernel
theorem dX6_write_67 : decode cX6_write 67 = .ok (.aload_n 0, 1) := by decide +kernel
theorem dX6_write_68 : decode cX6_write 68 = .ok (.getfield 53, 3) := by decide +kernel
theorem dX6_write_71 : decode cX6_write 71 = .ok (.iload_n 1, 1) := by decide +kernel
theorem dX6_write_72 : decode cX6_write 72 = .ok (.aaload, 1) := by decide +kernel
theorem dX6_write_73 : decode cX6_write 73 = .ok (.iload_n 2, 1) := by decide +kernel
theorem dX6_write_74 : decode cX6_write 74 = .ok (.iload_n 3, 1) := by decide +kernel
theorem dX6_write_75 : decode cX6_write 75 = .ok (.i2d, 1) := by decide +kernel
theorem dX6_write_76 : decode cX6_write 76 = .ok (.ldc2_w 288, 3) := by decide +kernel
theorem dX6_write_79 : decode cX6_write 79 = .ok (.ddiv, 1) := by decide +kernel
theorem dX6_write_80 : decode cX6_write 80 = .ok (.dastore, 1) := by decide +kernel
theorem dX6_write_81 : decode cX6_write 81 = .ok (.iconst 1, 1) := by decide +kernel
theorem dX6_write_82 : decode cX6_write 82 = .ok (.ireturn, 1) := by decide +kernel
theorem dX6_item_0 : decode cX6_item 0 = .ok (.aload_n 0, 1) := by decide +kernel
theorem dX6_item_1 : decode cX6_item 1 = .ok (.iload_n 1, 1) := by decide +kernel
theorem dX6_item_2 : decode cX6_item 2 = .ok (.iload_n 2, 1) := by decide +kernel
theorem dX6_item_3 : decode cX6_item 3 = .ok (.invokevirtual 285, 3) := by decide +kernel
theorem dX6_item_6 : decode cX6_item 6 = .ok (.istore_n 3, 1) := by decide +kernel
theorem dX6_item_7 : decode cX6_item 7 = .ok (.iload_n 3, 1) := by decide +kernel
theorem dX6_item_8 : decode cX6_item 8 = .ok (.ifCond .lt 9, 3) := by decide +kernel
theorem dX6_item_11 : decode cX6_item 11 = .ok (.aload_n 0, 1) := by decide +kernel
theorem dX6_item_12 : decode cX6_item 12 = .ok (.iload_n 3, 1) := by decide +kernel
theorem dX6_item_13 : decode cX6_item 13 = .ok (.invokevirtual 179, 3) := by decide +kernel
theorem dX6_item_16 : decode cX6_item 16 = .ok (.lreturn, 1) := by decide +kernel
theorem dX6_item_17 : decode cX6_item 17 = .ok (.aload_n 0, 1) := by decide +kernel
theorem dX6_item_18 : decode cX6_item 18 = .ok (.getfield 37, 3) := by decide +kernel
theorem dX6_item_21 : decode cX6_item 21 = .ok (.iload_n 1, 1) := by decide +kernel
theorem dX6_item_22 : decode cX6_item 22 = .ok (.iaload, 1) := by decide +kernel
theorem dX6_item_23 : decode cX6_item 23 = .ok (.ifCond .ne 13, 3) := by decide +kernel
theorem dX6_item_26 : decode cX6_item 26 = .ok (.aload_n 0, 1) := by decide +kernel
theorem dX6_item_27 : decode cX6_item 27 = .ok (.getfield 43, 3) := by decide +kernel
theorem dX6_item_30 : decode cX6_item 30 = .ok (.iload_n 1, 1) := by decide +kernel
theorem dX6_item_31 : decode cX6_item 31 = .ok (.aaload, 1) := by decide +kernel
theorem dX6_item_32 : decode cX6_item 32 = .ok (.iload_n 2, 1) := by decide +kernel
theorem dX6_item_33 : decode cX6_item 33 = .ok (.iaload, 1) := by decide +kernel
theorem dX6_item_34 : decode cX6_item 34 = .ok (.i2l, 1) := by decide +kernel
theorem dX6_item_35 : decode cX6_item 35 = .ok (.lreturn, 1) := by decide +kernel
theorem dX6_item_36 : decode cX6_item 36 = .ok (.aload_n 0, 1) := by decide +kernel
theorem dX6_item_37 : decode cX6_item 37 = .ok (.getfield 37, 3) := by decide +kernel
theorem dX6_item_40 : decode cX6_item 40 = .ok (.iload_n 1, 1) := by decide +kernel
theorem dX6_item_41 : decode cX6_item 41 = .ok (.iaload, 1) := by decide +kernel
theorem dX6_item_42 : decode cX6_item 42 = .ok (.iconst 1, 1) := by decide +kernel
theorem dX6_item_43 : decode cX6_item 43 = .ok (.if_icmp .ne 18, 3) := by decide +kernel
theorem dX6_item_46 : decode cX6_item 46 = .ok (.aload_n 0, 1) := by decide +kernel
theorem dX6_item_47 : decode cX6_item 47 = .ok (.getfield 48, 3) := by decide +kernel
theorem dX6_item_50 : decode cX6_item 50 = .ok (.iload_n 1, 1) := by decide +kernel
theorem dX6_item_51 : decode cX6_item 51 = .ok (.aaload, 1) := by decide +kernel
theorem dX6_item_52 : decode cX6_item 52 = .ok (.iload_n 2, 1) := by decide +kernel
theorem dX6_item_53 : decode cX6_item 53 = .ok (.faload, 1) := by decide +kernel
theorem dX6_item_54 : decode cX6_item 54 = .ok (.invokestatic 164, 3) := by decide +kernel
theorem dX6_item_57 : decode cX6_item 57 = .ok (.i2l, 1) := by decide +kernel
theorem dX6_item_58 : decode cX6_item 58 = .ok (.goto 14, 3) := by decide +kernel
theorem dX6_item_61 : decode cX6_item 61 = .ok (.aload_n 0, 1) := by decide +kernel
theorem dX6_item_62 : decode cX6_item 62 = .ok (.getfield 53, 3) := by decide +kernel
theorem dX6_item_65 : decode cX6_item 65 = .ok (.iload_n 1, 1) := by decide +kernel
theorem dX6_item_66 : decode cX6_item 66 = .ok (.aaload, 1) := by decide +kernel
theorem dX6_item_67 : decode cX6_item 67 = .ok (.iload_n 2, 1) := by decide +kernel
theorem dX6_item_68 : decode cX6_item 68 = .ok (.daload, 1) := by decide +kernel
theorem dX6_item_69 : decode cX6_item 69 = .ok (.invokestatic 173, 3) := by decide +kernel
theorem dX6_item_72 : decode cX6_item 72 = .ok (.lreturn, 1) := by decide +kernel
theorem dX6_takesAll_0 : decode cX6_takesAll 0 = .ok (.iconst 0, 1) := by decide +kernel
theorem dX6_takesAll_1 : decode cX6_takesAll 1 = .ok (.istore_n 2, 1) := by decide +kernel
theorem dX6_takesAll_2 : decode cX6_takesAll 2 = .ok (.iload_n 2, 1) := by decide +kernel
theorem dX6_takesAll_3 : decode cX6_takesAll 3 = .ok (.bipush 40, 2) := by decide +kernel
theorem dX6_takesAll_5 : decode cX6_takesAll 5 = .ok (.if_icmp .ge 51, 3) := by decide +kernel
theorem dX6_takesAll_8 : decode cX6_takesAll 8 = .ok (.aload_n 0, 1) := by decide +kernel
theorem dX6_takesAll_9 : decode cX6_takesAll 9 = .ok (.getfield 56, 3) := by decide +kernel
theorem dX6_takesAll_12 : decode cX6_takesAll 12 = .ok (.iload_n 2, 1) := by decide +kernel
theorem dX6_takesAll_13 : decode cX6_takesAll 13 = .ok (.aload_n 0, 1) := by decide +kernel
theorem dX6_takesAll_14 : decode cX6_takesAll 14 = .ok (.getfield 43, 3) := by decide +kernel
theorem dX6_takesAll_17 : decode cX6_takesAll 17 = .ok (.iload_n 1, 1) := by decide +kernel
theorem dX6_takesAll_18 : decode cX6_takesAll 18 = .ok (.aaload, 1) := by decide +kernel
theorem dX6_takesAll_19 : decode cX6_takesAll 19 = .ok (.iload_n 2, 1) := by decide +kernel
theorem dX6_takesAll_20 : decode cX6_takesAll 20 = .ok (.iaload, 1) := by decide +kernel
theorem dX6_takesAll_21 : decode cX6_takesAll 21 = .ok (.iastore, 1) := by decide +kernel
theorem dX6_takesAll_22 : decode cX6_takesAll 22 = .ok (.aload_n 0, 1) := by decide +kernel
theorem dX6_takesAll_23 : decode cX6_takesAll 23 = .ok (.getfield 59, 3) := by decide +kernel
theorem dX6_takesAll_26 : decode cX6_takesAll 26 = .ok (.iload_n 2, 1) := by decide +kernel
theorem dX6_takesAll_27 : decode cX6_takesAll 27 = .ok (.aload_n 0, 1) := by decide +kernel
theorem dX6_takesAll_28 : decode cX6_takesAll 28 = .ok (.getfield 48, 3) := by decide +kernel
theorem dX6_takesAll_31 : decode cX6_takesAll 31 = .ok (.iload_n 1, 1) := by decide +kernel
theorem dX6_takesAll_32 : decode cX6_takesAll 32 = .ok (.aaload, 1) := by decide +kernel
theorem dX6_takesAll_33 : decode cX6_takesAll 33 = .ok (.iload_n 2, 1) := by decide +kernel
theorem dX6_takesAll_34 : decode cX6_takesAll 34 = .ok (.faload, 1) := by decide +kernel
theorem dX6_takesAll_35 : decode cX6_takesAll 35 = .ok (.fastore, 1) := by decide +kernel
theorem dX6_takesAll_36 : decode cX6_takesAll 36 = .ok (.aload_n 0, 1) := by decide +kernel
theorem dX6_takesAll_37 : decode cX6_takesAll 37 = .ok (.getfield 63, 3) := by decide +kernel
theorem dX6_takesAll_40 : decode cX6_takesAll 40 = .ok (.iload_n 2, 1) := by decide +kernel
theorem dX6_takesAll_41 : decode cX6_takesAll 41 = .ok (.aload_n 0, 1) := by decide +kernel
theorem dX6_takesAll_42 : decode cX6_takesAll 42 = .ok (.getfield 53, 3) := by decide +kernel
theorem dX6_takesAll_45 : decode cX6_takesAll 45 = .ok (.iload_n 1, 1) := by decide +kernel
theorem dX6_takesAll_46 : decode cX6_takesAll 46 = .ok (.aaload, 1) := by decide +kernel
theorem dX6_takesAll_47 : decode cX6_takesAll 47 = .ok (.iload_n 2, 1) := by decide +kernel
theorem dX6_takesAll_48 : decode cX6_takesAll 48 = .ok (.daload, 1) := by decide +kernel
theorem dX6_takesAll_49 : decode cX6_takesAll 49 = .ok (.dastore, 1) := by decide +kernel
theorem dX6_takesAll_50 : decode cX6_takesAll 50 = .ok (.iinc 2 1, 3) := by decide +kernel
theorem dX6_takesAll_53 : decode cX6_takesAll 53 = .ok (.goto (-51), 3) := by decide +kernel
theorem dX6_takesAll_56 : decode cX6_takesAll 56 = .ok (.return_, 1) := by decide +kernel
theorem dX6_copy_0 : decode cX6_copy 0 = .ok (.iload_n 1, 1) := by decide +kernel
theorem dX6_copy_1 : decode cX6_copy 1 = .ok (.invokestatic 282, 3) := by decide +kernel
theorem dX6_copy_4 : decode cX6_copy 4 = .ok (.ifCond .eq 10, 3) := by decide +kernel
theorem dX6_copy_7 : decode cX6_copy 7 = .ok (.iload_n 3, 1) := by decide +kernel
theorem dX6_copy_8 : decode cX6_copy 8 = .ok (.invokestatic 282, 3) := by decide +kernel
theorem dX6_copy_11 : decode cX6_copy 11 = .ok (.ifCond .ne 9, 3) := by decide +kernel
theorem dX6_copy_14 : decode cX6_copy 14 = .ok (.aload_n 0, 1) := by decide +kernel
theorem dX6_copy_15 : decode cX6_copy 15 = .ok (.iconst 0, 1) := by decide +kernel
theorem dX6_copy_16 : decode cX6_copy 16 = .ok (.invokevirtual 101, 3) := by decide +kernel
theorem dX6_copy_19 : decode cX6_copy 19 = .ok (.ireturn, 1) := by decide +kernel
theorem dX6_copy_20 : decode cX6_copy 20 = .ok (.aload_n 0, 1) := by decide +kernel
theorem dX6_copy_21 : decode cX6_copy 21 = .ok (.getfield 37, 3) := by decide +kernel
theorem dX6_copy_24 : decode cX6_copy 24 = .ok (.iload_n 1, 1) := by decide +kernel
theorem dX6_copy_25 : decode cX6_copy 25 = .ok (.iaload, 1) := by decide +kernel
theorem dX6_copy_26 : decode cX6_copy 26 = .ok (.ifCond .lt 12, 3) := by decide +kernel
theorem dX6_copy_29 : decode cX6_copy 29 = .ok (.aload_n 0, 1) := by decide +kernel
theorem dX6_copy_30 : decode cX6_copy 30 = .ok (.getfield 37, 3) := by decide +kernel
theorem dX6_copy_33 : decode cX6_copy 33 = .ok (.iload_n 3, 1) := by decide +kernel
theorem dX6_copy_34 : decode cX6_copy 34 = .ok (.iaload, 1) := by decide +kernel
theorem dX6_copy_35 : decode cX6_copy 35 = .ok (.ifCond .ge 9, 3) := by decide +kernel
theorem dX6_copy_38 : decode cX6_copy 38 = .ok (.aload_n 0, 1) := by decide +kernel
theorem dX6_copy_39 : decode cX6_copy 39 = .ok (.iconst 5, 1) := by decide +kernel
theorem dX6_copy_40 : decode cX6_copy 40 = .ok (.invokevirtual 101, 3) := by decide +kernel
theorem dX6_copy_43 : decode cX6_copy 43 = .ok (.ireturn, 1) := by decide +kernel
theorem dX6_copy_44 : decode cX6_copy 44 = .ok (.aload_n 0, 1) := by decide +kernel
theorem dX6_copy_45 : decode cX6_copy 45 = .ok (.getfield 37, 3) := by decide +kernel
theorem dX6_copy_48 : decode cX6_copy 48 = .ok (.iload_n 1, 1) := by decide +kernel
theorem dX6_copy_49 : decode cX6_copy 49 = .ok (.iaload, 1) := by decide +kernel
theorem dX6_copy_50 : decode cX6_copy 50 = .ok (.aload_n 0, 1) := by decide +kernel
theorem dX6_copy_51 : decode cX6_copy 51 = .ok (.getfield 37, 3) := by decide +kernel
theorem dX6_copy_54 : decode cX6_copy 54 = .ok (.iload_n 3, 1) := by decide +kernel
theorem dX6_copy_55 : decode cX6_copy 55 = .ok (.iaload, 1) := by decide +kernel
theorem dX6_copy_56 : decode cX6_copy 56 = .ok (.if_icmp .eq 9, 3) := by decide +kernel
theorem dX6_copy_59 : decode cX6_copy 59 = .ok (.aload_n 0, 1) := by decide +kernel
theorem dX6_copy_60 : decode cX6_copy 60 = .ok (.iconst 2, 1) := by decide +kernel
theorem dX6_copy_61 : decode cX6_copy 61 = .ok (.invokevirtual 101, 3) := by decide +kernel
theorem dX6_copy_64 : decode cX6_copy 64 = .ok (.ireturn, 1) := by decide +kernel
theorem dX6_copy_65 : decode cX6_copy 65 = .ok (.iload_n 2, 1) := by decide +kernel
theorem dX6_copy_66 : decode cX6_copy 66 = .ok (.ifCond .lt 48, 3) := by decide +kernel
theorem dX6_copy_69 : decode cX6_copy 69 = .ok (.iload 4, 2) := by decide +kernel
theorem dX6_copy_71 : decode cX6_copy 71 = .ok (.ifCond .lt 43, 3) := by decide +kernel
theorem dX6_copy_74 : decode cX6_copy 74 = .ok (.iload 5, 2) := by decide +kernel
theorem dX6_copy_76 : decode cX6_copy 76 = .ok (.ifCond .lt 38, 3) := by decide +kernel
theorem dX6_copy_79 : decode cX6_copy 79 = .ok (.iload_n 2, 1) := by decide +kernel
theorem dX6_copy_80 : decode cX6_copy 80 = .ok (.i2l, 1) := by decide +kernel
theorem dX6_copy_81 : decode cX6_copy 81 = .ok (.iload 5, 2) := by decide +kernel
theorem dX6_copy_83 : decode cX6_copy 83 = .ok (.i2l, 1) := by decide +kernel
theorem dX6_copy_84 : decode cX6_copy 84 = .ok (.ladd, 1) := by decide +kernel
theorem dX6_copy_85 : decode cX6_copy 85 = .ok (.aload_n 0, 1) := by decide +kernel
theorem dX6_copy_86 : decode cX6_copy 86 = .ok (.getfield 40, 3) := by decide +kernel
theorem dX6_copy_89 : decode cX6_copy 89 = .ok (.iload_n 1, 1) := by decide +kernel
theorem dX6_copy_90 : decode cX6_copy 90 = .ok (.iaload, 1) := by decide +kernel
theorem dX6_copy_91 : decode cX6_copy 91 = .ok (.i2l, 1) := by decide +kernel
theorem dX6_copy_92 : decode cX6_copy 92 = .ok (.lcmp, 1) := by decide +kernel
theorem dX6_copy_93 : decode cX6_copy 93 = .ok (.ifCond .gt 21, 3) := by decide +kernel
theorem dX6_copy_96 : decode cX6_copy 96 = .ok (.iload 4, 2) := by decide +kernel
theorem dX6_copy_98 : decode cX6_copy 98 = .ok (.i2l, 1) := by decide +kernel
theorem dX6_copy_99 : decode cX6_copy 99 = .ok (.iload 5, 2) := by decide +kernel
theorem dX6_copy_101 : decode cX6_copy 101 = .ok (.i2l, 1) := by decide +kernel
theorem dX6_copy_102 : decode cX6_copy 102 = .ok (.ladd, 1) := by decide +kernel
theorem dX6_copy_103 : decode cX6_copy 103 = .ok (.aload_n 0, 1) := by decide +kernel
theorem dX6_copy_104 : decode cX6_copy 104 = .ok (.getfield 40, 3) := by decide +kernel
theorem dX6_copy_107 : decode cX6_copy 107 = .ok (.iload_n 3, 1) := by decide +kernel
theorem dX6_copy_108 : decode cX6_copy 108 = .ok (.iaload, 1) := by decide +kernel
theorem dX6_copy_109 : decode cX6_copy 109 = .ok (.i2l, 1) := by decide +kernel
theorem dX6_copy_110 : decode cX6_copy 110 = .ok (.lcmp, 1) := by decide +kernel
theorem dX6_copy_111 : decode cX6_copy 111 = .ok (.ifCond .le 9, 3) := by decide +kernel
theorem dX6_copy_114 : decode cX6_copy 114 = .ok (.aload_n 0, 1) := by decide +kernel
theorem dX6_copy_115 : decode cX6_copy 115 = .ok (.iconst 0, 1) := by decide +kernel
theorem dX6_copy_116 : decode cX6_copy 116 = .ok (.invokevirtual 101, 3) := by decide +kernel
theorem dX6_copy_119 : decode cX6_copy 119 = .ok (.ireturn, 1) := by decide +kernel
theorem dX6_copy_120 : decode cX6_copy 120 = .ok (.aload_n 0, 1) := by decide +kernel
theorem dX6_copy_121 : decode cX6_copy 121 = .ok (.iload_n 1, 1) := by decide +kernel
theorem dX6_copy_122 : decode cX6_copy 122 = .ok (.invokevirtual 290, 3) := by decide +kernel
theorem dX6_copy_125 : decode cX6_copy 125 = .ok (.iconst 0, 1) := by decide +kernel
theorem dX6_copy_126 : decode cX6_copy 126 = .ok (.istore 6, 2) := by decide +kernel
theorem dX6_copy_128 : decode cX6_copy 128 = .ok (.iload 6, 2) := by decide +kernel
theorem dX6_copy_130 : decode cX6_copy 130 = .ok (.iload 5, 2) := by decide +kernel
theorem dX6_copy_132 : decode cX6_copy 132 = .ok (.if_icmp .ge 72, 3) := by decide +kernel
theorem dX6_copy_135 : decode cX6_copy 135 = .ok (.aload_n 0, 1) := by decide +kernel
theorem dX6_copy_136 : decode cX6_copy 136 = .ok (.getfield 43, 3) := by decide +kernel
theorem dX6_copy_139 : decode cX6_copy 139 = .ok (.iload_n 3, 1) := by decide +kernel
theorem dX6_copy_140 : decode cX6_copy 140 = .ok (.aaload, 1) := by decide +kernel
theorem dX6_copy_141 : decode cX6_copy 141 = .ok (.iload 4, 2) := by decide +kernel
theorem dX6_copy_143 : decode cX6_copy 143 = .ok (.iload 6, 2) := by decide +kernel
theorem dX6_copy_145 : decode cX6_copy 145 = .ok (.iadd, 1) := by decide +kernel
theorem dX6_copy_146 : decode cX6_copy 146 = .ok (.aload_n 0, 1) := by decide +kernel
theorem dX6_copy_147 : decode cX6_copy 147 = .ok (.getfield 56, 3) := by decide +kernel
theorem dX6_copy_150 : decode cX6_copy 150 = .ok (.iload_n 2, 1) := by decide +kernel
theorem dX6_copy_151 : decode cX6_copy 151 = .ok (.iload 6, 2) := by decide +kernel
theorem dX6_copy_153 : decode cX6_copy 153 = .ok (.iadd, 1) := by decide +kernel
theorem dX6_copy_154 : decode cX6_copy 154 = .ok (.iaload, 1) := by decide +kernel
theorem dX6_copy_155 : decode cX6_copy 155 = .ok (.iastore, 1) := by decide +kernel
theorem dX6_copy_156 : decode cX6_copy 156 = .ok (.aload_n 0, 1) := by decide +kernel
theorem dX6_copy_157 : decode cX6_copy 157 = .ok (.getfield 48, 3) := by decide +kernel
theorem dX6_copy_160 : decode cX6_copy 160 = .ok (.iload_n 3, 1) := by decide +kernel
theorem dX6_copy_161 : decode cX6_copy 161 = .ok (.aaload, 1) := by decide +kernel
theorem dX6_copy_162 : decode cX6_copy 162 = .ok (.iload 4, 2) := by decide +kernel
theorem dX6_copy_164 : decode cX6_copy 164 = .ok (.iload 6, 2) := by decide +kernel
theorem dX6_copy_166 : decode cX6_copy 166 = .ok (.iadd, 1) := by decide +kernel
theorem dX6_copy_167 : decode cX6_copy 167 = .ok (.aload_n 0, 1) := by decide +kernel
theorem dX6_copy_168 : decode cX6_copy 168 = .ok (.getfield 59, 3) := by decide +kernel
theorem dX6_copy_171 : decode cX6_copy 171 = .ok (.iload_n 2, 1) := by decide +kernel
theorem dX6_copy_172 : decode cX6_copy 172 = .ok (.iload 6, 2) := by decide +kernel
theorem dX6_copy_174 : decode cX6_copy 174 = .ok (.iadd, 1) := by decide +kernel
theorem dX6_copy_175 : decode cX6_copy 175 = .ok (.faload, 1) := by decide +kernel
theorem dX6_copy_176 : decode cX6_copy 176 = .ok (.fastore, 1) := by decide +kernel
theorem dX6_copy_177 : decode cX6_copy 177 = .ok (.aload_n 0, 1) := by decide +kernel
theorem dX6_copy_178 : decode cX6_copy 178 = .ok (.getfield 53, 3) := by decide +kernel
theorem dX6_copy_181 : decode cX6_copy 181 = .ok (.iload_n 3, 1) := by decide +kernel
theorem dX6_copy_182 : decode cX6_copy 182 = .ok (.aaload, 1) := by decide +kernel
theorem dX6_copy_183 : decode cX6_copy 183 = .ok (.iload 4, 2) := by decide +kernel
theorem dX6_copy_185 : decode cX6_copy 185 = .ok (.iload 6, 2) := by decide +kernel
theorem dX6_copy_187 : decode cX6_copy 187 = .ok (.iadd, 1) := by decide +kernel
theorem dX6_copy_188 : decode cX6_copy 188 = .ok (.aload_n 0, 1) := by decide +kernel
theorem dX6_copy_189 : decode cX6_copy 189 = .ok (.getfield 63, 3) := by decide +kernel
theorem dX6_copy_192 : decode cX6_copy 192 = .ok (.iload_n 2, 1) := by decide +kernel
theorem dX6_copy_193 : decode cX6_copy 193 = .ok (.iload 6, 2) := by decide +kernel
theorem dX6_copy_195 : decode cX6_copy 195 = .ok (.iadd, 1) := by decide +kernel
theorem dX6_copy_196 : decode cX6_copy 196 = .ok (.daload, 1) := by decide +kernel
theorem dX6_copy_197 : decode cX6_copy 197 = .ok (.dastore, 1) := by decide +kernel
theorem dX6_copy_198 : decode cX6_copy 198 = .ok (.iinc 6 1, 3) := by decide +kernel
theorem dX6_copy_201 : decode cX6_copy 201 = .ok (.goto (-73), 3) := by decide +kernel
theorem dX6_copy_204 : decode cX6_copy 204 = .ok (.iload 5, 2) := by decide +kernel
theorem dX6_copy_206 : decode cX6_copy 206 = .ok (.ireturn, 1) := by decide +kernel
theorem dX6_comesInt_0 : decode cX6_comesInt 0 = .ok (.aload_n 0, 1) := by decide +kernel
theorem dX6_comesInt_1 : decode cX6_comesInt 1 = .ok (.getfield 37, 3) := by decide +kernel
theorem dX6_comesInt_4 : decode cX6_comesInt 4 = .ok (.iload_n 1, 1) := by decide +kernel
theorem dX6_comesInt_5 : decode cX6_comesInt 5 = .ok (.iaload, 1) := by decide +kernel
theorem dX6_comesInt_6 : decode cX6_comesInt 6 = .ok (.ifCond .ne 15, 3) := by decide +kernel
theorem dX6_comesInt_9 : decode cX6_comesInt 9 = .ok (.aload_n 0, 1) := by decide +kernel
theorem dX6_comesInt_10 : decode cX6_comesInt 10 = .ok (.getfield 43, 3) := by decide +kernel
theorem dX6_comesInt_13 : decode cX6_comesInt 13 = .ok (.iload_n 1, 1) := by decide +kernel
theorem dX6_comesInt_14 : decode cX6_comesInt 14 = .ok (.aaload, 1) := by decide +kernel
theorem dX6_comesInt_15 : decode cX6_comesInt 15 = .ok (.iload_n 2, 1) := by decide +kernel
theorem dX6_comesInt_16 : decode cX6_comesInt 16 = .ok (.iload_n 3, 1) := by decide +kernel
theorem dX6_comesInt_17 : decode cX6_comesInt 17 = .ok (.iastore, 1) := by decide +kernel
theorem dX6_comesInt_18 : decode cX6_comesInt 18 = .ok (.goto 36, 3) := by decide +kernel
theorem dX6_comesInt_21 : decode cX6_comesInt 21 = .ok (.aload_n 0, 1) := by decide +kernel
theorem dX6_comesInt_22 : decode cX6_comesInt 22 = .ok (.getfield 37, 3) := by decide +kernel
theorem dX6_comesInt_25 : decode cX6_comesInt 25 = .ok (.iload_n 1, 1) := by decide +kernel
theorem dX6_comesInt_26 : decode cX6_comesInt 26 = .ok (.iaload, 1) := by decide +kernel
theorem dX6_comesInt_27 : decode cX6_comesInt 27 = .ok (.iconst 1, 1) := by decide +kernel
theorem dX6_comesInt_28 : decode cX6_comesInt 28 = .ok (.if_icmp .ne 16, 3) := by decide +kernel
theorem dX6_comesInt_31 : decode cX6_comesInt 31 = .ok (.aload_n 0, 1) := by decide +kernel
theorem dX6_comesInt_32 : decode cX6_comesInt 32 = .ok (.getfield 48, 3) := by decide +kernel
theorem dX6_comesInt_35 : decode cX6_comesInt 35 = .ok (.iload_n 1, 1) := by decide +kernel
theorem dX6_comesInt_36 : decode cX6_comesInt 36 = .ok (.aaload, 1) := by decide +kernel
theorem dX6_comesInt_37 : decode cX6_comesInt 37 = .ok (.iload_n 2, 1) := by decide +kernel
theorem dX6_comesInt_38 : decode cX6_comesInt 38 = .ok (.iload_n 3, 1) := by decide +kernel
theorem dX6_comesInt_39 : decode cX6_comesInt 39 = .ok (.i2f, 1) := by decide +kernel
theorem dX6_comesInt_40 : decode cX6_comesInt 40 = .ok (.fastore, 1) := by decide +kernel
theorem dX6_comesInt_41 : decode cX6_comesInt 41 = .ok (.goto 13, 3) := by decide +kernel
theorem dX6_comesInt_44 : decode cX6_comesInt 44 = .ok (.aload_n 0, 1) := by decide +kernel
theorem dX6_comesInt_45 : decode cX6_comesInt 45 = .ok (.getfield 53, 3) := by decide +kernel
theorem dX6_comesInt_48 : decode cX6_comesInt 48 = .ok (.iload_n 1, 1) := by decide +kernel
theorem dX6_comesInt_49 : decode cX6_comesInt 49 = .ok (.aaload, 1) := by decide +kernel
theorem dX6_comesInt_50 : decode cX6_comesInt 50 = .ok (.iload_n 2, 1) := by decide +kernel
theorem dX6_comesInt_51 : decode cX6_comesInt 51 = .ok (.iload_n 3, 1) := by decide +kernel
theorem dX6_comesInt_52 : decode cX6_comesInt 52 = .ok (.i2d, 1) := by decide +kernel
theorem dX6_comesInt_53 : decode cX6_comesInt 53 = .ok (.dastore, 1) := by decide +kernel
theorem dX6_comesInt_54 : decode cX6_comesInt 54 = .ok (.return_, 1) := by decide +kernel
theorem dX6_comesFloat_0 : decode cX6_comesFloat 0 = .ok (.aload_n 0, 1) := by decide +kernel
theorem dX6_comesFloat_1 : decode cX6_comesFloat 1 = .ok (.getfield 37, 3) := by decide +kernel
theorem dX6_comesFloat_4 : decode cX6_comesFloat 4 = .ok (.iload_n 1, 1) := by decide +kernel
theorem dX6_comesFloat_5 : decode cX6_comesFloat 5 = .ok (.iaload, 1) := by decide +kernel
theorem dX6_comesFloat_6 : decode cX6_comesFloat 6 = .ok (.ifCond .ne 16, 3) := by decide +kernel
theorem dX6_comesFloat_9 : decode cX6_comesFloat 9 = .ok (.aload_n 0, 1) := by decide +kernel
theorem dX6_comesFloat_10 : decode cX6_comesFloat 10 = .ok (.getfield 43, 3) := by decide +kernel
theorem dX6_comesFloat_13 : decode cX6_comesFloat 13 = .ok (.iload_n 1, 1) := by decide +kernel
theorem dX6_comesFloat_14 : decode cX6_comesFloat 14 = .ok (.aaload, 1) := by decide +kernel
theorem dX6_comesFloat_15 : decode cX6_comesFloat 15 = .ok (.iload_n 2, 1) := by decide +kernel
theorem dX6_comesFloat_16 : decode cX6_comesFloat 16 = .ok (.fload_n 3, 1) := by decide +kernel
theorem dX6_comesFloat_17 : decode cX6_comesFloat 17 = .ok (.f2i, 1) := by decide +kernel
theorem dX6_comesFloat_18 : decode cX6_comesFloat 18 = .ok (.iastore, 1) := by decide +kernel
theorem dX6_comesFloat_19 : decode cX6_comesFloat 19 = .ok (.goto 35, 3) := by decide +kernel
theorem dX6_comesFloat_22 : decode cX6_comesFloat 22 = .ok (.aload_n 0, 1) := by decide +kernel
theorem dX6_comesFloat_23 : decode cX6_comesFloat 23 = .ok (.getfield 37, 3) := by decide +kernel
theorem dX6_comesFloat_26 : decode cX6_comesFloat 26 = .ok (.iload_n 1, 1) := by decide +kernel
theorem dX6_comesFloat_27 : decode cX6_comesFloat 27 = .ok (.iaload, 1) := by decide +kernel
theorem dX6_comesFloat_28 : decode cX6_comesFloat 28 = .ok (.iconst 1, 1) := by decide +kernel
theorem dX6_comesFloat_29 : decode cX6_comesFloat 29 = .ok (.if_icmp .ne 15, 3) := by decide +kernel
theorem dX6_comesFloat_32 : decode cX6_comesFloat 32 = .ok (.aload_n 0, 1) := by decide +kernel
theorem dX6_comesFloat_33 : decode cX6_comesFloat 33 = .ok (.getfield 48, 3) := by decide +kernel
theorem dX6_comesFloat_36 : decode cX6_comesFloat 36 = .ok (.iload_n 1, 1) := by decide +kernel
theorem dX6_comesFloat_37 : decode cX6_comesFloat 37 = .ok (.aaload, 1) := by decide +kernel
theorem dX6_comesFloat_38 : decode cX6_comesFloat 38 = .ok (.iload_n 2, 1) := by decide +kernel
theorem dX6_comesFloat_39 : decode cX6_comesFloat 39 = .ok (.fload_n 3, 1) := by decide +kernel
theorem dX6_comesFloat_40 : decode cX6_comesFloat 40 = .ok (.fastore, 1) := by decide +kernel
theorem dX6_comesFloat_41 : decode cX6_comesFloat 41 = .ok (.goto 13, 3) := by decide +kernel
theorem dX6_comesFloat_44 : decode cX6_comesFloat 44 = .ok (.aload_n 0, 1) := by decide +kernel
theorem dX6_comesFloat_45 : decode cX6_comesFloat 45 = .ok (.getfield 53, 3) := by decide +kernel
theorem dX6_comesFloat_48 : decode cX6_comesFloat 48 = .ok (.iload_n 1, 1) := by decide +kernel
theorem dX6_comesFloat_49 : decode cX6_comesFloat 49 = .ok (.aaload, 1) := by decide +kernel
theorem dX6_comesFloat_50 : decode cX6_comesFloat 50 = .ok (.iload_n 2, 1) := by decide +kernel
theorem dX6_comesFloat_51 : decode cX6_comesFloat 51 = .ok (.fload_n 3, 1) := by decide +kernel
theorem dX6_comesFloat_52 : decode cX6_comesFloat 52 = .ok (.f2d, 1) := by decide +kernel
theorem dX6_comesFloat_53 : decode cX6_comesFloat 53 = .ok (.dastore, 1) := by decide +kernel
theorem dX6_comesFloat_54 : decode cX6_comesFloat 54 = .ok (.return_, 1) := by decide +kernel
theorem dX6_comesDouble_0 : decode cX6_comesDouble 0 = .ok (.aload_n 0, 1) := by decide +kernel
theorem dX6_comesDouble_1 : decode cX6_comesDouble 1 = .ok (.getfield 37, 3) := by decide +kernel
theorem dX6_comesDouble_4 : decode cX6_comesDouble 4 = .ok (.iload_n 1, 1) := by decide +kernel
theorem dX6_comesDouble_5 : decode cX6_comesDouble 5 = .ok (.iaload, 1) := by decide +kernel
theorem dX6_comesDouble_6 : decode cX6_comesDouble 6 = .ok (.ifCond .ne 16, 3) := by decide +kernel
theorem dX6_comesDouble_9 : decode cX6_comesDouble 9 = .ok (.aload_n 0, 1) := by decide +kernel
theorem dX6_comesDouble_10 : decode cX6_comesDouble 10 = .ok (.getfield 43, 3) := by decide +kernel
theorem dX6_comesDouble_13 : decode cX6_comesDouble 13 = .ok (.iload_n 1, 1) := by decide +kernel
theorem dX6_comesDouble_14 : decode cX6_comesDouble 14 = .ok (.aaload, 1) := by decide +kernel
theorem dX6_comesDouble_15 : decode cX6_comesDouble 15 = .ok (.iload_n 2, 1) := by decide +kernel
theorem dX6_comesDouble_16 : decode cX6_comesDouble 16 = .ok (.dload_n 3, 1) := by decide +kernel
theorem dX6_comesDouble_17 : decode cX6_comesDouble 17 = .ok (.d2i, 1) := by decide +kernel
theorem dX6_comesDouble_18 : decode cX6_comesDouble 18 = .ok (.iastore, 1) := by decide +kernel
theorem dX6_comesDouble_19 : decode cX6_comesDouble 19 = .ok (.goto 35, 3) := by decide +kernel
theorem dX6_comesDouble_22 : decode cX6_comesDouble 22 = .ok (.aload_n 0, 1) := by decide +kernel
theorem dX6_comesDouble_23 : decode cX6_comesDouble 23 = .ok (.getfield 37, 3) := by decide +kernel
theorem dX6_comesDouble_26 : decode cX6_comesDouble 26 = .ok (.iload_n 1, 1) := by decide +kernel
theorem dX6_comesDouble_27 : decode cX6_comesDouble 27 = .ok (.iaload, 1) := by decide +kernel
theorem dX6_comesDouble_28 : decode cX6_comesDouble 28 = .ok (.iconst 1, 1) := by decide +kernel
theorem dX6_comesDouble_29 : decode cX6_comesDouble 29 = .ok (.if_icmp .ne 16, 3) := by decide +kernel
theorem dX6_comesDouble_32 : decode cX6_comesDouble 32 = .ok (.aload_n 0, 1) := by decide +kernel
theorem dX6_comesDouble_33 : decode cX6_comesDouble 33 = .ok (.getfield 48, 3) := by decide +kernel
theorem dX6_comesDouble_36 : decode cX6_comesDouble 36 = .ok (.iload_n 1, 1) := by decide +kernel
theorem dX6_comesDouble_37 : decode cX6_comesDouble 37 = .ok (.aaload, 1) := by decide +kernel
theorem dX6_comesDouble_38 : decode cX6_comesDouble 38 = .ok (.iload_n 2, 1) := by decide +kernel
theorem dX6_comesDouble_39 : decode cX6_comesDouble 39 = .ok (.dload_n 3, 1) := by decide +kernel
theorem dX6_comesDouble_40 : decode cX6_comesDouble 40 = .ok (.d2f, 1) := by decide +kernel
theorem dX6_comesDouble_41 : decode cX6_comesDouble 41 = .ok (.fastore, 1) := by decide +kernel
theorem dX6_comesDouble_42 : decode cX6_comesDouble 42 = .ok (.goto 12, 3) := by decide +kernel
theorem dX6_comesDouble_45 : decode cX6_comesDouble 45 = .ok (.aload_n 0, 1) := by decide +kernel
theorem dX6_comesDouble_46 : decode cX6_comesDouble 46 = .ok (.getfield 53, 3) := by decide +kernel
theorem dX6_comesDouble_49 : decode cX6_comesDouble 49 = .ok (.iload_n 1, 1) := by decide +kernel
theorem dX6_comesDouble_50 : decode cX6_comesDouble 50 = .ok (.aaload, 1) := by decide +kernel
theorem dX6_comesDouble_51 : decode cX6_comesDouble 51 = .ok (.iload_n 2, 1) := by decide +kernel
theorem dX6_comesDouble_52 : decode cX6_comesDouble 52 = .ok (.dload_n 3, 1) := by decide +kernel
theorem dX6_comesDouble_53 : decode cX6_comesDouble 53 = .ok (.dastore, 1) := by decide +kernel
theorem dX6_comesDouble_54 : decode cX6_comesDouble 54 = .ok (.return_, 1) := by decide +kernel
theorem dX6_casts_0 : decode cX6_casts 0 = .ok (.iload_n 1, 1) := by decide +kernel
theorem dX6_casts_1 : decode cX6_casts 1 = .ok (.invokestatic 282, 3) := by decide +kernel
theorem dX6_casts_4 : decode cX6_casts 4 = .ok (.ifCond .eq 10, 3) := by decide +kernel
theorem dX6_casts_7 : decode cX6_casts 7 = .ok (.iload_n 2, 1) := by decide +kernel
theorem dX6_casts_8 : decode cX6_casts 8 = .ok (.invokestatic 282, 3) := by decide +kernel
theorem dX6_casts_11 : decode cX6_casts 11 = .ok (.ifCond .ne 9, 3) := by decide +kernel
theorem dX6_casts_14 : decode cX6_casts 14 = .ok (.aload_n 0, 1) := by decide +kernel
theorem dX6_casts_15 : decode cX6_casts 15 = .ok (.iconst 0, 1) := by decide +kernel
theorem dX6_casts_16 : decode cX6_casts 16 = .ok (.invokevirtual 101, 3) := by decide +kernel
theorem dX6_casts_19 : decode cX6_casts 19 = .ok (.ireturn, 1) := by decide +kernel
theorem dX6_casts_20 : decode cX6_casts 20 = .ok (.aload_n 0, 1) := by decide +kernel
theorem dX6_casts_21 : decode cX6_casts 21 = .ok (.getfield 37, 3) := by decide +kernel
theorem dX6_casts_24 : decode cX6_casts 24 = .ok (.iload_n 1, 1) := by decide +kernel
theorem dX6_casts_25 : decode cX6_casts 25 = .ok (.iaload, 1) := by decide +kernel
theorem dX6_casts_26 : decode cX6_casts 26 = .ok (.ifCond .lt 12, 3) := by decide +kernel
theorem dX6_casts_29 : decode cX6_casts 29 = .ok (.aload_n 0, 1) := by decide +kernel
theorem dX6_casts_30 : decode cX6_casts 30 = .ok (.getfield 37, 3) := by decide +kernel
theorem dX6_casts_33 : decode cX6_casts 33 = .ok (.iload_n 2, 1) := by decide +kernel
theorem dX6_casts_34 : decode cX6_casts 34 = .ok (.iaload, 1) := by decide +kernel
theorem dX6_casts_35 : decode cX6_casts 35 = .ok (.ifCond .ge 9, 3) := by decide +kernel
theorem dX6_casts_38 : decode cX6_casts 38 = .ok (.aload_n 0, 1) := by decide +kernel
theorem dX6_casts_39 : decode cX6_casts 39 = .ok (.iconst 5, 1) := by decide +kernel
theorem dX6_casts_40 : decode cX6_casts 40 = .ok (.invokevirtual 101, 3) := by decide +kernel
theorem dX6_casts_43 : decode cX6_casts 43 = .ok (.ireturn, 1) := by decide +kernel
theorem dX6_casts_44 : decode cX6_casts 44 = .ok (.aload_n 0, 1) := by decide +kernel
theorem dX6_casts_45 : decode cX6_casts 45 = .ok (.getfield 40, 3) := by decide +kernel
theorem dX6_casts_48 : decode cX6_casts 48 = .ok (.iload_n 1, 1) := by decide +kernel
theorem dX6_casts_49 : decode cX6_casts 49 = .ok (.iaload, 1) := by decide +kernel
theorem dX6_casts_50 : decode cX6_casts 50 = .ok (.aload_n 0, 1) := by decide +kernel
theorem dX6_casts_51 : decode cX6_casts 51 = .ok (.getfield 40, 3) := by decide +kernel
theorem dX6_casts_54 : decode cX6_casts 54 = .ok (.iload_n 2, 1) := by decide +kernel
theorem dX6_casts_55 : decode cX6_casts 55 = .ok (.iaload, 1) := by decide +kernel
theorem dX6_casts_56 : decode cX6_casts 56 = .ok (.invokestatic 293, 3) := by decide +kernel
theorem dX6_casts_59 : decode cX6_casts 59 = .ok (.istore_n 3, 1) := by decide +kernel
theorem dX6_casts_60 : decode cX6_casts 60 = .ok (.iconst 0, 1) := by decide +kernel
theorem dX6_casts_61 : decode cX6_casts 61 = .ok (.istore 4, 2) := by decide +kernel
theorem dX6_casts_63 : decode cX6_casts 63 = .ok (.iload 4, 2) := by decide +kernel
theorem dX6_casts_65 : decode cX6_casts 65 = .ok (.iload_n 3, 1) := by decide +kernel
theorem dX6_casts_66 : decode cX6_casts 66 = .ok (.if_icmp .ge 82, 3) := by decide +kernel
theorem dX6_casts_69 : decode cX6_casts 69 = .ok (.aload_n 0, 1) := by decide +kernel
theorem dX6_casts_70 : decode cX6_casts 70 = .ok (.getfield 37, 3) := by decide +kernel
theorem dX6_casts_73 : decode cX6_casts 73 = .ok (.iload_n 1, 1) := by decide +kernel
theorem dX6_casts_74 : decode cX6_casts 74 = .ok (.iaload, 1) := by decide +kernel
theorem dX6_casts_75 : decode cX6_casts 75 = .ok (.ifCond .ne 22, 3) := by decide +kernel
theorem dX6_casts_78 : decode cX6_casts 78 = .ok (.aload_n 0, 1) := by decide +kernel
theorem dX6_casts_79 : decode cX6_casts 79 = .ok (.iload_n 2, 1) := by decide +kernel
theorem dX6_casts_80 : decode cX6_casts 80 = .ok (.iload 4, 2) := by decide +kernel
theorem dX6_casts_82 : decode cX6_casts 82 = .ok (.aload_n 0, 1) := by decide +kernel
theorem dX6_casts_83 : decode cX6_casts 83 = .ok (.getfield 43, 3) := by decide +kernel
theorem dX6_casts_86 : decode cX6_casts 86 = .ok (.iload_n 1, 1) := by decide +kernel
theorem dX6_casts_87 : decode cX6_casts 87 = .ok (.aaload, 1) := by decide +kernel
theorem dX6_casts_88 : decode cX6_casts 88 = .ok (.iload 4, 2) := by decide +kernel
theorem dX6_casts_90 : decode cX6_casts 90 = .ok (.iaload, 1) := by decide +kernel
theorem dX6_casts_91 : decode cX6_casts 91 = .ok (.invokevirtual 295, 3) := by decide +kernel
theorem dX6_casts_94 : decode cX6_casts 94 = .ok (.goto 48, 3) := by decide +kernel
theorem dX6_casts_97 : decode cX6_casts 97 = .ok (.aload_n 0, 1) := by decide +kernel
theorem dX6_casts_98 : decode cX6_casts 98 = .ok (.getfield 37, 3) := by decide +kernel
theorem dX6_casts_101 : decode cX6_casts 101 = .ok (.iload_n 1, 1) := by decide +kernel
theorem dX6_casts_102 : decode cX6_casts 102 = .ok (.iaload, 1) := by decide +kernel
theorem dX6_casts_103 : decode cX6_casts 103 = .ok (.iconst 1, 1) := by decide +kernel
theorem dX6_casts_104 : decode cX6_casts 104 = .ok (.if_icmp .ne 22, 3) := by decide +kernel
theorem dX6_casts_107 : decode cX6_casts 107 = .ok (.aload_n 0, 1) := by decide +kernel
theorem dX6_casts_108 : decode cX6_casts 108 = .ok (.iload_n 2, 1) := by decide +kernel
theorem dX6_casts_109 : decode cX6_casts 109 = .ok (.iload 4, 2) := by decide +kernel
theorem dX6_casts_111 : decode cX6_casts 111 = .ok (.aload_n 0, 1) := by decide +kernel
theorem dX6_casts_112 : decode cX6_casts 112 = .ok (.getfield 48, 3) := by decide +kernel
theorem dX6_casts_115 : decode cX6_casts 115 = .ok (.iload_n 1, 1) := by decide +kernel
theorem dX6_casts_116 : decode cX6_casts 116 = .ok (.aaload, 1) := by decide +kernel
theorem dX6_casts_117 : decode cX6_casts 117 = .ok (.iload 4, 2) := by decide +kernel
theorem dX6_casts_119 : decode cX6_casts 119 = .ok (.faload, 1) := by decide +kernel
theorem dX6_casts_120 : decode cX6_casts 120 = .ok (.invokevirtual 299, 3) := by decide +kernel
theorem dX6_casts_123 : decode cX6_casts 123 = .ok (.goto 19, 3) := by decide +kernel
theorem dX6_casts_126 : decode cX6_casts 126 = .ok (.aload_n 0, 1) := by decide +kernel
theorem dX6_casts_127 : decode cX6_casts 127 = .ok (.iload_n 2, 1) := by decide +kernel
theorem dX6_casts_128 : decode cX6_casts 128 = .ok (.iload 4, 2) := by decide +kernel
theorem dX6_casts_130 : decode cX6_casts 130 = .ok (.aload_n 0, 1) := by decide +kernel
theorem dX6_casts_131 : decode cX6_casts 131 = .ok (.getfield 53, 3) := by decide +kernel
theorem dX6_casts_134 : decode cX6_casts 134 = .ok (.iload_n 1, 1) := by decide +kernel
theorem dX6_casts_135 : decode cX6_casts 135 = .ok (.aaload, 1) := by decide +kernel
theorem dX6_casts_136 : decode cX6_casts 136 = .ok (.iload 4, 2) := by decide +kernel
theorem dX6_casts_138 : decode cX6_casts 138 = .ok (.daload, 1) := by decide +kernel
theorem dX6_casts_139 : decode cX6_casts 139 = .ok (.invokevirtual 303, 3) := by decide +kernel
theorem dX6_casts_142 : decode cX6_casts 142 = .ok (.iinc 4 1, 3) := by decide +kernel
theorem dX6_casts_145 : decode cX6_casts 145 = .ok (.goto (-82), 3) := by decide +kernel
theorem dX6_casts_148 : decode cX6_casts 148 = .ok (.iload_n 3, 1) := by decide +kernel
theorem dX6_casts_149 : decode cX6_casts 149 = .ok (.ireturn, 1) := by decide +kernel
theorem dX6_table_0 : decode cX6_table 0 = .ok (.iload_n 1, 1) := by decide +kernel
theorem dX6_table_1 : decode cX6_table 1 = .ok (.invokestatic 282, 3) := by decide +kernel
theorem dX6_table_4 : decode cX6_table 4 = .ok (.ifCond .eq 26, 3) := by decide +kernel
theorem dX6_table_7 : decode cX6_table 7 = .ok (.aload_n 0, 1) := by decide +kernel
theorem dX6_table_8 : decode cX6_table 8 = .ok (.iload_n 2, 1) := by decide +kernel
theorem dX6_table_9 : decode cX6_table 9 = .ok (.invokevirtual 105, 3) := by decide +kernel
theorem dX6_table_12 : decode cX6_table 12 = .ok (.ifCond .eq 18, 3) := by decide +kernel
theorem dX6_table_15 : decode cX6_table 15 = .ok (.iload_n 3, 1) := by decide +kernel
theorem dX6_table_16 : decode cX6_table 16 = .ok (.invokestatic 170, 3) := by decide +kernel
theorem dX6_table_19 : decode cX6_table 19 = .ok (.ifCond .eq 11, 3) := by decide +kernel
theorem dX6_table_22 : decode cX6_table 22 = .ok (.iload 4, 2) := by decide +kernel
theorem dX6_table_24 : decode cX6_table 24 = .ok (.invokestatic 170, 3) := by decide +kernel
theorem dX6_table_27 : decode cX6_table 27 = .ok (.ifCond .ne 9, 3) := by decide +kernel
theorem dX6_table_30 : decode cX6_table 30 = .ok (.aload_n 0, 1) := by decide +kernel
theorem dX6_table_31 : decode cX6_table 31 = .ok (.iconst 0, 1) := by decide +kernel
theorem dX6_table_32 : decode cX6_table 32 = .ok (.invokevirtual 101, 3) := by decide +kernel
theorem dX6_table_35 : decode cX6_table 35 = .ok (.ireturn, 1) := by decide +kernel
theorem dX6_table_36 : decode cX6_table 36 = .ok (.aload_n 0, 1) := by decide +kernel
theorem dX6_table_37 : decode cX6_table 37 = .ok (.getfield 37, 3) := by decide +kernel
theorem dX6_table_40 : decode cX6_table 40 = .ok (.iload_n 1, 1) := by decide +kernel
theorem dX6_table_41 : decode cX6_table 41 = .ok (.iaload, 1) := by decide +kernel
theorem dX6_table_42 : decode cX6_table 42 = .ok (.ifCond .ge 9, 3) := by decide +kernel
theorem dX6_table_45 : decode cX6_table 45 = .ok (.aload_n 0, 1) := by decide +kernel
theorem dX6_table_46 : decode cX6_table 46 = .ok (.iconst 5, 1) := by decide +kernel
theorem dX6_table_47 : decode cX6_table 47 = .ok (.invokevirtual 101, 3) := by decide +kernel
theorem dX6_table_50 : decode cX6_table 50 = .ok (.ireturn, 1) := by decide +kernel
theorem dX6_table_51 : decode cX6_table 51 = .ok (.iconst 0, 1) := by decide +kernel
theorem dX6_table_52 : decode cX6_table 52 = .ok (.istore 5, 2) := by decide +kernel
theorem dX6_table_54 : decode cX6_table 54 = .ok (.iload 5, 2) := by decide +kernel
theorem dX6_table_56 : decode cX6_table 56 = .ok (.aload_n 0, 1) := by decide +kernel
theorem dX6_table_57 : decode cX6_table 57 = .ok (.getfield 40, 3) := by decide +kernel
theorem dX6_table_60 : decode cX6_table 60 = .ok (.iload_n 1, 1) := by decide +kernel
theorem dX6_table_61 : decode cX6_table 61 = .ok (.iaload, 1) := by decide +kernel
theorem dX6_table_62 : decode cX6_table 62 = .ok (.if_icmp .ge 41, 3) := by decide +kernel
theorem dX6_table_65 : decode cX6_table 65 = .ok (.iload_n 3, 1) := by decide +kernel
theorem dX6_table_66 : decode cX6_table 66 = .ok (.iload 5, 2) := by decide +kernel
theorem dX6_table_68 : decode cX6_table 68 = .ok (.iload 4, 2) := by decide +kernel
theorem dX6_table_70 : decode cX6_table 70 = .ok (.imul, 1) := by decide +kernel
theorem dX6_table_71 : decode cX6_table 71 = .ok (.iadd, 1) := by decide +kernel
theorem dX6_table_72 : decode cX6_table 72 = .ok (.invokestatic 170, 3) := by decide +kernel
theorem dX6_table_75 : decode cX6_table 75 = .ok (.ifCond .eq 28, 3) := by decide +kernel
theorem dX6_table_78 : decode cX6_table 78 = .ok (.aload_n 0, 1) := by decide +kernel
theorem dX6_table_79 : decode cX6_table 79 = .ok (.iload_n 1, 1) := by decide +kernel
theorem dX6_table_80 : decode cX6_table 80 = .ok (.iload 5, 2) := by decide +kernel
theorem dX6_table_82 : decode cX6_table 82 = .ok (.aload_n 0, 1) := by decide +kernel
theorem dX6_table_83 : decode cX6_table 83 = .ok (.iload_n 2, 1) := by decide +kernel
theorem dX6_table_84 : decode cX6_table 84 = .ok (.iload_n 3, 1) := by decide +kernel
theorem dX6_table_85 : decode cX6_table 85 = .ok (.iload 5, 2) := by decide +kernel
theorem dX6_table_87 : decode cX6_table 87 = .ok (.iload 4, 2) := by decide +kernel
theorem dX6_table_89 : decode cX6_table 89 = .ok (.imul, 1) := by decide +kernel
theorem dX6_table_90 : decode cX6_table 90 = .ok (.iadd, 1) := by decide +kernel
theorem dX6_table_91 : decode cX6_table 91 = .ok (.invokevirtual 161, 3) := by decide +kernel
theorem dX6_table_94 : decode cX6_table 94 = .ok (.invokevirtual 303, 3) := by decide +kernel
theorem dX6_table_97 : decode cX6_table 97 = .ok (.iinc 5 1, 3) := by decide +kernel
theorem dX6_table_100 : decode cX6_table 100 = .ok (.goto (-46), 3) := by decide +kernel
theorem dX6_table_103 : decode cX6_table 103 = .ok (.iload 5, 2) := by decide +kernel
theorem dX6_table_105 : decode cX6_table 105 = .ok (.ireturn, 1) := by decide +kernel
theorem dX6_rests_0 : decode cX6_rests 0 = .ok (.iload_n 1, 1) := by decide +kernel
theorem dX6_rests_1 : decode cX6_rests 1 = .ok (.invokestatic 282, 3) := by decide +kernel
theorem dX6_rests_4 : decode cX6_rests 4 = .ok (.ifCond .eq 15, 3) := by decide +kernel
theorem dX6_rests_7 : decode cX6_rests 7 = .ok (.iload_n 2, 1) := by decide +kernel
theorem dX6_rests_8 : decode cX6_rests 8 = .ok (.i2l, 1) := by decide +kernel
theorem dX6_rests_9 : decode cX6_rests 9 = .ok (.lconst 1, 1) := by decide +kernel
theorem dX6_rests_10 : decode cX6_rests 10 = .ok (.ldc2_w 307, 3) := by decide +kernel
theorem dX6_rests_13 : decode cX6_rests 13 = .ok (.invokestatic 69, 3) := by decide +kernel
theorem dX6_rests_16 : decode cX6_rests 16 = .ok (.ifCond .ne 9, 3) := by decide +kernel
theorem dX6_rests_19 : decode cX6_rests 19 = .ok (.aload_n 0, 1) := by decide +kernel
theorem dX6_rests_20 : decode cX6_rests 20 = .ok (.iconst 0, 1) := by decide +kernel
theorem dX6_rests_21 : decode cX6_rests 21 = .ok (.invokevirtual 101, 3) := by decide +kernel
theorem dX6_rests_24 : decode cX6_rests 24 = .ok (.ireturn, 1) := by decide +kernel
theorem dX6_rests_25 : decode cX6_rests 25 = .ok (.aload_n 0, 1) := by decide +kernel
theorem dX6_rests_26 : decode cX6_rests 26 = .ok (.getfield 37, 3) := by decide +kernel
theorem dX6_rests_29 : decode cX6_rests 29 = .ok (.iload_n 1, 1) := by decide +kernel
theorem dX6_rests_30 : decode cX6_rests 30 = .ok (.iaload, 1) := by decide +kernel
theorem dX6_rests_31 : decode cX6_rests 31 = .ok (.ifCond .ge 9, 3) := by decide +kernel
theorem dX6_rests_34 : decode cX6_rests 34 = .ok (.aload_n 0, 1) := by decide +kernel
theorem dX6_rests_35 : decode cX6_rests 35 = .ok (.iconst 5, 1) := by decide +kernel
theorem dX6_rests_36 : decode cX6_rests 36 = .ok (.invokevirtual 101, 3) := by decide +kernel
theorem dX6_rests_39 : decode cX6_rests 39 = .ok (.ireturn, 1) := by decide +kernel
theorem dX6_rests_40 : decode cX6_rests 40 = .ok (.iconst 0, 1) := by decide +kernel
theorem dX6_rests_41 : decode cX6_rests 41 = .ok (.istore_n 3, 1) := by decide +kernel
theorem dX6_rests_42 : decode cX6_rests 42 = .ok (.iload_n 3, 1) := by decide +kernel
theorem dX6_rests_43 : decode cX6_rests 43 = .ok (.aload_n 0, 1) := by decide +kernel
theorem dX6_rests_44 : decode cX6_rests 44 = .ok (.getfield 40, 3) := by decide +kernel
theorem dX6_rests_47 : decode cX6_rests 47 = .ok (.iload_n 1, 1) := by decide +kernel
theorem dX6_rests_48 : decode cX6_rests 48 = .ok (.iaload, 1) := by decide +kernel
theorem dX6_rests_49 : decode cX6_rests 49 = .ok (.if_icmp .ge 97, 3) := by decide +kernel
theorem dX6_rests_52 : decode cX6_rests 52 = .ok (.aload_n 0, 1) := by decide +kernel
theorem dX6_rests_53 : decode cX6_rests 53 = .ok (.getfield 37, 3) := by decide +kernel
theorem dX6_rests_56 : decode cX6_rests 56 = .ok (.iload_n 1, 1) := by decide +kernel
theorem dX6_rests_57 : decode cX6_rests 57 = .ok (.iaload, 1) := by decide +kernel
theorem dX6_rests_58 : decode cX6_rests 58 = .ok (.ifCond .ne 24, 3) := by decide +kernel
theorem dX6_rests_61 : decode cX6_rests 61 = .ok (.aload_n 0, 1) := by decide +kernel
theorem dX6_rests_62 : decode cX6_rests 62 = .ok (.getfield 43, 3) := by decide +kernel
theorem dX6_rests_65 : decode cX6_rests 65 = .ok (.iload_n 1, 1) := by decide +kernel
theorem dX6_rests_66 : decode cX6_rests 66 = .ok (.aaload, 1) := by decide +kernel
theorem dX6_rests_67 : decode cX6_rests 67 = .ok (.iload_n 3, 1) := by decide +kernel
theorem dX6_rests_68 : decode cX6_rests 68 = .ok (.aload_n 0, 1) := by decide +kernel
theorem dX6_rests_69 : decode cX6_rests 69 = .ok (.getfield 43, 3) := by decide +kernel
theorem dX6_rests_72 : decode cX6_rests 72 = .ok (.iload_n 1, 1) := by decide +kernel
theorem dX6_rests_73 : decode cX6_rests 73 = .ok (.aaload, 1) := by decide +kernel
theorem dX6_rests_74 : decode cX6_rests 74 = .ok (.iload_n 3, 1) := by decide +kernel
theorem dX6_rests_75 : decode cX6_rests 75 = .ok (.iaload, 1) := by decide +kernel
theorem dX6_rests_76 : decode cX6_rests 76 = .ok (.iload_n 2, 1) := by decide +kernel
theorem dX6_rests_77 : decode cX6_rests 77 = .ok (.irem, 1) := by decide +kernel
theorem dX6_rests_78 : decode cX6_rests 78 = .ok (.iastore, 1) := by decide +kernel
theorem dX6_rests_79 : decode cX6_rests 79 = .ok (.goto 61, 3) := by decide +kernel
theorem dX6_rests_82 : decode cX6_rests 82 = .ok (.aload_n 0, 1) := by decide +kernel
theorem dX6_rests_83 : decode cX6_rests 83 = .ok (.getfield 37, 3) := by decide +kernel
theorem dX6_rests_86 : decode cX6_rests 86 = .ok (.iload_n 1, 1) := by decide +kernel
theorem dX6_rests_87 : decode cX6_rests 87 = .ok (.iaload, 1) := by decide +kernel
theorem dX6_rests_88 : decode cX6_rests 88 = .ok (.iconst 1, 1) := by decide +kernel
theorem dX6_rests_89 : decode cX6_rests 89 = .ok (.if_icmp .ne 28, 3) := by decide +kernel
theorem dX6_rests_92 : decode cX6_rests 92 = .ok (.aload_n 0, 1) := by decide +kernel
theorem dX6_rests_93 : decode cX6_rests 93 = .ok (.getfield 48, 3) := by decide +kernel
theorem dX6_rests_96 : decode cX6_rests 96 = .ok (.iload_n 1, 1) := by decide +kernel
theorem dX6_rests_97 : decode cX6_rests 97 = .ok (.aaload, 1) := by decide +kernel
theorem dX6_rests_98 : decode cX6_rests 98 = .ok (.iload_n 3, 1) := by decide +kernel
theorem dX6_rests_99 : decode cX6_rests 99 = .ok (.aload_n 0, 1) := by decide +kernel
theorem dX6_rests_100 : decode cX6_rests 100 = .ok (.getfield 48, 3) := by decide +kernel
theorem dX6_rests_103 : decode cX6_rests 103 = .ok (.iload_n 1, 1) := by decide +kernel
theorem dX6_rests_104 : decode cX6_rests 104 = .ok (.aaload, 1) := by decide +kernel
theorem dX6_rests_105 : decode cX6_rests 105 = .ok (.iload_n 3, 1) := by decide +kernel
theorem dX6_rests_106 : decode cX6_rests 106 = .ok (.faload, 1) := by decide +kernel
theorem dX6_rests_107 : decode cX6_rests 107 = .ok (.iload_n 2, 1) := by decide +kernel
theorem dX6_rests_108 : decode cX6_rests 108 = .ok (.i2f, 1) := by decide +kernel
theorem dX6_rests_109 : decode cX6_rests 109 = .ok (.ldc 129, 2) := by decide +kernel
theorem dX6_rests_111 : decode cX6_rests 111 = .ok (.fdiv, 1) := by decide +kernel
theorem dX6_rests_112 : decode cX6_rests 112 = .ok (.frem, 1) := by decide +kernel
theorem dX6_rests_113 : decode cX6_rests 113 = .ok (.fastore, 1) := by decide +kernel
theorem dX6_rests_114 : decode cX6_rests 114 = .ok (.goto 26, 3) := by decide +kernel
theorem dX6_rests_117 : decode cX6_rests 117 = .ok (.aload_n 0, 1) := by decide +kernel
theorem dX6_rests_118 : decode cX6_rests 118 = .ok (.getfield 53, 3) := by decide +kernel
theorem dX6_rests_121 : decode cX6_rests 121 = .ok (.iload_n 1, 1) := by decide +kernel
theorem dX6_rests_122 : decode cX6_rests 122 = .ok (.aaload, 1) := by decide +kernel
theorem dX6_rests_123 : decode cX6_rests 123 = .ok (.iload_n 3, 1) := by decide +kernel
theorem dX6_rests_124 : decode cX6_rests 124 = .ok (.aload_n 0, 1) := by decide +kernel
theorem dX6_rests_125 : decode cX6_rests 125 = .ok (.getfield 53, 3) := by decide +kernel
theorem dX6_rests_128 : decode cX6_rests 128 = .ok (.iload_n 1, 1) := by decide +kernel
theorem dX6_rests_129 : decode cX6_rests 129 = .ok (.aaload, 1) := by decide +kernel
theorem dX6_rests_130 : decode cX6_rests 130 = .ok (.iload_n 3, 1) := by decide +kernel
theorem dX6_rests_131 : decode cX6_rests 131 = .ok (.daload, 1) := by decide +kernel
theorem dX6_rests_132 : decode cX6_rests 132 = .ok (.iload_n 2, 1) := by decide +kernel
theorem dX6_rests_133 : decode cX6_rests 133 = .ok (.i2d, 1) := by decide +kernel
theorem dX6_rests_134 : decode cX6_rests 134 = .ok (.ldc2_w 288, 3) := by decide +kernel
theorem dX6_rests_137 : decode cX6_rests 137 = .ok (.ddiv, 1) := by decide +kernel
theorem dX6_rests_138 : decode cX6_rests 138 = .ok (.drem, 1) := by decide +kernel
theorem dX6_rests_139 : decode cX6_rests 139 = .ok (.dastore, 1) := by decide +kernel
theorem dX6_rests_140 : decode cX6_rests 140 = .ok (.iinc 3 1, 3) := by decide +kernel
theorem dX6_rests_143 : decode cX6_rests 143 = .ok (.goto (-101), 3) := by decide +kernel
theorem dX6_rests_146 : decode cX6_rests 146 = .ok (.aload_n 0, 1) := by decide +kernel
theorem dX6_rests_147 : decode cX6_rests 147 = .ok (.getfield 40, 3) := by decide +kernel
theorem dX6_rests_150 : decode cX6_rests 150 = .ok (.iload_n 1, 1) := by decide +kernel
theorem dX6_rests_151 : decode cX6_rests 151 = .ok (.iaload, 1) := by decide +kernel
theorem dX6_rests_152 : decode cX6_rests 152 = .ok (.ireturn, 1) := by decide +kernel
theorem dX6_sum_0 : decode cX6_sum 0 = .ok (.iload_n 1, 1) := by decide +kernel
theorem dX6_sum_1 : decode cX6_sum 1 = .ok (.invokestatic 282, 3) := by decide +kernel
theorem dX6_sum_4 : decode cX6_sum 4 = .ok (.ifCond .ne 9, 3) := by decide +kernel
theorem dX6_sum_7 : decode cX6_sum 7 = .ok (.aload_n 0, 1) := by decide +kernel
theorem dX6_sum_8 : decode cX6_sum 8 = .ok (.iconst 0, 1) := by decide +kernel
theorem dX6_sum_9 : decode cX6_sum 9 = .ok (.invokevirtual 179, 3) := by decide +kernel
theorem dX6_sum_12 : decode cX6_sum 12 = .ok (.lreturn, 1) := by decide +kernel
theorem dX6_sum_13 : decode cX6_sum 13 = .ok (.aload_n 0, 1) := by decide +kernel
theorem dX6_sum_14 : decode cX6_sum 14 = .ok (.getfield 37, 3) := by decide +kernel
theorem dX6_sum_17 : decode cX6_sum 17 = .ok (.iload_n 1, 1) := by decide +kernel
theorem dX6_sum_18 : decode cX6_sum 18 = .ok (.iaload, 1) := by decide +kernel
theorem dX6_sum_19 : decode cX6_sum 19 = .ok (.ifCond .ge 9, 3) := by decide +kernel
theorem dX6_sum_22 : decode cX6_sum 22 = .ok (.aload_n 0, 1) := by decide +kernel
theorem dX6_sum_23 : decode cX6_sum 23 = .ok (.iconst 5, 1) := by decide +kernel
theorem dX6_sum_24 : decode cX6_sum 24 = .ok (.invokevirtual 179, 3) := by decide +kernel
theorem dX6_sum_27 : decode cX6_sum 27 = .ok (.lreturn, 1) := by decide +kernel
theorem dX6_sum_28 : decode cX6_sum 28 = .ok (.dconst 0, 1) := by decide +kernel
theorem dX6_sum_29 : decode cX6_sum 29 = .ok (.dstore_n 2, 1) := by decide +kernel
theorem dX6_sum_30 : decode cX6_sum 30 = .ok (.iconst 0, 1) := by decide +kernel
theorem dX6_sum_31 : decode cX6_sum 31 = .ok (.istore 4, 2) := by decide +kernel
theorem dX6_sum_33 : decode cX6_sum 33 = .ok (.iload 4, 2) := by decide +kernel
theorem dX6_sum_35 : decode cX6_sum 35 = .ok (.aload_n 0, 1) := by decide +kernel
theorem dX6_sum_36 : decode cX6_sum 36 = .ok (.getfield 40, 3) := by decide +kernel
theorem dX6_sum_39 : decode cX6_sum 39 = .ok (.iload_n 1, 1) := by decide +kernel
theorem dX6_sum_40 : decode cX6_sum 40 = .ok (.iaload, 1) := by decide +kernel
theorem dX6_sum_41 : decode cX6_sum 41 = .ok (.if_icmp .ge 66, 3) := by decide +kernel
theorem dX6_sum_44 : decode cX6_sum 44 = .ok (.dload_n 2, 1) := by decide +kernel
theorem dX6_sum_45 : decode cX6_sum 45 = .ok (.aload_n 0, 1) := by decide +kernel
theorem dX6_sum_46 : decode cX6_sum 46 = .ok (.getfield 37, 3) := by decide +kernel
theorem dX6_sum_49 : decode cX6_sum 49 = .ok (.iload_n 1, 1) := by decide +kernel
theorem dX6_sum_50 : decode cX6_sum 50 = .ok (.iaload, 1) := by decide +kernel
theorem dX6_sum_51 : decode cX6_sum 51 = .ok (.ifCond .ne 16, 3) := by decide +kernel
theorem dX6_sum_54 : decode cX6_sum 54 = .ok (.aload_n 0, 1) := by decide +kernel
theorem dX6_sum_55 : decode cX6_sum 55 = .ok (.getfield 43, 3) := by decide +kernel
theorem dX6_sum_58 : decode cX6_sum 58 = .ok (.iload_n 1, 1) := by decide +kernel
theorem dX6_sum_59 : decode cX6_sum 59 = .ok (.aaload, 1) := by decide +kernel
theorem dX6_sum_60 : decode cX6_sum 60 = .ok (.iload 4, 2) := by decide +kernel
theorem dX6_sum_62 : decode cX6_sum 62 = .ok (.iaload, 1) := by decide +kernel
theorem dX6_sum_63 : decode cX6_sum 63 = .ok (.i2d, 1) := by decide +kernel
theorem dX6_sum_64 : decode cX6_sum 64 = .ok (.goto 35, 3) := by decide +kernel
theorem dX6_sum_67 : decode cX6_sum 67 = .ok (.aload_n 0, 1) := by decide +kernel
theorem dX6_sum_68 : decode cX6_sum 68 = .ok (.getfield 37, 3) := by decide +kernel
theorem dX6_sum_71 : decode cX6_sum 71 = .ok (.iload_n 1, 1) := by decide +kernel
theorem dX6_sum_72 : decode cX6_sum 72 = .ok (.iaload, 1) := by decide +kernel
theorem dX6_sum_73 : decode cX6_sum 73 = .ok (.iconst 1, 1) := by decide +kernel
theorem dX6_sum_74 : decode cX6_sum 74 = .ok (.if_icmp .ne 16, 3) := by decide +kernel
theorem dX6_sum_77 : decode cX6_sum 77 = .ok (.aload_n 0, 1) := by decide +kernel
theorem dX6_sum_78 : decode cX6_sum 78 = .ok (.getfield 48, 3) := by decide +kernel
theorem dX6_sum_81 : decode cX6_sum 81 = .ok (.iload_n 1, 1) := by decide +kernel
theorem dX6_sum_82 : decode cX6_sum 82 = .ok (.aaload, 1) := by decide +kernel
theorem dX6_sum_83 : decode cX6_sum 83 = .ok (.iload 4, 2) := by decide +kernel
theorem dX6_sum_85 : decode cX6_sum 85 = .ok (.faload, 1) := by decide +kernel
theorem dX6_sum_86 : decode cX6_sum 86 = .ok (.f2d, 1) := by decide +kernel
theorem dX6_sum_87 : decode cX6_sum 87 = .ok (.goto 12, 3) := by decide +kernel
theorem dX6_sum_90 : decode cX6_sum 90 = .ok (.aload_n 0, 1) := by decide +kernel
theorem dX6_sum_91 : decode cX6_sum 91 = .ok (.getfield 53, 3) := by decide +kernel
theorem dX6_sum_94 : decode cX6_sum 94 = .ok (.iload_n 1, 1) := by decide +kernel
theorem dX6_sum_95 : decode cX6_sum 95 = .ok (.aaload, 1) := by decide +kernel
theorem dX6_sum_96 : decode cX6_sum 96 = .ok (.iload 4, 2) := by decide +kernel
theorem dX6_sum_98 : decode cX6_sum 98 = .ok (.daload, 1) := by decide +kernel
theorem dX6_sum_99 : decode cX6_sum 99 = .ok (.dadd, 1) := by decide +kernel
theorem dX6_sum_100 : decode cX6_sum 100 = .ok (.dstore_n 2, 1) := by decide +kernel
theorem dX6_sum_101 : decode cX6_sum 101 = .ok (.iinc 4 1, 3) := by decide +kernel
theorem dX6_sum_104 : decode cX6_sum 104 = .ok (.goto (-71), 3) := by decide +kernel
theorem dX6_sum_107 : decode cX6_sum 107 = .ok (.dload_n 2, 1) := by decide +kernel
theorem dX6_sum_108 : decode cX6_sum 108 = .ok (.invokestatic 173, 3) := by decide +kernel
theorem dX6_sum_111 : decode cX6_sum 111 = .ok (.lreturn, 1) := by decide +kernel
theorem dX6_image_0 : decode cX6_image 0 = .ok (.aload_n 0, 1) := by decide +kernel
theorem dX6_image_1 : decode cX6_image 1 = .ok (.iconst 1, 1) := by decide +kernel
theorem dX6_image_2 : decode cX6_image 2 = .ok (.putfield 309, 3) := by decide +kernel
theorem dX6_image_5 : decode cX6_image 5 = .ok (.iconst 0, 1) := by decide +kernel
theorem dX6_image_6 : decode cX6_image 6 = .ok (.istore_n 1, 1) := by decide +kernel
theorem dX6_image_7 : decode cX6_image 7 = .ok (.iload_n 1, 1) := by decide +kernel
theorem dX6_image_8 : decode cX6_image 8 = .ok (.bipush 117, 2) := by decide +kernel
theorem dX6_image_10 : decode cX6_image 10 = .ok (.if_icmp .ge 21, 3) := by decide +kernel
theorem dX6_image_13 : decode cX6_image 13 = .ok (.aload_n 0, 1) := by decide +kernel
theorem dX6_image_14 : decode cX6_image 14 = .ok (.getfield 13, 3) := by decide +kernel
theorem dX6_image_17 : decode cX6_image 17 = .ok (.iload_n 1, 1) := by decide +kernel
theorem dX6_image_18 : decode cX6_image 18 = .ok (.aload_n 0, 1) := by decide +kernel
theorem dX6_image_19 : decode cX6_image 19 = .ok (.getfield 9, 3) := by decide +kernel
theorem dX6_image_22 : decode cX6_image 22 = .ok (.iload_n 1, 1) := by decide +kernel
theorem dX6_image_23 : decode cX6_image 23 = .ok (.iaload, 1) := by decide +kernel
theorem dX6_image_24 : decode cX6_image 24 = .ok (.iastore, 1) := by decide +kernel
theorem dX6_image_25 : decode cX6_image 25 = .ok (.iinc 1 1, 3) := by decide +kernel
theorem dX6_image_28 : decode cX6_image 28 = .ok (.goto (-21), 3) := by decide +kernel
theorem dX6_image_31 : decode cX6_image 31 = .ok (.iconst 1, 1) := by decide +kernel
theorem dX6_image_32 : decode cX6_image 32 = .ok (.ireturn, 1) := by decide +kernel
theorem dX6_back_0 : decode cX6_back 0 = .ok (.aload_n 0, 1) := by decide +kernel
theorem dX6_back_1 : decode cX6_back 1 = .ok (.getfield 309, 3) := by decide +kernel
theorem dX6_back_4 : decode cX6_back 4 = .ok (.ifCond .ne 9, 3) := by decide +kernel
theorem dX6_back_7 : decode cX6_back 7 = .ok (.aload_n 0, 1) := by decide +kernel
theorem dX6_back_8 : decode cX6_back 8 = .ok (.iconst 3, 1) := by decide +kernel
theorem dX6_back_9 : decode cX6_back 9 = .ok (.invokevirtual 101, 3) := by decide +kernel
theorem dX6_back_12 : decode cX6_back 12 = .ok (.ireturn, 1) := by decide +kernel
theorem dX6_back_13 : decode cX6_back 13 = .ok (.iconst 0, 1) := by decide +kernel
theorem dX6_back_14 : decode cX6_back 14 = .ok (.istore_n 1, 1) := by decide +kernel
theorem dX6_back_15 : decode cX6_back 15 = .ok (.iload_n 1, 1) := by decide +kernel
theorem dX6_back_16 : decode cX6_back 16 = .ok (.bipush 117, 2) := by decide +kernel
theorem dX6_back_18 : decode cX6_back 18 = .ok (.if_icmp .ge 21, 3) := by decide +kernel
theorem dX6_back_21 : decode cX6_back 21 = .ok (.aload_n 0, 1) := by decide +kernel
theorem dX6_back_22 : decode cX6_back 22 = .ok (.getfield 9, 3) := by decide +kernel
theorem dX6_back_25 : decode cX6_back 25 = .ok (.iload_n 1, 1) := by decide +kernel
theorem dX6_back_26 : decode cX6_back 26 = .ok (.aload_n 0, 1) := by decide +kernel
theorem dX6_back_27 : decode cX6_back 27 = .ok (.getfield 13, 3) := by decide +kernel
theorem dX6_back_30 : decode cX6_back 30 = .ok (.iload_n 1, 1) := by decide +kernel
theorem dX6_back_31 : decode cX6_back 31 = .ok (.iaload, 1) := by decide +kernel
theorem dX6_back_32 : decode cX6_back 32 = .ok (.iastore, 1) := by decide +kernel
theorem dX6_back_33 : decode cX6_back 33 = .ok (.iinc 1 1, 3) := by decide +kernel
theorem dX6_back_36 : decode cX6_back 36 = .ok (.goto (-21), 3) := by decide +kernel
theorem dX6_back_39 : decode cX6_back 39 = .ok (.aload_n 0, 1) := by decide +kernel
theorem dX6_back_40 : decode cX6_back 40 = .ok (.getfield 9, 3) := by decide +kernel
theorem dX6_back_43 : decode cX6_back 43 = .ok (.iconst 0, 1) := by decide +kernel
theorem dX6_back_44 : decode cX6_back 44 = .ok (.iaload, 1) := by decide +kernel
theorem dX6_back_45 : decode cX6_back 45 = .ok (.ireturn, 1) := by decide +kernel
theorem dX6_count_0 : decode cX6_count 0 = .ok (.iconst 0, 1) := by decide +kernel
theorem dX6_count_1 : decode cX6_count 1 = .ok (.istore_n 2, 1) := by decide +kernel
theorem dX6_count_2 : decode cX6_count 2 = .ok (.iconst 0, 1) := by decide +kernel
theorem dX6_count_3 : decode cX6_count 3 = .ok (.istore_n 3, 1) := by decide +kernel
theorem dX6_count_4 : decode cX6_count 4 = .ok (.iconst 0, 1) := by decide +kernel
theorem dX6_count_5 : decode cX6_count 5 = .ok (.istore 4, 2) := by decide +kernel
theorem dX6_count_7 : decode cX6_count 7 = .ok (.iconst 0, 1) := by decide +kernel
theorem dX6_count_8 : decode cX6_count 8 = .ok (.istore 5, 2) := by decide +kernel
theorem dX6_count_10 : decode cX6_count 10 = .ok (.iload 5, 2) := by decide +kernel
theorem dX6_count_12 : decode cX6_count 12 = .ok (.aload_n 0, 1) := by decide +kernel
theorem dX6_count_13 : decode cX6_count 13 = .ok (.getfield 9, 3) := by decide +kernel
theorem dX6_count_16 : decode cX6_count 16 = .ok (.iconst 0, 1) := by decide +kernel
theorem dX6_count_17 : decode cX6_count 17 = .ok (.iaload, 1) := by decide +kernel
theorem dX6_count_18 : decode cX6_count 18 = .ok (.if_icmp .ge 34, 3) := by decide +kernel
theorem dX6_count_21 : decode cX6_count 21 = .ok (.iload_n 2, 1) := by decide +kernel
theorem dX6_count_22 : decode cX6_count 22 = .ok (.aload_n 0, 1) := by decide +kernel
theorem dX6_count_23 : decode cX6_count 23 = .ok (.iload 5, 2) := by decide +kernel
theorem dX6_count_25 : decode cX6_count 25 = .ok (.bipush 7, 2) := by decide +kernel
theorem dX6_count_27 : decode cX6_count 27 = .ok (.invokevirtual 110, 3) := by decide +kernel
theorem dX6_count_30 : decode cX6_count 30 = .ok (.invokestatic 212, 3) := by decide +kernel
theorem dX6_count_33 : decode cX6_count 33 = .ok (.iadd, 1) := by decide +kernel
theorem dX6_count_34 : decode cX6_count 34 = .ok (.istore_n 2, 1) := by decide +kernel
theorem dX6_count_35 : decode cX6_count 35 = .ok (.iload_n 3, 1) := by decide +kernel
theorem dX6_count_36 : decode cX6_count 36 = .ok (.aload_n 0, 1) := by decide +kernel
theorem dX6_count_37 : decode cX6_count 37 = .ok (.iload 5, 2) := by decide +kernel
theorem dX6_count_39 : decode cX6_count 39 = .ok (.bipush 6, 2) := by decide +kernel
theorem dX6_count_41 : decode cX6_count 41 = .ok (.invokevirtual 110, 3) := by decide +kernel
theorem dX6_count_44 : decode cX6_count 44 = .ok (.iadd, 1) := by decide +kernel
theorem dX6_count_45 : decode cX6_count 45 = .ok (.istore_n 3, 1) := by decide +kernel
theorem dX6_count_46 : decode cX6_count 46 = .ok (.iinc 5 1, 3) := by decide +kernel
theorem dX6_count_49 : decode cX6_count 49 = .ok (.goto (-39), 3) := by decide +kernel
theorem dX6_count_52 : decode cX6_count 52 = .ok (.iconst 0, 1) := by decide +kernel
theorem dX6_count_53 : decode cX6_count 53 = .ok (.istore 5, 2) := by decide +kernel
theorem dX6_count_55 : decode cX6_count 55 = .ok (.iload 5, 2) := by decide +kernel
theorem dX6_count_57 : decode cX6_count 57 = .ok (.iconst 4, 1) := by decide +kernel
theorem dX6_count_58 : decode cX6_count 58 = .ok (.if_icmp .ge 20, 3) := by decide +kernel
theorem dX6_count_61 : decode cX6_count 61 = .ok (.iload 4, 2) := by decide +kernel
theorem dX6_count_63 : decode cX6_count 63 = .ok (.aload_n 0, 1) := by decide +kernel
theorem dX6_count_64 : decode cX6_count 64 = .ok (.iload 5, 2) := by decide +kernel
theorem dX6_count_66 : decode cX6_count 66 = .ok (.invokevirtual 279, 3) := by decide +kernel
theorem dX6_count_69 : decode cX6_count 69 = .ok (.iadd, 1) := by decide +kernel
theorem dX6_count_70 : decode cX6_count 70 = .ok (.istore 4, 2) := by decide +kernel
theorem dX6_count_72 : decode cX6_count 72 = .ok (.iinc 5 1, 3) := by decide +kernel
theorem dX6_count_75 : decode cX6_count 75 = .ok (.goto (-20), 3) := by decide +kernel
theorem dX6_count_78 : decode cX6_count 78 = .ok (.iload_n 1, 1) := by decide +kernel
theorem dX6_count_79 : decode cX6_count 79 = .ok (.tableswitch 76 0 5 #[37, 44, 48, 50, 65, 73], 37) := by decide +kernel
theorem dX6_count_116 : decode cX6_count 116 = .ok (.aload_n 0, 1) := by decide +kernel
theorem dX6_count_117 : decode cX6_count 117 = .ok (.getfield 9, 3) := by decide +kernel
theorem dX6_count_120 : decode cX6_count 120 = .ok (.iconst 0, 1) := by decide +kernel
theorem dX6_count_121 : decode cX6_count 121 = .ok (.iaload, 1) := by decide +kernel
theorem dX6_count_122 : decode cX6_count 122 = .ok (.ireturn, 1) := by decide +kernel
theorem dX6_count_123 : decode cX6_count 123 = .ok (.iload_n 2, 1) := by decide +kernel
theorem dX6_count_124 : decode cX6_count 124 = .ok (.iconst 2, 1) := by decide +kernel
theorem dX6_count_125 : decode cX6_count 125 = .ok (.idiv, 1) := by decide +kernel
theorem dX6_count_126 : decode cX6_count 126 = .ok (.ireturn, 1) := by decide +kernel
theorem dX6_count_127 : decode cX6_count 127 = .ok (.iload_n 3, 1) := by decide +kernel
theorem dX6_count_128 : decode cX6_count 128 = .ok (.ireturn, 1) := by decide +kernel
theorem dX6_count_129 : decode cX6_count 129 = .ok (.aload_n 0, 1) := by decide +kernel
theorem dX6_count_130 : decode cX6_count 130 = .ok (.iconst 1, 1) := by decide +kernel
theorem dX6_count_131 : decode cX6_count 131 = .ok (.aload_n 0, 1) := by decide +kernel
theorem dX6_count_132 : decode cX6_count 132 = .ok (.getfield 9, 3) := by decide +kernel
theorem dX6_count_135 : decode cX6_count 135 = .ok (.iconst 0, 1) := by decide +kernel
theorem dX6_count_136 : decode cX6_count 136 = .ok (.iaload, 1) := by decide +kernel
theorem dX6_count_137 : decode cX6_count 137 = .ok (.ishl, 1) := by decide +kernel
theorem dX6_count_138 : decode cX6_count 138 = .ok (.iconst 1, 1) := by decide +kernel
theorem dX6_count_139 : decode cX6_count 139 = .ok (.isub, 1) := by decide +kernel
theorem dX6_count_140 : decode cX6_count 140 = .ok (.invokevirtual 218, 3) := by decide +kernel
theorem dX6_count_143 : decode cX6_count 143 = .ok (.ireturn, 1) := by decide +kernel
theorem dX6_count_144 : decode cX6_count 144 = .ok (.aload_n 0, 1) := by decide +kernel
theorem dX6_count_145 : decode cX6_count 145 = .ok (.getfield 9, 3) := by decide +kernel
theorem dX6_count_148 : decode cX6_count 148 = .ok (.bipush 116, 2) := by decide +kernel
theorem dX6_count_150 : decode cX6_count 150 = .ok (.iaload, 1) := by decide +kernel
theorem dX6_count_151 : decode cX6_count 151 = .ok (.ireturn, 1) := by decide +kernel
theorem dX6_count_152 : decode cX6_count 152 = .ok (.iload 4, 2) := by decide +kernel
theorem dX6_count_154 : decode cX6_count 154 = .ok (.ireturn, 1) := by decide +kernel
theorem dX6_count_155 : decode cX6_count 155 = .ok (.aload_n 0, 1) := by decide +kernel
theorem dX6_count_156 : decode cX6_count 156 = .ok (.iconst 0, 1) := by decide +kernel
theorem dX6_count_157 : decode cX6_count 157 = .ok (.invokevirtual 101, 3) := by decide +kernel
theorem dX6_count_160 : decode cX6_count 160 = .ok (.ireturn, 1) := by decide +kernel
theorem dX6_status_0 : decode cX6_status 0 = .ok (.iload_n 1, 1) := by decide +kernel
theorem dX6_status_1 : decode cX6_status 1 = .ok (.i2l, 1) := by decide +kernel
theorem dX6_status_2 : decode cX6_status 2 = .ok (.ldc2_w 93, 3) := by decide +kernel
theorem dX6_status_5 : decode cX6_status 5 = .ok (.ldc2_w 108, 3) := by decide +kernel
theorem dX6_status_8 : decode cX6_status 8 = .ok (.invokestatic 69, 3) := by decide +kernel
theorem dX6_status_11 : decode cX6_status 11 = .ok (.ifCond .ne 9, 3) := by decide +kernel
theorem dX6_status_14 : decode cX6_status 14 = .ok (.aload_n 0, 1) := by decide +kernel
theorem dX6_status_15 : decode cX6_status 15 = .ok (.iconst 0, 1) := by decide +kernel
theorem dX6_status_16 : decode cX6_status 16 = .ok (.invokevirtual 101, 3) := by decide +kernel
theorem dX6_status_19 : decode cX6_status 19 = .ok (.ireturn, 1) := by decide +kernel
theorem dX6_status_20 : decode cX6_status 20 = .ok (.iconst 0, 1) := by decide +kernel
theorem dX6_status_21 : decode cX6_status 21 = .ok (.istore_n 2, 1) := by decide +kernel
theorem dX6_status_22 : decode cX6_status 22 = .ok (.iconst 0, 1) := by decide +kernel
theorem dX6_status_23 : decode cX6_status 23 = .ok (.istore_n 3, 1) := by decide +kernel
theorem dX6_status_24 : decode cX6_status 24 = .ok (.iload_n 3, 1) := by decide +kernel
theorem dX6_status_25 : decode cX6_status 25 = .ok (.bipush 8, 2) := by decide +kernel
theorem dX6_status_27 : decode cX6_status 27 = .ok (.if_icmp .ge 31, 3) := by decide +kernel
theorem dX6_status_30 : decode cX6_status 30 = .ok (.iload_n 2, 1) := by decide +kernel
theorem dX6_status_31 : decode cX6_status 31 = .ok (.iload_n 1, 1) := by decide +kernel
theorem dX6_status_32 : decode cX6_status 32 = .ok (.ifCond .lt 8, 3) := by decide +kernel
theorem dX6_status_35 : decode cX6_status 35 = .ok (.iload_n 1, 1) := by decide +kernel
theorem dX6_status_36 : decode cX6_status 36 = .ok (.iload_n 3, 1) := by decide +kernel
theorem dX6_status_37 : decode cX6_status 37 = .ok (.if_icmp .ne 12, 3) := by decide +kernel
theorem dX6_status_40 : decode cX6_status 40 = .ok (.aload_n 0, 1) := by decide +kernel
theorem dX6_status_41 : decode cX6_status 41 = .ok (.getfield 16, 3) := by decide +kernel
theorem dX6_status_44 : decode cX6_status 44 = .ok (.iload_n 3, 1) := by decide +kernel
theorem dX6_status_45 : decode cX6_status 45 = .ok (.iaload, 1) := by decide +kernel
theorem dX6_status_46 : decode cX6_status 46 = .ok (.goto 4, 3) := by decide +kernel
theorem dX6_status_49 : decode cX6_status 49 = .ok (.iconst 0, 1) := by decide +kernel
theorem dX6_status_50 : decode cX6_status 50 = .ok (.iadd, 1) := by decide +kernel
theorem dX6_status_51 : decode cX6_status 51 = .ok (.istore_n 2, 1) := by decide +kernel
theorem dX6_status_52 : decode cX6_status 52 = .ok (.iinc 3 1, 3) := by decide +kernel
theorem dX6_status_55 : decode cX6_status 55 = .ok (.goto (-31), 3) := by decide +kernel
theorem dX6_status_58 : decode cX6_status 58 = .ok (.iload_n 2, 1) := by decide +kernel
theorem dX6_status_59 : decode cX6_status 59 = .ok (.ireturn, 1) := by decide +kernel
theorem dJxe99ae_isNaN_b9ae7_0 : decode cJxe99ae_isNaN_b9ae7 0 = .ok (.dload_n 0, 1) := by decide +kernel
theorem dJxe99ae_isNaN_b9ae7_1 : decode cJxe99ae_isNaN_b9ae7 1 = .ok (.dload_n 0, 1) := by decide +kernel
theorem dJxe99ae_isNaN_b9ae7_2 : decode cJxe99ae_isNaN_b9ae7 2 = .ok (.dcmp .l, 1) := by decide +kernel
theorem dJxe99ae_isNaN_b9ae7_3 : decode cJxe99ae_isNaN_b9ae7 3 = .ok (.ifCond .eq 7, 3) := by decide +kernel
theorem dJxe99ae_isNaN_b9ae7_6 : decode cJxe99ae_isNaN_b9ae7 6 = .ok (.iconst 1, 1) := by decide +kernel
theorem dJxe99ae_isNaN_b9ae7_7 : decode cJxe99ae_isNaN_b9ae7 7 = .ok (.goto 4, 3) := by decide +kernel
theorem dJxe99ae_isNaN_b9ae7_10 : decode cJxe99ae_isNaN_b9ae7 10 = .ok (.iconst 0, 1) := by decide +kernel
theorem dJxe99ae_isNaN_b9ae7_11 : decode cJxe99ae_isNaN_b9ae7 11 = .ok (.ireturn, 1) := by decide +kernel
theorem dJxe99ae_doubleToLongBits_ccdee_0 : decode cJxe99ae_doubleToLongBits_ccdee 0 = .ok (.dload_n 0, 1) := by decide +kernel
theorem dJxe99ae_doubleToLongBits_ccdee_1 : decode cJxe99ae_doubleToLongBits_ccdee 1 = .ok (.invokestatic 122, 3) := by decide +kernel
theorem dJxe99ae_doubleToLongBits_ccdee_4 : decode cJxe99ae_doubleToLongBits_ccdee 4 = .ok (.ifCond .ne 8, 3) := by decide +kernel
theorem dJxe99ae_doubleToLongBits_ccdee_7 : decode cJxe99ae_doubleToLongBits_ccdee 7 = .ok (.dload_n 0, 1) := by decide +kernel
theorem dJxe99ae_doubleToLongBits_ccdee_8 : decode cJxe99ae_doubleToLongBits_ccdee 8 = .ok (.invokestatic 134, 3) := by decide +kernel
theorem dJxe99ae_doubleToLongBits_ccdee_11 : decode cJxe99ae_doubleToLongBits_ccdee 11 = .ok (.lreturn, 1) := by decide +kernel
theorem dJxe99ae_doubleToLongBits_ccdee_12 : decode cJxe99ae_doubleToLongBits_ccdee 12 = .ok (.ldc2_w 137, 3) := by decide +kernel
theorem dJxe99ae_doubleToLongBits_ccdee_15 : decode cJxe99ae_doubleToLongBits_ccdee 15 = .ok (.lreturn, 1) := by decide +kernel
theorem dJxf58ca_isNaN_12338_0 : decode cJxf58ca_isNaN_12338 0 = .ok (.fload_n 0, 1) := by decide +kernel
theorem dJxf58ca_isNaN_12338_1 : decode cJxf58ca_isNaN_12338 1 = .ok (.fload_n 0, 1) := by decide +kernel
theorem dJxf58ca_isNaN_12338_2 : decode cJxf58ca_isNaN_12338 2 = .ok (.fcmp .l, 1) := by decide +kernel
theorem dJxf58ca_isNaN_12338_3 : decode cJxf58ca_isNaN_12338 3 = .ok (.ifCond .eq 7, 3) := by decide +kernel
theorem dJxf58ca_isNaN_12338_6 : decode cJxf58ca_isNaN_12338 6 = .ok (.iconst 1, 1) := by decide +kernel
theorem dJxf58ca_isNaN_12338_7 : decode cJxf58ca_isNaN_12338 7 = .ok (.goto 4, 3) := by decide +kernel
theorem dJxf58ca_isNaN_12338_10 : decode cJxf58ca_isNaN_12338 10 = .ok (.iconst 0, 1) := by decide +kernel
theorem dJxf58ca_isNaN_12338_11 : decode cJxf58ca_isNaN_12338 11 = .ok (.ireturn, 1) := by decide +kernel
theorem dJxf58ca_floatToIntBits_5c35a_0 : decode cJxf58ca_floatToIntBits_5c35a 0 = .ok (.fload_n 0, 1) := by decide +kernel
theorem dJxf58ca_floatToIntBits_5c35a_1 : decode cJxf58ca_floatToIntBits_5c35a 1 = .ok (.invokestatic 59, 3) := by decide +kernel
theorem dJxf58ca_floatToIntBits_5c35a_4 : decode cJxf58ca_floatToIntBits_5c35a 4 = .ok (.ifCond .ne 8, 3) := by decide +kernel
theorem dJxf58ca_floatToIntBits_5c35a_7 : decode cJxf58ca_floatToIntBits_5c35a 7 = .ok (.fload_n 0, 1) := by decide +kernel
theorem dJxf58ca_floatToIntBits_5c35a_8 : decode cJxf58ca_floatToIntBits_5c35a 8 = .ok (.invokestatic 74, 3) := by decide +kernel
theorem dJxf58ca_floatToIntBits_5c35a_11 : decode cJxf58ca_floatToIntBits_5c35a 11 = .ok (.ireturn, 1) := by decide +kernel
theorem dJxf58ca_floatToIntBits_5c35a_12 : decode cJxf58ca_floatToIntBits_5c35a 12 = .ok (.ldc 77, 2) := by decide +kernel
theorem dJxf58ca_floatToIntBits_5c35a_14 : decode cJxf58ca_floatToIntBits_5c35a 14 = .ok (.ireturn, 1) := by decide +kernel
theorem dJ6_bitCount_0f7a4_0 : decode cJ6_bitCount_0f7a4 0 = .ok (.iload_n 0, 1) := by decide +kernel
theorem dJ6_bitCount_0f7a4_1 : decode cJ6_bitCount_0f7a4 1 = .ok (.iload_n 0, 1) := by decide +kernel
theorem dJ6_bitCount_0f7a4_2 : decode cJ6_bitCount_0f7a4 2 = .ok (.iconst 1, 1) := by decide +kernel
theorem dJ6_bitCount_0f7a4_3 : decode cJ6_bitCount_0f7a4 3 = .ok (.iushr, 1) := by decide +kernel
theorem dJ6_bitCount_0f7a4_4 : decode cJ6_bitCount_0f7a4 4 = .ok (.ldc_w 265, 3) := by decide +kernel
theorem dJ6_bitCount_0f7a4_7 : decode cJ6_bitCount_0f7a4 7 = .ok (.iand, 1) := by decide +kernel
theorem dJ6_bitCount_0f7a4_8 : decode cJ6_bitCount_0f7a4 8 = .ok (.isub, 1) := by decide +kernel
theorem dJ6_bitCount_0f7a4_9 : decode cJ6_bitCount_0f7a4 9 = .ok (.istore_n 0, 1) := by decide +kernel
theorem dJ6_bitCount_0f7a4_10 : decode cJ6_bitCount_0f7a4 10 = .ok (.iload_n 0, 1) := by decide +kernel
theorem dJ6_bitCount_0f7a4_11 : decode cJ6_bitCount_0f7a4 11 = .ok (.ldc_w 266, 3) := by decide +kernel
theorem dJ6_bitCount_0f7a4_14 : decode cJ6_bitCount_0f7a4 14 = .ok (.iand, 1) := by decide +kernel
theorem dJ6_bitCount_0f7a4_15 : decode cJ6_bitCount_0f7a4 15 = .ok (.iload_n 0, 1) := by decide +kernel
theorem dJ6_bitCount_0f7a4_16 : decode cJ6_bitCount_0f7a4 16 = .ok (.iconst 2, 1) := by decide +kernel
theorem dJ6_bitCount_0f7a4_17 : decode cJ6_bitCount_0f7a4 17 = .ok (.iushr, 1) := by decide +kernel
theorem dJ6_bitCount_0f7a4_18 : decode cJ6_bitCount_0f7a4 18 = .ok (.ldc_w 266, 3) := by decide +kernel
theorem dJ6_bitCount_0f7a4_21 : decode cJ6_bitCount_0f7a4 21 = .ok (.iand, 1) := by decide +kernel
theorem dJ6_bitCount_0f7a4_22 : decode cJ6_bitCount_0f7a4 22 = .ok (.iadd, 1) := by decide +kernel
theorem dJ6_bitCount_0f7a4_23 : decode cJ6_bitCount_0f7a4 23 = .ok (.istore_n 0, 1) := by decide +kernel
theorem dJ6_bitCount_0f7a4_24 : decode cJ6_bitCount_0f7a4 24 = .ok (.iload_n 0, 1) := by decide +kernel
theorem dJ6_bitCount_0f7a4_25 : decode cJ6_bitCount_0f7a4 25 = .ok (.iload_n 0, 1) := by decide +kernel
theorem dJ6_bitCount_0f7a4_26 : decode cJ6_bitCount_0f7a4 26 = .ok (.iconst 4, 1) := by decide +kernel
theorem dJ6_bitCount_0f7a4_27 : decode cJ6_bitCount_0f7a4 27 = .ok (.iushr, 1) := by decide +kernel
theorem dJ6_bitCount_0f7a4_28 : decode cJ6_bitCount_0f7a4 28 = .ok (.iadd, 1) := by decide +kernel
theorem dJ6_bitCount_0f7a4_29 : decode cJ6_bitCount_0f7a4 29 = .ok (.ldc_w 267, 3) := by decide +kernel
theorem dJ6_bitCount_0f7a4_32 : decode cJ6_bitCount_0f7a4 32 = .ok (.iand, 1) := by decide +kernel
theorem dJ6_bitCount_0f7a4_33 : decode cJ6_bitCount_0f7a4 33 = .ok (.istore_n 0, 1) := by decide +kernel
theorem dJ6_bitCount_0f7a4_34 : decode cJ6_bitCount_0f7a4 34 = .ok (.iload_n 0, 1) := by decide +kernel
theorem dJ6_bitCount_0f7a4_35 : decode cJ6_bitCount_0f7a4 35 = .ok (.iload_n 0, 1) := by decide +kernel
theorem dJ6_bitCount_0f7a4_36 : decode cJ6_bitCount_0f7a4 36 = .ok (.bipush 8, 2) := by decide +kernel
theorem dJ6_bitCount_0f7a4_38 : decode cJ6_bitCount_0f7a4 38 = .ok (.iushr, 1) := by decide +kernel
theorem dJ6_bitCount_0f7a4_39 : decode cJ6_bitCount_0f7a4 39 = .ok (.iadd, 1) := by decide +kernel
theorem dJ6_bitCount_0f7a4_40 : decode cJ6_bitCount_0f7a4 40 = .ok (.istore_n 0, 1) := by decide +kernel
theorem dJ6_bitCount_0f7a4_41 : decode cJ6_bitCount_0f7a4 41 = .ok (.iload_n 0, 1) := by decide +kernel
theorem dJ6_bitCount_0f7a4_42 : decode cJ6_bitCount_0f7a4 42 = .ok (.iload_n 0, 1) := by decide +kernel
theorem dJ6_bitCount_0f7a4_43 : decode cJ6_bitCount_0f7a4 43 = .ok (.bipush 16, 2) := by decide +kernel
theorem dJ6_bitCount_0f7a4_45 : decode cJ6_bitCount_0f7a4 45 = .ok (.iushr, 1) := by decide +kernel
theorem dJ6_bitCount_0f7a4_46 : decode cJ6_bitCount_0f7a4 46 = .ok (.iadd, 1) := by decide +kernel
theorem dJ6_bitCount_0f7a4_47 : decode cJ6_bitCount_0f7a4 47 = .ok (.istore_n 0, 1) := by decide +kernel
theorem dJ6_bitCount_0f7a4_48 : decode cJ6_bitCount_0f7a4 48 = .ok (.iload_n 0, 1) := by decide +kernel
theorem dJ6_bitCount_0f7a4_49 : decode cJ6_bitCount_0f7a4 49 = .ok (.bipush 63, 2) := by decide +kernel
theorem dJ6_bitCount_0f7a4_51 : decode cJ6_bitCount_0f7a4 51 = .ok (.iand, 1) := by decide +kernel
theorem dJ6_bitCount_0f7a4_52 : decode cJ6_bitCount_0f7a4 52 = .ok (.ireturn, 1) := by decide +kernel
theorem dJ9_abs_f6c48_0 : decode cJ9_abs_f6c48 0 = .ok (.fload_n 0, 1) := by decide +kernel
theorem dJ9_abs_f6c48_1 : decode cJ9_abs_f6c48 1 = .ok (.invokestatic 68, 3) := by decide +kernel
theorem dJ9_abs_f6c48_4 : decode cJ9_abs_f6c48 4 = .ok (.ldc 134, 2) := by decide +kernel
theorem dJ9_abs_f6c48_6 : decode cJ9_abs_f6c48 6 = .ok (.iand, 1) := by decide +kernel
theorem dJ9_abs_f6c48_7 : decode cJ9_abs_f6c48 7 = .ok (.invokestatic 162, 3) := by decide +kernel
theorem dJ9_abs_f6c48_10 : decode cJ9_abs_f6c48 10 = .ok (.freturn, 1) := by decide +kernel
theorem dJ9_abs_294c1_0 : decode cJ9_abs_294c1 0 = .ok (.dload_n 0, 1) := by decide +kernel
theorem dJ9_abs_294c1_1 : decode cJ9_abs_294c1 1 = .ok (.invokestatic 79, 3) := by decide +kernel
theorem dJ9_abs_294c1_4 : decode cJ9_abs_294c1 4 = .ok (.ldc2_w 135, 3) := by decide +kernel
theorem dJ9_abs_294c1_7 : decode cJ9_abs_294c1 7 = .ok (.land, 1) := by decide +kernel
theorem dJ9_abs_294c1_8 : decode cJ9_abs_294c1 8 = .ok (.invokestatic 166, 3) := by decide +kernel
theorem dJ9_abs_294c1_11 : decode cJ9_abs_294c1 11 = .ok (.dreturn, 1) := by decide +kernel
theorem dJ9_max_eb370_0 : decode cJ9_max_eb370 0 = .ok (.dload_n 0, 1) := by decide +kernel
theorem dJ9_max_eb370_1 : decode cJ9_max_eb370 1 = .ok (.dload_n 0, 1) := by decide +kernel
theorem dJ9_max_eb370_2 : decode cJ9_max_eb370 2 = .ok (.dcmp .l, 1) := by decide +kernel
theorem dJ9_max_eb370_3 : decode cJ9_max_eb370 3 = .ok (.ifCond .eq 5, 3) := by decide +kernel
theorem dJ9_max_eb370_6 : decode cJ9_max_eb370 6 = .ok (.dload_n 0, 1) := by decide +kernel
theorem dJ9_max_eb370_7 : decode cJ9_max_eb370 7 = .ok (.dreturn, 1) := by decide +kernel
theorem dJ9_max_eb370_8 : decode cJ9_max_eb370 8 = .ok (.dload_n 0, 1) := by decide +kernel
theorem dJ9_max_eb370_9 : decode cJ9_max_eb370 9 = .ok (.dconst 0, 1) := by decide +kernel
theorem dJ9_max_eb370_10 : decode cJ9_max_eb370 10 = .ok (.dcmp .l, 1) := by decide +kernel
theorem dJ9_max_eb370_11 : decode cJ9_max_eb370 11 = .ok (.ifCond .ne 22, 3) := by decide +kernel
theorem dJ9_max_eb370_14 : decode cJ9_max_eb370 14 = .ok (.dload_n 2, 1) := by decide +kernel
theorem dJ9_max_eb370_15 : decode cJ9_max_eb370 15 = .ok (.dconst 0, 1) := by decide +kernel
theorem dJ9_max_eb370_16 : decode cJ9_max_eb370 16 = .ok (.dcmp .l, 1) := by decide +kernel
theorem dJ9_max_eb370_17 : decode cJ9_max_eb370 17 = .ok (.ifCond .ne 16, 3) := by decide +kernel
theorem dJ9_max_eb370_20 : decode cJ9_max_eb370 20 = .ok (.dload_n 0, 1) := by decide +kernel
theorem dJ9_max_eb370_21 : decode cJ9_max_eb370 21 = .ok (.invokestatic 79, 3) := by decide +kernel
theorem dJ9_max_eb370_24 : decode cJ9_max_eb370 24 = .ok (.getstatic 174, 3) := by decide +kernel
theorem dJ9_max_eb370_27 : decode cJ9_max_eb370 27 = .ok (.lcmp, 1) := by decide +kernel
theorem dJ9_max_eb370_28 : decode cJ9_max_eb370 28 = .ok (.ifCond .ne 5, 3) := by decide +kernel
theorem dJ9_max_eb370_31 : decode cJ9_max_eb370 31 = .ok (.dload_n 2, 1) := by decide +kernel
theorem dJ9_max_eb370_32 : decode cJ9_max_eb370 32 = .ok (.dreturn, 1) := by decide +kernel
theorem dJ9_max_eb370_33 : decode cJ9_max_eb370 33 = .ok (.dload_n 0, 1) := by decide +kernel
theorem dJ9_max_eb370_34 : decode cJ9_max_eb370 34 = .ok (.dload_n 2, 1) := by decide +kernel
theorem dJ9_max_eb370_35 : decode cJ9_max_eb370 35 = .ok (.dcmp .l, 1) := by decide +kernel
theorem dJ9_max_eb370_36 : decode cJ9_max_eb370 36 = .ok (.ifCond .lt 7, 3) := by decide +kernel
theorem dJ9_max_eb370_39 : decode cJ9_max_eb370 39 = .ok (.dload_n 0, 1) := by decide +kernel
theorem dJ9_max_eb370_40 : decode cJ9_max_eb370 40 = .ok (.goto 4, 3) := by decide +kernel
theorem dJ9_max_eb370_43 : decode cJ9_max_eb370 43 = .ok (.dload_n 2, 1) := by decide +kernel
theorem dJ9_max_eb370_44 : decode cJ9_max_eb370 44 = .ok (.dreturn, 1) := by decide +kernel
theorem dJ9_min_7cf53_0 : decode cJ9_min_7cf53 0 = .ok (.iload_n 0, 1) := by decide +kernel
theorem dJ9_min_7cf53_1 : decode cJ9_min_7cf53 1 = .ok (.iload_n 1, 1) := by decide +kernel
theorem dJ9_min_7cf53_2 : decode cJ9_min_7cf53 2 = .ok (.if_icmp .gt 7, 3) := by decide +kernel
theorem dJ9_min_7cf53_5 : decode cJ9_min_7cf53 5 = .ok (.iload_n 0, 1) := by decide +kernel
theorem dJ9_min_7cf53_6 : decode cJ9_min_7cf53 6 = .ok (.goto 4, 3) := by decide +kernel
theorem dJ9_min_7cf53_9 : decode cJ9_min_7cf53 9 = .ok (.iload_n 1, 1) := by decide +kernel
theorem dJ9_min_7cf53_10 : decode cJ9_min_7cf53 10 = .ok (.ireturn, 1) := by decide +kernel
theorem dJ9_min_eb370_0 : decode cJ9_min_eb370 0 = .ok (.dload_n 0, 1) := by decide +kernel
theorem dJ9_min_eb370_1 : decode cJ9_min_eb370 1 = .ok (.dload_n 0, 1) := by decide +kernel
theorem dJ9_min_eb370_2 : decode cJ9_min_eb370 2 = .ok (.dcmp .l, 1) := by decide +kernel
theorem dJ9_min_eb370_3 : decode cJ9_min_eb370 3 = .ok (.ifCond .eq 5, 3) := by decide +kernel
theorem dJ9_min_eb370_6 : decode cJ9_min_eb370 6 = .ok (.dload_n 0, 1) := by decide +kernel
theorem dJ9_min_eb370_7 : decode cJ9_min_eb370 7 = .ok (.dreturn, 1) := by decide +kernel
theorem dJ9_min_eb370_8 : decode cJ9_min_eb370 8 = .ok (.dload_n 0, 1) := by decide +kernel
theorem dJ9_min_eb370_9 : decode cJ9_min_eb370 9 = .ok (.dconst 0, 1) := by decide +kernel
theorem dJ9_min_eb370_10 : decode cJ9_min_eb370 10 = .ok (.dcmp .l, 1) := by decide +kernel
theorem dJ9_min_eb370_11 : decode cJ9_min_eb370 11 = .ok (.ifCond .ne 22, 3) := by decide +kernel
theorem dJ9_min_eb370_14 : decode cJ9_min_eb370 14 = .ok (.dload_n 2, 1) := by decide +kernel
theorem dJ9_min_eb370_15 : decode cJ9_min_eb370 15 = .ok (.dconst 0, 1) := by decide +kernel
theorem dJ9_min_eb370_16 : decode cJ9_min_eb370 16 = .ok (.dcmp .l, 1) := by decide +kernel
theorem dJ9_min_eb370_17 : decode cJ9_min_eb370 17 = .ok (.ifCond .ne 16, 3) := by decide +kernel
theorem dJ9_min_eb370_20 : decode cJ9_min_eb370 20 = .ok (.dload_n 2, 1) := by decide +kernel
theorem dJ9_min_eb370_21 : decode cJ9_min_eb370 21 = .ok (.invokestatic 79, 3) := by decide +kernel
theorem dJ9_min_eb370_24 : decode cJ9_min_eb370 24 = .ok (.getstatic 174, 3) := by decide +kernel
theorem dJ9_min_eb370_27 : decode cJ9_min_eb370 27 = .ok (.lcmp, 1) := by decide +kernel
theorem dJ9_min_eb370_28 : decode cJ9_min_eb370 28 = .ok (.ifCond .ne 5, 3) := by decide +kernel
theorem dJ9_min_eb370_31 : decode cJ9_min_eb370 31 = .ok (.dload_n 2, 1) := by decide +kernel
theorem dJ9_min_eb370_32 : decode cJ9_min_eb370 32 = .ok (.dreturn, 1) := by decide +kernel
theorem dJ9_min_eb370_33 : decode cJ9_min_eb370 33 = .ok (.dload_n 0, 1) := by decide +kernel
theorem dJ9_min_eb370_34 : decode cJ9_min_eb370 34 = .ok (.dload_n 2, 1) := by decide +kernel
theorem dJ9_min_eb370_35 : decode cJ9_min_eb370 35 = .ok (.dcmp .g, 1) := by decide +kernel
theorem dJ9_min_eb370_36 : decode cJ9_min_eb370 36 = .ok (.ifCond .gt 7, 3) := by decide +kernel
theorem dJ9_min_eb370_39 : decode cJ9_min_eb370 39 = .ok (.dload_n 0, 1) := by decide +kernel
theorem dJ9_min_eb370_40 : decode cJ9_min_eb370 40 = .ok (.goto 4, 3) := by decide +kernel
theorem dJ9_min_eb370_43 : decode cJ9_min_eb370 43 = .ok (.dload_n 2, 1) := by decide +kernel
theorem dJ9_min_eb370_44 : decode cJ9_min_eb370 44 = .ok (.dreturn, 1) := by decide +kernel
theorem dL_law_0 : decode cL_law 0 = .ok (.new 7, 3) := by decide +kernel
theorem dL_law_3 : decode cL_law 3 = .ok (.dup, 1) := by decide +kernel
theorem dL_law_4 : decode cL_law 4 = .ok (.invokespecial 9, 3) := by decide +kernel
theorem dL_law_7 : decode cL_law 7 = .ok (.astore_n 1, 1) := by decide +kernel
theorem dL_law_8 : decode cL_law 8 = .ok (.new 10, 3) := by decide +kernel
theorem dL_law_11 : decode cL_law 11 = .ok (.dup, 1) := by decide +kernel
theorem dL_law_12 : decode cL_law 12 = .ok (.invokespecial 12, 3) := by decide +kernel
theorem dL_law_15 : decode cL_law 15 = .ok (.astore_n 2, 1) := by decide +kernel
theorem dL_law_16 : decode cL_law 16 = .ok (.iconst 0, 1) := by decide +kernel
theorem dL_law_17 : decode cL_law 17 = .ok (.istore_n 3, 1) := by decide +kernel
theorem dL_law_18 : decode cL_law 18 = .ok (.iload_n 3, 1) := by decide +kernel
theorem dL_law_19 : decode cL_law 19 = .ok (.aload_n 0, 1) := by decide +kernel
theorem dL_law_20 : decode cL_law 20 = .ok (.arraylength, 1) := by decide +kernel
theorem dL_law_21 : decode cL_law 21 = .ok (.bipush 7, 2) := by decide +kernel
theorem dL_law_23 : decode cL_law 23 = .ok (.isub, 1) := by decide +kernel
theorem dL_law_24 : decode cL_law 24 = .ok (.if_icmp .gt 1592, 3) := by decide +kernel
theorem dL_law_27 : decode cL_law 27 = .ok (.aload_n 0, 1) := by decide +kernel
theorem dL_law_28 : decode cL_law 28 = .ok (.iload_n 3, 1) := by decide +kernel
theorem dL_law_29 : decode cL_law 29 = .ok (.iaload, 1) := by decide +kernel
theorem dL_law_30 : decode cL_law 30 = .ok (.bipush 63, 2) := by decide +kernel
theorem dL_law_32 : decode cL_law 32 = .ok (.iand, 1) := by decide +kernel
theorem dL_law_33 : decode cL_law 33 = .ok (.tableswitch 1577 0 43 #[191, 266, 299, 342, 355, 388, 447, 470, 504, 538, 581, 605, 628, 671, 714, 747, 770, 793, 806, 829, 842, 865, 898, 921, 935, 958, 981, 1004, 1027, 1060, 1103, 1146, 1179, 1222, 1265, 1299, 1362, 1395, 1448, 1481, 1505, 1518, 1531, 1554], 191) := by decide +kernel
theorem dL_law_224 : decode cL_law 224 = .ok (.aload_n 1, 1) := by decide +kernel
theorem dL_law_225 : decode cL_law 225 = .ok (.aload_n 0, 1) := by decide +kernel
theorem dL_law_226 : decode cL_law 226 = .ok (.iload_n 3, 1) := by decide +kernel
theorem dL_law_227 : decode cL_law 227 = .ok (.iconst 1, 1) := by decide +kernel
theorem dL_law_228 : decode cL_law 228 = .ok (.iadd, 1) := by decide +kernel
theorem dL_law_229 : decode cL_law 229 = .ok (.iaload, 1) := by decide +kernel
theorem dL_law_230 : decode cL_law 230 = .ok (.aload_n 0, 1) := by decide +kernel
theorem dL_law_231 : decode cL_law 231 = .ok (.iload_n 3, 1) := by decide +kernel
theorem dL_law_232 : decode cL_law 232 = .ok (.iconst 2, 1) := by decide +kernel
theorem dL_law_233 : decode cL_law 233 = .ok (.iadd, 1) := by decide +kernel
theorem dL_law_234 : decode cL_law 234 = .ok (.iaload, 1) := by decide +kernel
theorem dL_law_235 : decode cL_law 235 = .ok (.aload_n 0, 1) := by decide +kernel
theorem dL_law_236 : decode cL_law 236 = .ok (.iload_n 3, 1) := by decide +kernel
theorem dL_law_237 : decode cL_law 237 = .ok (.iconst 3, 1) := by decide +kernel
theorem dL_law_238 : decode cL_law 238 = .ok (.iadd, 1) := by decide +kernel
theorem dL_law_239 : decode cL_law 239 = .ok (.iaload, 1) := by decide +kernel
theorem dL_law_240 : decode cL_law 240 = .ok (.aload_n 0, 1) := by decide +kernel
theorem dL_law_241 : decode cL_law 241 = .ok (.iload_n 3, 1) := by decide +kernel
theorem dL_law_242 : decode cL_law 242 = .ok (.iconst 4, 1) := by decide +kernel
theorem dL_law_243 : decode cL_law 243 = .ok (.iadd, 1) := by decide +kernel
theorem dL_law_244 : decode cL_law 244 = .ok (.iaload, 1) := by decide +kernel
theorem dL_law_245 : decode cL_law 245 = .ok (.aload_n 0, 1) := by decide +kernel
theorem dL_law_246 : decode cL_law 246 = .ok (.iload_n 3, 1) := by decide +kernel
theorem dL_law_247 : decode cL_law 247 = .ok (.iconst 5, 1) := by decide +kernel
theorem dL_law_248 : decode cL_law 248 = .ok (.iadd, 1) := by decide +kernel
theorem dL_law_249 : decode cL_law 249 = .ok (.iaload, 1) := by decide +kernel
theorem dL_law_250 : decode cL_law 250 = .ok (.aload_n 0, 1) := by decide +kernel
theorem dL_law_251 : decode cL_law 251 = .ok (.iload_n 3, 1) := by decide +kernel
theorem dL_law_252 : decode cL_law 252 = .ok (.bipush 6, 2) := by decide +kernel
theorem dL_law_254 : decode cL_law 254 = .ok (.iadd, 1) := by decide +kernel
theorem dL_law_255 : decode cL_law 255 = .ok (.iaload, 1) := by decide +kernel
theorem dL_law_256 : decode cL_law 256 = .ok (.invokevirtual 13, 3) := by decide +kernel
theorem dL_law_259 : decode cL_law 259 = .ok (.aload_n 2, 1) := by decide +kernel
theorem dL_law_260 : decode cL_law 260 = .ok (.aload_n 0, 1) := by decide +kernel
theorem dL_law_261 : decode cL_law 261 = .ok (.iload_n 3, 1) := by decide +kernel
theorem dL_law_262 : decode cL_law 262 = .ok (.iconst 1, 1) := by decide +kernel
theorem dL_law_263 : decode cL_law 263 = .ok (.iadd, 1) := by decide +kernel
theorem dL_law_264 : decode cL_law 264 = .ok (.iaload, 1) := by decide +kernel
theorem dL_law_265 : decode cL_law 265 = .ok (.aload_n 0, 1) := by decide +kernel
theorem dL_law_266 : decode cL_law 266 = .ok (.iload_n 3, 1) := by decide +kernel
theorem dL_law_267 : decode cL_law 267 = .ok (.iconst 2, 1) := by decide +kernel
theorem dL_law_268 : decode cL_law 268 = .ok (.iadd, 1) := by decide +kernel
theorem dL_law_269 : decode cL_law 269 = .ok (.iaload, 1) := by decide +kernel
theorem dL_law_270 : decode cL_law 270 = .ok (.aload_n 0, 1) := by decide +kernel
theorem dL_law_271 : decode cL_law 271 = .ok (.iload_n 3, 1) := by decide +kernel
theorem dL_law_272 : decode cL_law 272 = .ok (.iconst 3, 1) := by decide +kernel
theorem dL_law_273 : decode cL_law 273 = .ok (.iadd, 1) := by decide +kernel
theorem dL_law_274 : decode cL_law 274 = .ok (.iaload, 1) := by decide +kernel
theorem dL_law_275 : decode cL_law 275 = .ok (.aload_n 0, 1) := by decide +kernel
theorem dL_law_276 : decode cL_law 276 = .ok (.iload_n 3, 1) := by decide +kernel
theorem dL_law_277 : decode cL_law 277 = .ok (.iconst 4, 1) := by decide +kernel
theorem dL_law_278 : decode cL_law 278 = .ok (.iadd, 1) := by decide +kernel
theorem dL_law_279 : decode cL_law 279 = .ok (.iaload, 1) := by decide +kernel
theorem dL_law_280 : decode cL_law 280 = .ok (.aload_n 0, 1) := by decide +kernel
theorem dL_law_281 : decode cL_law 281 = .ok (.iload_n 3, 1) := by decide +kernel
theorem dL_law_282 : decode cL_law 282 = .ok (.iconst 5, 1) := by decide +kernel
theorem dL_law_283 : decode cL_law 283 = .ok (.iadd, 1) := by decide +kernel
theorem dL_law_284 : decode cL_law 284 = .ok (.iaload, 1) := by decide +kernel
theorem dL_law_285 : decode cL_law 285 = .ok (.aload_n 0, 1) := by decide +kernel
theorem dL_law_286 : decode cL_law 286 = .ok (.iload_n 3, 1) := by decide +kernel
theorem dL_law_287 : decode cL_law 287 = .ok (.bipush 6, 2) := by decide +kernel
theorem dL_law_289 : decode cL_law 289 = .ok (.iadd, 1) := by decide +kernel
theorem dL_law_290 : decode cL_law 290 = .ok (.iaload, 1) := by decide +kernel
theorem dL_law_291 : decode cL_law 291 = .ok (.invokevirtual 17, 3) := by decide +kernel
theorem dL_law_294 : decode cL_law 294 = .ok (.if_icmp .eq 1316, 3) := by decide +kernel
theorem dL_law_297 : decode cL_law 297 = .ok (.iconst 0, 1) := by decide +kernel
theorem dL_law_298 : decode cL_law 298 = .ok (.ireturn, 1) := by decide +kernel
theorem dL_law_299 : decode cL_law 299 = .ok (.aload_n 1, 1) := by decide +kernel
theorem dL_law_300 : decode cL_law 300 = .ok (.aload_n 0, 1) := by decide +kernel
theorem dL_law_301 : decode cL_law 301 = .ok (.iload_n 3, 1) := by decide +kernel
theorem dL_law_302 : decode cL_law 302 = .ok (.iconst 1, 1) := by decide +kernel
theorem dL_law_303 : decode cL_law 303 = .ok (.iadd, 1) := by decide +kernel
theorem dL_law_304 : decode cL_law 304 = .ok (.iaload, 1) := by decide +kernel
theorem dL_law_305 : decode cL_law 305 = .ok (.aload_n 0, 1) := by decide +kernel
theorem dL_law_306 : decode cL_law 306 = .ok (.iload_n 3, 1) := by decide +kernel
theorem dL_law_307 : decode cL_law 307 = .ok (.iconst 2, 1) := by decide +kernel
theorem dL_law_308 : decode cL_law 308 = .ok (.iadd, 1) := by decide +kernel
theorem dL_law_309 : decode cL_law 309 = .ok (.iaload, 1) := by decide +kernel
theorem dL_law_310 : decode cL_law 310 = .ok (.invokevirtual 18, 3) := by decide +kernel
theorem dL_law_313 : decode cL_law 313 = .ok (.aload_n 2, 1) := by decide +kernel
theorem dL_law_314 : decode cL_law 314 = .ok (.aload_n 0, 1) := by decide +kernel
theorem dL_law_315 : decode cL_law 315 = .ok (.iload_n 3, 1) := by decide +kernel
theorem dL_law_316 : decode cL_law 316 = .ok (.iconst 1, 1) := by decide +kernel
theorem dL_law_317 : decode cL_law 317 = .ok (.iadd, 1) := by decide +kernel
theorem dL_law_318 : decode cL_law 318 = .ok (.iaload, 1) := by decide +kernel
theorem dL_law_319 : decode cL_law 319 = .ok (.aload_n 0, 1) := by decide +kernel
theorem dL_law_320 : decode cL_law 320 = .ok (.iload_n 3, 1) := by decide +kernel
theorem dL_law_321 : decode cL_law 321 = .ok (.iconst 2, 1) := by decide +kernel
theorem dL_law_322 : decode cL_law 322 = .ok (.iadd, 1) := by decide +kernel
theorem dL_law_323 : decode cL_law 323 = .ok (.iaload, 1) := by decide +kernel
theorem dL_law_324 : decode cL_law 324 = .ok (.invokevirtual 22, 3) := by decide +kernel
theorem dL_law_327 : decode cL_law 327 = .ok (.if_icmp .eq 1283, 3) := by decide +kernel
theorem dL_law_330 : decode cL_law 330 = .ok (.iconst 0, 1) := by decide +kernel
theorem dL_law_331 : decode cL_law 331 = .ok (.ireturn, 1) := by decide +kernel
theorem dL_law_332 : decode cL_law 332 = .ok (.aload_n 1, 1) := by decide +kernel
theorem dL_law_333 : decode cL_law 333 = .ok (.aload_n 0, 1) := by decide +kernel
theorem dL_law_334 : decode cL_law 334 = .ok (.iload_n 3, 1) := by decide +kernel
theorem dL_law_335 : decode cL_law 335 = .ok (.iconst 1, 1) := by decide +kernel
theorem dL_law_336 : decode cL_law 336 = .ok (.iadd, 1) := by decide +kernel
theorem dL_law_337 : decode cL_law 337 = .ok (.iaload, 1) := by decide +kernel
theorem dL_law_338 : decode cL_law 338 = .ok (.aload_n 0, 1) := by decide +kernel
theorem dL_law_339 : decode cL_law 339 = .ok (.iload_n 3, 1) := by decide +kernel
theorem dL_law_340 : decode cL_law 340 = .ok (.iconst 2, 1) := by decide +kernel
theorem dL_law_341 : decode cL_law 341 = .ok (.iadd, 1) := by decide +kernel
theorem dL_law_342 : decode cL_law 342 = .ok (.iaload, 1) := by decide +kernel
theorem dL_law_343 : decode cL_law 343 = .ok (.aload_n 0, 1) := by decide +kernel
theorem dL_law_344 : decode cL_law 344 = .ok (.iload_n 3, 1) := by decide +kernel
theorem dL_law_345 : decode cL_law 345 = .ok (.iconst 3, 1) := by decide +kernel
theorem dL_law_346 : decode cL_law 346 = .ok (.iadd, 1) := by decide +kernel
theorem dL_law_347 : decode cL_law 347 = .ok (.iaload, 1) := by decide +kernel
theorem dL_law_348 : decode cL_law 348 = .ok (.invokevirtual 23, 3) := by decide +kernel
theorem dL_law_351 : decode cL_law 351 = .ok (.aload_n 2, 1) := by decide +kernel
theorem dL_law_352 : decode cL_law 352 = .ok (.aload_n 0, 1) := by decide +kernel
theorem dL_law_353 : decode cL_law 353 = .ok (.iload_n 3, 1) := by decide +kernel
theorem dL_law_354 : decode cL_law 354 = .ok (.iconst 1, 1) := by decide +kernel
theorem dL_law_355 : decode cL_law 355 = .ok (.iadd, 1) := by decide +kernel
theorem dL_law_356 : decode cL_law 356 = .ok (.iaload, 1) := by decide +kernel
theorem dL_law_357 : decode cL_law 357 = .ok (.aload_n 0, 1) := by decide +kernel
theorem dL_law_358 : decode cL_law 358 = .ok (.iload_n 3, 1) := by decide +kernel
theorem dL_law_359 : decode cL_law 359 = .ok (.iconst 2, 1) := by decide +kernel
theorem dL_law_360 : decode cL_law 360 = .ok (.iadd, 1) := by decide +kernel
theorem dL_law_361 : decode cL_law 361 = .ok (.iaload, 1) := by decide +kernel
theorem dL_law_362 : decode cL_law 362 = .ok (.aload_n 0, 1) := by decide +kernel
theorem dL_law_363 : decode cL_law 363 = .ok (.iload_n 3, 1) := by decide +kernel
theorem dL_law_364 : decode cL_law 364 = .ok (.iconst 3, 1) := by decide +kernel
theorem dL_law_365 : decode cL_law 365 = .ok (.iadd, 1) := by decide +kernel
theorem dL_law_366 : decode cL_law 366 = .ok (.iaload, 1) := by decide +kernel
theorem dL_law_367 : decode cL_law 367 = .ok (.invokevirtual 27, 3) := by decide +kernel
theorem dL_law_370 : decode cL_law 370 = .ok (.if_icmp .eq 1240, 3) := by decide +kernel
theorem dL_law_373 : decode cL_law 373 = .ok (.iconst 0, 1) := by decide +kernel
theorem dL_law_374 : decode cL_law 374 = .ok (.ireturn, 1) := by decide +kernel
theorem dL_law_375 : decode cL_law 375 = .ok (.aload_n 1, 1) := by decide +kernel
theorem dL_law_376 : decode cL_law 376 = .ok (.invokevirtual 28, 3) := by decide +kernel
theorem dL_law_379 : decode cL_law 379 = .ok (.aload_n 2, 1) := by decide +kernel
theorem dL_law_380 : decode cL_law 380 = .ok (.invokevirtual 32, 3) := by decide +kernel
theorem dL_law_383 : decode cL_law 383 = .ok (.if_icmp .eq 1227, 3) := by decide +kernel
theorem dL_law_386 : decode cL_law 386 = .ok (.iconst 0, 1) := by decide +kernel
theorem dL_law_387 : decode cL_law 387 = .ok (.ireturn, 1) := by decide +kernel
theorem dL_law_388 : decode cL_law 388 = .ok (.aload_n 1, 1) := by decide +kernel
theorem dL_law_389 : decode cL_law 389 = .ok (.aload_n 0, 1) := by decide +kernel
theorem dL_law_390 : decode cL_law 390 = .ok (.iload_n 3, 1) := by decide +kernel
theorem dL_law_391 : decode cL_law 391 = .ok (.iconst 1, 1) := by decide +kernel
theorem dL_law_392 : decode cL_law 392 = .ok (.iadd, 1) := by decide +kernel
theorem dL_law_393 : decode cL_law 393 = .ok (.iaload, 1) := by decide +kernel
theorem dL_law_394 : decode cL_law 394 = .ok (.aload_n 0, 1) := by decide +kernel
theorem dL_law_395 : decode cL_law 395 = .ok (.iload_n 3, 1) := by decide +kernel
theorem dL_law_396 : decode cL_law 396 = .ok (.iconst 2, 1) := by decide +kernel
theorem dL_law_397 : decode cL_law 397 = .ok (.iadd, 1) := by decide +kernel
theorem dL_law_398 : decode cL_law 398 = .ok (.iaload, 1) := by decide +kernel
theorem dL_law_399 : decode cL_law 399 = .ok (.invokevirtual 33, 3) := by decide +kernel
theorem dL_law_402 : decode cL_law 402 = .ok (.aload_n 2, 1) := by decide +kernel
theorem dL_law_403 : decode cL_law 403 = .ok (.aload_n 0, 1) := by decide +kernel
theorem dL_law_404 : decode cL_law 404 = .ok (.iload_n 3, 1) := by decide +kernel
theorem dL_law_405 : decode cL_law 405 = .ok (.iconst 1, 1) := by decide +kernel
theorem dL_law_406 : decode cL_law 406 = .ok (.iadd, 1) := by decide +kernel
theorem dL_law_407 : decode cL_law 407 = .ok (.iaload, 1) := by decide +kernel
theorem dL_law_408 : decode cL_law 408 = .ok (.aload_n 0, 1) := by decide +kernel
theorem dL_law_409 : decode cL_law 409 = .ok (.iload_n 3, 1) := by decide +kernel
theorem dL_law_410 : decode cL_law 410 = .ok (.iconst 2, 1) := by decide +kernel
theorem dL_law_411 : decode cL_law 411 = .ok (.iadd, 1) := by decide +kernel
theorem dL_law_412 : decode cL_law 412 = .ok (.iaload, 1) := by decide +kernel
theorem dL_law_413 : decode cL_law 413 = .ok (.invokevirtual 36, 3) := by decide +kernel
theorem dL_law_416 : decode cL_law 416 = .ok (.if_icmp .eq 1194, 3) := by decide +kernel
theorem dL_law_419 : decode cL_law 419 = .ok (.iconst 0, 1) := by decide +kernel
theorem dL_law_420 : decode cL_law 420 = .ok (.ireturn, 1) := by decide +kernel
theorem dL_law_421 : decode cL_law 421 = .ok (.aload_n 1, 1) := by decide +kernel
theorem dL_law_422 : decode cL_law 422 = .ok (.aload_n 0, 1) := by decide +kernel
theorem dL_law_423 : decode cL_law 423 = .ok (.iload_n 3, 1) := by decide +kernel
theorem dL_law_424 : decode cL_law 424 = .ok (.iconst 1, 1) := by decide +kernel
theorem dL_law_425 : decode cL_law 425 = .ok (.iadd, 1) := by decide +kernel
theorem dL_law_426 : decode cL_law 426 = .ok (.iaload, 1) := by decide +kernel
theorem dL_law_427 : decode cL_law 427 = .ok (.aload_n 0, 1) := by decide +kernel
theorem dL_law_428 : decode cL_law 428 = .ok (.iload_n 3, 1) := by decide +kernel
theorem dL_law_429 : decode cL_law 429 = .ok (.iconst 2, 1) := by decide +kernel
theorem dL_law_430 : decode cL_law 430 = .ok (.iadd, 1) := by decide +kernel
theorem dL_law_431 : decode cL_law 431 = .ok (.iaload, 1) := by decide +kernel
theorem dL_law_432 : decode cL_law 432 = .ok (.aload_n 0, 1) := by decide +kernel
theorem dL_law_433 : decode cL_law 433 = .ok (.iload_n 3, 1) := by decide +kernel
theorem dL_law_434 : decode cL_law 434 = .ok (.iconst 3, 1) := by decide +kernel
theorem dL_law_435 : decode cL_law 435 = .ok (.iadd, 1) := by decide +kernel
theorem dL_law_436 : decode cL_law 436 = .ok (.iaload, 1) := by decide +kernel
theorem dL_law_437 : decode cL_law 437 = .ok (.ifCond .eq 7, 3) := by decide +kernel
theorem dL_law_440 : decode cL_law 440 = .ok (.iconst 1, 1) := by decide +kernel
theorem dL_law_441 : decode cL_law 441 = .ok (.goto 4, 3) := by decide +kernel
theorem dL_law_444 : decode cL_law 444 = .ok (.iconst 0, 1) := by decide +kernel
theorem dL_law_445 : decode cL_law 445 = .ok (.invokevirtual 37, 3) := by decide +kernel
theorem dL_law_448 : decode cL_law 448 = .ok (.aload_n 2, 1) := by decide +kernel
theorem dL_law_449 : decode cL_law 449 = .ok (.aload_n 0, 1) := by decide +kernel
theorem dL_law_450 : decode cL_law 450 = .ok (.iload_n 3, 1) := by decide +kernel
theorem dL_law_451 : decode cL_law 451 = .ok (.iconst 1, 1) := by decide +kernel
theorem dL_law_452 : decode cL_law 452 = .ok (.iadd, 1) := by decide +kernel
theorem dL_law_453 : decode cL_law 453 = .ok (.iaload, 1) := by decide +kernel
theorem dL_law_454 : decode cL_law 454 = .ok (.aload_n 0, 1) := by decide +kernel
theorem dL_law_455 : decode cL_law 455 = .ok (.iload_n 3, 1) := by decide +kernel
theorem dL_law_456 : decode cL_law 456 = .ok (.iconst 2, 1) := by decide +kernel
theorem dL_law_457 : decode cL_law 457 = .ok (.iadd, 1) := by decide +kernel
theorem dL_law_458 : decode cL_law 458 = .ok (.iaload, 1) := by decide +kernel
theorem dL_law_459 : decode cL_law 459 = .ok (.aload_n 0, 1) := by decide +kernel
theorem dL_law_460 : decode cL_law 460 = .ok (.iload_n 3, 1) := by decide +kernel
theorem dL_law_461 : decode cL_law 461 = .ok (.iconst 3, 1) := by decide +kernel
theorem dL_law_462 : decode cL_law 462 = .ok (.iadd, 1) := by decide +kernel
theorem dL_law_463 : decode cL_law 463 = .ok (.iaload, 1) := by decide +kernel
theorem dL_law_464 : decode cL_law 464 = .ok (.ifCond .eq 7, 3) := by decide +kernel
theorem dL_law_467 : decode cL_law 467 = .ok (.iconst 1, 1) := by decide +kernel
theorem dL_law_468 : decode cL_law 468 = .ok (.goto 4, 3) := by decide +kernel
theorem dL_law_471 : decode cL_law 471 = .ok (.iconst 0, 1) := by decide +kernel
theorem dL_law_472 : decode cL_law 472 = .ok (.invokevirtual 41, 3) := by decide +kernel
theorem dL_law_475 : decode cL_law 475 = .ok (.if_icmp .eq 1135, 3) := by decide +kernel
theorem dL_law_478 : decode cL_law 478 = .ok (.iconst 0, 1) := by decide +kernel
theorem dL_law_479 : decode cL_law 479 = .ok (.ireturn, 1) := by decide +kernel
theorem dL_law_480 : decode cL_law 480 = .ok (.aload_n 1, 1) := by decide +kernel
theorem dL_law_481 : decode cL_law 481 = .ok (.aload_n 0, 1) := by decide +kernel
theorem dL_law_482 : decode cL_law 482 = .ok (.iload_n 3, 1) := by decide +kernel
theorem dL_law_483 : decode cL_law 483 = .ok (.iconst 1, 1) := by decide +kernel
theorem dL_law_484 : decode cL_law 484 = .ok (.iadd, 1) := by decide +kernel
theorem dL_law_485 : decode cL_law 485 = .ok (.iaload, 1) := by decide +kernel
theorem dL_law_486 : decode cL_law 486 = .ok (.invokevirtual 42, 3) := by decide +kernel
theorem dL_law_489 : decode cL_law 489 = .ok (.aload_n 2, 1) := by decide +kernel
theorem dL_law_490 : decode cL_law 490 = .ok (.aload_n 0, 1) := by decide +kernel
theorem dL_law_491 : decode cL_law 491 = .ok (.iload_n 3, 1) := by decide +kernel
theorem dL_law_492 : decode cL_law 492 = .ok (.iconst 1, 1) := by decide +kernel
theorem dL_law_493 : decode cL_law 493 = .ok (.iadd, 1) := by decide +kernel
theorem dL_law_494 : decode cL_law 494 = .ok (.iaload, 1) := by decide +kernel
theorem dL_law_495 : decode cL_law 495 = .ok (.invokevirtual 46, 3) := by decide +kernel
theorem dL_law_498 : decode cL_law 498 = .ok (.if_icmp .eq 1112, 3) := by decide +kernel
theorem dL_law_501 : decode cL_law 501 = .ok (.iconst 0, 1) := by decide +kernel
theorem dL_law_502 : decode cL_law 502 = .ok (.ireturn, 1) := by decide +kernel
theorem dL_law_503 : decode cL_law 503 = .ok (.aload_n 1, 1) := by decide +kernel
theorem dL_law_504 : decode cL_law 504 = .ok (.aload_n 0, 1) := by decide +kernel
theorem dL_law_505 : decode cL_law 505 = .ok (.iload_n 3, 1) := by decide +kernel
theorem dL_law_506 : decode cL_law 506 = .ok (.iconst 1, 1) := by decide +kernel
theorem dL_law_507 : decode cL_law 507 = .ok (.iadd, 1) := by decide +kernel
theorem dL_law_508 : decode cL_law 508 = .ok (.iaload, 1) := by decide +kernel
theorem dL_law_509 : decode cL_law 509 = .ok (.aload_n 0, 1) := by decide +kernel
theorem dL_law_510 : decode cL_law 510 = .ok (.iload_n 3, 1) := by decide +kernel
theorem dL_law_511 : decode cL_law 511 = .ok (.iconst 2, 1) := by decide +kernel
theorem dL_law_512 : decode cL_law 512 = .ok (.iadd, 1) := by decide +kernel
theorem dL_law_513 : decode cL_law 513 = .ok (.iaload, 1) := by decide +kernel
theorem dL_law_514 : decode cL_law 514 = .ok (.invokevirtual 47, 3) := by decide +kernel
theorem dL_law_517 : decode cL_law 517 = .ok (.aload_n 2, 1) := by decide +kernel
theorem dL_law_518 : decode cL_law 518 = .ok (.aload_n 0, 1) := by decide +kernel
theorem dL_law_519 : decode cL_law 519 = .ok (.iload_n 3, 1) := by decide +kernel
theorem dL_law_520 : decode cL_law 520 = .ok (.iconst 1, 1) := by decide +kernel
theorem dL_law_521 : decode cL_law 521 = .ok (.iadd, 1) := by decide +kernel
theorem dL_law_522 : decode cL_law 522 = .ok (.iaload, 1) := by decide +kernel
theorem dL_law_523 : decode cL_law 523 = .ok (.aload_n 0, 1) := by decide +kernel
theorem dL_law_524 : decode cL_law 524 = .ok (.iload_n 3, 1) := by decide +kernel
theorem dL_law_525 : decode cL_law 525 = .ok (.iconst 2, 1) := by decide +kernel
theorem dL_law_526 : decode cL_law 526 = .ok (.iadd, 1) := by decide +kernel
theorem dL_law_527 : decode cL_law 527 = .ok (.iaload, 1) := by decide +kernel
theorem dL_law_528 : decode cL_law 528 = .ok (.invokevirtual 51, 3) := by decide +kernel
theorem dL_law_531 : decode cL_law 531 = .ok (.lcmp, 1) := by decide +kernel
theorem dL_law_532 : decode cL_law 532 = .ok (.ifCond .eq 1078, 3) := by decide +kernel
theorem dL_law_535 : decode cL_law 535 = .ok (.iconst 0, 1) := by decide +kernel
theorem dL_law_536 : decode cL_law 536 = .ok (.ireturn, 1) := by decide +kernel
theorem dL_law_537 : decode cL_law 537 = .ok (.aload_n 1, 1) := by decide +kernel
theorem dL_law_538 : decode cL_law 538 = .ok (.aload_n 0, 1) := by decide +kernel
theorem dL_law_539 : decode cL_law 539 = .ok (.iload_n 3, 1) := by decide +kernel
theorem dL_law_540 : decode cL_law 540 = .ok (.iconst 1, 1) := by decide +kernel
theorem dL_law_541 : decode cL_law 541 = .ok (.iadd, 1) := by decide +kernel
theorem dL_law_542 : decode cL_law 542 = .ok (.iaload, 1) := by decide +kernel
theorem dL_law_543 : decode cL_law 543 = .ok (.aload_n 0, 1) := by decide +kernel
theorem dL_law_544 : decode cL_law 544 = .ok (.iload_n 3, 1) := by decide +kernel
theorem dL_law_545 : decode cL_law 545 = .ok (.iconst 2, 1) := by decide +kernel
theorem dL_law_546 : decode cL_law 546 = .ok (.iadd, 1) := by decide +kernel
theorem dL_law_547 : decode cL_law 547 = .ok (.iaload, 1) := by decide +kernel
theorem dL_law_548 : decode cL_law 548 = .ok (.invokevirtual 52, 3) := by decide +kernel
theorem dL_law_551 : decode cL_law 551 = .ok (.aload_n 2, 1) := by decide +kernel
theorem dL_law_552 : decode cL_law 552 = .ok (.aload_n 0, 1) := by decide +kernel
theorem dL_law_553 : decode cL_law 553 = .ok (.iload_n 3, 1) := by decide +kernel
theorem dL_law_554 : decode cL_law 554 = .ok (.iconst 1, 1) := by decide +kernel
theorem dL_law_555 : decode cL_law 555 = .ok (.iadd, 1) := by decide +kernel
theorem dL_law_556 : decode cL_law 556 = .ok (.iaload, 1) := by decide +kernel
theorem dL_law_557 : decode cL_law 557 = .ok (.aload_n 0, 1) := by decide +kernel
theorem dL_law_558 : decode cL_law 558 = .ok (.iload_n 3, 1) := by decide +kernel
theorem dL_law_559 : decode cL_law 559 = .ok (.iconst 2, 1) := by decide +kernel
theorem dL_law_560 : decode cL_law 560 = .ok (.iadd, 1) := by decide +kernel
theorem dL_law_561 : decode cL_law 561 = .ok (.iaload, 1) := by decide +kernel
theorem dL_law_562 : decode cL_law 562 = .ok (.invokevirtual 55, 3) := by decide +kernel
theorem dL_law_565 : decode cL_law 565 = .ok (.lcmp, 1) := by decide +kernel
theorem dL_law_566 : decode cL_law 566 = .ok (.ifCond .eq 1044, 3) := by decide +kernel
theorem dL_law_569 : decode cL_law 569 = .ok (.iconst 0, 1) := by decide +kernel
theorem dL_law_570 : decode cL_law 570 = .ok (.ireturn, 1) := by decide +kernel
theorem dL_law_571 : decode cL_law 571 = .ok (.aload_n 1, 1) := by decide +kernel
theorem dL_law_572 : decode cL_law 572 = .ok (.aload_n 0, 1) := by decide +kernel
theorem dL_law_573 : decode cL_law 573 = .ok (.iload_n 3, 1) := by decide +kernel
theorem dL_law_574 : decode cL_law 574 = .ok (.iconst 1, 1) := by decide +kernel
theorem dL_law_575 : decode cL_law 575 = .ok (.iadd, 1) := by decide +kernel
theorem dL_law_576 : decode cL_law 576 = .ok (.iaload, 1) := by decide +kernel
theorem dL_law_577 : decode cL_law 577 = .ok (.aload_n 0, 1) := by decide +kernel
theorem dL_law_578 : decode cL_law 578 = .ok (.iload_n 3, 1) := by decide +kernel
theorem dL_law_579 : decode cL_law 579 = .ok (.iconst 2, 1) := by decide +kernel
theorem dL_law_580 : decode cL_law 580 = .ok (.iadd, 1) := by decide +kernel
theorem dL_law_581 : decode cL_law 581 = .ok (.iaload, 1) := by decide +kernel
theorem dL_law_582 : decode cL_law 582 = .ok (.aload_n 0, 1) := by decide +kernel
theorem dL_law_583 : decode cL_law 583 = .ok (.iload_n 3, 1) := by decide +kernel
theorem dL_law_584 : decode cL_law 584 = .ok (.iconst 3, 1) := by decide +kernel
theorem dL_law_585 : decode cL_law 585 = .ok (.iadd, 1) := by decide +kernel
theorem dL_law_586 : decode cL_law 586 = .ok (.iaload, 1) := by decide +kernel
theorem dL_law_587 : decode cL_law 587 = .ok (.invokevirtual 56, 3) := by decide +kernel
theorem dL_law_590 : decode cL_law 590 = .ok (.aload_n 2, 1) := by decide +kernel
theorem dL_law_591 : decode cL_law 591 = .ok (.aload_n 0, 1) := by decide +kernel
theorem dL_law_592 : decode cL_law 592 = .ok (.iload_n 3, 1) := by decide +kernel
theorem dL_law_593 : decode cL_law 593 = .ok (.iconst 1, 1) := by decide +kernel
theorem dL_law_594 : decode cL_law 594 = .ok (.iadd, 1) := by decide +kernel
theorem dL_law_595 : decode cL_law 595 = .ok (.iaload, 1) := by decide +kernel
theorem dL_law_596 : decode cL_law 596 = .ok (.aload_n 0, 1) := by decide +kernel
theorem dL_law_597 : decode cL_law 597 = .ok (.iload_n 3, 1) := by decide +kernel
theorem dL_law_598 : decode cL_law 598 = .ok (.iconst 2, 1) := by decide +kernel
theorem dL_law_599 : decode cL_law 599 = .ok (.iadd, 1) := by decide +kernel
theorem dL_law_600 : decode cL_law 600 = .ok (.iaload, 1) := by decide +kernel
theorem dL_law_601 : decode cL_law 601 = .ok (.aload_n 0, 1) := by decide +kernel
theorem dL_law_602 : decode cL_law 602 = .ok (.iload_n 3, 1) := by decide +kernel
theorem dL_law_603 : decode cL_law 603 = .ok (.iconst 3, 1) := by decide +kernel
theorem dL_law_604 : decode cL_law 604 = .ok (.iadd, 1) := by decide +kernel
theorem dL_law_605 : decode cL_law 605 = .ok (.iaload, 1) := by decide +kernel
theorem dL_law_606 : decode cL_law 606 = .ok (.invokevirtual 59, 3) := by decide +kernel
theorem dL_law_609 : decode cL_law 609 = .ok (.if_icmp .eq 1001, 3) := by decide +kernel
theorem dL_law_612 : decode cL_law 612 = .ok (.iconst 0, 1) := by decide +kernel
theorem dL_law_613 : decode cL_law 613 = .ok (.ireturn, 1) := by decide +kernel
theorem dL_law_614 : decode cL_law 614 = .ok (.aload_n 1, 1) := by decide +kernel
theorem dL_law_615 : decode cL_law 615 = .ok (.aload_n 0, 1) := by decide +kernel
theorem dL_law_616 : decode cL_law 616 = .ok (.iload_n 3, 1) := by decide +kernel
theorem dL_law_617 : decode cL_law 617 = .ok (.iconst 1, 1) := by decide +kernel
theorem dL_law_618 : decode cL_law 618 = .ok (.iadd, 1) := by decide +kernel
theorem dL_law_619 : decode cL_law 619 = .ok (.iaload, 1) := by decide +kernel
theorem dL_law_620 : decode cL_law 620 = .ok (.invokevirtual 60, 3) := by decide +kernel
theorem dL_law_623 : decode cL_law 623 = .ok (.aload_n 2, 1) := by decide +kernel
theorem dL_law_624 : decode cL_law 624 = .ok (.aload_n 0, 1) := by decide +kernel
theorem dL_law_625 : decode cL_law 625 = .ok (.iload_n 3, 1) := by decide +kernel
theorem dL_law_626 : decode cL_law 626 = .ok (.iconst 1, 1) := by decide +kernel
theorem dL_law_627 : decode cL_law 627 = .ok (.iadd, 1) := by decide +kernel
theorem dL_law_628 : decode cL_law 628 = .ok (.iaload, 1) := by decide +kernel
theorem dL_law_629 : decode cL_law 629 = .ok (.invokevirtual 64, 3) := by decide +kernel
theorem dL_law_632 : decode cL_law 632 = .ok (.lcmp, 1) := by decide +kernel
theorem dL_law_633 : decode cL_law 633 = .ok (.ifCond .eq 977, 3) := by decide +kernel
theorem dL_law_636 : decode cL_law 636 = .ok (.iconst 0, 1) := by decide +kernel
theorem dL_law_637 : decode cL_law 637 = .ok (.ireturn, 1) := by decide +kernel
theorem dL_law_638 : decode cL_law 638 = .ok (.aload_n 1, 1) := by decide +kernel
theorem dL_law_639 : decode cL_law 639 = .ok (.aload_n 0, 1) := by decide +kernel
theorem dL_law_640 : decode cL_law 640 = .ok (.iload_n 3, 1) := by decide +kernel
theorem dL_law_641 : decode cL_law 641 = .ok (.iconst 1, 1) := by decide +kernel
theorem dL_law_642 : decode cL_law 642 = .ok (.iadd, 1) := by decide +kernel
theorem dL_law_643 : decode cL_law 643 = .ok (.iaload, 1) := by decide +kernel
theorem dL_law_644 : decode cL_law 644 = .ok (.invokevirtual 65, 3) := by decide +kernel
theorem dL_law_647 : decode cL_law 647 = .ok (.aload_n 2, 1) := by decide +kernel
theorem dL_law_648 : decode cL_law 648 = .ok (.aload_n 0, 1) := by decide +kernel
theorem dL_law_649 : decode cL_law 649 = .ok (.iload_n 3, 1) := by decide +kernel
theorem dL_law_650 : decode cL_law 650 = .ok (.iconst 1, 1) := by decide +kernel
theorem dL_law_651 : decode cL_law 651 = .ok (.iadd, 1) := by decide +kernel
theorem dL_law_652 : decode cL_law 652 = .ok (.iaload, 1) := by decide +kernel
theorem dL_law_653 : decode cL_law 653 = .ok (.invokevirtual 68, 3) := by decide +kernel
theorem dL_law_656 : decode cL_law 656 = .ok (.if_icmp .eq 954, 3) := by decide +kernel
theorem dL_law_659 : decode cL_law 659 = .ok (.iconst 0, 1) := by decide +kernel
theorem dL_law_660 : decode cL_law 660 = .ok (.ireturn, 1) := by decide +kernel
theorem dL_law_661 : decode cL_law 661 = .ok (.aload_n 1, 1) := by decide +kernel
theorem dL_law_662 : decode cL_law 662 = .ok (.aload_n 0, 1) := by decide +kernel
theorem dL_law_663 : decode cL_law 663 = .ok (.iload_n 3, 1) := by decide +kernel
theorem dL_law_664 : decode cL_law 664 = .ok (.iconst 1, 1) := by decide +kernel
theorem dL_law_665 : decode cL_law 665 = .ok (.iadd, 1) := by decide +kernel
theorem dL_law_666 : decode cL_law 666 = .ok (.iaload, 1) := by decide +kernel
theorem dL_law_667 : decode cL_law 667 = .ok (.aload_n 0, 1) := by decide +kernel
theorem dL_law_668 : decode cL_law 668 = .ok (.iload_n 3, 1) := by decide +kernel
theorem dL_law_669 : decode cL_law 669 = .ok (.iconst 2, 1) := by decide +kernel
theorem dL_law_670 : decode cL_law 670 = .ok (.iadd, 1) := by decide +kernel
theorem dL_law_671 : decode cL_law 671 = .ok (.iaload, 1) := by decide +kernel
theorem dL_law_672 : decode cL_law 672 = .ok (.aload_n 0, 1) := by decide +kernel
theorem dL_law_673 : decode cL_law 673 = .ok (.iload_n 3, 1) := by decide +kernel
theorem dL_law_674 : decode cL_law 674 = .ok (.iconst 3, 1) := by decide +kernel
theorem dL_law_675 : decode cL_law 675 = .ok (.iadd, 1) := by decide +kernel
theorem dL_law_676 : decode cL_law 676 = .ok (.iaload, 1) := by decide +kernel
theorem dL_law_677 : decode cL_law 677 = .ok (.invokevirtual 69, 3) := by decide +kernel
theorem dL_law_680 : decode cL_law 680 = .ok (.aload_n 2, 1) := by decide +kernel
theorem dL_law_681 : decode cL_law 681 = .ok (.aload_n 0, 1) := by decide +kernel
theorem dL_law_682 : decode cL_law 682 = .ok (.iload_n 3, 1) := by decide +kernel
theorem dL_law_683 : decode cL_law 683 = .ok (.iconst 1, 1) := by decide +kernel
theorem dL_law_684 : decode cL_law 684 = .ok (.iadd, 1) := by decide +kernel
theorem dL_law_685 : decode cL_law 685 = .ok (.iaload, 1) := by decide +kernel
theorem dL_law_686 : decode cL_law 686 = .ok (.aload_n 0, 1) := by decide +kernel
theorem dL_law_687 : decode cL_law 687 = .ok (.iload_n 3, 1) := by decide +kernel
theorem dL_law_688 : decode cL_law 688 = .ok (.iconst 2, 1) := by decide +kernel
theorem dL_law_689 : decode cL_law 689 = .ok (.iadd, 1) := by decide +kernel
theorem dL_law_690 : decode cL_law 690 = .ok (.iaload, 1) := by decide +kernel
theorem dL_law_691 : decode cL_law 691 = .ok (.aload_n 0, 1) := by decide +kernel
theorem dL_law_692 : decode cL_law 692 = .ok (.iload_n 3, 1) := by decide +kernel
theorem dL_law_693 : decode cL_law 693 = .ok (.iconst 3, 1) := by decide +kernel
theorem dL_law_694 : decode cL_law 694 = .ok (.iadd, 1) := by decide +kernel
theorem dL_law_695 : decode cL_law 695 = .ok (.iaload, 1) := by decide +kernel
theorem dL_law_696 : decode cL_law 696 = .ok (.invokevirtual 72, 3) := by decide +kernel
theorem dL_law_699 : decode cL_law 699 = .ok (.if_icmp .eq 911, 3) := by decide +kernel
theorem dL_law_702 : decode cL_law 702 = .ok (.iconst 0, 1) := by decide +kernel
theorem dL_law_703 : decode cL_law 703 = .ok (.ireturn, 1) := by decide +kernel
theorem dL_law_704 : decode cL_law 704 = .ok (.aload_n 1, 1) := by decide +kernel
theorem dL_law_705 : decode cL_law 705 = .ok (.aload_n 0, 1) := by decide +kernel
theorem dL_law_706 : decode cL_law 706 = .ok (.iload_n 3, 1) := by decide +kernel
theorem dL_law_707 : decode cL_law 707 = .ok (.iconst 1, 1) := by decide +kernel
theorem dL_law_708 : decode cL_law 708 = .ok (.iadd, 1) := by decide +kernel
theorem dL_law_709 : decode cL_law 709 = .ok (.iaload, 1) := by decide +kernel
theorem dL_law_710 : decode cL_law 710 = .ok (.aload_n 0, 1) := by decide +kernel
theorem dL_law_711 : decode cL_law 711 = .ok (.iload_n 3, 1) := by decide +kernel
theorem dL_law_712 : decode cL_law 712 = .ok (.iconst 2, 1) := by decide +kernel
theorem dL_law_713 : decode cL_law 713 = .ok (.iadd, 1) := by decide +kernel
theorem dL_law_714 : decode cL_law 714 = .ok (.iaload, 1) := by decide +kernel
theorem dL_law_715 : decode cL_law 715 = .ok (.aload_n 0, 1) := by decide +kernel
theorem dL_law_716 : decode cL_law 716 = .ok (.iload_n 3, 1) := by decide +kernel
theorem dL_law_717 : decode cL_law 717 = .ok (.iconst 3, 1) := by decide +kernel
theorem dL_law_718 : decode cL_law 718 = .ok (.iadd, 1) := by decide +kernel
theorem dL_law_719 : decode cL_law 719 = .ok (.iaload, 1) := by decide +kernel
theorem dL_law_720 : decode cL_law 720 = .ok (.invokevirtual 73, 3) := by decide +kernel
theorem dL_law_723 : decode cL_law 723 = .ok (.aload_n 2, 1) := by decide +kernel
theorem dL_law_724 : decode cL_law 724 = .ok (.aload_n 0, 1) := by decide +kernel
theorem dL_law_725 : decode cL_law 725 = .ok (.iload_n 3, 1) := by decide +kernel
theorem dL_law_726 : decode cL_law 726 = .ok (.iconst 1, 1) := by decide +kernel
theorem dL_law_727 : decode cL_law 727 = .ok (.iadd, 1) := by decide +kernel
theorem dL_law_728 : decode cL_law 728 = .ok (.iaload, 1) := by decide +kernel
theorem dL_law_729 : decode cL_law 729 = .ok (.aload_n 0, 1) := by decide +kernel
theorem dL_law_730 : decode cL_law 730 = .ok (.iload_n 3, 1) := by decide +kernel
theorem dL_law_731 : decode cL_law 731 = .ok (.iconst 2, 1) := by decide +kernel
theorem dL_law_732 : decode cL_law 732 = .ok (.iadd, 1) := by decide +kernel
theorem dL_law_733 : decode cL_law 733 = .ok (.iaload, 1) := by decide +kernel
theorem dL_law_734 : decode cL_law 734 = .ok (.aload_n 0, 1) := by decide +kernel
theorem dL_law_735 : decode cL_law 735 = .ok (.iload_n 3, 1) := by decide +kernel
theorem dL_law_736 : decode cL_law 736 = .ok (.iconst 3, 1) := by decide +kernel
theorem dL_law_737 : decode cL_law 737 = .ok (.iadd, 1) := by decide +kernel
theorem dL_law_738 : decode cL_law 738 = .ok (.iaload, 1) := by decide +kernel
theorem dL_law_739 : decode cL_law 739 = .ok (.invokevirtual 76, 3) := by decide +kernel
theorem dL_law_742 : decode cL_law 742 = .ok (.if_icmp .eq 868, 3) := by decide +kernel
theorem dL_law_745 : decode cL_law 745 = .ok (.iconst 0, 1) := by decide +kernel
theorem dL_law_746 : decode cL_law 746 = .ok (.ireturn, 1) := by decide +kernel
theorem dL_law_747 : decode cL_law 747 = .ok (.aload_n 1, 1) := by decide +kernel
theorem dL_law_748 : decode cL_law 748 = .ok (.aload_n 0, 1) := by decide +kernel
theorem dL_law_749 : decode cL_law 749 = .ok (.iload_n 3, 1) := by decide +kernel
theorem dL_law_750 : decode cL_law 750 = .ok (.iconst 1, 1) := by decide +kernel
theorem dL_law_751 : decode cL_law 751 = .ok (.iadd, 1) := by decide +kernel
theorem dL_law_752 : decode cL_law 752 = .ok (.iaload, 1) := by decide +kernel
theorem dL_law_753 : decode cL_law 753 = .ok (.aload_n 0, 1) := by decide +kernel
theorem dL_law_754 : decode cL_law 754 = .ok (.iload_n 3, 1) := by decide +kernel
theorem dL_law_755 : decode cL_law 755 = .ok (.iconst 2, 1) := by decide +kernel
theorem dL_law_756 : decode cL_law 756 = .ok (.iadd, 1) := by decide +kernel
theorem dL_law_757 : decode cL_law 757 = .ok (.iaload, 1) := by decide +kernel
theorem dL_law_758 : decode cL_law 758 = .ok (.invokevirtual 77, 3) := by decide +kernel
theorem dL_law_761 : decode cL_law 761 = .ok (.aload_n 2, 1) := by decide +kernel
theorem dL_law_762 : decode cL_law 762 = .ok (.aload_n 0, 1) := by decide +kernel
theorem dL_law_763 : decode cL_law 763 = .ok (.iload_n 3, 1) := by decide +kernel
theorem dL_law_764 : decode cL_law 764 = .ok (.iconst 1, 1) := by decide +kernel
theorem dL_law_765 : decode cL_law 765 = .ok (.iadd, 1) := by decide +kernel
theorem dL_law_766 : decode cL_law 766 = .ok (.iaload, 1) := by decide +kernel
theorem dL_law_767 : decode cL_law 767 = .ok (.aload_n 0, 1) := by decide +kernel
theorem dL_law_768 : decode cL_law 768 = .ok (.iload_n 3, 1) := by decide +kernel
theorem dL_law_769 : decode cL_law 769 = .ok (.iconst 2, 1) := by decide +kernel
theorem dL_law_770 : decode cL_law 770 = .ok (.iadd, 1) := by decide +kernel
theorem dL_law_771 : decode cL_law 771 = .ok (.iaload, 1) := by decide +kernel
theorem dL_law_772 : decode cL_law 772 = .ok (.invokevirtual 80, 3) := by decide +kernel
theorem dL_law_775 : decode cL_law 775 = .ok (.if_icmp .eq 835, 3) := by decide +kernel
theorem dL_law_778 : decode cL_law 778 = .ok (.iconst 0, 1) := by decide +kernel
theorem dL_law_779 : decode cL_law 779 = .ok (.ireturn, 1) := by decide +kernel
theorem dL_law_780 : decode cL_law 780 = .ok (.aload_n 1, 1) := by decide +kernel
theorem dL_law_781 : decode cL_law 781 = .ok (.aload_n 0, 1) := by decide +kernel
theorem dL_law_782 : decode cL_law 782 = .ok (.iload_n 3, 1) := by decide +kernel
theorem dL_law_783 : decode cL_law 783 = .ok (.iconst 1, 1) := by decide +kernel
theorem dL_law_784 : decode cL_law 784 = .ok (.iadd, 1) := by decide +kernel
theorem dL_law_785 : decode cL_law 785 = .ok (.iaload, 1) := by decide +kernel
theorem dL_law_786 : decode cL_law 786 = .ok (.invokevirtual 81, 3) := by decide +kernel
theorem dL_law_789 : decode cL_law 789 = .ok (.aload_n 2, 1) := by decide +kernel
theorem dL_law_790 : decode cL_law 790 = .ok (.aload_n 0, 1) := by decide +kernel
theorem dL_law_791 : decode cL_law 791 = .ok (.iload_n 3, 1) := by decide +kernel
theorem dL_law_792 : decode cL_law 792 = .ok (.iconst 1, 1) := by decide +kernel
theorem dL_law_793 : decode cL_law 793 = .ok (.iadd, 1) := by decide +kernel
theorem dL_law_794 : decode cL_law 794 = .ok (.iaload, 1) := by decide +kernel
theorem dL_law_795 : decode cL_law 795 = .ok (.invokevirtual 84, 3) := by decide +kernel
theorem dL_law_798 : decode cL_law 798 = .ok (.if_icmp .eq 812, 3) := by decide +kernel
theorem dL_law_801 : decode cL_law 801 = .ok (.iconst 0, 1) := by decide +kernel
theorem dL_law_802 : decode cL_law 802 = .ok (.ireturn, 1) := by decide +kernel
theorem dL_law_803 : decode cL_law 803 = .ok (.aload_n 1, 1) := by decide +kernel
theorem dL_law_804 : decode cL_law 804 = .ok (.aload_n 0, 1) := by decide +kernel
theorem dL_law_805 : decode cL_law 805 = .ok (.iload_n 3, 1) := by decide +kernel
theorem dL_law_806 : decode cL_law 806 = .ok (.iconst 1, 1) := by decide +kernel
theorem dL_law_807 : decode cL_law 807 = .ok (.iadd, 1) := by decide +kernel
theorem dL_law_808 : decode cL_law 808 = .ok (.iaload, 1) := by decide +kernel
theorem dL_law_809 : decode cL_law 809 = .ok (.invokevirtual 85, 3) := by decide +kernel
theorem dL_law_812 : decode cL_law 812 = .ok (.aload_n 2, 1) := by decide +kernel
theorem dL_law_813 : decode cL_law 813 = .ok (.aload_n 0, 1) := by decide +kernel
theorem dL_law_814 : decode cL_law 814 = .ok (.iload_n 3, 1) := by decide +kernel
theorem dL_law_815 : decode cL_law 815 = .ok (.iconst 1, 1) := by decide +kernel
theorem dL_law_816 : decode cL_law 816 = .ok (.iadd, 1) := by decide +kernel
theorem dL_law_817 : decode cL_law 817 = .ok (.iaload, 1) := by decide +kernel
theorem dL_law_818 : decode cL_law 818 = .ok (.invokevirtual 88, 3) := by decide +kernel
theorem dL_law_821 : decode cL_law 821 = .ok (.if_icmp .eq 789, 3) := by decide +kernel
theorem dL_law_824 : decode cL_law 824 = .ok (.iconst 0, 1) := by decide +kernel
theorem dL_law_825 : decode cL_law 825 = .ok (.ireturn, 1) := by decide +kernel
theorem dL_law_826 : decode cL_law 826 = .ok (.aload_n 1, 1) := by decide +kernel
theorem dL_law_827 : decode cL_law 827 = .ok (.invokevirtual 89, 3) := by decide +kernel
theorem dL_law_830 : decode cL_law 830 = .ok (.aload_n 2, 1) := by decide +kernel
theorem dL_law_831 : decode cL_law 831 = .ok (.invokevirtual 92, 3) := by decide +kernel
theorem dL_law_834 : decode cL_law 834 = .ok (.if_icmp .eq 776, 3) := by decide +kernel
theorem dL_law_837 : decode cL_law 837 = .ok (.iconst 0, 1) := by decide +kernel
theorem dL_law_838 : decode cL_law 838 = .ok (.ireturn, 1) := by decide +kernel
theorem dL_law_839 : decode cL_law 839 = .ok (.aload_n 1, 1) := by decide +kernel
theorem dL_law_840 : decode cL_law 840 = .ok (.aload_n 0, 1) := by decide +kernel
theorem dL_law_841 : decode cL_law 841 = .ok (.iload_n 3, 1) := by decide +kernel
theorem dL_law_842 : decode cL_law 842 = .ok (.iconst 1, 1) := by decide +kernel
theorem dL_law_843 : decode cL_law 843 = .ok (.iadd, 1) := by decide +kernel
theorem dL_law_844 : decode cL_law 844 = .ok (.iaload, 1) := by decide +kernel
theorem dL_law_845 : decode cL_law 845 = .ok (.invokevirtual 93, 3) := by decide +kernel
theorem dL_law_848 : decode cL_law 848 = .ok (.aload_n 2, 1) := by decide +kernel
theorem dL_law_849 : decode cL_law 849 = .ok (.aload_n 0, 1) := by decide +kernel
theorem dL_law_850 : decode cL_law 850 = .ok (.iload_n 3, 1) := by decide +kernel
theorem dL_law_851 : decode cL_law 851 = .ok (.iconst 1, 1) := by decide +kernel
theorem dL_law_852 : decode cL_law 852 = .ok (.iadd, 1) := by decide +kernel
theorem dL_law_853 : decode cL_law 853 = .ok (.iaload, 1) := by decide +kernel
theorem dL_law_854 : decode cL_law 854 = .ok (.invokevirtual 96, 3) := by decide +kernel
theorem dL_law_857 : decode cL_law 857 = .ok (.if_icmp .eq 753, 3) := by decide +kernel
theorem dL_law_860 : decode cL_law 860 = .ok (.iconst 0, 1) := by decide +kernel
theorem dL_law_861 : decode cL_law 861 = .ok (.ireturn, 1) := by decide +kernel
theorem dL_law_862 : decode cL_law 862 = .ok (.aload_n 1, 1) := by decide +kernel
theorem dL_law_863 : decode cL_law 863 = .ok (.invokevirtual 97, 3) := by decide +kernel
theorem dL_law_866 : decode cL_law 866 = .ok (.aload_n 2, 1) := by decide +kernel
theorem dL_law_867 : decode cL_law 867 = .ok (.invokevirtual 100, 3) := by decide +kernel
theorem dL_law_870 : decode cL_law 870 = .ok (.if_icmp .eq 740, 3) := by decide +kernel
theorem dL_law_873 : decode cL_law 873 = .ok (.iconst 0, 1) := by decide +kernel
theorem dL_law_874 : decode cL_law 874 = .ok (.ireturn, 1) := by decide +kernel
theorem dL_law_875 : decode cL_law 875 = .ok (.aload_n 1, 1) := by decide +kernel
theorem dL_law_876 : decode cL_law 876 = .ok (.aload_n 0, 1) := by decide +kernel
theorem dL_law_877 : decode cL_law 877 = .ok (.iload_n 3, 1) := by decide +kernel
theorem dL_law_878 : decode cL_law 878 = .ok (.iconst 1, 1) := by decide +kernel
theorem dL_law_879 : decode cL_law 879 = .ok (.iadd, 1) := by decide +kernel
theorem dL_law_880 : decode cL_law 880 = .ok (.iaload, 1) := by decide +kernel
theorem dL_law_881 : decode cL_law 881 = .ok (.invokevirtual 101, 3) := by decide +kernel
theorem dL_law_884 : decode cL_law 884 = .ok (.aload_n 2, 1) := by decide +kernel
theorem dL_law_885 : decode cL_law 885 = .ok (.aload_n 0, 1) := by decide +kernel
theorem dL_law_886 : decode cL_law 886 = .ok (.iload_n 3, 1) := by decide +kernel
theorem dL_law_887 : decode cL_law 887 = .ok (.iconst 1, 1) := by decide +kernel
theorem dL_law_888 : decode cL_law 888 = .ok (.iadd, 1) := by decide +kernel
theorem dL_law_889 : decode cL_law 889 = .ok (.iaload, 1) := by decide +kernel
theorem dL_law_890 : decode cL_law 890 = .ok (.invokevirtual 104, 3) := by decide +kernel
theorem dL_law_893 : decode cL_law 893 = .ok (.if_icmp .eq 717, 3) := by decide +kernel
theorem dL_law_896 : decode cL_law 896 = .ok (.iconst 0, 1) := by decide +kernel
theorem dL_law_897 : decode cL_law 897 = .ok (.ireturn, 1) := by decide +kernel
theorem dL_law_898 : decode cL_law 898 = .ok (.aload_n 1, 1) := by decide +kernel
theorem dL_law_899 : decode cL_law 899 = .ok (.aload_n 0, 1) := by decide +kernel
theorem dL_law_900 : decode cL_law 900 = .ok (.iload_n 3, 1) := by decide +kernel
theorem dL_law_901 : decode cL_law 901 = .ok (.iconst 1, 1) := by decide +kernel
theorem dL_law_902 : decode cL_law 902 = .ok (.iadd, 1) := by decide +kernel
theorem dL_law_903 : decode cL_law 903 = .ok (.iaload, 1) := by decide +kernel
theorem dL_law_904 : decode cL_law 904 = .ok (.aload_n 0, 1) := by decide +kernel
theorem dL_law_905 : decode cL_law 905 = .ok (.iload_n 3, 1) := by decide +kernel
theorem dL_law_906 : decode cL_law 906 = .ok (.iconst 2, 1) := by decide +kernel
theorem dL_law_907 : decode cL_law 907 = .ok (.iadd, 1) := by decide +kernel
theorem dL_law_908 : decode cL_law 908 = .ok (.iaload, 1) := by decide +kernel
theorem dL_law_909 : decode cL_law 909 = .ok (.invokevirtual 105, 3) := by decide +kernel
theorem dL_law_912 : decode cL_law 912 = .ok (.aload_n 2, 1) := by decide +kernel
theorem dL_law_913 : decode cL_law 913 = .ok (.aload_n 0, 1) := by decide +kernel
theorem dL_law_914 : decode cL_law 914 = .ok (.iload_n 3, 1) := by decide +kernel
theorem dL_law_915 : decode cL_law 915 = .ok (.iconst 1, 1) := by decide +kernel
theorem dL_law_916 : decode cL_law 916 = .ok (.iadd, 1) := by decide +kernel
theorem dL_law_917 : decode cL_law 917 = .ok (.iaload, 1) := by decide +kernel
theorem dL_law_918 : decode cL_law 918 = .ok (.aload_n 0, 1) := by decide +kernel
theorem dL_law_919 : decode cL_law 919 = .ok (.iload_n 3, 1) := by decide +kernel
theorem dL_law_920 : decode cL_law 920 = .ok (.iconst 2, 1) := by decide +kernel
theorem dL_law_921 : decode cL_law 921 = .ok (.iadd, 1) := by decide +kernel
theorem dL_law_922 : decode cL_law 922 = .ok (.iaload, 1) := by decide +kernel
theorem dL_law_923 : decode cL_law 923 = .ok (.invokevirtual 108, 3) := by decide +kernel
theorem dL_law_926 : decode cL_law 926 = .ok (.if_icmp .eq 684, 3) := by decide +kernel
theorem dL_law_929 : decode cL_law 929 = .ok (.iconst 0, 1) := by decide +kernel
theorem dL_law_930 : decode cL_law 930 = .ok (.ireturn, 1) := by decide +kernel
theorem dL_law_931 : decode cL_law 931 = .ok (.aload_n 1, 1) := by decide +kernel
theorem dL_law_932 : decode cL_law 932 = .ok (.aload_n 0, 1) := by decide +kernel
theorem dL_law_933 : decode cL_law 933 = .ok (.iload_n 3, 1) := by decide +kernel
theorem dL_law_934 : decode cL_law 934 = .ok (.iconst 1, 1) := by decide +kernel
theorem dL_law_935 : decode cL_law 935 = .ok (.iadd, 1) := by decide +kernel
theorem dL_law_936 : decode cL_law 936 = .ok (.iaload, 1) := by decide +kernel
theorem dL_law_937 : decode cL_law 937 = .ok (.invokevirtual 109, 3) := by decide +kernel
theorem dL_law_940 : decode cL_law 940 = .ok (.aload_n 2, 1) := by decide +kernel
theorem dL_law_941 : decode cL_law 941 = .ok (.aload_n 0, 1) := by decide +kernel
theorem dL_law_942 : decode cL_law 942 = .ok (.iload_n 3, 1) := by decide +kernel
theorem dL_law_943 : decode cL_law 943 = .ok (.iconst 1, 1) := by decide +kernel
theorem dL_law_944 : decode cL_law 944 = .ok (.iadd, 1) := by decide +kernel
theorem dL_law_945 : decode cL_law 945 = .ok (.iaload, 1) := by decide +kernel
theorem dL_law_946 : decode cL_law 946 = .ok (.invokevirtual 112, 3) := by decide +kernel
theorem dL_law_949 : decode cL_law 949 = .ok (.if_icmp .eq 661, 3) := by decide +kernel
theorem dL_law_952 : decode cL_law 952 = .ok (.iconst 0, 1) := by decide +kernel
theorem dL_law_953 : decode cL_law 953 = .ok (.ireturn, 1) := by decide +kernel
theorem dL_law_954 : decode cL_law 954 = .ok (.aload_n 1, 1) := by decide +kernel
theorem dL_law_955 : decode cL_law 955 = .ok (.invokevirtual 113, 3) := by decide +kernel
theorem dL_law_958 : decode cL_law 958 = .ok (.aload_n 2, 1) := by decide +kernel
theorem dL_law_959 : decode cL_law 959 = .ok (.invokevirtual 117, 3) := by decide +kernel
theorem dL_law_962 : decode cL_law 962 = .ok (.lcmp, 1) := by decide +kernel
theorem dL_law_963 : decode cL_law 963 = .ok (.ifCond .eq 647, 3) := by decide +kernel
theorem dL_law_966 : decode cL_law 966 = .ok (.iconst 0, 1) := by decide +kernel
theorem dL_law_967 : decode cL_law 967 = .ok (.ireturn, 1) := by decide +kernel
theorem dL_law_968 : decode cL_law 968 = .ok (.aload_n 1, 1) := by decide +kernel
theorem dL_law_969 : decode cL_law 969 = .ok (.aload_n 0, 1) := by decide +kernel
theorem dL_law_970 : decode cL_law 970 = .ok (.iload_n 3, 1) := by decide +kernel
theorem dL_law_971 : decode cL_law 971 = .ok (.iconst 1, 1) := by decide +kernel
theorem dL_law_972 : decode cL_law 972 = .ok (.iadd, 1) := by decide +kernel
theorem dL_law_973 : decode cL_law 973 = .ok (.iaload, 1) := by decide +kernel
theorem dL_law_974 : decode cL_law 974 = .ok (.invokevirtual 118, 3) := by decide +kernel
theorem dL_law_977 : decode cL_law 977 = .ok (.aload_n 2, 1) := by decide +kernel
theorem dL_law_978 : decode cL_law 978 = .ok (.aload_n 0, 1) := by decide +kernel
theorem dL_law_979 : decode cL_law 979 = .ok (.iload_n 3, 1) := by decide +kernel
theorem dL_law_980 : decode cL_law 980 = .ok (.iconst 1, 1) := by decide +kernel
theorem dL_law_981 : decode cL_law 981 = .ok (.iadd, 1) := by decide +kernel
theorem dL_law_982 : decode cL_law 982 = .ok (.iaload, 1) := by decide +kernel
theorem dL_law_983 : decode cL_law 983 = .ok (.invokevirtual 121, 3) := by decide +kernel
theorem dL_law_986 : decode cL_law 986 = .ok (.if_icmp .eq 624, 3) := by decide +kernel
theorem dL_law_989 : decode cL_law 989 = .ok (.iconst 0, 1) := by decide +kernel
theorem dL_law_990 : decode cL_law 990 = .ok (.ireturn, 1) := by decide +kernel
theorem dL_law_991 : decode cL_law 991 = .ok (.aload_n 1, 1) := by decide +kernel
theorem dL_law_992 : decode cL_law 992 = .ok (.aload_n 0, 1) := by decide +kernel
theorem dL_law_993 : decode cL_law 993 = .ok (.iload_n 3, 1) := by decide +kernel
theorem dL_law_994 : decode cL_law 994 = .ok (.iconst 1, 1) := by decide +kernel
theorem dL_law_995 : decode cL_law 995 = .ok (.iadd, 1) := by decide +kernel
theorem dL_law_996 : decode cL_law 996 = .ok (.iaload, 1) := by decide +kernel
theorem dL_law_997 : decode cL_law 997 = .ok (.invokevirtual 122, 3) := by decide +kernel
theorem dL_law_1000 : decode cL_law 1000 = .ok (.aload_n 2, 1) := by decide +kernel
theorem dL_law_1001 : decode cL_law 1001 = .ok (.aload_n 0, 1) := by decide +kernel
theorem dL_law_1002 : decode cL_law 1002 = .ok (.iload_n 3, 1) := by decide +kernel
theorem dL_law_1003 : decode cL_law 1003 = .ok (.iconst 1, 1) := by decide +kernel
theorem dL_law_1004 : decode cL_law 1004 = .ok (.iadd, 1) := by decide +kernel
theorem dL_law_1005 : decode cL_law 1005 = .ok (.iaload, 1) := by decide +kernel
theorem dL_law_1006 : decode cL_law 1006 = .ok (.invokevirtual 125, 3) := by decide +kernel
theorem dL_law_1009 : decode cL_law 1009 = .ok (.if_icmp .eq 601, 3) := by decide +kernel
theorem dL_law_1012 : decode cL_law 1012 = .ok (.iconst 0, 1) := by decide +kernel
theorem dL_law_1013 : decode cL_law 1013 = .ok (.ireturn, 1) := by decide +kernel
theorem dL_law_1014 : decode cL_law 1014 = .ok (.aload_n 1, 1) := by decide +kernel
theorem dL_law_1015 : decode cL_law 1015 = .ok (.aload_n 0, 1) := by decide +kernel
theorem dL_law_1016 : decode cL_law 1016 = .ok (.iload_n 3, 1) := by decide +kernel
theorem dL_law_1017 : decode cL_law 1017 = .ok (.iconst 1, 1) := by decide +kernel
theorem dL_law_1018 : decode cL_law 1018 = .ok (.iadd, 1) := by decide +kernel
theorem dL_law_1019 : decode cL_law 1019 = .ok (.iaload, 1) := by decide +kernel
theorem dL_law_1020 : decode cL_law 1020 = .ok (.invokevirtual 126, 3) := by decide +kernel
theorem dL_law_1023 : decode cL_law 1023 = .ok (.aload_n 2, 1) := by decide +kernel
theorem dL_law_1024 : decode cL_law 1024 = .ok (.aload_n 0, 1) := by decide +kernel
theorem dL_law_1025 : decode cL_law 1025 = .ok (.iload_n 3, 1) := by decide +kernel
theorem dL_law_1026 : decode cL_law 1026 = .ok (.iconst 1, 1) := by decide +kernel
theorem dL_law_1027 : decode cL_law 1027 = .ok (.iadd, 1) := by decide +kernel
theorem dL_law_1028 : decode cL_law 1028 = .ok (.iaload, 1) := by decide +kernel
theorem dL_law_1029 : decode cL_law 1029 = .ok (.invokevirtual 129, 3) := by decide +kernel
theorem dL_law_1032 : decode cL_law 1032 = .ok (.if_icmp .eq 578, 3) := by decide +kernel
theorem dL_law_1035 : decode cL_law 1035 = .ok (.iconst 0, 1) := by decide +kernel
theorem dL_law_1036 : decode cL_law 1036 = .ok (.ireturn, 1) := by decide +kernel
theorem dL_law_1037 : decode cL_law 1037 = .ok (.aload_n 1, 1) := by decide +kernel
theorem dL_law_1038 : decode cL_law 1038 = .ok (.aload_n 0, 1) := by decide +kernel
theorem dL_law_1039 : decode cL_law 1039 = .ok (.iload_n 3, 1) := by decide +kernel
theorem dL_law_1040 : decode cL_law 1040 = .ok (.iconst 1, 1) := by decide +kernel
theorem dL_law_1041 : decode cL_law 1041 = .ok (.iadd, 1) := by decide +kernel
theorem dL_law_1042 : decode cL_law 1042 = .ok (.iaload, 1) := by decide +kernel
theorem dL_law_1043 : decode cL_law 1043 = .ok (.invokevirtual 130, 3) := by decide +kernel
theorem dL_law_1046 : decode cL_law 1046 = .ok (.aload_n 2, 1) := by decide +kernel
theorem dL_law_1047 : decode cL_law 1047 = .ok (.aload_n 0, 1) := by decide +kernel
theorem dL_law_1048 : decode cL_law 1048 = .ok (.iload_n 3, 1) := by decide +kernel
theorem dL_law_1049 : decode cL_law 1049 = .ok (.iconst 1, 1) := by decide +kernel
theorem dL_law_1050 : decode cL_law 1050 = .ok (.iadd, 1) := by decide +kernel
theorem dL_law_1051 : decode cL_law 1051 = .ok (.iaload, 1) := by decide +kernel
theorem dL_law_1052 : decode cL_law 1052 = .ok (.invokevirtual 133, 3) := by decide +kernel
theorem dL_law_1055 : decode cL_law 1055 = .ok (.if_icmp .eq 555, 3) := by decide +kernel
theorem dL_law_1058 : decode cL_law 1058 = .ok (.iconst 0, 1) := by decide +kernel
theorem dL_law_1059 : decode cL_law 1059 = .ok (.ireturn, 1) := by decide +kernel
theorem dL_law_1060 : decode cL_law 1060 = .ok (.aload_n 1, 1) := by decide +kernel
theorem dL_law_1061 : decode cL_law 1061 = .ok (.aload_n 0, 1) := by decide +kernel
theorem dL_law_1062 : decode cL_law 1062 = .ok (.iload_n 3, 1) := by decide +kernel
theorem dL_law_1063 : decode cL_law 1063 = .ok (.iconst 1, 1) := by decide +kernel
theorem dL_law_1064 : decode cL_law 1064 = .ok (.iadd, 1) := by decide +kernel
theorem dL_law_1065 : decode cL_law 1065 = .ok (.iaload, 1) := by decide +kernel
theorem dL_law_1066 : decode cL_law 1066 = .ok (.aload_n 0, 1) := by decide +kernel
theorem dL_law_1067 : decode cL_law 1067 = .ok (.iload_n 3, 1) := by decide +kernel
theorem dL_law_1068 : decode cL_law 1068 = .ok (.iconst 2, 1) := by decide +kernel
theorem dL_law_1069 : decode cL_law 1069 = .ok (.iadd, 1) := by decide +kernel
theorem dL_law_1070 : decode cL_law 1070 = .ok (.iaload, 1) := by decide +kernel
theorem dL_law_1071 : decode cL_law 1071 = .ok (.invokevirtual 134, 3) := by decide +kernel
theorem dL_law_1074 : decode cL_law 1074 = .ok (.aload_n 2, 1) := by decide +kernel
theorem dL_law_1075 : decode cL_law 1075 = .ok (.aload_n 0, 1) := by decide +kernel
theorem dL_law_1076 : decode cL_law 1076 = .ok (.iload_n 3, 1) := by decide +kernel
theorem dL_law_1077 : decode cL_law 1077 = .ok (.iconst 1, 1) := by decide +kernel
theorem dL_law_1078 : decode cL_law 1078 = .ok (.iadd, 1) := by decide +kernel
theorem dL_law_1079 : decode cL_law 1079 = .ok (.iaload, 1) := by decide +kernel
theorem dL_law_1080 : decode cL_law 1080 = .ok (.aload_n 0, 1) := by decide +kernel
theorem dL_law_1081 : decode cL_law 1081 = .ok (.iload_n 3, 1) := by decide +kernel
theorem dL_law_1082 : decode cL_law 1082 = .ok (.iconst 2, 1) := by decide +kernel
theorem dL_law_1083 : decode cL_law 1083 = .ok (.iadd, 1) := by decide +kernel
theorem dL_law_1084 : decode cL_law 1084 = .ok (.iaload, 1) := by decide +kernel
theorem dL_law_1085 : decode cL_law 1085 = .ok (.invokevirtual 137, 3) := by decide +kernel
theorem dL_law_1088 : decode cL_law 1088 = .ok (.if_icmp .eq 522, 3) := by decide +kernel
theorem dL_law_1091 : decode cL_law 1091 = .ok (.iconst 0, 1) := by decide +kernel
theorem dL_law_1092 : decode cL_law 1092 = .ok (.ireturn, 1) := by decide +kernel
theorem dL_law_1093 : decode cL_law 1093 = .ok (.aload_n 1, 1) := by decide +kernel
theorem dL_law_1094 : decode cL_law 1094 = .ok (.aload_n 0, 1) := by decide +kernel
theorem dL_law_1095 : decode cL_law 1095 = .ok (.iload_n 3, 1) := by decide +kernel
theorem dL_law_1096 : decode cL_law 1096 = .ok (.iconst 1, 1) := by decide +kernel
theorem dL_law_1097 : decode cL_law 1097 = .ok (.iadd, 1) := by decide +kernel
theorem dL_law_1098 : decode cL_law 1098 = .ok (.iaload, 1) := by decide +kernel
theorem dL_law_1099 : decode cL_law 1099 = .ok (.aload_n 0, 1) := by decide +kernel
theorem dL_law_1100 : decode cL_law 1100 = .ok (.iload_n 3, 1) := by decide +kernel
theorem dL_law_1101 : decode cL_law 1101 = .ok (.iconst 2, 1) := by decide +kernel
theorem dL_law_1102 : decode cL_law 1102 = .ok (.iadd, 1) := by decide +kernel
theorem dL_law_1103 : decode cL_law 1103 = .ok (.iaload, 1) := by decide +kernel
theorem dL_law_1104 : decode cL_law 1104 = .ok (.aload_n 0, 1) := by decide +kernel
theorem dL_law_1105 : decode cL_law 1105 = .ok (.iload_n 3, 1) := by decide +kernel
theorem dL_law_1106 : decode cL_law 1106 = .ok (.iconst 3, 1) := by decide +kernel
theorem dL_law_1107 : decode cL_law 1107 = .ok (.iadd, 1) := by decide +kernel
theorem dL_law_1108 : decode cL_law 1108 = .ok (.iaload, 1) := by decide +kernel
theorem dL_law_1109 : decode cL_law 1109 = .ok (.invokevirtual 138, 3) := by decide +kernel
theorem dL_law_1112 : decode cL_law 1112 = .ok (.aload_n 2, 1) := by decide +kernel
theorem dL_law_1113 : decode cL_law 1113 = .ok (.aload_n 0, 1) := by decide +kernel
theorem dL_law_1114 : decode cL_law 1114 = .ok (.iload_n 3, 1) := by decide +kernel
theorem dL_law_1115 : decode cL_law 1115 = .ok (.iconst 1, 1) := by decide +kernel
theorem dL_law_1116 : decode cL_law 1116 = .ok (.iadd, 1) := by decide +kernel
theorem dL_law_1117 : decode cL_law 1117 = .ok (.iaload, 1) := by decide +kernel
theorem dL_law_1118 : decode cL_law 1118 = .ok (.aload_n 0, 1) := by decide +kernel
theorem dL_law_1119 : decode cL_law 1119 = .ok (.iload_n 3, 1) := by decide +kernel
theorem dL_law_1120 : decode cL_law 1120 = .ok (.iconst 2, 1) := by decide +kernel
theorem dL_law_1121 : decode cL_law 1121 = .ok (.iadd, 1) := by decide +kernel
theorem dL_law_1122 : decode cL_law 1122 = .ok (.iaload, 1) := by decide +kernel
theorem dL_law_1123 : decode cL_law 1123 = .ok (.aload_n 0, 1) := by decide +kernel
theorem dL_law_1124 : decode cL_law 1124 = .ok (.iload_n 3, 1) := by decide +kernel
theorem dL_law_1125 : decode cL_law 1125 = .ok (.iconst 3, 1) := by decide +kernel
theorem dL_law_1126 : decode cL_law 1126 = .ok (.iadd, 1) := by decide +kernel
theorem dL_law_1127 : decode cL_law 1127 = .ok (.iaload, 1) := by decide +kernel
theorem dL_law_1128 : decode cL_law 1128 = .ok (.invokevirtual 141, 3) := by decide +kernel
theorem dL_law_1131 : decode cL_law 1131 = .ok (.if_icmp .eq 479, 3) := by decide +kernel
theorem dL_law_1134 : decode cL_law 1134 = .ok (.iconst 0, 1) := by decide +kernel
theorem dL_law_1135 : decode cL_law 1135 = .ok (.ireturn, 1) := by decide +kernel
theorem dL_law_1136 : decode cL_law 1136 = .ok (.aload_n 1, 1) := by decide +kernel
theorem dL_law_1137 : decode cL_law 1137 = .ok (.aload_n 0, 1) := by decide +kernel
theorem dL_law_1138 : decode cL_law 1138 = .ok (.iload_n 3, 1) := by decide +kernel
theorem dL_law_1139 : decode cL_law 1139 = .ok (.iconst 1, 1) := by decide +kernel
theorem dL_law_1140 : decode cL_law 1140 = .ok (.iadd, 1) := by decide +kernel
theorem dL_law_1141 : decode cL_law 1141 = .ok (.iaload, 1) := by decide +kernel
theorem dL_law_1142 : decode cL_law 1142 = .ok (.aload_n 0, 1) := by decide +kernel
theorem dL_law_1143 : decode cL_law 1143 = .ok (.iload_n 3, 1) := by decide +kernel
theorem dL_law_1144 : decode cL_law 1144 = .ok (.iconst 2, 1) := by decide +kernel
theorem dL_law_1145 : decode cL_law 1145 = .ok (.iadd, 1) := by decide +kernel
theorem dL_law_1146 : decode cL_law 1146 = .ok (.iaload, 1) := by decide +kernel
theorem dL_law_1147 : decode cL_law 1147 = .ok (.aload_n 0, 1) := by decide +kernel
theorem dL_law_1148 : decode cL_law 1148 = .ok (.iload_n 3, 1) := by decide +kernel
theorem dL_law_1149 : decode cL_law 1149 = .ok (.iconst 3, 1) := by decide +kernel
theorem dL_law_1150 : decode cL_law 1150 = .ok (.iadd, 1) := by decide +kernel
theorem dL_law_1151 : decode cL_law 1151 = .ok (.iaload, 1) := by decide +kernel
theorem dL_law_1152 : decode cL_law 1152 = .ok (.invokevirtual 142, 3) := by decide +kernel
theorem dL_law_1155 : decode cL_law 1155 = .ok (.aload_n 2, 1) := by decide +kernel
theorem dL_law_1156 : decode cL_law 1156 = .ok (.aload_n 0, 1) := by decide +kernel
theorem dL_law_1157 : decode cL_law 1157 = .ok (.iload_n 3, 1) := by decide +kernel
theorem dL_law_1158 : decode cL_law 1158 = .ok (.iconst 1, 1) := by decide +kernel
theorem dL_law_1159 : decode cL_law 1159 = .ok (.iadd, 1) := by decide +kernel
theorem dL_law_1160 : decode cL_law 1160 = .ok (.iaload, 1) := by decide +kernel
theorem dL_law_1161 : decode cL_law 1161 = .ok (.aload_n 0, 1) := by decide +kernel
theorem dL_law_1162 : decode cL_law 1162 = .ok (.iload_n 3, 1) := by decide +kernel
theorem dL_law_1163 : decode cL_law 1163 = .ok (.iconst 2, 1) := by decide +kernel
theorem dL_law_1164 : decode cL_law 1164 = .ok (.iadd, 1) := by decide +kernel
theorem dL_law_1165 : decode cL_law 1165 = .ok (.iaload, 1) := by decide +kernel
theorem dL_law_1166 : decode cL_law 1166 = .ok (.aload_n 0, 1) := by decide +kernel
theorem dL_law_1167 : decode cL_law 1167 = .ok (.iload_n 3, 1) := by decide +kernel
theorem dL_law_1168 : decode cL_law 1168 = .ok (.iconst 3, 1) := by decide +kernel
theorem dL_law_1169 : decode cL_law 1169 = .ok (.iadd, 1) := by decide +kernel
theorem dL_law_1170 : decode cL_law 1170 = .ok (.iaload, 1) := by decide +kernel
theorem dL_law_1171 : decode cL_law 1171 = .ok (.invokevirtual 145, 3) := by decide +kernel
theorem dL_law_1174 : decode cL_law 1174 = .ok (.if_icmp .eq 436, 3) := by decide +kernel
theorem dL_law_1177 : decode cL_law 1177 = .ok (.iconst 0, 1) := by decide +kernel
theorem dL_law_1178 : decode cL_law 1178 = .ok (.ireturn, 1) := by decide +kernel
theorem dL_law_1179 : decode cL_law 1179 = .ok (.aload_n 1, 1) := by decide +kernel
theorem dL_law_1180 : decode cL_law 1180 = .ok (.aload_n 0, 1) := by decide +kernel
theorem dL_law_1181 : decode cL_law 1181 = .ok (.iload_n 3, 1) := by decide +kernel
theorem dL_law_1182 : decode cL_law 1182 = .ok (.iconst 1, 1) := by decide +kernel
theorem dL_law_1183 : decode cL_law 1183 = .ok (.iadd, 1) := by decide +kernel
theorem dL_law_1184 : decode cL_law 1184 = .ok (.iaload, 1) := by decide +kernel
theorem dL_law_1185 : decode cL_law 1185 = .ok (.aload_n 0, 1) := by decide +kernel
theorem dL_law_1186 : decode cL_law 1186 = .ok (.iload_n 3, 1) := by decide +kernel
theorem dL_law_1187 : decode cL_law 1187 = .ok (.iconst 2, 1) := by decide +kernel
theorem dL_law_1188 : decode cL_law 1188 = .ok (.iadd, 1) := by decide +kernel
theorem dL_law_1189 : decode cL_law 1189 = .ok (.iaload, 1) := by decide +kernel
theorem dL_law_1190 : decode cL_law 1190 = .ok (.invokevirtual 146, 3) := by decide +kernel
theorem dL_law_1193 : decode cL_law 1193 = .ok (.aload_n 2, 1) := by decide +kernel
theorem dL_law_1194 : decode cL_law 1194 = .ok (.aload_n 0, 1) := by decide +kernel
theorem dL_law_1195 : decode cL_law 1195 = .ok (.iload_n 3, 1) := by decide +kernel
theorem dL_law_1196 : decode cL_law 1196 = .ok (.iconst 1, 1) := by decide +kernel
theorem dL_law_1197 : decode cL_law 1197 = .ok (.iadd, 1) := by decide +kernel
theorem dL_law_1198 : decode cL_law 1198 = .ok (.iaload, 1) := by decide +kernel
theorem dL_law_1199 : decode cL_law 1199 = .ok (.aload_n 0, 1) := by decide +kernel
theorem dL_law_1200 : decode cL_law 1200 = .ok (.iload_n 3, 1) := by decide +kernel
theorem dL_law_1201 : decode cL_law 1201 = .ok (.iconst 2, 1) := by decide +kernel
theorem dL_law_1202 : decode cL_law 1202 = .ok (.iadd, 1) := by decide +kernel
theorem dL_law_1203 : decode cL_law 1203 = .ok (.iaload, 1) := by decide +kernel
theorem dL_law_1204 : decode cL_law 1204 = .ok (.invokevirtual 149, 3) := by decide +kernel
theorem dL_law_1207 : decode cL_law 1207 = .ok (.if_icmp .eq 403, 3) := by decide +kernel
theorem dL_law_1210 : decode cL_law 1210 = .ok (.iconst 0, 1) := by decide +kernel
theorem dL_law_1211 : decode cL_law 1211 = .ok (.ireturn, 1) := by decide +kernel
theorem dL_law_1212 : decode cL_law 1212 = .ok (.aload_n 1, 1) := by decide +kernel
theorem dL_law_1213 : decode cL_law 1213 = .ok (.aload_n 0, 1) := by decide +kernel
theorem dL_law_1214 : decode cL_law 1214 = .ok (.iload_n 3, 1) := by decide +kernel
theorem dL_law_1215 : decode cL_law 1215 = .ok (.iconst 1, 1) := by decide +kernel
theorem dL_law_1216 : decode cL_law 1216 = .ok (.iadd, 1) := by decide +kernel
theorem dL_law_1217 : decode cL_law 1217 = .ok (.iaload, 1) := by decide +kernel
theorem dL_law_1218 : decode cL_law 1218 = .ok (.aload_n 0, 1) := by decide +kernel
theorem dL_law_1219 : decode cL_law 1219 = .ok (.iload_n 3, 1) := by decide +kernel
theorem dL_law_1220 : decode cL_law 1220 = .ok (.iconst 2, 1) := by decide +kernel
theorem dL_law_1221 : decode cL_law 1221 = .ok (.iadd, 1) := by decide +kernel
theorem dL_law_1222 : decode cL_law 1222 = .ok (.iaload, 1) := by decide +kernel
theorem dL_law_1223 : decode cL_law 1223 = .ok (.aload_n 0, 1) := by decide +kernel
theorem dL_law_1224 : decode cL_law 1224 = .ok (.iload_n 3, 1) := by decide +kernel
theorem dL_law_1225 : decode cL_law 1225 = .ok (.iconst 3, 1) := by decide +kernel
theorem dL_law_1226 : decode cL_law 1226 = .ok (.iadd, 1) := by decide +kernel
theorem dL_law_1227 : decode cL_law 1227 = .ok (.iaload, 1) := by decide +kernel
theorem dL_law_1228 : decode cL_law 1228 = .ok (.invokevirtual 150, 3) := by decide +kernel
theorem dL_law_1231 : decode cL_law 1231 = .ok (.aload_n 2, 1) := by decide +kernel
theorem dL_law_1232 : decode cL_law 1232 = .ok (.aload_n 0, 1) := by decide +kernel
theorem dL_law_1233 : decode cL_law 1233 = .ok (.iload_n 3, 1) := by decide +kernel
theorem dL_law_1234 : decode cL_law 1234 = .ok (.iconst 1, 1) := by decide +kernel
theorem dL_law_1235 : decode cL_law 1235 = .ok (.iadd, 1) := by decide +kernel
theorem dL_law_1236 : decode cL_law 1236 = .ok (.iaload, 1) := by decide +kernel
theorem dL_law_1237 : decode cL_law 1237 = .ok (.aload_n 0, 1) := by decide +kernel
theorem dL_law_1238 : decode cL_law 1238 = .ok (.iload_n 3, 1) := by decide +kernel
theorem dL_law_1239 : decode cL_law 1239 = .ok (.iconst 2, 1) := by decide +kernel
theorem dL_law_1240 : decode cL_law 1240 = .ok (.iadd, 1) := by decide +kernel
theorem dL_law_1241 : decode cL_law 1241 = .ok (.iaload, 1) := by decide +kernel
theorem dL_law_1242 : decode cL_law 1242 = .ok (.aload_n 0, 1) := by decide +kernel
theorem dL_law_1243 : decode cL_law 1243 = .ok (.iload_n 3, 1) := by decide +kernel
theorem dL_law_1244 : decode cL_law 1244 = .ok (.iconst 3, 1) := by decide +kernel
theorem dL_law_1245 : decode cL_law 1245 = .ok (.iadd, 1) := by decide +kernel
theorem dL_law_1246 : decode cL_law 1246 = .ok (.iaload, 1) := by decide +kernel
theorem dL_law_1247 : decode cL_law 1247 = .ok (.invokevirtual 153, 3) := by decide +kernel
theorem dL_law_1250 : decode cL_law 1250 = .ok (.if_icmp .eq 360, 3) := by decide +kernel
theorem dL_law_1253 : decode cL_law 1253 = .ok (.iconst 0, 1) := by decide +kernel
theorem dL_law_1254 : decode cL_law 1254 = .ok (.ireturn, 1) := by decide +kernel
theorem dL_law_1255 : decode cL_law 1255 = .ok (.aload_n 1, 1) := by decide +kernel
theorem dL_law_1256 : decode cL_law 1256 = .ok (.aload_n 0, 1) := by decide +kernel
theorem dL_law_1257 : decode cL_law 1257 = .ok (.iload_n 3, 1) := by decide +kernel
theorem dL_law_1258 : decode cL_law 1258 = .ok (.iconst 1, 1) := by decide +kernel
theorem dL_law_1259 : decode cL_law 1259 = .ok (.iadd, 1) := by decide +kernel
theorem dL_law_1260 : decode cL_law 1260 = .ok (.iaload, 1) := by decide +kernel
theorem dL_law_1261 : decode cL_law 1261 = .ok (.aload_n 0, 1) := by decide +kernel
theorem dL_law_1262 : decode cL_law 1262 = .ok (.iload_n 3, 1) := by decide +kernel
theorem dL_law_1263 : decode cL_law 1263 = .ok (.iconst 2, 1) := by decide +kernel
theorem dL_law_1264 : decode cL_law 1264 = .ok (.iadd, 1) := by decide +kernel
theorem dL_law_1265 : decode cL_law 1265 = .ok (.iaload, 1) := by decide +kernel
theorem dL_law_1266 : decode cL_law 1266 = .ok (.aload_n 0, 1) := by decide +kernel
theorem dL_law_1267 : decode cL_law 1267 = .ok (.iload_n 3, 1) := by decide +kernel
theorem dL_law_1268 : decode cL_law 1268 = .ok (.iconst 3, 1) := by decide +kernel
theorem dL_law_1269 : decode cL_law 1269 = .ok (.iadd, 1) := by decide +kernel
theorem dL_law_1270 : decode cL_law 1270 = .ok (.iaload, 1) := by decide +kernel
theorem dL_law_1271 : decode cL_law 1271 = .ok (.invokevirtual 154, 3) := by decide +kernel
theorem dL_law_1274 : decode cL_law 1274 = .ok (.aload_n 2, 1) := by decide +kernel
theorem dL_law_1275 : decode cL_law 1275 = .ok (.aload_n 0, 1) := by decide +kernel
theorem dL_law_1276 : decode cL_law 1276 = .ok (.iload_n 3, 1) := by decide +kernel
theorem dL_law_1277 : decode cL_law 1277 = .ok (.iconst 1, 1) := by decide +kernel
theorem dL_law_1278 : decode cL_law 1278 = .ok (.iadd, 1) := by decide +kernel
theorem dL_law_1279 : decode cL_law 1279 = .ok (.iaload, 1) := by decide +kernel
theorem dL_law_1280 : decode cL_law 1280 = .ok (.aload_n 0, 1) := by decide +kernel
theorem dL_law_1281 : decode cL_law 1281 = .ok (.iload_n 3, 1) := by decide +kernel
theorem dL_law_1282 : decode cL_law 1282 = .ok (.iconst 2, 1) := by decide +kernel
theorem dL_law_1283 : decode cL_law 1283 = .ok (.iadd, 1) := by decide +kernel
theorem dL_law_1284 : decode cL_law 1284 = .ok (.iaload, 1) := by decide +kernel
theorem dL_law_1285 : decode cL_law 1285 = .ok (.aload_n 0, 1) := by decide +kernel
theorem dL_law_1286 : decode cL_law 1286 = .ok (.iload_n 3, 1) := by decide +kernel
theorem dL_law_1287 : decode cL_law 1287 = .ok (.iconst 3, 1) := by decide +kernel
theorem dL_law_1288 : decode cL_law 1288 = .ok (.iadd, 1) := by decide +kernel
theorem dL_law_1289 : decode cL_law 1289 = .ok (.iaload, 1) := by decide +kernel
theorem dL_law_1290 : decode cL_law 1290 = .ok (.invokevirtual 157, 3) := by decide +kernel
theorem dL_law_1293 : decode cL_law 1293 = .ok (.if_icmp .eq 317, 3) := by decide +kernel
theorem dL_law_1296 : decode cL_law 1296 = .ok (.iconst 0, 1) := by decide +kernel
theorem dL_law_1297 : decode cL_law 1297 = .ok (.ireturn, 1) := by decide +kernel
theorem dL_law_1298 : decode cL_law 1298 = .ok (.aload_n 1, 1) := by decide +kernel
theorem dL_law_1299 : decode cL_law 1299 = .ok (.aload_n 0, 1) := by decide +kernel
theorem dL_law_1300 : decode cL_law 1300 = .ok (.iload_n 3, 1) := by decide +kernel
theorem dL_law_1301 : decode cL_law 1301 = .ok (.iconst 1, 1) := by decide +kernel
theorem dL_law_1302 : decode cL_law 1302 = .ok (.iadd, 1) := by decide +kernel
theorem dL_law_1303 : decode cL_law 1303 = .ok (.iaload, 1) := by decide +kernel
theorem dL_law_1304 : decode cL_law 1304 = .ok (.aload_n 0, 1) := by decide +kernel
theorem dL_law_1305 : decode cL_law 1305 = .ok (.iload_n 3, 1) := by decide +kernel
theorem dL_law_1306 : decode cL_law 1306 = .ok (.iconst 2, 1) := by decide +kernel
theorem dL_law_1307 : decode cL_law 1307 = .ok (.iadd, 1) := by decide +kernel
theorem dL_law_1308 : decode cL_law 1308 = .ok (.iaload, 1) := by decide +kernel
theorem dL_law_1309 : decode cL_law 1309 = .ok (.invokevirtual 158, 3) := by decide +kernel
theorem dL_law_1312 : decode cL_law 1312 = .ok (.aload_n 2, 1) := by decide +kernel
theorem dL_law_1313 : decode cL_law 1313 = .ok (.aload_n 0, 1) := by decide +kernel
theorem dL_law_1314 : decode cL_law 1314 = .ok (.iload_n 3, 1) := by decide +kernel
theorem dL_law_1315 : decode cL_law 1315 = .ok (.iconst 1, 1) := by decide +kernel
theorem dL_law_1316 : decode cL_law 1316 = .ok (.iadd, 1) := by decide +kernel
theorem dL_law_1317 : decode cL_law 1317 = .ok (.iaload, 1) := by decide +kernel
theorem dL_law_1318 : decode cL_law 1318 = .ok (.aload_n 0, 1) := by decide +kernel
theorem dL_law_1319 : decode cL_law 1319 = .ok (.iload_n 3, 1) := by decide +kernel
theorem dL_law_1320 : decode cL_law 1320 = .ok (.iconst 2, 1) := by decide +kernel
theorem dL_law_1321 : decode cL_law 1321 = .ok (.iadd, 1) := by decide +kernel
theorem dL_law_1322 : decode cL_law 1322 = .ok (.iaload, 1) := by decide +kernel
theorem dL_law_1323 : decode cL_law 1323 = .ok (.invokevirtual 161, 3) := by decide +kernel
theorem dL_law_1326 : decode cL_law 1326 = .ok (.lcmp, 1) := by decide +kernel
theorem dL_law_1327 : decode cL_law 1327 = .ok (.ifCond .eq 283, 3) := by decide +kernel
theorem dL_law_1330 : decode cL_law 1330 = .ok (.iconst 0, 1) := by decide +kernel
theorem dL_law_1331 : decode cL_law 1331 = .ok (.ireturn, 1) := by decide +kernel
theorem dL_law_1332 : decode cL_law 1332 = .ok (.aload_n 1, 1) := by decide +kernel
theorem dL_law_1333 : decode cL_law 1333 = .ok (.aload_n 0, 1) := by decide +kernel
theorem dL_law_1334 : decode cL_law 1334 = .ok (.iload_n 3, 1) := by decide +kernel
theorem dL_law_1335 : decode cL_law 1335 = .ok (.iconst 1, 1) := by decide +kernel
theorem dL_law_1336 : decode cL_law 1336 = .ok (.iadd, 1) := by decide +kernel
theorem dL_law_1337 : decode cL_law 1337 = .ok (.iaload, 1) := by decide +kernel
theorem dL_law_1338 : decode cL_law 1338 = .ok (.aload_n 0, 1) := by decide +kernel
theorem dL_law_1339 : decode cL_law 1339 = .ok (.iload_n 3, 1) := by decide +kernel
theorem dL_law_1340 : decode cL_law 1340 = .ok (.iconst 2, 1) := by decide +kernel
theorem dL_law_1341 : decode cL_law 1341 = .ok (.iadd, 1) := by decide +kernel
theorem dL_law_1342 : decode cL_law 1342 = .ok (.iaload, 1) := by decide +kernel
theorem dL_law_1343 : decode cL_law 1343 = .ok (.aload_n 0, 1) := by decide +kernel
theorem dL_law_1344 : decode cL_law 1344 = .ok (.iload_n 3, 1) := by decide +kernel
theorem dL_law_1345 : decode cL_law 1345 = .ok (.iconst 3, 1) := by decide +kernel
theorem dL_law_1346 : decode cL_law 1346 = .ok (.iadd, 1) := by decide +kernel
theorem dL_law_1347 : decode cL_law 1347 = .ok (.iaload, 1) := by decide +kernel
theorem dL_law_1348 : decode cL_law 1348 = .ok (.aload_n 0, 1) := by decide +kernel
theorem dL_law_1349 : decode cL_law 1349 = .ok (.iload_n 3, 1) := by decide +kernel
theorem dL_law_1350 : decode cL_law 1350 = .ok (.iconst 4, 1) := by decide +kernel
theorem dL_law_1351 : decode cL_law 1351 = .ok (.iadd, 1) := by decide +kernel
theorem dL_law_1352 : decode cL_law 1352 = .ok (.iaload, 1) := by decide +kernel
theorem dL_law_1353 : decode cL_law 1353 = .ok (.aload_n 0, 1) := by decide +kernel
theorem dL_law_1354 : decode cL_law 1354 = .ok (.iload_n 3, 1) := by decide +kernel
theorem dL_law_1355 : decode cL_law 1355 = .ok (.iconst 5, 1) := by decide +kernel
theorem dL_law_1356 : decode cL_law 1356 = .ok (.iadd, 1) := by decide +kernel
theorem dL_law_1357 : decode cL_law 1357 = .ok (.iaload, 1) := by decide +kernel
theorem dL_law_1358 : decode cL_law 1358 = .ok (.invokevirtual 162, 3) := by decide +kernel
theorem dL_law_1361 : decode cL_law 1361 = .ok (.aload_n 2, 1) := by decide +kernel
theorem dL_law_1362 : decode cL_law 1362 = .ok (.aload_n 0, 1) := by decide +kernel
theorem dL_law_1363 : decode cL_law 1363 = .ok (.iload_n 3, 1) := by decide +kernel
theorem dL_law_1364 : decode cL_law 1364 = .ok (.iconst 1, 1) := by decide +kernel
theorem dL_law_1365 : decode cL_law 1365 = .ok (.iadd, 1) := by decide +kernel
theorem dL_law_1366 : decode cL_law 1366 = .ok (.iaload, 1) := by decide +kernel
theorem dL_law_1367 : decode cL_law 1367 = .ok (.aload_n 0, 1) := by decide +kernel
theorem dL_law_1368 : decode cL_law 1368 = .ok (.iload_n 3, 1) := by decide +kernel
theorem dL_law_1369 : decode cL_law 1369 = .ok (.iconst 2, 1) := by decide +kernel
theorem dL_law_1370 : decode cL_law 1370 = .ok (.iadd, 1) := by decide +kernel
theorem dL_law_1371 : decode cL_law 1371 = .ok (.iaload, 1) := by decide +kernel
theorem dL_law_1372 : decode cL_law 1372 = .ok (.aload_n 0, 1) := by decide +kernel
theorem dL_law_1373 : decode cL_law 1373 = .ok (.iload_n 3, 1) := by decide +kernel
theorem dL_law_1374 : decode cL_law 1374 = .ok (.iconst 3, 1) := by decide +kernel
theorem dL_law_1375 : decode cL_law 1375 = .ok (.iadd, 1) := by decide +kernel
theorem dL_law_1376 : decode cL_law 1376 = .ok (.iaload, 1) := by decide +kernel
theorem dL_law_1377 : decode cL_law 1377 = .ok (.aload_n 0, 1) := by decide +kernel
theorem dL_law_1378 : decode cL_law 1378 = .ok (.iload_n 3, 1) := by decide +kernel
theorem dL_law_1379 : decode cL_law 1379 = .ok (.iconst 4, 1) := by decide +kernel
theorem dL_law_1380 : decode cL_law 1380 = .ok (.iadd, 1) := by decide +kernel
theorem dL_law_1381 : decode cL_law 1381 = .ok (.iaload, 1) := by decide +kernel
theorem dL_law_1382 : decode cL_law 1382 = .ok (.aload_n 0, 1) := by decide +kernel
theorem dL_law_1383 : decode cL_law 1383 = .ok (.iload_n 3, 1) := by decide +kernel
theorem dL_law_1384 : decode cL_law 1384 = .ok (.iconst 5, 1) := by decide +kernel
theorem dL_law_1385 : decode cL_law 1385 = .ok (.iadd, 1) := by decide +kernel
theorem dL_law_1386 : decode cL_law 1386 = .ok (.iaload, 1) := by decide +kernel
theorem dL_law_1387 : decode cL_law 1387 = .ok (.invokevirtual 166, 3) := by decide +kernel
theorem dL_law_1390 : decode cL_law 1390 = .ok (.if_icmp .eq 220, 3) := by decide +kernel
theorem dL_law_1393 : decode cL_law 1393 = .ok (.iconst 0, 1) := by decide +kernel
theorem dL_law_1394 : decode cL_law 1394 = .ok (.ireturn, 1) := by decide +kernel
theorem dL_law_1395 : decode cL_law 1395 = .ok (.aload_n 1, 1) := by decide +kernel
theorem dL_law_1396 : decode cL_law 1396 = .ok (.aload_n 0, 1) := by decide +kernel
theorem dL_law_1397 : decode cL_law 1397 = .ok (.iload_n 3, 1) := by decide +kernel
theorem dL_law_1398 : decode cL_law 1398 = .ok (.iconst 1, 1) := by decide +kernel
theorem dL_law_1399 : decode cL_law 1399 = .ok (.iadd, 1) := by decide +kernel
theorem dL_law_1400 : decode cL_law 1400 = .ok (.iaload, 1) := by decide +kernel
theorem dL_law_1401 : decode cL_law 1401 = .ok (.aload_n 0, 1) := by decide +kernel
theorem dL_law_1402 : decode cL_law 1402 = .ok (.iload_n 3, 1) := by decide +kernel
theorem dL_law_1403 : decode cL_law 1403 = .ok (.iconst 2, 1) := by decide +kernel
theorem dL_law_1404 : decode cL_law 1404 = .ok (.iadd, 1) := by decide +kernel
theorem dL_law_1405 : decode cL_law 1405 = .ok (.iaload, 1) := by decide +kernel
theorem dL_law_1406 : decode cL_law 1406 = .ok (.invokevirtual 167, 3) := by decide +kernel
theorem dL_law_1409 : decode cL_law 1409 = .ok (.aload_n 2, 1) := by decide +kernel
theorem dL_law_1410 : decode cL_law 1410 = .ok (.aload_n 0, 1) := by decide +kernel
theorem dL_law_1411 : decode cL_law 1411 = .ok (.iload_n 3, 1) := by decide +kernel
theorem dL_law_1412 : decode cL_law 1412 = .ok (.iconst 1, 1) := by decide +kernel
theorem dL_law_1413 : decode cL_law 1413 = .ok (.iadd, 1) := by decide +kernel
theorem dL_law_1414 : decode cL_law 1414 = .ok (.iaload, 1) := by decide +kernel
theorem dL_law_1415 : decode cL_law 1415 = .ok (.aload_n 0, 1) := by decide +kernel
theorem dL_law_1416 : decode cL_law 1416 = .ok (.iload_n 3, 1) := by decide +kernel
theorem dL_law_1417 : decode cL_law 1417 = .ok (.iconst 2, 1) := by decide +kernel
theorem dL_law_1418 : decode cL_law 1418 = .ok (.iadd, 1) := by decide +kernel
theorem dL_law_1419 : decode cL_law 1419 = .ok (.iaload, 1) := by decide +kernel
theorem dL_law_1420 : decode cL_law 1420 = .ok (.invokevirtual 170, 3) := by decide +kernel
theorem dL_law_1423 : decode cL_law 1423 = .ok (.if_icmp .eq 187, 3) := by decide +kernel
theorem dL_law_1426 : decode cL_law 1426 = .ok (.iconst 0, 1) := by decide +kernel
theorem dL_law_1427 : decode cL_law 1427 = .ok (.ireturn, 1) := by decide +kernel
theorem dL_law_1428 : decode cL_law 1428 = .ok (.aload_n 1, 1) := by decide +kernel
theorem dL_law_1429 : decode cL_law 1429 = .ok (.aload_n 0, 1) := by decide +kernel
theorem dL_law_1430 : decode cL_law 1430 = .ok (.iload_n 3, 1) := by decide +kernel
theorem dL_law_1431 : decode cL_law 1431 = .ok (.iconst 1, 1) := by decide +kernel
theorem dL_law_1432 : decode cL_law 1432 = .ok (.iadd, 1) := by decide +kernel
theorem dL_law_1433 : decode cL_law 1433 = .ok (.iaload, 1) := by decide +kernel
theorem dL_law_1434 : decode cL_law 1434 = .ok (.aload_n 0, 1) := by decide +kernel
theorem dL_law_1435 : decode cL_law 1435 = .ok (.iload_n 3, 1) := by decide +kernel
theorem dL_law_1436 : decode cL_law 1436 = .ok (.iconst 2, 1) := by decide +kernel
theorem dL_law_1437 : decode cL_law 1437 = .ok (.iadd, 1) := by decide +kernel
theorem dL_law_1438 : decode cL_law 1438 = .ok (.iaload, 1) := by decide +kernel
theorem dL_law_1439 : decode cL_law 1439 = .ok (.aload_n 0, 1) := by decide +kernel
theorem dL_law_1440 : decode cL_law 1440 = .ok (.iload_n 3, 1) := by decide +kernel
theorem dL_law_1441 : decode cL_law 1441 = .ok (.iconst 3, 1) := by decide +kernel
theorem dL_law_1442 : decode cL_law 1442 = .ok (.iadd, 1) := by decide +kernel
theorem dL_law_1443 : decode cL_law 1443 = .ok (.iaload, 1) := by decide +kernel
theorem dL_law_1444 : decode cL_law 1444 = .ok (.aload_n 0, 1) := by decide +kernel
theorem dL_law_1445 : decode cL_law 1445 = .ok (.iload_n 3, 1) := by decide +kernel
theorem dL_law_1446 : decode cL_law 1446 = .ok (.iconst 4, 1) := by decide +kernel
theorem dL_law_1447 : decode cL_law 1447 = .ok (.iadd, 1) := by decide +kernel
theorem dL_law_1448 : decode cL_law 1448 = .ok (.iaload, 1) := by decide +kernel
theorem dL_law_1449 : decode cL_law 1449 = .ok (.invokevirtual 171, 3) := by decide +kernel
theorem dL_law_1452 : decode cL_law 1452 = .ok (.aload_n 2, 1) := by decide +kernel
theorem dL_law_1453 : decode cL_law 1453 = .ok (.aload_n 0, 1) := by decide +kernel
theorem dL_law_1454 : decode cL_law 1454 = .ok (.iload_n 3, 1) := by decide +kernel
theorem dL_law_1455 : decode cL_law 1455 = .ok (.iconst 1, 1) := by decide +kernel
theorem dL_law_1456 : decode cL_law 1456 = .ok (.iadd, 1) := by decide +kernel
theorem dL_law_1457 : decode cL_law 1457 = .ok (.iaload, 1) := by decide +kernel
theorem dL_law_1458 : decode cL_law 1458 = .ok (.aload_n 0, 1) := by decide +kernel
theorem dL_law_1459 : decode cL_law 1459 = .ok (.iload_n 3, 1) := by decide +kernel
theorem dL_law_1460 : decode cL_law 1460 = .ok (.iconst 2, 1) := by decide +kernel
theorem dL_law_1461 : decode cL_law 1461 = .ok (.iadd, 1) := by decide +kernel
theorem dL_law_1462 : decode cL_law 1462 = .ok (.iaload, 1) := by decide +kernel
theorem dL_law_1463 : decode cL_law 1463 = .ok (.aload_n 0, 1) := by decide +kernel
theorem dL_law_1464 : decode cL_law 1464 = .ok (.iload_n 3, 1) := by decide +kernel
theorem dL_law_1465 : decode cL_law 1465 = .ok (.iconst 3, 1) := by decide +kernel
theorem dL_law_1466 : decode cL_law 1466 = .ok (.iadd, 1) := by decide +kernel
theorem dL_law_1467 : decode cL_law 1467 = .ok (.iaload, 1) := by decide +kernel
theorem dL_law_1468 : decode cL_law 1468 = .ok (.aload_n 0, 1) := by decide +kernel
theorem dL_law_1469 : decode cL_law 1469 = .ok (.iload_n 3, 1) := by decide +kernel
theorem dL_law_1470 : decode cL_law 1470 = .ok (.iconst 4, 1) := by decide +kernel
theorem dL_law_1471 : decode cL_law 1471 = .ok (.iadd, 1) := by decide +kernel
theorem dL_law_1472 : decode cL_law 1472 = .ok (.iaload, 1) := by decide +kernel
theorem dL_law_1473 : decode cL_law 1473 = .ok (.invokevirtual 175, 3) := by decide +kernel
theorem dL_law_1476 : decode cL_law 1476 = .ok (.if_icmp .eq 134, 3) := by decide +kernel
theorem dL_law_1479 : decode cL_law 1479 = .ok (.iconst 0, 1) := by decide +kernel
theorem dL_law_1480 : decode cL_law 1480 = .ok (.ireturn, 1) := by decide +kernel
theorem dL_law_1481 : decode cL_law 1481 = .ok (.aload_n 1, 1) := by decide +kernel
theorem dL_law_1482 : decode cL_law 1482 = .ok (.aload_n 0, 1) := by decide +kernel
theorem dL_law_1483 : decode cL_law 1483 = .ok (.iload_n 3, 1) := by decide +kernel
theorem dL_law_1484 : decode cL_law 1484 = .ok (.iconst 1, 1) := by decide +kernel
theorem dL_law_1485 : decode cL_law 1485 = .ok (.iadd, 1) := by decide +kernel
theorem dL_law_1486 : decode cL_law 1486 = .ok (.iaload, 1) := by decide +kernel
theorem dL_law_1487 : decode cL_law 1487 = .ok (.aload_n 0, 1) := by decide +kernel
theorem dL_law_1488 : decode cL_law 1488 = .ok (.iload_n 3, 1) := by decide +kernel
theorem dL_law_1489 : decode cL_law 1489 = .ok (.iconst 2, 1) := by decide +kernel
theorem dL_law_1490 : decode cL_law 1490 = .ok (.iadd, 1) := by decide +kernel
theorem dL_law_1491 : decode cL_law 1491 = .ok (.iaload, 1) := by decide +kernel
theorem dL_law_1492 : decode cL_law 1492 = .ok (.invokevirtual 176, 3) := by decide +kernel
theorem dL_law_1495 : decode cL_law 1495 = .ok (.aload_n 2, 1) := by decide +kernel
theorem dL_law_1496 : decode cL_law 1496 = .ok (.aload_n 0, 1) := by decide +kernel
theorem dL_law_1497 : decode cL_law 1497 = .ok (.iload_n 3, 1) := by decide +kernel
theorem dL_law_1498 : decode cL_law 1498 = .ok (.iconst 1, 1) := by decide +kernel
theorem dL_law_1499 : decode cL_law 1499 = .ok (.iadd, 1) := by decide +kernel
theorem dL_law_1500 : decode cL_law 1500 = .ok (.iaload, 1) := by decide +kernel
theorem dL_law_1501 : decode cL_law 1501 = .ok (.aload_n 0, 1) := by decide +kernel
theorem dL_law_1502 : decode cL_law 1502 = .ok (.iload_n 3, 1) := by decide +kernel
theorem dL_law_1503 : decode cL_law 1503 = .ok (.iconst 2, 1) := by decide +kernel
theorem dL_law_1504 : decode cL_law 1504 = .ok (.iadd, 1) := by decide +kernel
theorem dL_law_1505 : decode cL_law 1505 = .ok (.iaload, 1) := by decide +kernel
theorem dL_law_1506 : decode cL_law 1506 = .ok (.invokevirtual 179, 3) := by decide +kernel
theorem dL_law_1509 : decode cL_law 1509 = .ok (.if_icmp .eq 101, 3) := by decide +kernel
theorem dL_law_1512 : decode cL_law 1512 = .ok (.iconst 0, 1) := by decide +kernel
theorem dL_law_1513 : decode cL_law 1513 = .ok (.ireturn, 1) := by decide +kernel
theorem dL_law_1514 : decode cL_law 1514 = .ok (.aload_n 1, 1) := by decide +kernel
theorem dL_law_1515 : decode cL_law 1515 = .ok (.aload_n 0, 1) := by decide +kernel
theorem dL_law_1516 : decode cL_law 1516 = .ok (.iload_n 3, 1) := by decide +kernel
theorem dL_law_1517 : decode cL_law 1517 = .ok (.iconst 1, 1) := by decide +kernel
theorem dL_law_1518 : decode cL_law 1518 = .ok (.iadd, 1) := by decide +kernel
theorem dL_law_1519 : decode cL_law 1519 = .ok (.iaload, 1) := by decide +kernel
theorem dL_law_1520 : decode cL_law 1520 = .ok (.invokevirtual 180, 3) := by decide +kernel
theorem dL_law_1523 : decode cL_law 1523 = .ok (.aload_n 2, 1) := by decide +kernel
theorem dL_law_1524 : decode cL_law 1524 = .ok (.aload_n 0, 1) := by decide +kernel
theorem dL_law_1525 : decode cL_law 1525 = .ok (.iload_n 3, 1) := by decide +kernel
theorem dL_law_1526 : decode cL_law 1526 = .ok (.iconst 1, 1) := by decide +kernel
theorem dL_law_1527 : decode cL_law 1527 = .ok (.iadd, 1) := by decide +kernel
theorem dL_law_1528 : decode cL_law 1528 = .ok (.iaload, 1) := by decide +kernel
theorem dL_law_1529 : decode cL_law 1529 = .ok (.invokevirtual 183, 3) := by decide +kernel
theorem dL_law_1532 : decode cL_law 1532 = .ok (.lcmp, 1) := by decide +kernel
theorem dL_law_1533 : decode cL_law 1533 = .ok (.ifCond .eq 77, 3) := by decide +kernel
theorem dL_law_1536 : decode cL_law 1536 = .ok (.iconst 0, 1) := by decide +kernel
theorem dL_law_1537 : decode cL_law 1537 = .ok (.ireturn, 1) := by decide +kernel
theorem dL_law_1538 : decode cL_law 1538 = .ok (.aload_n 1, 1) := by decide +kernel
theorem dL_law_1539 : decode cL_law 1539 = .ok (.invokevirtual 184, 3) := by decide +kernel
theorem dL_law_1542 : decode cL_law 1542 = .ok (.aload_n 2, 1) := by decide +kernel
theorem dL_law_1543 : decode cL_law 1543 = .ok (.invokevirtual 187, 3) := by decide +kernel
theorem dL_law_1546 : decode cL_law 1546 = .ok (.if_icmp .eq 64, 3) := by decide +kernel
theorem dL_law_1549 : decode cL_law 1549 = .ok (.iconst 0, 1) := by decide +kernel
theorem dL_law_1550 : decode cL_law 1550 = .ok (.ireturn, 1) := by decide +kernel
theorem dL_law_1551 : decode cL_law 1551 = .ok (.aload_n 1, 1) := by decide +kernel
theorem dL_law_1552 : decode cL_law 1552 = .ok (.invokevirtual 188, 3) := by decide +kernel
theorem dL_law_1555 : decode cL_law 1555 = .ok (.aload_n 2, 1) := by decide +kernel
theorem dL_law_1556 : decode cL_law 1556 = .ok (.invokevirtual 191, 3) := by decide +kernel
theorem dL_law_1559 : decode cL_law 1559 = .ok (.if_icmp .eq 51, 3) := by decide +kernel
theorem dL_law_1562 : decode cL_law 1562 = .ok (.iconst 0, 1) := by decide +kernel
theorem dL_law_1563 : decode cL_law 1563 = .ok (.ireturn, 1) := by decide +kernel
theorem dL_law_1564 : decode cL_law 1564 = .ok (.aload_n 1, 1) := by decide +kernel
theorem dL_law_1565 : decode cL_law 1565 = .ok (.aload_n 0, 1) := by decide +kernel
theorem dL_law_1566 : decode cL_law 1566 = .ok (.iload_n 3, 1) := by decide +kernel
theorem dL_law_1567 : decode cL_law 1567 = .ok (.iconst 1, 1) := by decide +kernel
theorem dL_law_1568 : decode cL_law 1568 = .ok (.iadd, 1) := by decide +kernel
theorem dL_law_1569 : decode cL_law 1569 = .ok (.iaload, 1) := by decide +kernel
theorem dL_law_1570 : decode cL_law 1570 = .ok (.invokevirtual 192, 3) := by decide +kernel
theorem dL_law_1573 : decode cL_law 1573 = .ok (.aload_n 2, 1) := by decide +kernel
theorem dL_law_1574 : decode cL_law 1574 = .ok (.aload_n 0, 1) := by decide +kernel
theorem dL_law_1575 : decode cL_law 1575 = .ok (.iload_n 3, 1) := by decide +kernel
theorem dL_law_1576 : decode cL_law 1576 = .ok (.iconst 1, 1) := by decide +kernel
theorem dL_law_1577 : decode cL_law 1577 = .ok (.iadd, 1) := by decide +kernel
theorem dL_law_1578 : decode cL_law 1578 = .ok (.iaload, 1) := by decide +kernel
theorem dL_law_1579 : decode cL_law 1579 = .ok (.invokevirtual 195, 3) := by decide +kernel
theorem dL_law_1582 : decode cL_law 1582 = .ok (.if_icmp .eq 28, 3) := by decide +kernel
theorem dL_law_1585 : decode cL_law 1585 = .ok (.iconst 0, 1) := by decide +kernel
theorem dL_law_1586 : decode cL_law 1586 = .ok (.ireturn, 1) := by decide +kernel
theorem dL_law_1587 : decode cL_law 1587 = .ok (.aload_n 1, 1) := by decide +kernel
theorem dL_law_1588 : decode cL_law 1588 = .ok (.aload_n 0, 1) := by decide +kernel
theorem dL_law_1589 : decode cL_law 1589 = .ok (.iload_n 3, 1) := by decide +kernel
theorem dL_law_1590 : decode cL_law 1590 = .ok (.iconst 1, 1) := by decide +kernel
theorem dL_law_1591 : decode cL_law 1591 = .ok (.iadd, 1) := by decide +kernel
theorem dL_law_1592 : decode cL_law 1592 = .ok (.iaload, 1) := by decide +kernel
theorem dL_law_1593 : decode cL_law 1593 = .ok (.invokevirtual 196, 3) := by decide +kernel
theorem dL_law_1596 : decode cL_law 1596 = .ok (.aload_n 2, 1) := by decide +kernel
theorem dL_law_1597 : decode cL_law 1597 = .ok (.aload_n 0, 1) := by decide +kernel
theorem dL_law_1598 : decode cL_law 1598 = .ok (.iload_n 3, 1) := by decide +kernel
theorem dL_law_1599 : decode cL_law 1599 = .ok (.iconst 1, 1) := by decide +kernel
theorem dL_law_1600 : decode cL_law 1600 = .ok (.iadd, 1) := by decide +kernel
theorem dL_law_1601 : decode cL_law 1601 = .ok (.iaload, 1) := by decide +kernel
theorem dL_law_1602 : decode cL_law 1602 = .ok (.invokevirtual 199, 3) := by decide +kernel
theorem dL_law_1605 : decode cL_law 1605 = .ok (.if_icmp .eq 5, 3) := by decide +kernel
theorem dL_law_1608 : decode cL_law 1608 = .ok (.iconst 0, 1) := by decide +kernel
theorem dL_law_1609 : decode cL_law 1609 = .ok (.ireturn, 1) := by decide +kernel
theorem dL_law_1610 : decode cL_law 1610 = .ok (.iinc 3 7, 3) := by decide +kernel
theorem dL_law_1613 : decode cL_law 1613 = .ok (.goto (-1595), 3) := by decide +kernel
theorem dL_law_1616 : decode cL_law 1616 = .ok (.iconst 1, 1) := by decide +kernel
theorem dL_law_1617 : decode cL_law 1617 = .ok (.ireturn, 1) := by decide +kernel
