theorem dX5_init_0 : decode cX5_init 0 = .ok (.aload_n 0, 1) := by decide +kernel
theorem dX5_init_1 : decode cX5_init 1 = .ok (.invokespecial 1, 3) := by decide +kernel
theorem dX5_init_4 : decode cX5_init 4 = .ok (.aload_n 0, 1) := by decide +kernel
theorem dX5_init_5 : decode cX5_init 5 = .ok (.sipush 1024, 3) := by decide +kernel
theorem dX5_init_8 : decode cX5_init 8 = .ok (.newarray .int, 2) := by decide +kernel
theorem dX5_init_10 : decode cX5_init 10 = .ok (.putfield 7, 3) := by decide +kernel
theorem dX5_init_13 : decode cX5_init 13 = .ok (.aload_n 0, 1) := by decide +kernel
theorem dX5_init_14 : decode cX5_init 14 = .ok (.sipush 1024, 3) := by decide +kernel
theorem dX5_init_17 : decode cX5_init 17 = .ok (.newarray .boolean, 2) := by decide +kernel
theorem dX5_init_19 : decode cX5_init 19 = .ok (.putfield 13, 3) := by decide +kernel
theorem dX5_init_22 : decode cX5_init 22 = .ok (.aload_n 0, 1) := by decide +kernel
theorem dX5_init_23 : decode cX5_init 23 = .ok (.sipush 1024, 3) := by decide +kernel
theorem dX5_init_26 : decode cX5_init 26 = .ok (.newarray .boolean, 2) := by decide +kernel
theorem dX5_init_28 : decode cX5_init 28 = .ok (.putfield 17, 3) := by decide +kernel
theorem dX5_init_31 : decode cX5_init 31 = .ok (.aload_n 0, 1) := by decide +kernel
theorem dX5_init_32 : decode cX5_init 32 = .ok (.sipush 4097, 3) := by decide +kernel
theorem dX5_init_35 : decode cX5_init 35 = .ok (.newarray .int, 2) := by decide +kernel
theorem dX5_init_37 : decode cX5_init 37 = .ok (.putfield 20, 3) := by decide +kernel
theorem dX5_init_40 : decode cX5_init 40 = .ok (.aload_n 0, 1) := by decide +kernel
theorem dX5_init_41 : decode cX5_init 41 = .ok (.sipush 128, 3) := by decide +kernel
theorem dX5_init_44 : decode cX5_init 44 = .ok (.newarray .int, 2) := by decide +kernel
theorem dX5_init_46 : decode cX5_init 46 = .ok (.putfield 23, 3) := by decide +kernel
theorem dX5_init_49 : decode cX5_init 49 = .ok (.aload_n 0, 1) := by decide +kernel
theorem dX5_init_50 : decode cX5_init 50 = .ok (.sipush 128, 3) := by decide +kernel
theorem dX5_init_53 : decode cX5_init 53 = .ok (.newarray .int, 2) := by decide +kernel
theorem dX5_init_55 : decode cX5_init 55 = .ok (.putfield 26, 3) := by decide +kernel
theorem dX5_init_58 : decode cX5_init 58 = .ok (.aload_n 0, 1) := by decide +kernel
theorem dX5_init_59 : decode cX5_init 59 = .ok (.sipush 128, 3) := by decide +kernel
theorem dX5_init_62 : decode cX5_init 62 = .ok (.newarray .int, 2) := by decide +kernel
theorem dX5_init_64 : decode cX5_init 64 = .ok (.putfield 29, 3) := by decide +kernel
theorem dX5_init_67 : decode cX5_init 67 = .ok (.aload_n 0, 1) := by decide +kernel
theorem dX5_init_68 : decode cX5_init 68 = .ok (.sipush 128, 3) := by decide +kernel
theorem dX5_init_71 : decode cX5_init 71 = .ok (.newarray .int, 2) := by decide +kernel
theorem dX5_init_73 : decode cX5_init 73 = .ok (.putfield 32, 3) := by decide +kernel
theorem dX5_init_76 : decode cX5_init 76 = .ok (.aload_n 0, 1) := by decide +kernel
theorem dX5_init_77 : decode cX5_init 77 = .ok (.sipush 128, 3) := by decide +kernel
theorem dX5_init_80 : decode cX5_init 80 = .ok (.newarray .int, 2) := by decide +kernel
theorem dX5_init_82 : decode cX5_init 82 = .ok (.putfield 35, 3) := by decide +kernel
theorem dX5_init_85 : decode cX5_init 85 = .ok (.aload_n 0, 1) := by decide +kernel
theorem dX5_init_86 : decode cX5_init 86 = .ok (.sipush 128, 3) := by decide +kernel
theorem dX5_init_89 : decode cX5_init 89 = .ok (.newarray .int, 2) := by decide +kernel
theorem dX5_init_91 : decode cX5_init 91 = .ok (.putfield 38, 3) := by decide +kernel
theorem dX5_init_94 : decode cX5_init 94 = .ok (.aload_n 0, 1) := by decide +kernel
theorem dX5_init_95 : decode cX5_init 95 = .ok (.sipush 1024, 3) := by decide +kernel
theorem dX5_init_98 : decode cX5_init 98 = .ok (.newarray .int, 2) := by decide +kernel
theorem dX5_init_100 : decode cX5_init 100 = .ok (.putfield 41, 3) := by decide +kernel
theorem dX5_init_103 : decode cX5_init 103 = .ok (.iload_n 1, 1) := by decide +kernel
theorem dX5_init_104 : decode cX5_init 104 = .ok (.bipush 16, 2) := by decide +kernel
theorem dX5_init_106 : decode cX5_init 106 = .ok (.if_icmp .ge 8, 3) := by decide +kernel
theorem dX5_init_109 : decode cX5_init 109 = .ok (.bipush 16, 2) := by decide +kernel
theorem dX5_init_111 : decode cX5_init 111 = .ok (.goto 17, 3) := by decide +kernel
theorem dX5_init_114 : decode cX5_init 114 = .ok (.iload_n 1, 1) := by decide +kernel
theorem dX5_init_115 : decode cX5_init 115 = .ok (.sipush 4096, 3) := by decide +kernel
theorem dX5_init_118 : decode cX5_init 118 = .ok (.if_icmp .le 9, 3) := by decide +kernel
theorem dX5_init_121 : decode cX5_init 121 = .ok (.sipush 4096, 3) := by decide +kernel
theorem dX5_init_124 : decode cX5_init 124 = .ok (.goto 4, 3) := by decide +kernel
theorem dX5_init_127 : decode cX5_init 127 = .ok (.iload_n 1, 1) := by decide +kernel
theorem dX5_init_128 : decode cX5_init 128 = .ok (.istore_n 2, 1) := by decide +kernel
theorem dX5_init_129 : decode cX5_init 129 = .ok (.aload_n 0, 1) := by decide +kernel
theorem dX5_init_130 : decode cX5_init 130 = .ok (.iload_n 2, 1) := by decide +kernel
theorem dX5_init_131 : decode cX5_init 131 = .ok (.iconst 3, 1) := by decide +kernel
theorem dX5_init_132 : decode cX5_init 132 = .ok (.isub, 1) := by decide +kernel
theorem dX5_init_133 : decode cX5_init 133 = .ok (.iconst 4, 1) := by decide +kernel
theorem dX5_init_134 : decode cX5_init 134 = .ok (.idiv, 1) := by decide +kernel
theorem dX5_init_135 : decode cX5_init 135 = .ok (.putfield 44, 3) := by decide +kernel
theorem dX5_init_138 : decode cX5_init 138 = .ok (.aload_n 0, 1) := by decide +kernel
theorem dX5_init_139 : decode cX5_init 139 = .ok (.getfield 7, 3) := by decide +kernel
theorem dX5_init_142 : decode cX5_init 142 = .ok (.iconst 0, 1) := by decide +kernel
theorem dX5_init_143 : decode cX5_init 143 = .ok (.aload_n 0, 1) := by decide +kernel
theorem dX5_init_144 : decode cX5_init 144 = .ok (.getfield 44, 3) := by decide +kernel
theorem dX5_init_147 : decode cX5_init 147 = .ok (.iastore, 1) := by decide +kernel
theorem dX5_init_148 : decode cX5_init 148 = .ok (.return_, 1) := by decide +kernel
theorem dX5_thrown_0 : decode cX5_thrown 0 = .ok (.aload_n 0, 1) := by decide +kernel
theorem dX5_thrown_1 : decode cX5_thrown 1 = .ok (.getfield 48, 3) := by decide +kernel
theorem dX5_thrown_4 : decode cX5_thrown 4 = .ok (.ireturn, 1) := by decide +kernel
theorem dX5_address_0 : decode cX5_address 0 = .ok (.iconst 4, 1) := by decide +kernel
theorem dX5_address_1 : decode cX5_address 1 = .ok (.iload_n 0, 1) := by decide +kernel
theorem dX5_address_2 : decode cX5_address 2 = .ok (.imul, 1) := by decide +kernel
theorem dX5_address_3 : decode cX5_address 3 = .ok (.iconst 4, 1) := by decide +kernel
theorem dX5_address_4 : decode cX5_address 4 = .ok (.iadd, 1) := by decide +kernel
theorem dX5_address_5 : decode cX5_address 5 = .ok (.ireturn, 1) := by decide +kernel
theorem dX5_find_0 : decode cX5_find 0 = .ok (.iload_n 1, 1) := by decide +kernel
theorem dX5_find_1 : decode cX5_find 1 = .ok (.iconst 4, 1) := by decide +kernel
theorem dX5_find_2 : decode cX5_find 2 = .ok (.if_icmp .lt 19, 3) := by decide +kernel
theorem dX5_find_5 : decode cX5_find 5 = .ok (.iload_n 1, 1) := by decide +kernel
theorem dX5_find_6 : decode cX5_find 6 = .ok (.iconst 4, 1) := by decide +kernel
theorem dX5_find_7 : decode cX5_find 7 = .ok (.irem, 1) := by decide +kernel
theorem dX5_find_8 : decode cX5_find 8 = .ok (.ifCond .ne 13, 3) := by decide +kernel
theorem dX5_find_11 : decode cX5_find 11 = .ok (.iload_n 1, 1) := by decide +kernel
theorem dX5_find_12 : decode cX5_find 12 = .ok (.iconst 4, 1) := by decide +kernel
theorem dX5_find_13 : decode cX5_find 13 = .ok (.idiv, 1) := by decide +kernel
theorem dX5_find_14 : decode cX5_find 14 = .ok (.aload_n 0, 1) := by decide +kernel
theorem dX5_find_15 : decode cX5_find 15 = .ok (.getfield 44, 3) := by decide +kernel
theorem dX5_find_18 : decode cX5_find 18 = .ok (.if_icmp .le 5, 3) := by decide +kernel
theorem dX5_find_21 : decode cX5_find 21 = .ok (.iconst (-1), 1) := by decide +kernel
theorem dX5_find_22 : decode cX5_find 22 = .ok (.ireturn, 1) := by decide +kernel
theorem dX5_find_23 : decode cX5_find 23 = .ok (.iload_n 1, 1) := by decide +kernel
theorem dX5_find_24 : decode cX5_find 24 = .ok (.iconst 4, 1) := by decide +kernel
theorem dX5_find_25 : decode cX5_find 25 = .ok (.idiv, 1) := by decide +kernel
theorem dX5_find_26 : decode cX5_find 26 = .ok (.iconst 1, 1) := by decide +kernel
theorem dX5_find_27 : decode cX5_find 27 = .ok (.isub, 1) := by decide +kernel
theorem dX5_find_28 : decode cX5_find 28 = .ok (.istore_n 2, 1) := by decide +kernel
theorem dX5_find_29 : decode cX5_find 29 = .ok (.aload_n 0, 1) := by decide +kernel
theorem dX5_find_30 : decode cX5_find 30 = .ok (.getfield 7, 3) := by decide +kernel
theorem dX5_find_33 : decode cX5_find 33 = .ok (.iload_n 2, 1) := by decide +kernel
theorem dX5_find_34 : decode cX5_find 34 = .ok (.iaload, 1) := by decide +kernel
theorem dX5_find_35 : decode cX5_find 35 = .ok (.ifCond .le 16, 3) := by decide +kernel
theorem dX5_find_38 : decode cX5_find 38 = .ok (.aload_n 0, 1) := by decide +kernel
theorem dX5_find_39 : decode cX5_find 39 = .ok (.getfield 13, 3) := by decide +kernel
theorem dX5_find_42 : decode cX5_find 42 = .ok (.iload_n 2, 1) := by decide +kernel
theorem dX5_find_43 : decode cX5_find 43 = .ok (.baload, 1) := by decide +kernel
theorem dX5_find_44 : decode cX5_find 44 = .ok (.ifCond .eq 7, 3) := by decide +kernel
theorem dX5_find_47 : decode cX5_find 47 = .ok (.iload_n 2, 1) := by decide +kernel
theorem dX5_find_48 : decode cX5_find 48 = .ok (.goto 4, 3) := by decide +kernel
theorem dX5_find_51 : decode cX5_find 51 = .ok (.iconst (-1), 1) := by decide +kernel
theorem dX5_find_52 : decode cX5_find 52 = .ok (.ireturn, 1) := by decide +kernel
theorem dX5_isFree_0 : decode cX5_isFree 0 = .ok (.iload_n 1, 1) := by decide +kernel
theorem dX5_isFree_1 : decode cX5_isFree 1 = .ok (.aload_n 0, 1) := by decide +kernel
theorem dX5_isFree_2 : decode cX5_isFree 2 = .ok (.getfield 44, 3) := by decide +kernel
theorem dX5_isFree_5 : decode cX5_isFree 5 = .ok (.if_icmp .ge 25, 3) := by decide +kernel
theorem dX5_isFree_8 : decode cX5_isFree 8 = .ok (.aload_n 0, 1) := by decide +kernel
theorem dX5_isFree_9 : decode cX5_isFree 9 = .ok (.getfield 7, 3) := by decide +kernel
theorem dX5_isFree_12 : decode cX5_isFree 12 = .ok (.iload_n 1, 1) := by decide +kernel
theorem dX5_isFree_13 : decode cX5_isFree 13 = .ok (.iaload, 1) := by decide +kernel
theorem dX5_isFree_14 : decode cX5_isFree 14 = .ok (.ifCond .le 16, 3) := by decide +kernel
theorem dX5_isFree_17 : decode cX5_isFree 17 = .ok (.aload_n 0, 1) := by decide +kernel
theorem dX5_isFree_18 : decode cX5_isFree 18 = .ok (.getfield 13, 3) := by decide +kernel
theorem dX5_isFree_21 : decode cX5_isFree 21 = .ok (.iload_n 1, 1) := by decide +kernel
theorem dX5_isFree_22 : decode cX5_isFree 22 = .ok (.baload, 1) := by decide +kernel
theorem dX5_isFree_23 : decode cX5_isFree 23 = .ok (.ifCond .ne 7, 3) := by decide +kernel
theorem dX5_isFree_26 : decode cX5_isFree 26 = .ok (.iconst 1, 1) := by decide +kernel
theorem dX5_isFree_27 : decode cX5_isFree 27 = .ok (.goto 4, 3) := by decide +kernel
theorem dX5_isFree_30 : decode cX5_isFree 30 = .ok (.iconst 0, 1) := by decide +kernel
theorem dX5_isFree_31 : decode cX5_isFree 31 = .ok (.ireturn, 1) := by decide +kernel
theorem dX5_groupsFor_0 : decode cX5_groupsFor 0 = .ok (.iload_n 1, 1) := by decide +kernel
theorem dX5_groupsFor_1 : decode cX5_groupsFor 1 = .ok (.iconst 4, 1) := by decide +kernel
theorem dX5_groupsFor_2 : decode cX5_groupsFor 2 = .ok (.idiv, 1) := by decide +kernel
theorem dX5_groupsFor_3 : decode cX5_groupsFor 3 = .ok (.iconst 1, 1) := by decide +kernel
theorem dX5_groupsFor_4 : decode cX5_groupsFor 4 = .ok (.iadd, 1) := by decide +kernel
theorem dX5_groupsFor_5 : decode cX5_groupsFor 5 = .ok (.ireturn, 1) := by decide +kernel
theorem dX5_joins_0 : decode cX5_joins 0 = .ok (.iconst 0, 1) := by decide +kernel
theorem dX5_joins_1 : decode cX5_joins 1 = .ok (.istore_n 1, 1) := by decide +kernel
theorem dX5_joins_2 : decode cX5_joins 2 = .ok (.iload_n 1, 1) := by decide +kernel
theorem dX5_joins_3 : decode cX5_joins 3 = .ok (.aload_n 0, 1) := by decide +kernel
theorem dX5_joins_4 : decode cX5_joins 4 = .ok (.getfield 44, 3) := by decide +kernel
theorem dX5_joins_7 : decode cX5_joins 7 = .ok (.if_icmp .ge 58, 3) := by decide +kernel
theorem dX5_joins_10 : decode cX5_joins 10 = .ok (.iload_n 1, 1) := by decide +kernel
theorem dX5_joins_11 : decode cX5_joins 11 = .ok (.aload_n 0, 1) := by decide +kernel
theorem dX5_joins_12 : decode cX5_joins 12 = .ok (.getfield 7, 3) := by decide +kernel
theorem dX5_joins_15 : decode cX5_joins 15 = .ok (.iload_n 1, 1) := by decide +kernel
theorem dX5_joins_16 : decode cX5_joins 16 = .ok (.iaload, 1) := by decide +kernel
theorem dX5_joins_17 : decode cX5_joins 17 = .ok (.iadd, 1) := by decide +kernel
theorem dX5_joins_18 : decode cX5_joins 18 = .ok (.istore_n 2, 1) := by decide +kernel
theorem dX5_joins_19 : decode cX5_joins 19 = .ok (.aload_n 0, 1) := by decide +kernel
theorem dX5_joins_20 : decode cX5_joins 20 = .ok (.iload_n 1, 1) := by decide +kernel
theorem dX5_joins_21 : decode cX5_joins 21 = .ok (.invokevirtual 51, 3) := by decide +kernel
theorem dX5_joins_24 : decode cX5_joins 24 = .ok (.ifCond .eq 36, 3) := by decide +kernel
theorem dX5_joins_27 : decode cX5_joins 27 = .ok (.aload_n 0, 1) := by decide +kernel
theorem dX5_joins_28 : decode cX5_joins 28 = .ok (.iload_n 2, 1) := by decide +kernel
theorem dX5_joins_29 : decode cX5_joins 29 = .ok (.invokevirtual 51, 3) := by decide +kernel
theorem dX5_joins_32 : decode cX5_joins 32 = .ok (.ifCond .eq 28, 3) := by decide +kernel
theorem dX5_joins_35 : decode cX5_joins 35 = .ok (.aload_n 0, 1) := by decide +kernel
theorem dX5_joins_36 : decode cX5_joins 36 = .ok (.getfield 7, 3) := by decide +kernel
theorem dX5_joins_39 : decode cX5_joins 39 = .ok (.iload_n 1, 1) := by decide +kernel
theorem dX5_joins_40 : decode cX5_joins 40 = .ok (.dup2, 1) := by decide +kernel
theorem dX5_joins_41 : decode cX5_joins 41 = .ok (.iaload, 1) := by decide +kernel
theorem dX5_joins_42 : decode cX5_joins 42 = .ok (.aload_n 0, 1) := by decide +kernel
theorem dX5_joins_43 : decode cX5_joins 43 = .ok (.getfield 7, 3) := by decide +kernel
theorem dX5_joins_46 : decode cX5_joins 46 = .ok (.iload_n 2, 1) := by decide +kernel
theorem dX5_joins_47 : decode cX5_joins 47 = .ok (.iaload, 1) := by decide +kernel
theorem dX5_joins_48 : decode cX5_joins 48 = .ok (.iadd, 1) := by decide +kernel
theorem dX5_joins_49 : decode cX5_joins 49 = .ok (.iastore, 1) := by decide +kernel
theorem dX5_joins_50 : decode cX5_joins 50 = .ok (.aload_n 0, 1) := by decide +kernel
theorem dX5_joins_51 : decode cX5_joins 51 = .ok (.getfield 7, 3) := by decide +kernel
theorem dX5_joins_54 : decode cX5_joins 54 = .ok (.iload_n 2, 1) := by decide +kernel
theorem dX5_joins_55 : decode cX5_joins 55 = .ok (.iconst 0, 1) := by decide +kernel
theorem dX5_joins_56 : decode cX5_joins 56 = .ok (.iastore, 1) := by decide +kernel
theorem dX5_joins_57 : decode cX5_joins 57 = .ok (.goto 5, 3) := by decide +kernel
theorem dX5_joins_60 : decode cX5_joins 60 = .ok (.iload_n 2, 1) := by decide +kernel
theorem dX5_joins_61 : decode cX5_joins 61 = .ok (.istore_n 1, 1) := by decide +kernel
theorem dX5_joins_62 : decode cX5_joins 62 = .ok (.goto (-60), 3) := by decide +kernel
theorem dX5_joins_65 : decode cX5_joins 65 = .ok (.return_, 1) := by decide +kernel
theorem dX5_takes_0 : decode cX5_takes 0 = .ok (.aload_n 0, 1) := by decide +kernel
theorem dX5_takes_1 : decode cX5_takes 1 = .ok (.getfield 7, 3) := by decide +kernel
theorem dX5_takes_4 : decode cX5_takes 4 = .ok (.iload_n 1, 1) := by decide +kernel
theorem dX5_takes_5 : decode cX5_takes 5 = .ok (.iaload, 1) := by decide +kernel
theorem dX5_takes_6 : decode cX5_takes 6 = .ok (.istore 4, 2) := by decide +kernel
theorem dX5_takes_8 : decode cX5_takes 8 = .ok (.iload_n 1, 1) := by decide +kernel
theorem dX5_takes_9 : decode cX5_takes 9 = .ok (.iload 4, 2) := by decide +kernel
theorem dX5_takes_11 : decode cX5_takes 11 = .ok (.iadd, 1) := by decide +kernel
theorem dX5_takes_12 : decode cX5_takes 12 = .ok (.iload_n 2, 1) := by decide +kernel
theorem dX5_takes_13 : decode cX5_takes 13 = .ok (.isub, 1) := by decide +kernel
theorem dX5_takes_14 : decode cX5_takes 14 = .ok (.iload_n 3, 1) := by decide +kernel
theorem dX5_takes_15 : decode cX5_takes 15 = .ok (.isub, 1) := by decide +kernel
theorem dX5_takes_16 : decode cX5_takes 16 = .ok (.istore 5, 2) := by decide +kernel
theorem dX5_takes_18 : decode cX5_takes 18 = .ok (.aload_n 0, 1) := by decide +kernel
theorem dX5_takes_19 : decode cX5_takes 19 = .ok (.getfield 7, 3) := by decide +kernel
theorem dX5_takes_22 : decode cX5_takes 22 = .ok (.iload_n 1, 1) := by decide +kernel
theorem dX5_takes_23 : decode cX5_takes 23 = .ok (.iload_n 2, 1) := by decide +kernel
theorem dX5_takes_24 : decode cX5_takes 24 = .ok (.iload_n 1, 1) := by decide +kernel
theorem dX5_takes_25 : decode cX5_takes 25 = .ok (.isub, 1) := by decide +kernel
theorem dX5_takes_26 : decode cX5_takes 26 = .ok (.iastore, 1) := by decide +kernel
theorem dX5_takes_27 : decode cX5_takes 27 = .ok (.aload_n 0, 1) := by decide +kernel
theorem dX5_takes_28 : decode cX5_takes 28 = .ok (.getfield 7, 3) := by decide +kernel
theorem dX5_takes_31 : decode cX5_takes 31 = .ok (.iload_n 2, 1) := by decide +kernel
theorem dX5_takes_32 : decode cX5_takes 32 = .ok (.iload_n 3, 1) := by decide +kernel
theorem dX5_takes_33 : decode cX5_takes 33 = .ok (.iastore, 1) := by decide +kernel
theorem dX5_takes_34 : decode cX5_takes 34 = .ok (.aload_n 0, 1) := by decide +kernel
theorem dX5_takes_35 : decode cX5_takes 35 = .ok (.getfield 13, 3) := by decide +kernel
theorem dX5_takes_38 : decode cX5_takes 38 = .ok (.iload_n 2, 1) := by decide +kernel
theorem dX5_takes_39 : decode cX5_takes 39 = .ok (.iconst 1, 1) := by decide +kernel
theorem dX5_takes_40 : decode cX5_takes 40 = .ok (.bastore, 1) := by decide +kernel
theorem dX5_takes_41 : decode cX5_takes 41 = .ok (.aload_n 0, 1) := by decide +kernel
theorem dX5_takes_42 : decode cX5_takes 42 = .ok (.getfield 17, 3) := by decide +kernel
theorem dX5_takes_45 : decode cX5_takes 45 = .ok (.iload_n 2, 1) := by decide +kernel
theorem dX5_takes_46 : decode cX5_takes 46 = .ok (.iconst 0, 1) := by decide +kernel
theorem dX5_takes_47 : decode cX5_takes 47 = .ok (.bastore, 1) := by decide +kernel
theorem dX5_takes_48 : decode cX5_takes 48 = .ok (.iload 5, 2) := by decide +kernel
theorem dX5_takes_50 : decode cX5_takes 50 = .ok (.ifCond .le 22, 3) := by decide +kernel
theorem dX5_takes_53 : decode cX5_takes 53 = .ok (.aload_n 0, 1) := by decide +kernel
theorem dX5_takes_54 : decode cX5_takes 54 = .ok (.getfield 7, 3) := by decide +kernel
theorem dX5_takes_57 : decode cX5_takes 57 = .ok (.iload_n 2, 1) := by decide +kernel
theorem dX5_takes_58 : decode cX5_takes 58 = .ok (.iload_n 3, 1) := by decide +kernel
theorem dX5_takes_59 : decode cX5_takes 59 = .ok (.iadd, 1) := by decide +kernel
theorem dX5_takes_60 : decode cX5_takes 60 = .ok (.iload 5, 2) := by decide +kernel
theorem dX5_takes_62 : decode cX5_takes 62 = .ok (.iastore, 1) := by decide +kernel
theorem dX5_takes_63 : decode cX5_takes 63 = .ok (.aload_n 0, 1) := by decide +kernel
theorem dX5_takes_64 : decode cX5_takes 64 = .ok (.getfield 13, 3) := by decide +kernel
theorem dX5_takes_67 : decode cX5_takes 67 = .ok (.iload_n 2, 1) := by decide +kernel
theorem dX5_takes_68 : decode cX5_takes 68 = .ok (.iload_n 3, 1) := by decide +kernel
theorem dX5_takes_69 : decode cX5_takes 69 = .ok (.iadd, 1) := by decide +kernel
theorem dX5_takes_70 : decode cX5_takes 70 = .ok (.iconst 0, 1) := by decide +kernel
theorem dX5_takes_71 : decode cX5_takes 71 = .ok (.bastore, 1) := by decide +kernel
theorem dX5_takes_72 : decode cX5_takes 72 = .ok (.iconst 0, 1) := by decide +kernel
theorem dX5_takes_73 : decode cX5_takes 73 = .ok (.istore 6, 2) := by decide +kernel
theorem dX5_takes_75 : decode cX5_takes 75 = .ok (.iload 6, 2) := by decide +kernel
theorem dX5_takes_77 : decode cX5_takes 77 = .ok (.iconst 4, 1) := by decide +kernel
theorem dX5_takes_78 : decode cX5_takes 78 = .ok (.iload_n 3, 1) := by decide +kernel
theorem dX5_takes_79 : decode cX5_takes 79 = .ok (.imul, 1) := by decide +kernel
theorem dX5_takes_80 : decode cX5_takes 80 = .ok (.iconst 1, 1) := by decide +kernel
theorem dX5_takes_81 : decode cX5_takes 81 = .ok (.isub, 1) := by decide +kernel
theorem dX5_takes_82 : decode cX5_takes 82 = .ok (.if_icmp .ge 22, 3) := by decide +kernel
theorem dX5_takes_85 : decode cX5_takes 85 = .ok (.aload_n 0, 1) := by decide +kernel
theorem dX5_takes_86 : decode cX5_takes 86 = .ok (.getfield 20, 3) := by decide +kernel
theorem dX5_takes_89 : decode cX5_takes 89 = .ok (.iload_n 2, 1) := by decide +kernel
theorem dX5_takes_90 : decode cX5_takes 90 = .ok (.invokestatic 55, 3) := by decide +kernel
theorem dX5_takes_93 : decode cX5_takes 93 = .ok (.iload 6, 2) := by decide +kernel
theorem dX5_takes_95 : decode cX5_takes 95 = .ok (.iadd, 1) := by decide +kernel
theorem dX5_takes_96 : decode cX5_takes 96 = .ok (.iconst 0, 1) := by decide +kernel
theorem dX5_takes_97 : decode cX5_takes 97 = .ok (.iastore, 1) := by decide +kernel
theorem dX5_takes_98 : decode cX5_takes 98 = .ok (.iinc 6 1, 3) := by decide +kernel
theorem dX5_takes_101 : decode cX5_takes 101 = .ok (.goto (-26), 3) := by decide +kernel
theorem dX5_takes_104 : decode cX5_takes 104 = .ok (.return_, 1) := by decide +kernel
theorem dX5_give_0 : decode cX5_give 0 = .ok (.aload_n 0, 1) := by decide +kernel
theorem dX5_give_1 : decode cX5_give 1 = .ok (.iconst 0, 1) := by decide +kernel
theorem dX5_give_2 : decode cX5_give 2 = .ok (.putfield 48, 3) := by decide +kernel
theorem dX5_give_5 : decode cX5_give 5 = .ok (.aload_n 0, 1) := by decide +kernel
theorem dX5_give_6 : decode cX5_give 6 = .ok (.iload_n 1, 1) := by decide +kernel
theorem dX5_give_7 : decode cX5_give 7 = .ok (.iconst 1, 1) := by decide +kernel
theorem dX5_give_8 : decode cX5_give 8 = .ok (.invokevirtual 59, 3) := by decide +kernel
theorem dX5_give_11 : decode cX5_give 11 = .ok (.ireturn, 1) := by decide +kernel
theorem dX5_giveAligned_0 : decode cX5_giveAligned 0 = .ok (.aload_n 0, 1) := by decide +kernel
theorem dX5_giveAligned_1 : decode cX5_giveAligned 1 = .ok (.iconst 0, 1) := by decide +kernel
theorem dX5_giveAligned_2 : decode cX5_giveAligned 2 = .ok (.putfield 48, 3) := by decide +kernel
theorem dX5_giveAligned_5 : decode cX5_giveAligned 5 = .ok (.iconst 4, 1) := by decide +kernel
theorem dX5_giveAligned_6 : decode cX5_giveAligned 6 = .ok (.istore_n 3, 1) := by decide +kernel
theorem dX5_giveAligned_7 : decode cX5_giveAligned 7 = .ok (.iload_n 3, 1) := by decide +kernel
theorem dX5_giveAligned_8 : decode cX5_giveAligned 8 = .ok (.sipush 1024, 3) := by decide +kernel
theorem dX5_giveAligned_11 : decode cX5_giveAligned 11 = .ok (.if_icmp .gt 24, 3) := by decide +kernel
theorem dX5_giveAligned_14 : decode cX5_giveAligned 14 = .ok (.iload_n 3, 1) := by decide +kernel
theorem dX5_giveAligned_15 : decode cX5_giveAligned 15 = .ok (.iload_n 2, 1) := by decide +kernel
theorem dX5_giveAligned_16 : decode cX5_giveAligned 16 = .ok (.if_icmp .ne 12, 3) := by decide +kernel
theorem dX5_giveAligned_19 : decode cX5_giveAligned 19 = .ok (.aload_n 0, 1) := by decide +kernel
theorem dX5_giveAligned_20 : decode cX5_giveAligned 20 = .ok (.iload_n 1, 1) := by decide +kernel
theorem dX5_giveAligned_21 : decode cX5_giveAligned 21 = .ok (.iload_n 2, 1) := by decide +kernel
theorem dX5_giveAligned_22 : decode cX5_giveAligned 22 = .ok (.iconst 4, 1) := by decide +kernel
theorem dX5_giveAligned_23 : decode cX5_giveAligned 23 = .ok (.idiv, 1) := by decide +kernel
theorem dX5_giveAligned_24 : decode cX5_giveAligned 24 = .ok (.invokevirtual 59, 3) := by decide +kernel
theorem dX5_giveAligned_27 : decode cX5_giveAligned 27 = .ok (.ireturn, 1) := by decide +kernel
theorem dX5_giveAligned_28 : decode cX5_giveAligned 28 = .ok (.iconst 2, 1) := by decide +kernel
theorem dX5_giveAligned_29 : decode cX5_giveAligned 29 = .ok (.iload_n 3, 1) := by decide +kernel
theorem dX5_giveAligned_30 : decode cX5_giveAligned 30 = .ok (.imul, 1) := by decide +kernel
theorem dX5_giveAligned_31 : decode cX5_giveAligned 31 = .ok (.istore_n 3, 1) := by decide +kernel
theorem dX5_giveAligned_32 : decode cX5_giveAligned 32 = .ok (.goto (-25), 3) := by decide +kernel
theorem dX5_giveAligned_35 : decode cX5_giveAligned 35 = .ok (.iconst 0, 1) := by decide +kernel
theorem dX5_giveAligned_36 : decode cX5_giveAligned 36 = .ok (.ireturn, 1) := by decide +kernel
theorem dX5_gives_0 : decode cX5_gives 0 = .ok (.iload_n 1, 1) := by decide +kernel
theorem dX5_gives_1 : decode cX5_gives 1 = .ok (.iconst 1, 1) := by decide +kernel
theorem dX5_gives_2 : decode cX5_gives 2 = .ok (.if_icmp .ge 5, 3) := by decide +kernel
theorem dX5_gives_5 : decode cX5_gives 5 = .ok (.iconst 0, 1) := by decide +kernel
theorem dX5_gives_6 : decode cX5_gives 6 = .ok (.ireturn, 1) := by decide +kernel
theorem dX5_gives_7 : decode cX5_gives 7 = .ok (.aload_n 0, 1) := by decide +kernel
theorem dX5_gives_8 : decode cX5_gives 8 = .ok (.iload_n 1, 1) := by decide +kernel
theorem dX5_gives_9 : decode cX5_gives 9 = .ok (.invokevirtual 63, 3) := by decide +kernel
theorem dX5_gives_12 : decode cX5_gives 12 = .ok (.istore_n 3, 1) := by decide +kernel
theorem dX5_gives_13 : decode cX5_gives 13 = .ok (.iconst 0, 1) := by decide +kernel
theorem dX5_gives_14 : decode cX5_gives 14 = .ok (.istore 4, 2) := by decide +kernel
theorem dX5_gives_16 : decode cX5_gives 16 = .ok (.iload 4, 2) := by decide +kernel
theorem dX5_gives_18 : decode cX5_gives 18 = .ok (.aload_n 0, 1) := by decide +kernel
theorem dX5_gives_19 : decode cX5_gives 19 = .ok (.getfield 44, 3) := by decide +kernel
theorem dX5_gives_22 : decode cX5_gives 22 = .ok (.if_icmp .ge 78, 3) := by decide +kernel
theorem dX5_gives_25 : decode cX5_gives 25 = .ok (.aload_n 0, 1) := by decide +kernel
theorem dX5_gives_26 : decode cX5_gives 26 = .ok (.iload 4, 2) := by decide +kernel
theorem dX5_gives_28 : decode cX5_gives 28 = .ok (.invokevirtual 51, 3) := by decide +kernel
theorem dX5_gives_31 : decode cX5_gives 31 = .ok (.ifCond .eq 63, 3) := by decide +kernel
theorem dX5_gives_34 : decode cX5_gives 34 = .ok (.iload 4, 2) := by decide +kernel
theorem dX5_gives_36 : decode cX5_gives 36 = .ok (.istore 5, 2) := by decide +kernel
theorem dX5_gives_38 : decode cX5_gives 38 = .ok (.iload 5, 2) := by decide +kernel
theorem dX5_gives_40 : decode cX5_gives 40 = .ok (.iconst 1, 1) := by decide +kernel
theorem dX5_gives_41 : decode cX5_gives 41 = .ok (.iadd, 1) := by decide +kernel
theorem dX5_gives_42 : decode cX5_gives 42 = .ok (.iload_n 2, 1) := by decide +kernel
theorem dX5_gives_43 : decode cX5_gives 43 = .ok (.irem, 1) := by decide +kernel
theorem dX5_gives_44 : decode cX5_gives 44 = .ok (.ifCond .eq 9, 3) := by decide +kernel
theorem dX5_gives_47 : decode cX5_gives 47 = .ok (.iinc 5 1, 3) := by decide +kernel
theorem dX5_gives_50 : decode cX5_gives 50 = .ok (.goto (-12), 3) := by decide +kernel
theorem dX5_gives_53 : decode cX5_gives 53 = .ok (.iload 5, 2) := by decide +kernel
theorem dX5_gives_55 : decode cX5_gives 55 = .ok (.iload 4, 2) := by decide +kernel
theorem dX5_gives_57 : decode cX5_gives 57 = .ok (.isub, 1) := by decide +kernel
theorem dX5_gives_58 : decode cX5_gives 58 = .ok (.i2l, 1) := by decide +kernel
theorem dX5_gives_59 : decode cX5_gives 59 = .ok (.iload_n 3, 1) := by decide +kernel
theorem dX5_gives_60 : decode cX5_gives 60 = .ok (.i2l, 1) := by decide +kernel
theorem dX5_gives_61 : decode cX5_gives 61 = .ok (.ladd, 1) := by decide +kernel
theorem dX5_gives_62 : decode cX5_gives 62 = .ok (.aload_n 0, 1) := by decide +kernel
theorem dX5_gives_63 : decode cX5_gives 63 = .ok (.getfield 7, 3) := by decide +kernel
theorem dX5_gives_66 : decode cX5_gives 66 = .ok (.iload 4, 2) := by decide +kernel
theorem dX5_gives_68 : decode cX5_gives 68 = .ok (.iaload, 1) := by decide +kernel
theorem dX5_gives_69 : decode cX5_gives 69 = .ok (.i2l, 1) := by decide +kernel
theorem dX5_gives_70 : decode cX5_gives 70 = .ok (.lcmp, 1) := by decide +kernel
theorem dX5_gives_71 : decode cX5_gives 71 = .ok (.ifCond .gt 23, 3) := by decide +kernel
theorem dX5_gives_74 : decode cX5_gives 74 = .ok (.aload_n 0, 1) := by decide +kernel
theorem dX5_gives_75 : decode cX5_gives 75 = .ok (.iload 4, 2) := by decide +kernel
theorem dX5_gives_77 : decode cX5_gives 77 = .ok (.iload 5, 2) := by decide +kernel
theorem dX5_gives_79 : decode cX5_gives 79 = .ok (.iload_n 3, 1) := by decide +kernel
theorem dX5_gives_80 : decode cX5_gives 80 = .ok (.invokevirtual 66, 3) := by decide +kernel
theorem dX5_gives_83 : decode cX5_gives 83 = .ok (.aload_n 0, 1) := by decide +kernel
theorem dX5_gives_84 : decode cX5_gives 84 = .ok (.iconst 0, 1) := by decide +kernel
theorem dX5_gives_85 : decode cX5_gives 85 = .ok (.putfield 70, 3) := by decide +kernel
theorem dX5_gives_88 : decode cX5_gives 88 = .ok (.iload 5, 2) := by decide +kernel
theorem dX5_gives_90 : decode cX5_gives 90 = .ok (.invokestatic 55, 3) := by decide +kernel
theorem dX5_gives_93 : decode cX5_gives 93 = .ok (.ireturn, 1) := by decide +kernel
theorem dX5_gives_94 : decode cX5_gives 94 = .ok (.iinc 4 1, 3) := by decide +kernel
theorem dX5_gives_97 : decode cX5_gives 97 = .ok (.goto (-81), 3) := by decide +kernel
theorem dX5_gives_100 : decode cX5_gives 100 = .ok (.iconst 0, 1) := by decide +kernel
theorem dX5_gives_101 : decode cX5_gives 101 = .ok (.ireturn, 1) := by decide +kernel
theorem dX5_free_0 : decode cX5_free 0 = .ok (.aload_n 0, 1) := by decide +kernel
theorem dX5_free_1 : decode cX5_free 1 = .ok (.iconst 0, 1) := by decide +kernel
theorem dX5_free_2 : decode cX5_free 2 = .ok (.putfield 48, 3) := by decide +kernel
theorem dX5_free_5 : decode cX5_free 5 = .ok (.aload_n 0, 1) := by decide +kernel
theorem dX5_free_6 : decode cX5_free 6 = .ok (.iload_n 1, 1) := by decide +kernel
theorem dX5_free_7 : decode cX5_free 7 = .ok (.invokevirtual 74, 3) := by decide +kernel
theorem dX5_free_10 : decode cX5_free 10 = .ok (.istore_n 2, 1) := by decide +kernel
theorem dX5_free_11 : decode cX5_free 11 = .ok (.iload_n 2, 1) := by decide +kernel
theorem dX5_free_12 : decode cX5_free 12 = .ok (.iconst (-1), 1) := by decide +kernel
theorem dX5_free_13 : decode cX5_free 13 = .ok (.if_icmp .ne 5, 3) := by decide +kernel
theorem dX5_free_16 : decode cX5_free 16 = .ok (.iconst 0, 1) := by decide +kernel
theorem dX5_free_17 : decode cX5_free 17 = .ok (.ireturn, 1) := by decide +kernel
theorem dX5_free_18 : decode cX5_free 18 = .ok (.aload_n 0, 1) := by decide +kernel
theorem dX5_free_19 : decode cX5_free 19 = .ok (.getfield 13, 3) := by decide +kernel
theorem dX5_free_22 : decode cX5_free 22 = .ok (.iload_n 2, 1) := by decide +kernel
theorem dX5_free_23 : decode cX5_free 23 = .ok (.iconst 0, 1) := by decide +kernel
theorem dX5_free_24 : decode cX5_free 24 = .ok (.bastore, 1) := by decide +kernel
theorem dX5_free_25 : decode cX5_free 25 = .ok (.aload_n 0, 1) := by decide +kernel
theorem dX5_free_26 : decode cX5_free 26 = .ok (.iconst 0, 1) := by decide +kernel
theorem dX5_free_27 : decode cX5_free 27 = .ok (.putfield 70, 3) := by decide +kernel
theorem dX5_free_30 : decode cX5_free 30 = .ok (.aload_n 0, 1) := by decide +kernel
theorem dX5_free_31 : decode cX5_free 31 = .ok (.invokevirtual 77, 3) := by decide +kernel
theorem dX5_free_34 : decode cX5_free 34 = .ok (.iconst 1, 1) := by decide +kernel
theorem dX5_free_35 : decode cX5_free 35 = .ok (.ireturn, 1) := by decide +kernel
theorem dX5_grow_0 : decode cX5_grow 0 = .ok (.aload_n 0, 1) := by decide +kernel
theorem dX5_grow_1 : decode cX5_grow 1 = .ok (.iconst 0, 1) := by decide +kernel
theorem dX5_grow_2 : decode cX5_grow 2 = .ok (.putfield 48, 3) := by decide +kernel
theorem dX5_grow_5 : decode cX5_grow 5 = .ok (.aload_n 0, 1) := by decide +kernel
theorem dX5_grow_6 : decode cX5_grow 6 = .ok (.iload_n 1, 1) := by decide +kernel
theorem dX5_grow_7 : decode cX5_grow 7 = .ok (.invokevirtual 74, 3) := by decide +kernel
theorem dX5_grow_10 : decode cX5_grow 10 = .ok (.istore_n 3, 1) := by decide +kernel
theorem dX5_grow_11 : decode cX5_grow 11 = .ok (.iload_n 3, 1) := by decide +kernel
theorem dX5_grow_12 : decode cX5_grow 12 = .ok (.iconst (-1), 1) := by decide +kernel
theorem dX5_grow_13 : decode cX5_grow 13 = .ok (.if_icmp .eq 8, 3) := by decide +kernel
theorem dX5_grow_16 : decode cX5_grow 16 = .ok (.iload_n 2, 1) := by decide +kernel
theorem dX5_grow_17 : decode cX5_grow 17 = .ok (.iconst 1, 1) := by decide +kernel
theorem dX5_grow_18 : decode cX5_grow 18 = .ok (.if_icmp .ge 5, 3) := by decide +kernel
theorem dX5_grow_21 : decode cX5_grow 21 = .ok (.iconst 0, 1) := by decide +kernel
theorem dX5_grow_22 : decode cX5_grow 22 = .ok (.ireturn, 1) := by decide +kernel
theorem dX5_grow_23 : decode cX5_grow 23 = .ok (.aload_n 0, 1) := by decide +kernel
theorem dX5_grow_24 : decode cX5_grow 24 = .ok (.iload_n 2, 1) := by decide +kernel
theorem dX5_grow_25 : decode cX5_grow 25 = .ok (.invokevirtual 63, 3) := by decide +kernel
theorem dX5_grow_28 : decode cX5_grow 28 = .ok (.aload_n 0, 1) := by decide +kernel
theorem dX5_grow_29 : decode cX5_grow 29 = .ok (.getfield 7, 3) := by decide +kernel
theorem dX5_grow_32 : decode cX5_grow 32 = .ok (.iload_n 3, 1) := by decide +kernel
theorem dX5_grow_33 : decode cX5_grow 33 = .ok (.iaload, 1) := by decide +kernel
theorem dX5_grow_34 : decode cX5_grow 34 = .ok (.isub, 1) := by decide +kernel
theorem dX5_grow_35 : decode cX5_grow 35 = .ok (.istore 4, 2) := by decide +kernel
theorem dX5_grow_37 : decode cX5_grow 37 = .ok (.iload_n 3, 1) := by decide +kernel
theorem dX5_grow_38 : decode cX5_grow 38 = .ok (.aload_n 0, 1) := by decide +kernel
theorem dX5_grow_39 : decode cX5_grow 39 = .ok (.getfield 7, 3) := by decide +kernel
theorem dX5_grow_42 : decode cX5_grow 42 = .ok (.iload_n 3, 1) := by decide +kernel
theorem dX5_grow_43 : decode cX5_grow 43 = .ok (.iaload, 1) := by decide +kernel
theorem dX5_grow_44 : decode cX5_grow 44 = .ok (.iadd, 1) := by decide +kernel
theorem dX5_grow_45 : decode cX5_grow 45 = .ok (.istore 5, 2) := by decide +kernel
theorem dX5_grow_47 : decode cX5_grow 47 = .ok (.iload 4, 2) := by decide +kernel
theorem dX5_grow_49 : decode cX5_grow 49 = .ok (.ifCond .le 125, 3) := by decide +kernel
theorem dX5_grow_52 : decode cX5_grow 52 = .ok (.aload_n 0, 1) := by decide +kernel
theorem dX5_grow_53 : decode cX5_grow 53 = .ok (.iload 5, 2) := by decide +kernel
theorem dX5_grow_55 : decode cX5_grow 55 = .ok (.invokevirtual 51, 3) := by decide +kernel
theorem dX5_grow_58 : decode cX5_grow 58 = .ok (.ifCond .eq 15, 3) := by decide +kernel
theorem dX5_grow_61 : decode cX5_grow 61 = .ok (.aload_n 0, 1) := by decide +kernel
theorem dX5_grow_62 : decode cX5_grow 62 = .ok (.getfield 7, 3) := by decide +kernel
theorem dX5_grow_65 : decode cX5_grow 65 = .ok (.iload 5, 2) := by decide +kernel
theorem dX5_grow_67 : decode cX5_grow 67 = .ok (.iaload, 1) := by decide +kernel
theorem dX5_grow_68 : decode cX5_grow 68 = .ok (.iload 4, 2) := by decide +kernel
theorem dX5_grow_70 : decode cX5_grow 70 = .ok (.if_icmp .ge 5, 3) := by decide +kernel
theorem dX5_grow_73 : decode cX5_grow 73 = .ok (.iconst 0, 1) := by decide +kernel
theorem dX5_grow_74 : decode cX5_grow 74 = .ok (.ireturn, 1) := by decide +kernel
theorem dX5_grow_75 : decode cX5_grow 75 = .ok (.aload_n 0, 1) := by decide +kernel
theorem dX5_grow_76 : decode cX5_grow 76 = .ok (.getfield 7, 3) := by decide +kernel
theorem dX5_grow_79 : decode cX5_grow 79 = .ok (.iload 5, 2) := by decide +kernel
theorem dX5_grow_81 : decode cX5_grow 81 = .ok (.iaload, 1) := by decide +kernel
theorem dX5_grow_82 : decode cX5_grow 82 = .ok (.iload 4, 2) := by decide +kernel
theorem dX5_grow_84 : decode cX5_grow 84 = .ok (.isub, 1) := by decide +kernel
theorem dX5_grow_85 : decode cX5_grow 85 = .ok (.istore 6, 2) := by decide +kernel
theorem dX5_grow_87 : decode cX5_grow 87 = .ok (.iconst 0, 1) := by decide +kernel
theorem dX5_grow_88 : decode cX5_grow 88 = .ok (.istore 7, 2) := by decide +kernel
theorem dX5_grow_90 : decode cX5_grow 90 = .ok (.iload 7, 2) := by decide +kernel
theorem dX5_grow_92 : decode cX5_grow 92 = .ok (.iconst 4, 1) := by decide +kernel
theorem dX5_grow_93 : decode cX5_grow 93 = .ok (.iload 4, 2) := by decide +kernel
theorem dX5_grow_95 : decode cX5_grow 95 = .ok (.imul, 1) := by decide +kernel
theorem dX5_grow_96 : decode cX5_grow 96 = .ok (.if_icmp .ge 25, 3) := by decide +kernel
theorem dX5_grow_99 : decode cX5_grow 99 = .ok (.aload_n 0, 1) := by decide +kernel
theorem dX5_grow_100 : decode cX5_grow 100 = .ok (.getfield 20, 3) := by decide +kernel
theorem dX5_grow_103 : decode cX5_grow 103 = .ok (.iload 5, 2) := by decide +kernel
theorem dX5_grow_105 : decode cX5_grow 105 = .ok (.invokestatic 55, 3) := by decide +kernel
theorem dX5_grow_108 : decode cX5_grow 108 = .ok (.iconst 1, 1) := by decide +kernel
theorem dX5_grow_109 : decode cX5_grow 109 = .ok (.isub, 1) := by decide +kernel
theorem dX5_grow_110 : decode cX5_grow 110 = .ok (.iload 7, 2) := by decide +kernel
theorem dX5_grow_112 : decode cX5_grow 112 = .ok (.iadd, 1) := by decide +kernel
theorem dX5_grow_113 : decode cX5_grow 113 = .ok (.iconst 0, 1) := by decide +kernel
theorem dX5_grow_114 : decode cX5_grow 114 = .ok (.iastore, 1) := by decide +kernel
theorem dX5_grow_115 : decode cX5_grow 115 = .ok (.iinc 7 1, 3) := by decide +kernel
theorem dX5_grow_118 : decode cX5_grow 118 = .ok (.goto (-28), 3) := by decide +kernel
theorem dX5_grow_121 : decode cX5_grow 121 = .ok (.aload_n 0, 1) := by decide +kernel
theorem dX5_grow_122 : decode cX5_grow 122 = .ok (.getfield 7, 3) := by decide +kernel
theorem dX5_grow_125 : decode cX5_grow 125 = .ok (.iload 5, 2) := by decide +kernel
theorem dX5_grow_127 : decode cX5_grow 127 = .ok (.iconst 0, 1) := by decide +kernel
theorem dX5_grow_128 : decode cX5_grow 128 = .ok (.iastore, 1) := by decide +kernel
theorem dX5_grow_129 : decode cX5_grow 129 = .ok (.aload_n 0, 1) := by decide +kernel
theorem dX5_grow_130 : decode cX5_grow 130 = .ok (.getfield 7, 3) := by decide +kernel
theorem dX5_grow_133 : decode cX5_grow 133 = .ok (.iload_n 3, 1) := by decide +kernel
theorem dX5_grow_134 : decode cX5_grow 134 = .ok (.dup2, 1) := by decide +kernel
theorem dX5_grow_135 : decode cX5_grow 135 = .ok (.iaload, 1) := by decide +kernel
theorem dX5_grow_136 : decode cX5_grow 136 = .ok (.iload 4, 2) := by decide +kernel
theorem dX5_grow_138 : decode cX5_grow 138 = .ok (.iadd, 1) := by decide +kernel
theorem dX5_grow_139 : decode cX5_grow 139 = .ok (.iastore, 1) := by decide +kernel
theorem dX5_grow_140 : decode cX5_grow 140 = .ok (.iload 6, 2) := by decide +kernel
theorem dX5_grow_142 : decode cX5_grow 142 = .ok (.ifCond .le 32, 3) := by decide +kernel
theorem dX5_grow_145 : decode cX5_grow 145 = .ok (.aload_n 0, 1) := by decide +kernel
theorem dX5_grow_146 : decode cX5_grow 146 = .ok (.getfield 7, 3) := by decide +kernel
theorem dX5_grow_149 : decode cX5_grow 149 = .ok (.iload_n 3, 1) := by decide +kernel
theorem dX5_grow_150 : decode cX5_grow 150 = .ok (.aload_n 0, 1) := by decide +kernel
theorem dX5_grow_151 : decode cX5_grow 151 = .ok (.getfield 7, 3) := by decide +kernel
theorem dX5_grow_154 : decode cX5_grow 154 = .ok (.iload_n 3, 1) := by decide +kernel
theorem dX5_grow_155 : decode cX5_grow 155 = .ok (.iaload, 1) := by decide +kernel
theorem dX5_grow_156 : decode cX5_grow 156 = .ok (.iadd, 1) := by decide +kernel
theorem dX5_grow_157 : decode cX5_grow 157 = .ok (.iload 6, 2) := by decide +kernel
theorem dX5_grow_159 : decode cX5_grow 159 = .ok (.iastore, 1) := by decide +kernel
theorem dX5_grow_160 : decode cX5_grow 160 = .ok (.aload_n 0, 1) := by decide +kernel
theorem dX5_grow_161 : decode cX5_grow 161 = .ok (.getfield 13, 3) := by decide +kernel
theorem dX5_grow_164 : decode cX5_grow 164 = .ok (.iload_n 3, 1) := by decide +kernel
theorem dX5_grow_165 : decode cX5_grow 165 = .ok (.aload_n 0, 1) := by decide +kernel
theorem dX5_grow_166 : decode cX5_grow 166 = .ok (.getfield 7, 3) := by decide +kernel
theorem dX5_grow_169 : decode cX5_grow 169 = .ok (.iload_n 3, 1) := by decide +kernel
theorem dX5_grow_170 : decode cX5_grow 170 = .ok (.iaload, 1) := by decide +kernel
theorem dX5_grow_171 : decode cX5_grow 171 = .ok (.iadd, 1) := by decide +kernel
theorem dX5_grow_172 : decode cX5_grow 172 = .ok (.iconst 0, 1) := by decide +kernel
theorem dX5_grow_173 : decode cX5_grow 173 = .ok (.bastore, 1) := by decide +kernel
theorem dX5_grow_174 : decode cX5_grow 174 = .ok (.aload_n 0, 1) := by decide +kernel
theorem dX5_grow_175 : decode cX5_grow 175 = .ok (.iconst 0, 1) := by decide +kernel
theorem dX5_grow_176 : decode cX5_grow 176 = .ok (.putfield 70, 3) := by decide +kernel
theorem dX5_grow_179 : decode cX5_grow 179 = .ok (.iconst 1, 1) := by decide +kernel
theorem dX5_grow_180 : decode cX5_grow 180 = .ok (.ireturn, 1) := by decide +kernel
theorem dX5_trim_0 : decode cX5_trim 0 = .ok (.aload_n 0, 1) := by decide +kernel
theorem dX5_trim_1 : decode cX5_trim 1 = .ok (.iconst 0, 1) := by decide +kernel
theorem dX5_trim_2 : decode cX5_trim 2 = .ok (.putfield 48, 3) := by decide +kernel
theorem dX5_trim_5 : decode cX5_trim 5 = .ok (.aload_n 0, 1) := by decide +kernel
theorem dX5_trim_6 : decode cX5_trim 6 = .ok (.iload_n 1, 1) := by decide +kernel
theorem dX5_trim_7 : decode cX5_trim 7 = .ok (.invokevirtual 74, 3) := by decide +kernel
theorem dX5_trim_10 : decode cX5_trim 10 = .ok (.istore_n 3, 1) := by decide +kernel
theorem dX5_trim_11 : decode cX5_trim 11 = .ok (.iload_n 3, 1) := by decide +kernel
theorem dX5_trim_12 : decode cX5_trim 12 = .ok (.iconst (-1), 1) := by decide +kernel
theorem dX5_trim_13 : decode cX5_trim 13 = .ok (.if_icmp .eq 22, 3) := by decide +kernel
theorem dX5_trim_16 : decode cX5_trim 16 = .ok (.iload_n 2, 1) := by decide +kernel
theorem dX5_trim_17 : decode cX5_trim 17 = .ok (.iconst 1, 1) := by decide +kernel
theorem dX5_trim_18 : decode cX5_trim 18 = .ok (.if_icmp .lt 17, 3) := by decide +kernel
theorem dX5_trim_21 : decode cX5_trim 21 = .ok (.aload_n 0, 1) := by decide +kernel
theorem dX5_trim_22 : decode cX5_trim 22 = .ok (.iload_n 2, 1) := by decide +kernel
theorem dX5_trim_23 : decode cX5_trim 23 = .ok (.invokevirtual 63, 3) := by decide +kernel
theorem dX5_trim_26 : decode cX5_trim 26 = .ok (.aload_n 0, 1) := by decide +kernel
theorem dX5_trim_27 : decode cX5_trim 27 = .ok (.getfield 7, 3) := by decide +kernel
theorem dX5_trim_30 : decode cX5_trim 30 = .ok (.iload_n 3, 1) := by decide +kernel
theorem dX5_trim_31 : decode cX5_trim 31 = .ok (.iaload, 1) := by decide +kernel
theorem dX5_trim_32 : decode cX5_trim 32 = .ok (.if_icmp .le 5, 3) := by decide +kernel
theorem dX5_trim_35 : decode cX5_trim 35 = .ok (.iconst 0, 1) := by decide +kernel
theorem dX5_trim_36 : decode cX5_trim 36 = .ok (.ireturn, 1) := by decide +kernel
theorem dX5_trim_37 : decode cX5_trim 37 = .ok (.aload_n 0, 1) := by decide +kernel
theorem dX5_trim_38 : decode cX5_trim 38 = .ok (.getfield 7, 3) := by decide +kernel
theorem dX5_trim_41 : decode cX5_trim 41 = .ok (.iload_n 3, 1) := by decide +kernel
theorem dX5_trim_42 : decode cX5_trim 42 = .ok (.iaload, 1) := by decide +kernel
theorem dX5_trim_43 : decode cX5_trim 43 = .ok (.aload_n 0, 1) := by decide +kernel
theorem dX5_trim_44 : decode cX5_trim 44 = .ok (.iload_n 2, 1) := by decide +kernel
theorem dX5_trim_45 : decode cX5_trim 45 = .ok (.invokevirtual 63, 3) := by decide +kernel
theorem dX5_trim_48 : decode cX5_trim 48 = .ok (.isub, 1) := by decide +kernel
theorem dX5_trim_49 : decode cX5_trim 49 = .ok (.istore 4, 2) := by decide +kernel
theorem dX5_trim_51 : decode cX5_trim 51 = .ok (.iload 4, 2) := by decide +kernel
theorem dX5_trim_53 : decode cX5_trim 53 = .ok (.ifCond .le 47, 3) := by decide +kernel
theorem dX5_trim_56 : decode cX5_trim 56 = .ok (.aload_n 0, 1) := by decide +kernel
theorem dX5_trim_57 : decode cX5_trim 57 = .ok (.getfield 7, 3) := by decide +kernel
theorem dX5_trim_60 : decode cX5_trim 60 = .ok (.iload_n 3, 1) := by decide +kernel
theorem dX5_trim_61 : decode cX5_trim 61 = .ok (.dup2, 1) := by decide +kernel
theorem dX5_trim_62 : decode cX5_trim 62 = .ok (.iaload, 1) := by decide +kernel
theorem dX5_trim_63 : decode cX5_trim 63 = .ok (.iload 4, 2) := by decide +kernel
theorem dX5_trim_65 : decode cX5_trim 65 = .ok (.isub, 1) := by decide +kernel
theorem dX5_trim_66 : decode cX5_trim 66 = .ok (.iastore, 1) := by decide +kernel
theorem dX5_trim_67 : decode cX5_trim 67 = .ok (.aload_n 0, 1) := by decide +kernel
theorem dX5_trim_68 : decode cX5_trim 68 = .ok (.getfield 7, 3) := by decide +kernel
theorem dX5_trim_71 : decode cX5_trim 71 = .ok (.iload_n 3, 1) := by decide +kernel
theorem dX5_trim_72 : decode cX5_trim 72 = .ok (.aload_n 0, 1) := by decide +kernel
theorem dX5_trim_73 : decode cX5_trim 73 = .ok (.getfield 7, 3) := by decide +kernel
theorem dX5_trim_76 : decode cX5_trim 76 = .ok (.iload_n 3, 1) := by decide +kernel
theorem dX5_trim_77 : decode cX5_trim 77 = .ok (.iaload, 1) := by decide +kernel
theorem dX5_trim_78 : decode cX5_trim 78 = .ok (.iadd, 1) := by decide +kernel
theorem dX5_trim_79 : decode cX5_trim 79 = .ok (.iload 4, 2) := by decide +kernel
theorem dX5_trim_81 : decode cX5_trim 81 = .ok (.iastore, 1) := by decide +kernel
theorem dX5_trim_82 : decode cX5_trim 82 = .ok (.aload_n 0, 1) := by decide +kernel
theorem dX5_trim_83 : decode cX5_trim 83 = .ok (.getfield 13, 3) := by decide +kernel
theorem dX5_trim_86 : decode cX5_trim 86 = .ok (.iload_n 3, 1) := by decide +kernel
theorem dX5_trim_87 : decode cX5_trim 87 = .ok (.aload_n 0, 1) := by decide +kernel
theorem dX5_trim_88 : decode cX5_trim 88 = .ok (.getfield 7, 3) := by decide +kernel
theorem dX5_trim_91 : decode cX5_trim 91 = .ok (.iload_n 3, 1) := by decide +kernel
theorem dX5_trim_92 : decode cX5_trim 92 = .ok (.iaload, 1) := by decide +kernel
theorem dX5_trim_93 : decode cX5_trim 93 = .ok (.iadd, 1) := by decide +kernel
theorem dX5_trim_94 : decode cX5_trim 94 = .ok (.iconst 0, 1) := by decide +kernel
theorem dX5_trim_95 : decode cX5_trim 95 = .ok (.bastore, 1) := by decide +kernel
theorem dX5_trim_96 : decode cX5_trim 96 = .ok (.aload_n 0, 1) := by decide +kernel
theorem dX5_trim_97 : decode cX5_trim 97 = .ok (.invokevirtual 77, 3) := by decide +kernel
theorem dX5_trim_100 : decode cX5_trim 100 = .ok (.aload_n 0, 1) := by decide +kernel
theorem dX5_trim_101 : decode cX5_trim 101 = .ok (.iconst 0, 1) := by decide +kernel
theorem dX5_trim_102 : decode cX5_trim 102 = .ok (.putfield 70, 3) := by decide +kernel
theorem dX5_trim_105 : decode cX5_trim 105 = .ok (.iconst 1, 1) := by decide +kernel
theorem dX5_trim_106 : decode cX5_trim 106 = .ok (.ireturn, 1) := by decide +kernel
theorem dX5_pin_0 : decode cX5_pin 0 = .ok (.aload_n 0, 1) := by decide +kernel
theorem dX5_pin_1 : decode cX5_pin 1 = .ok (.iconst 0, 1) := by decide +kernel
theorem dX5_pin_2 : decode cX5_pin 2 = .ok (.putfield 48, 3) := by decide +kernel
theorem dX5_pin_5 : decode cX5_pin 5 = .ok (.aload_n 0, 1) := by decide +kernel
theorem dX5_pin_6 : decode cX5_pin 6 = .ok (.iload_n 1, 1) := by decide +kernel
theorem dX5_pin_7 : decode cX5_pin 7 = .ok (.invokevirtual 74, 3) := by decide +kernel
theorem dX5_pin_10 : decode cX5_pin 10 = .ok (.istore_n 3, 1) := by decide +kernel
theorem dX5_pin_11 : decode cX5_pin 11 = .ok (.iload_n 3, 1) := by decide +kernel
theorem dX5_pin_12 : decode cX5_pin 12 = .ok (.iconst (-1), 1) := by decide +kernel
theorem dX5_pin_13 : decode cX5_pin 13 = .ok (.if_icmp .ne 5, 3) := by decide +kernel
theorem dX5_pin_16 : decode cX5_pin 16 = .ok (.iconst 0, 1) := by decide +kernel
theorem dX5_pin_17 : decode cX5_pin 17 = .ok (.ireturn, 1) := by decide +kernel
theorem dX5_pin_18 : decode cX5_pin 18 = .ok (.aload_n 0, 1) := by decide +kernel
theorem dX5_pin_19 : decode cX5_pin 19 = .ok (.getfield 17, 3) := by decide +kernel
theorem dX5_pin_22 : decode cX5_pin 22 = .ok (.iload_n 3, 1) := by decide +kernel
theorem dX5_pin_23 : decode cX5_pin 23 = .ok (.iload_n 2, 1) := by decide +kernel
theorem dX5_pin_24 : decode cX5_pin 24 = .ok (.bastore, 1) := by decide +kernel
theorem dX5_pin_25 : decode cX5_pin 25 = .ok (.aload_n 0, 1) := by decide +kernel
theorem dX5_pin_26 : decode cX5_pin 26 = .ok (.iconst 0, 1) := by decide +kernel
theorem dX5_pin_27 : decode cX5_pin 27 = .ok (.putfield 70, 3) := by decide +kernel
theorem dX5_pin_30 : decode cX5_pin 30 = .ok (.iconst 1, 1) := by decide +kernel
theorem dX5_pin_31 : decode cX5_pin 31 = .ok (.ireturn, 1) := by decide +kernel
theorem dX5_get_0 : decode cX5_get 0 = .ok (.aload_n 0, 1) := by decide +kernel
theorem dX5_get_1 : decode cX5_get 1 = .ok (.iload_n 1, 1) := by decide +kernel
theorem dX5_get_2 : decode cX5_get 2 = .ok (.invokevirtual 74, 3) := by decide +kernel
theorem dX5_get_5 : decode cX5_get 5 = .ok (.istore_n 3, 1) := by decide +kernel
theorem dX5_get_6 : decode cX5_get 6 = .ok (.aload_n 0, 1) := by decide +kernel
theorem dX5_get_7 : decode cX5_get 7 = .ok (.iload_n 3, 1) := by decide +kernel
theorem dX5_get_8 : decode cX5_get 8 = .ok (.iconst (-1), 1) := by decide +kernel
theorem dX5_get_9 : decode cX5_get 9 = .ok (.if_icmp .ne 7, 3) := by decide +kernel
theorem dX5_get_12 : decode cX5_get 12 = .ok (.iconst 1, 1) := by decide +kernel
theorem dX5_get_13 : decode cX5_get 13 = .ok (.goto 26, 3) := by decide +kernel
theorem dX5_get_16 : decode cX5_get 16 = .ok (.iload_n 2, 1) := by decide +kernel
theorem dX5_get_17 : decode cX5_get 17 = .ok (.ifCond .lt 17, 3) := by decide +kernel
theorem dX5_get_20 : decode cX5_get 20 = .ok (.iload_n 2, 1) := by decide +kernel
theorem dX5_get_21 : decode cX5_get 21 = .ok (.iconst 4, 1) := by decide +kernel
theorem dX5_get_22 : decode cX5_get 22 = .ok (.aload_n 0, 1) := by decide +kernel
theorem dX5_get_23 : decode cX5_get 23 = .ok (.getfield 7, 3) := by decide +kernel
theorem dX5_get_26 : decode cX5_get 26 = .ok (.iload_n 3, 1) := by decide +kernel
theorem dX5_get_27 : decode cX5_get 27 = .ok (.iaload, 1) := by decide +kernel
theorem dX5_get_28 : decode cX5_get 28 = .ok (.imul, 1) := by decide +kernel
theorem dX5_get_29 : decode cX5_get 29 = .ok (.iconst 1, 1) := by decide +kernel
theorem dX5_get_30 : decode cX5_get 30 = .ok (.isub, 1) := by decide +kernel
theorem dX5_get_31 : decode cX5_get 31 = .ok (.if_icmp .lt 7, 3) := by decide +kernel
theorem dX5_get_34 : decode cX5_get 34 = .ok (.iconst 2, 1) := by decide +kernel
theorem dX5_get_35 : decode cX5_get 35 = .ok (.goto 4, 3) := by decide +kernel
theorem dX5_get_38 : decode cX5_get 38 = .ok (.iconst 0, 1) := by decide +kernel
theorem dX5_get_39 : decode cX5_get 39 = .ok (.putfield 48, 3) := by decide +kernel
theorem dX5_get_42 : decode cX5_get 42 = .ok (.aload_n 0, 1) := by decide +kernel
theorem dX5_get_43 : decode cX5_get 43 = .ok (.getfield 48, 3) := by decide +kernel
theorem dX5_get_46 : decode cX5_get 46 = .ok (.ifCond .ne 14, 3) := by decide +kernel
theorem dX5_get_49 : decode cX5_get 49 = .ok (.aload_n 0, 1) := by decide +kernel
theorem dX5_get_50 : decode cX5_get 50 = .ok (.getfield 20, 3) := by decide +kernel
theorem dX5_get_53 : decode cX5_get 53 = .ok (.iload_n 1, 1) := by decide +kernel
theorem dX5_get_54 : decode cX5_get 54 = .ok (.iload_n 2, 1) := by decide +kernel
theorem dX5_get_55 : decode cX5_get 55 = .ok (.iadd, 1) := by decide +kernel
theorem dX5_get_56 : decode cX5_get 56 = .ok (.iaload, 1) := by decide +kernel
theorem dX5_get_57 : decode cX5_get 57 = .ok (.goto 4, 3) := by decide +kernel
theorem dX5_get_60 : decode cX5_get 60 = .ok (.iconst 0, 1) := by decide +kernel
theorem dX5_get_61 : decode cX5_get 61 = .ok (.ireturn, 1) := by decide +kernel
theorem dX5_set_0 : decode cX5_set 0 = .ok (.aload_n 0, 1) := by decide +kernel
theorem dX5_set_1 : decode cX5_set 1 = .ok (.iload_n 1, 1) := by decide +kernel
theorem dX5_set_2 : decode cX5_set 2 = .ok (.iload_n 2, 1) := by decide +kernel
theorem dX5_set_3 : decode cX5_set 3 = .ok (.invokevirtual 80, 3) := by decide +kernel
theorem dX5_set_6 : decode cX5_set 6 = .ok (.istore 4, 2) := by decide +kernel
theorem dX5_set_8 : decode cX5_set 8 = .ok (.aload_n 0, 1) := by decide +kernel
theorem dX5_set_9 : decode cX5_set 9 = .ok (.getfield 48, 3) := by decide +kernel
theorem dX5_set_12 : decode cX5_set 12 = .ok (.ifCond .ne 12, 3) := by decide +kernel
theorem dX5_set_15 : decode cX5_set 15 = .ok (.aload_n 0, 1) := by decide +kernel
theorem dX5_set_16 : decode cX5_set 16 = .ok (.getfield 20, 3) := by decide +kernel
theorem dX5_set_19 : decode cX5_set 19 = .ok (.iload_n 1, 1) := by decide +kernel
theorem dX5_set_20 : decode cX5_set 20 = .ok (.iload_n 2, 1) := by decide +kernel
theorem dX5_set_21 : decode cX5_set 21 = .ok (.iadd, 1) := by decide +kernel
theorem dX5_set_22 : decode cX5_set 22 = .ok (.iload_n 3, 1) := by decide +kernel
theorem dX5_set_23 : decode cX5_set 23 = .ok (.iastore, 1) := by decide +kernel
theorem dX5_set_24 : decode cX5_set 24 = .ok (.iload 4, 2) := by decide +kernel
theorem dX5_set_26 : decode cX5_set 26 = .ok (.ireturn, 1) := by decide +kernel
theorem dX5_sizeOf_0 : decode cX5_sizeOf 0 = .ok (.aload_n 0, 1) := by decide +kernel
theorem dX5_sizeOf_1 : decode cX5_sizeOf 1 = .ok (.iconst 0, 1) := by decide +kernel
theorem dX5_sizeOf_2 : decode cX5_sizeOf 2 = .ok (.putfield 48, 3) := by decide +kernel
theorem dX5_sizeOf_5 : decode cX5_sizeOf 5 = .ok (.aload_n 0, 1) := by decide +kernel
theorem dX5_sizeOf_6 : decode cX5_sizeOf 6 = .ok (.iload_n 1, 1) := by decide +kernel
theorem dX5_sizeOf_7 : decode cX5_sizeOf 7 = .ok (.invokevirtual 74, 3) := by decide +kernel
theorem dX5_sizeOf_10 : decode cX5_sizeOf 10 = .ok (.istore_n 2, 1) := by decide +kernel
theorem dX5_sizeOf_11 : decode cX5_sizeOf 11 = .ok (.iload_n 2, 1) := by decide +kernel
theorem dX5_sizeOf_12 : decode cX5_sizeOf 12 = .ok (.iconst (-1), 1) := by decide +kernel
theorem dX5_sizeOf_13 : decode cX5_sizeOf 13 = .ok (.if_icmp .ne 7, 3) := by decide +kernel
theorem dX5_sizeOf_16 : decode cX5_sizeOf 16 = .ok (.iconst (-1), 1) := by decide +kernel
theorem dX5_sizeOf_17 : decode cX5_sizeOf 17 = .ok (.goto 13, 3) := by decide +kernel
theorem dX5_sizeOf_20 : decode cX5_sizeOf 20 = .ok (.iconst 4, 1) := by decide +kernel
theorem dX5_sizeOf_21 : decode cX5_sizeOf 21 = .ok (.aload_n 0, 1) := by decide +kernel
theorem dX5_sizeOf_22 : decode cX5_sizeOf 22 = .ok (.getfield 7, 3) := by decide +kernel
theorem dX5_sizeOf_25 : decode cX5_sizeOf 25 = .ok (.iload_n 2, 1) := by decide +kernel
theorem dX5_sizeOf_26 : decode cX5_sizeOf 26 = .ok (.iaload, 1) := by decide +kernel
theorem dX5_sizeOf_27 : decode cX5_sizeOf 27 = .ok (.imul, 1) := by decide +kernel
theorem dX5_sizeOf_28 : decode cX5_sizeOf 28 = .ok (.iconst 1, 1) := by decide +kernel
theorem dX5_sizeOf_29 : decode cX5_sizeOf 29 = .ok (.isub, 1) := by decide +kernel
theorem dX5_sizeOf_30 : decode cX5_sizeOf 30 = .ok (.ireturn, 1) := by decide +kernel
theorem dX5_top_0 : decode cX5_top 0 = .ok (.iconst (-1), 1) := by decide +kernel
theorem dX5_top_1 : decode cX5_top 1 = .ok (.istore_n 3, 1) := by decide +kernel
theorem dX5_top_2 : decode cX5_top 2 = .ok (.iload_n 1, 1) := by decide +kernel
theorem dX5_top_3 : decode cX5_top 3 = .ok (.istore 4, 2) := by decide +kernel
theorem dX5_top_5 : decode cX5_top 5 = .ok (.iload 4, 2) := by decide +kernel
theorem dX5_top_7 : decode cX5_top 7 = .ok (.iload_n 2, 1) := by decide +kernel
theorem dX5_top_8 : decode cX5_top 8 = .ok (.if_icmp .ge 42, 3) := by decide +kernel
theorem dX5_top_11 : decode cX5_top 11 = .ok (.aload_n 0, 1) := by decide +kernel
theorem dX5_top_12 : decode cX5_top 12 = .ok (.iload 4, 2) := by decide +kernel
theorem dX5_top_14 : decode cX5_top 14 = .ok (.invokevirtual 51, 3) := by decide +kernel
theorem dX5_top_17 : decode cX5_top 17 = .ok (.ifCond .eq 27, 3) := by decide +kernel
theorem dX5_top_20 : decode cX5_top 20 = .ok (.iload_n 3, 1) := by decide +kernel
theorem dX5_top_21 : decode cX5_top 21 = .ok (.iconst (-1), 1) := by decide +kernel
theorem dX5_top_22 : decode cX5_top 22 = .ok (.if_icmp .eq 19, 3) := by decide +kernel
theorem dX5_top_25 : decode cX5_top 25 = .ok (.aload_n 0, 1) := by decide +kernel
theorem dX5_top_26 : decode cX5_top 26 = .ok (.getfield 7, 3) := by decide +kernel
theorem dX5_top_29 : decode cX5_top 29 = .ok (.iload 4, 2) := by decide +kernel
theorem dX5_top_31 : decode cX5_top 31 = .ok (.iaload, 1) := by decide +kernel
theorem dX5_top_32 : decode cX5_top 32 = .ok (.aload_n 0, 1) := by decide +kernel
theorem dX5_top_33 : decode cX5_top 33 = .ok (.getfield 7, 3) := by decide +kernel
theorem dX5_top_36 : decode cX5_top 36 = .ok (.iload_n 3, 1) := by decide +kernel
theorem dX5_top_37 : decode cX5_top 37 = .ok (.iaload, 1) := by decide +kernel
theorem dX5_top_38 : decode cX5_top 38 = .ok (.if_icmp .le 6, 3) := by decide +kernel
theorem dX5_top_41 : decode cX5_top 41 = .ok (.iload 4, 2) := by decide +kernel
theorem dX5_top_43 : decode cX5_top 43 = .ok (.istore_n 3, 1) := by decide +kernel
theorem dX5_top_44 : decode cX5_top 44 = .ok (.iinc 4 1, 3) := by decide +kernel
theorem dX5_top_47 : decode cX5_top 47 = .ok (.goto (-42), 3) := by decide +kernel
theorem dX5_top_50 : decode cX5_top 50 = .ok (.iload_n 3, 1) := by decide +kernel
theorem dX5_top_51 : decode cX5_top 51 = .ok (.ireturn, 1) := by decide +kernel
theorem dX5_largest_0 : decode cX5_largest 0 = .ok (.aload_n 0, 1) := by decide +kernel
theorem dX5_largest_1 : decode cX5_largest 1 = .ok (.iconst 0, 1) := by decide +kernel
theorem dX5_largest_2 : decode cX5_largest 2 = .ok (.putfield 48, 3) := by decide +kernel
theorem dX5_largest_5 : decode cX5_largest 5 = .ok (.aload_n 0, 1) := by decide +kernel
theorem dX5_largest_6 : decode cX5_largest 6 = .ok (.iconst 0, 1) := by decide +kernel
theorem dX5_largest_7 : decode cX5_largest 7 = .ok (.aload_n 0, 1) := by decide +kernel
theorem dX5_largest_8 : decode cX5_largest 8 = .ok (.getfield 44, 3) := by decide +kernel
theorem dX5_largest_11 : decode cX5_largest 11 = .ok (.invokevirtual 83, 3) := by decide +kernel
theorem dX5_largest_14 : decode cX5_largest 14 = .ok (.istore_n 1, 1) := by decide +kernel
theorem dX5_largest_15 : decode cX5_largest 15 = .ok (.iload_n 1, 1) := by decide +kernel
theorem dX5_largest_16 : decode cX5_largest 16 = .ok (.iconst (-1), 1) := by decide +kernel
theorem dX5_largest_17 : decode cX5_largest 17 = .ok (.if_icmp .ne 7, 3) := by decide +kernel
theorem dX5_largest_20 : decode cX5_largest 20 = .ok (.iconst 0, 1) := by decide +kernel
theorem dX5_largest_21 : decode cX5_largest 21 = .ok (.goto 11, 3) := by decide +kernel
theorem dX5_largest_24 : decode cX5_largest 24 = .ok (.iconst 4, 1) := by decide +kernel
theorem dX5_largest_25 : decode cX5_largest 25 = .ok (.aload_n 0, 1) := by decide +kernel
theorem dX5_largest_26 : decode cX5_largest 26 = .ok (.getfield 7, 3) := by decide +kernel
theorem dX5_largest_29 : decode cX5_largest 29 = .ok (.iload_n 1, 1) := by decide +kernel
theorem dX5_largest_30 : decode cX5_largest 30 = .ok (.iaload, 1) := by decide +kernel
theorem dX5_largest_31 : decode cX5_largest 31 = .ok (.imul, 1) := by decide +kernel
theorem dX5_largest_32 : decode cX5_largest 32 = .ok (.ireturn, 1) := by decide +kernel
theorem dX5_depth_0 : decode cX5_depth 0 = .ok (.iconst 0, 1) := by decide +kernel
theorem dX5_depth_1 : decode cX5_depth 1 = .ok (.istore_n 2, 1) := by decide +kernel
theorem dX5_depth_2 : decode cX5_depth 2 = .ok (.iconst 0, 1) := by decide +kernel
theorem dX5_depth_3 : decode cX5_depth 3 = .ok (.istore_n 3, 1) := by decide +kernel
theorem dX5_depth_4 : decode cX5_depth 4 = .ok (.iload_n 3, 1) := by decide +kernel
theorem dX5_depth_5 : decode cX5_depth 5 = .ok (.aload_n 0, 1) := by decide +kernel
theorem dX5_depth_6 : decode cX5_depth 6 = .ok (.getfield 44, 3) := by decide +kernel
theorem dX5_depth_9 : decode cX5_depth 9 = .ok (.if_icmp .ge 55, 3) := by decide +kernel
theorem dX5_depth_12 : decode cX5_depth 12 = .ok (.iload_n 2, 1) := by decide +kernel
theorem dX5_depth_13 : decode cX5_depth 13 = .ok (.aload_n 0, 1) := by decide +kernel
theorem dX5_depth_14 : decode cX5_depth 14 = .ok (.iload_n 3, 1) := by decide +kernel
theorem dX5_depth_15 : decode cX5_depth 15 = .ok (.invokevirtual 51, 3) := by decide +kernel
theorem dX5_depth_18 : decode cX5_depth 18 = .ok (.ifCond .eq 37, 3) := by decide +kernel
theorem dX5_depth_21 : decode cX5_depth 21 = .ok (.aload_n 0, 1) := by decide +kernel
theorem dX5_depth_22 : decode cX5_depth 22 = .ok (.iload_n 3, 1) := by decide +kernel
theorem dX5_depth_23 : decode cX5_depth 23 = .ok (.iload_n 1, 1) := by decide +kernel
theorem dX5_depth_24 : decode cX5_depth 24 = .ok (.if_icmp .ge 7, 3) := by decide +kernel
theorem dX5_depth_27 : decode cX5_depth 27 = .ok (.iload_n 3, 1) := by decide +kernel
theorem dX5_depth_28 : decode cX5_depth 28 = .ok (.goto 4, 3) := by decide +kernel
theorem dX5_depth_31 : decode cX5_depth 31 = .ok (.iload_n 1, 1) := by decide +kernel
theorem dX5_depth_32 : decode cX5_depth 32 = .ok (.iload_n 3, 1) := by decide +kernel
theorem dX5_depth_33 : decode cX5_depth 33 = .ok (.iload_n 1, 1) := by decide +kernel
theorem dX5_depth_34 : decode cX5_depth 34 = .ok (.if_icmp .ge 7, 3) := by decide +kernel
theorem dX5_depth_37 : decode cX5_depth 37 = .ok (.iload_n 1, 1) := by decide +kernel
theorem dX5_depth_38 : decode cX5_depth 38 = .ok (.goto 4, 3) := by decide +kernel
theorem dX5_depth_41 : decode cX5_depth 41 = .ok (.iload_n 3, 1) := by decide +kernel
theorem dX5_depth_42 : decode cX5_depth 42 = .ok (.iconst 1, 1) := by decide +kernel
theorem dX5_depth_43 : decode cX5_depth 43 = .ok (.iadd, 1) := by decide +kernel
theorem dX5_depth_44 : decode cX5_depth 44 = .ok (.invokevirtual 83, 3) := by decide +kernel
theorem dX5_depth_47 : decode cX5_depth 47 = .ok (.iload_n 3, 1) := by decide +kernel
theorem dX5_depth_48 : decode cX5_depth 48 = .ok (.if_icmp .ne 7, 3) := by decide +kernel
theorem dX5_depth_51 : decode cX5_depth 51 = .ok (.iconst 1, 1) := by decide +kernel
theorem dX5_depth_52 : decode cX5_depth 52 = .ok (.goto 4, 3) := by decide +kernel
theorem dX5_depth_55 : decode cX5_depth 55 = .ok (.iconst 0, 1) := by decide +kernel
theorem dX5_depth_56 : decode cX5_depth 56 = .ok (.iadd, 1) := by decide +kernel
theorem dX5_depth_57 : decode cX5_depth 57 = .ok (.istore_n 2, 1) := by decide +kernel
theorem dX5_depth_58 : decode cX5_depth 58 = .ok (.iinc 3 1, 3) := by decide +kernel
theorem dX5_depth_61 : decode cX5_depth 61 = .ok (.goto (-57), 3) := by decide +kernel
theorem dX5_depth_64 : decode cX5_depth 64 = .ok (.iload_n 2, 1) := by decide +kernel
theorem dX5_depth_65 : decode cX5_depth 65 = .ok (.ireturn, 1) := by decide +kernel
theorem dX5_count_0 : decode cX5_count 0 = .ok (.aload_n 0, 1) := by decide +kernel
theorem dX5_count_1 : decode cX5_count 1 = .ok (.iconst 0, 1) := by decide +kernel
theorem dX5_count_2 : decode cX5_count 2 = .ok (.putfield 48, 3) := by decide +kernel
theorem dX5_count_5 : decode cX5_count 5 = .ok (.iconst 0, 1) := by decide +kernel
theorem dX5_count_6 : decode cX5_count 6 = .ok (.istore_n 2, 1) := by decide +kernel
theorem dX5_count_7 : decode cX5_count 7 = .ok (.iconst 0, 1) := by decide +kernel
theorem dX5_count_8 : decode cX5_count 8 = .ok (.istore_n 3, 1) := by decide +kernel
theorem dX5_count_9 : decode cX5_count 9 = .ok (.iconst 0, 1) := by decide +kernel
theorem dX5_count_10 : decode cX5_count 10 = .ok (.istore 4, 2) := by decide +kernel
theorem dX5_count_12 : decode cX5_count 12 = .ok (.iconst 0, 1) := by decide +kernel
theorem dX5_count_13 : decode cX5_count 13 = .ok (.istore 5, 2) := by decide +kernel
theorem dX5_count_15 : decode cX5_count 15 = .ok (.iconst 0, 1) := by decide +kernel
theorem dX5_count_16 : decode cX5_count 16 = .ok (.istore 6, 2) := by decide +kernel
theorem dX5_count_18 : decode cX5_count 18 = .ok (.iload 6, 2) := by decide +kernel
theorem dX5_count_20 : decode cX5_count 20 = .ok (.aload_n 0, 1) := by decide +kernel
theorem dX5_count_21 : decode cX5_count 21 = .ok (.getfield 44, 3) := by decide +kernel
theorem dX5_count_24 : decode cX5_count 24 = .ok (.if_icmp .ge 96, 3) := by decide +kernel
theorem dX5_count_27 : decode cX5_count 27 = .ok (.aload_n 0, 1) := by decide +kernel
theorem dX5_count_28 : decode cX5_count 28 = .ok (.iload 6, 2) := by decide +kernel
theorem dX5_count_30 : decode cX5_count 30 = .ok (.invokevirtual 51, 3) := by decide +kernel
theorem dX5_count_33 : decode cX5_count 33 = .ok (.ifCond .eq 51, 3) := by decide +kernel
theorem dX5_count_36 : decode cX5_count 36 = .ok (.iload_n 1, 1) := by decide +kernel
theorem dX5_count_37 : decode cX5_count 37 = .ok (.iconst 4, 1) := by decide +kernel
theorem dX5_count_38 : decode cX5_count 38 = .ok (.if_icmp .ne 12, 3) := by decide +kernel
theorem dX5_count_41 : decode cX5_count 41 = .ok (.aload_n 0, 1) := by decide +kernel
theorem dX5_count_42 : decode cX5_count 42 = .ok (.iload 6, 2) := by decide +kernel
theorem dX5_count_44 : decode cX5_count 44 = .ok (.invokevirtual 86, 3) := by decide +kernel
theorem dX5_count_47 : decode cX5_count 47 = .ok (.goto 4, 3) := by decide +kernel
theorem dX5_count_50 : decode cX5_count 50 = .ok (.iconst 0, 1) := by decide +kernel
theorem dX5_count_51 : decode cX5_count 51 = .ok (.istore 7, 2) := by decide +kernel
theorem dX5_count_53 : decode cX5_count 53 = .ok (.iload 7, 2) := by decide +kernel
theorem dX5_count_55 : decode cX5_count 55 = .ok (.iload 5, 2) := by decide +kernel
theorem dX5_count_57 : decode cX5_count 57 = .ok (.if_icmp .le 8, 3) := by decide +kernel
theorem dX5_count_60 : decode cX5_count 60 = .ok (.iload 7, 2) := by decide +kernel
theorem dX5_count_62 : decode cX5_count 62 = .ok (.goto 5, 3) := by decide +kernel
theorem dX5_count_65 : decode cX5_count 65 = .ok (.iload 5, 2) := by decide +kernel
theorem dX5_count_67 : decode cX5_count 67 = .ok (.istore 5, 2) := by decide +kernel
theorem dX5_count_69 : decode cX5_count 69 = .ok (.iinc 2 1, 3) := by decide +kernel
theorem dX5_count_72 : decode cX5_count 72 = .ok (.iload_n 3, 1) := by decide +kernel
theorem dX5_count_73 : decode cX5_count 73 = .ok (.iconst 4, 1) := by decide +kernel
theorem dX5_count_74 : decode cX5_count 74 = .ok (.aload_n 0, 1) := by decide +kernel
theorem dX5_count_75 : decode cX5_count 75 = .ok (.getfield 7, 3) := by decide +kernel
theorem dX5_count_78 : decode cX5_count 78 = .ok (.iload 6, 2) := by decide +kernel
theorem dX5_count_80 : decode cX5_count 80 = .ok (.iaload, 1) := by decide +kernel
theorem dX5_count_81 : decode cX5_count 81 = .ok (.imul, 1) := by decide +kernel
theorem dX5_count_82 : decode cX5_count 82 = .ok (.iadd, 1) := by decide +kernel
theorem dX5_count_83 : decode cX5_count 83 = .ok (.istore_n 3, 1) := by decide +kernel
theorem dX5_count_84 : decode cX5_count 84 = .ok (.iload 4, 2) := by decide +kernel
theorem dX5_count_86 : decode cX5_count 86 = .ok (.aload_n 0, 1) := by decide +kernel
theorem dX5_count_87 : decode cX5_count 87 = .ok (.getfield 7, 3) := by decide +kernel
theorem dX5_count_90 : decode cX5_count 90 = .ok (.iload 6, 2) := by decide +kernel
theorem dX5_count_92 : decode cX5_count 92 = .ok (.iaload, 1) := by decide +kernel
theorem dX5_count_93 : decode cX5_count 93 = .ok (.ifCond .le 17, 3) := by decide +kernel
theorem dX5_count_96 : decode cX5_count 96 = .ok (.aload_n 0, 1) := by decide +kernel
theorem dX5_count_97 : decode cX5_count 97 = .ok (.getfield 13, 3) := by decide +kernel
theorem dX5_count_100 : decode cX5_count 100 = .ok (.iload 6, 2) := by decide +kernel
theorem dX5_count_102 : decode cX5_count 102 = .ok (.baload, 1) := by decide +kernel
theorem dX5_count_103 : decode cX5_count 103 = .ok (.ifCond .eq 7, 3) := by decide +kernel
theorem dX5_count_106 : decode cX5_count 106 = .ok (.iconst 1, 1) := by decide +kernel
theorem dX5_count_107 : decode cX5_count 107 = .ok (.goto 4, 3) := by decide +kernel
theorem dX5_count_110 : decode cX5_count 110 = .ok (.iconst 0, 1) := by decide +kernel
theorem dX5_count_111 : decode cX5_count 111 = .ok (.iadd, 1) := by decide +kernel
theorem dX5_count_112 : decode cX5_count 112 = .ok (.istore 4, 2) := by decide +kernel
theorem dX5_count_114 : decode cX5_count 114 = .ok (.iinc 6 1, 3) := by decide +kernel
theorem dX5_count_117 : decode cX5_count 117 = .ok (.goto (-99), 3) := by decide +kernel
theorem dX5_count_120 : decode cX5_count 120 = .ok (.iload_n 1, 1) := by decide +kernel
theorem dX5_count_121 : decode cX5_count 121 = .ok (.tableswitch 61 0 4 #[35, 37, 39, 42, 58], 35) := by decide +kernel
theorem dX5_count_156 : decode cX5_count 156 = .ok (.iload_n 2, 1) := by decide +kernel
theorem dX5_count_157 : decode cX5_count 157 = .ok (.ireturn, 1) := by decide +kernel
theorem dX5_count_158 : decode cX5_count 158 = .ok (.iload_n 3, 1) := by decide +kernel
theorem dX5_count_159 : decode cX5_count 159 = .ok (.ireturn, 1) := by decide +kernel
theorem dX5_count_160 : decode cX5_count 160 = .ok (.iload 4, 2) := by decide +kernel
theorem dX5_count_162 : decode cX5_count 162 = .ok (.ireturn, 1) := by decide +kernel
theorem dX5_count_163 : decode cX5_count 163 = .ok (.aload_n 0, 1) := by decide +kernel
theorem dX5_count_164 : decode cX5_count 164 = .ok (.getfield 70, 3) := by decide +kernel
theorem dX5_count_167 : decode cX5_count 167 = .ok (.ifCond .eq 10, 3) := by decide +kernel
theorem dX5_count_170 : decode cX5_count 170 = .ok (.aload_n 0, 1) := by decide +kernel
theorem dX5_count_171 : decode cX5_count 171 = .ok (.getfield 89, 3) := by decide +kernel
theorem dX5_count_174 : decode cX5_count 174 = .ok (.goto 4, 3) := by decide +kernel
theorem dX5_count_177 : decode cX5_count 177 = .ok (.iconst 0, 1) := by decide +kernel
theorem dX5_count_178 : decode cX5_count 178 = .ok (.ireturn, 1) := by decide +kernel
theorem dX5_count_179 : decode cX5_count 179 = .ok (.iload 5, 2) := by decide +kernel
theorem dX5_count_181 : decode cX5_count 181 = .ok (.ireturn, 1) := by decide +kernel
theorem dX5_count_182 : decode cX5_count 182 = .ok (.iconst (-1), 1) := by decide +kernel
theorem dX5_count_183 : decode cX5_count 183 = .ok (.ireturn, 1) := by decide +kernel
theorem dX5_freeAt_0 : decode cX5_freeAt 0 = .ok (.aload_n 0, 1) := by decide +kernel
theorem dX5_freeAt_1 : decode cX5_freeAt 1 = .ok (.iconst 0, 1) := by decide +kernel
theorem dX5_freeAt_2 : decode cX5_freeAt 2 = .ok (.putfield 48, 3) := by decide +kernel
theorem dX5_freeAt_5 : decode cX5_freeAt 5 = .ok (.iload_n 1, 1) := by decide +kernel
theorem dX5_freeAt_6 : decode cX5_freeAt 6 = .ok (.istore_n 2, 1) := by decide +kernel
theorem dX5_freeAt_7 : decode cX5_freeAt 7 = .ok (.iconst 0, 1) := by decide +kernel
theorem dX5_freeAt_8 : decode cX5_freeAt 8 = .ok (.istore_n 3, 1) := by decide +kernel
theorem dX5_freeAt_9 : decode cX5_freeAt 9 = .ok (.iload_n 3, 1) := by decide +kernel
theorem dX5_freeAt_10 : decode cX5_freeAt 10 = .ok (.aload_n 0, 1) := by decide +kernel
theorem dX5_freeAt_11 : decode cX5_freeAt 11 = .ok (.getfield 44, 3) := by decide +kernel
theorem dX5_freeAt_14 : decode cX5_freeAt 14 = .ok (.if_icmp .ge 29, 3) := by decide +kernel
theorem dX5_freeAt_17 : decode cX5_freeAt 17 = .ok (.aload_n 0, 1) := by decide +kernel
theorem dX5_freeAt_18 : decode cX5_freeAt 18 = .ok (.iload_n 3, 1) := by decide +kernel
theorem dX5_freeAt_19 : decode cX5_freeAt 19 = .ok (.invokevirtual 51, 3) := by decide +kernel
theorem dX5_freeAt_22 : decode cX5_freeAt 22 = .ok (.ifCond .eq 15, 3) := by decide +kernel
theorem dX5_freeAt_25 : decode cX5_freeAt 25 = .ok (.iload_n 2, 1) := by decide +kernel
theorem dX5_freeAt_26 : decode cX5_freeAt 26 = .ok (.ifCond .ne 8, 3) := by decide +kernel
theorem dX5_freeAt_29 : decode cX5_freeAt 29 = .ok (.iload_n 3, 1) := by decide +kernel
theorem dX5_freeAt_30 : decode cX5_freeAt 30 = .ok (.invokestatic 55, 3) := by decide +kernel
theorem dX5_freeAt_33 : decode cX5_freeAt 33 = .ok (.ireturn, 1) := by decide +kernel
theorem dX5_freeAt_34 : decode cX5_freeAt 34 = .ok (.iinc 2 (-1), 3) := by decide +kernel
theorem dX5_freeAt_37 : decode cX5_freeAt 37 = .ok (.iinc 3 1, 3) := by decide +kernel
theorem dX5_freeAt_40 : decode cX5_freeAt 40 = .ok (.goto (-31), 3) := by decide +kernel
theorem dX5_freeAt_43 : decode cX5_freeAt 43 = .ok (.iconst (-1), 1) := by decide +kernel
theorem dX5_freeAt_44 : decode cX5_freeAt 44 = .ok (.ireturn, 1) := by decide +kernel
theorem dX5_branch_0 : decode cX5_branch 0 = .ok (.iload_n 1, 1) := by decide +kernel
theorem dX5_branch_1 : decode cX5_branch 1 = .ok (.iconst 4, 1) := by decide +kernel
theorem dX5_branch_2 : decode cX5_branch 2 = .ok (.if_icmp .lt 35, 3) := by decide +kernel
theorem dX5_branch_5 : decode cX5_branch 5 = .ok (.iload_n 1, 1) := by decide +kernel
theorem dX5_branch_6 : decode cX5_branch 6 = .ok (.iconst 4, 1) := by decide +kernel
theorem dX5_branch_7 : decode cX5_branch 7 = .ok (.irem, 1) := by decide +kernel
theorem dX5_branch_8 : decode cX5_branch 8 = .ok (.ifCond .ne 29, 3) := by decide +kernel
theorem dX5_branch_11 : decode cX5_branch 11 = .ok (.iload_n 1, 1) := by decide +kernel
theorem dX5_branch_12 : decode cX5_branch 12 = .ok (.iconst 4, 1) := by decide +kernel
theorem dX5_branch_13 : decode cX5_branch 13 = .ok (.idiv, 1) := by decide +kernel
theorem dX5_branch_14 : decode cX5_branch 14 = .ok (.aload_n 0, 1) := by decide +kernel
theorem dX5_branch_15 : decode cX5_branch 15 = .ok (.getfield 44, 3) := by decide +kernel
theorem dX5_branch_18 : decode cX5_branch 18 = .ok (.if_icmp .gt 19, 3) := by decide +kernel
theorem dX5_branch_21 : decode cX5_branch 21 = .ok (.aload_n 0, 1) := by decide +kernel
theorem dX5_branch_22 : decode cX5_branch 22 = .ok (.iload_n 1, 1) := by decide +kernel
theorem dX5_branch_23 : decode cX5_branch 23 = .ok (.iconst 4, 1) := by decide +kernel
theorem dX5_branch_24 : decode cX5_branch 24 = .ok (.idiv, 1) := by decide +kernel
theorem dX5_branch_25 : decode cX5_branch 25 = .ok (.iconst 1, 1) := by decide +kernel
theorem dX5_branch_26 : decode cX5_branch 26 = .ok (.isub, 1) := by decide +kernel
theorem dX5_branch_27 : decode cX5_branch 27 = .ok (.invokevirtual 51, 3) := by decide +kernel
theorem dX5_branch_30 : decode cX5_branch 30 = .ok (.ifCond .eq 7, 3) := by decide +kernel
theorem dX5_branch_33 : decode cX5_branch 33 = .ok (.iconst 1, 1) := by decide +kernel
theorem dX5_branch_34 : decode cX5_branch 34 = .ok (.goto 4, 3) := by decide +kernel
theorem dX5_branch_37 : decode cX5_branch 37 = .ok (.iconst 0, 1) := by decide +kernel
theorem dX5_branch_38 : decode cX5_branch 38 = .ok (.istore_n 3, 1) := by decide +kernel
theorem dX5_branch_39 : decode cX5_branch 39 = .ok (.aload_n 0, 1) := by decide +kernel
theorem dX5_branch_40 : decode cX5_branch 40 = .ok (.iload_n 3, 1) := by decide +kernel
theorem dX5_branch_41 : decode cX5_branch 41 = .ok (.ifCond .ne 7, 3) := by decide +kernel
theorem dX5_branch_44 : decode cX5_branch 44 = .ok (.iconst 1, 1) := by decide +kernel
theorem dX5_branch_45 : decode cX5_branch 45 = .ok (.goto 17, 3) := by decide +kernel
theorem dX5_branch_48 : decode cX5_branch 48 = .ok (.iload_n 2, 1) := by decide +kernel
theorem dX5_branch_49 : decode cX5_branch 49 = .ok (.ifCond .lt 8, 3) := by decide +kernel
theorem dX5_branch_52 : decode cX5_branch 52 = .ok (.iload_n 2, 1) := by decide +kernel
theorem dX5_branch_53 : decode cX5_branch 53 = .ok (.iconst 2, 1) := by decide +kernel
theorem dX5_branch_54 : decode cX5_branch 54 = .ok (.if_icmp .le 7, 3) := by decide +kernel
theorem dX5_branch_57 : decode cX5_branch 57 = .ok (.iconst 2, 1) := by decide +kernel
theorem dX5_branch_58 : decode cX5_branch 58 = .ok (.goto 4, 3) := by decide +kernel
theorem dX5_branch_61 : decode cX5_branch 61 = .ok (.iconst 0, 1) := by decide +kernel
theorem dX5_branch_62 : decode cX5_branch 62 = .ok (.putfield 48, 3) := by decide +kernel
theorem dX5_branch_65 : decode cX5_branch 65 = .ok (.aload_n 0, 1) := by decide +kernel
theorem dX5_branch_66 : decode cX5_branch 66 = .ok (.getfield 48, 3) := by decide +kernel
theorem dX5_branch_69 : decode cX5_branch 69 = .ok (.ifCond .eq 5, 3) := by decide +kernel
theorem dX5_branch_72 : decode cX5_branch 72 = .ok (.iconst 0, 1) := by decide +kernel
theorem dX5_branch_73 : decode cX5_branch 73 = .ok (.ireturn, 1) := by decide +kernel
theorem dX5_branch_74 : decode cX5_branch 74 = .ok (.iload_n 1, 1) := by decide +kernel
theorem dX5_branch_75 : decode cX5_branch 75 = .ok (.iconst 4, 1) := by decide +kernel
theorem dX5_branch_76 : decode cX5_branch 76 = .ok (.idiv, 1) := by decide +kernel
theorem dX5_branch_77 : decode cX5_branch 77 = .ok (.iconst 1, 1) := by decide +kernel
theorem dX5_branch_78 : decode cX5_branch 78 = .ok (.isub, 1) := by decide +kernel
theorem dX5_branch_79 : decode cX5_branch 79 = .ok (.istore 4, 2) := by decide +kernel
theorem dX5_branch_81 : decode cX5_branch 81 = .ok (.iconst 0, 1) := by decide +kernel
theorem dX5_branch_82 : decode cX5_branch 82 = .ok (.istore 5, 2) := by decide +kernel
theorem dX5_branch_84 : decode cX5_branch 84 = .ok (.aload_n 0, 1) := by decide +kernel
theorem dX5_branch_85 : decode cX5_branch 85 = .ok (.getfield 44, 3) := by decide +kernel
theorem dX5_branch_88 : decode cX5_branch 88 = .ok (.istore 6, 2) := by decide +kernel
theorem dX5_branch_90 : decode cX5_branch 90 = .ok (.aload_n 0, 1) := by decide +kernel
theorem dX5_branch_91 : decode cX5_branch 91 = .ok (.iload 5, 2) := by decide +kernel
theorem dX5_branch_93 : decode cX5_branch 93 = .ok (.iload 6, 2) := by decide +kernel
theorem dX5_branch_95 : decode cX5_branch 95 = .ok (.invokevirtual 83, 3) := by decide +kernel
theorem dX5_branch_98 : decode cX5_branch 98 = .ok (.istore 7, 2) := by decide +kernel
theorem dX5_branch_100 : decode cX5_branch 100 = .ok (.iload 7, 2) := by decide +kernel
theorem dX5_branch_102 : decode cX5_branch 102 = .ok (.iload 4, 2) := by decide +kernel
theorem dX5_branch_104 : decode cX5_branch 104 = .ok (.if_icmp .eq 50, 3) := by decide +kernel
theorem dX5_branch_107 : decode cX5_branch 107 = .ok (.iload 7, 2) := by decide +kernel
theorem dX5_branch_109 : decode cX5_branch 109 = .ok (.iload 4, 2) := by decide +kernel
theorem dX5_branch_111 : decode cX5_branch 111 = .ok (.if_icmp .ge 10, 3) := by decide +kernel
theorem dX5_branch_114 : decode cX5_branch 114 = .ok (.iload 7, 2) := by decide +kernel
theorem dX5_branch_116 : decode cX5_branch 116 = .ok (.iconst 1, 1) := by decide +kernel
theorem dX5_branch_117 : decode cX5_branch 117 = .ok (.iadd, 1) := by decide +kernel
theorem dX5_branch_118 : decode cX5_branch 118 = .ok (.goto 5, 3) := by decide +kernel
theorem dX5_branch_121 : decode cX5_branch 121 = .ok (.iload 5, 2) := by decide +kernel
theorem dX5_branch_123 : decode cX5_branch 123 = .ok (.istore 5, 2) := by decide +kernel
theorem dX5_branch_125 : decode cX5_branch 125 = .ok (.iload 7, 2) := by decide +kernel
theorem dX5_branch_127 : decode cX5_branch 127 = .ok (.iload 4, 2) := by decide +kernel
theorem dX5_branch_129 : decode cX5_branch 129 = .ok (.if_icmp .ge 8, 3) := by decide +kernel
theorem dX5_branch_132 : decode cX5_branch 132 = .ok (.iload 6, 2) := by decide +kernel
theorem dX5_branch_134 : decode cX5_branch 134 = .ok (.goto 5, 3) := by decide +kernel
theorem dX5_branch_137 : decode cX5_branch 137 = .ok (.iload 7, 2) := by decide +kernel
theorem dX5_branch_139 : decode cX5_branch 139 = .ok (.istore 6, 2) := by decide +kernel
theorem dX5_branch_141 : decode cX5_branch 141 = .ok (.aload_n 0, 1) := by decide +kernel
theorem dX5_branch_142 : decode cX5_branch 142 = .ok (.iload 5, 2) := by decide +kernel
theorem dX5_branch_144 : decode cX5_branch 144 = .ok (.iload 6, 2) := by decide +kernel
theorem dX5_branch_146 : decode cX5_branch 146 = .ok (.invokevirtual 83, 3) := by decide +kernel
theorem dX5_branch_149 : decode cX5_branch 149 = .ok (.istore 7, 2) := by decide +kernel
theorem dX5_branch_151 : decode cX5_branch 151 = .ok (.goto (-51), 3) := by decide +kernel
theorem dX5_branch_154 : decode cX5_branch 154 = .ok (.iload_n 2, 1) := by decide +kernel
theorem dX5_branch_155 : decode cX5_branch 155 = .ok (.iconst 2, 1) := by decide +kernel
theorem dX5_branch_156 : decode cX5_branch 156 = .ok (.if_icmp .ne 13, 3) := by decide +kernel
theorem dX5_branch_159 : decode cX5_branch 159 = .ok (.iconst 4, 1) := by decide +kernel
theorem dX5_branch_160 : decode cX5_branch 160 = .ok (.aload_n 0, 1) := by decide +kernel
theorem dX5_branch_161 : decode cX5_branch 161 = .ok (.getfield 7, 3) := by decide +kernel
theorem dX5_branch_164 : decode cX5_branch 164 = .ok (.iload 4, 2) := by decide +kernel
theorem dX5_branch_166 : decode cX5_branch 166 = .ok (.iaload, 1) := by decide +kernel
theorem dX5_branch_167 : decode cX5_branch 167 = .ok (.imul, 1) := by decide +kernel
theorem dX5_branch_168 : decode cX5_branch 168 = .ok (.ireturn, 1) := by decide +kernel
theorem dX5_branch_169 : decode cX5_branch 169 = .ok (.iload_n 2, 1) := by decide +kernel
theorem dX5_branch_170 : decode cX5_branch 170 = .ok (.ifCond .ne 14, 3) := by decide +kernel
theorem dX5_branch_173 : decode cX5_branch 173 = .ok (.aload_n 0, 1) := by decide +kernel
theorem dX5_branch_174 : decode cX5_branch 174 = .ok (.iload 5, 2) := by decide +kernel
theorem dX5_branch_176 : decode cX5_branch 176 = .ok (.iload 4, 2) := by decide +kernel
theorem dX5_branch_178 : decode cX5_branch 178 = .ok (.invokevirtual 83, 3) := by decide +kernel
theorem dX5_branch_181 : decode cX5_branch 181 = .ok (.goto 13, 3) := by decide +kernel
theorem dX5_branch_184 : decode cX5_branch 184 = .ok (.aload_n 0, 1) := by decide +kernel
theorem dX5_branch_185 : decode cX5_branch 185 = .ok (.iload 4, 2) := by decide +kernel
theorem dX5_branch_187 : decode cX5_branch 187 = .ok (.iconst 1, 1) := by decide +kernel
theorem dX5_branch_188 : decode cX5_branch 188 = .ok (.iadd, 1) := by decide +kernel
theorem dX5_branch_189 : decode cX5_branch 189 = .ok (.iload 6, 2) := by decide +kernel
theorem dX5_branch_191 : decode cX5_branch 191 = .ok (.invokevirtual 83, 3) := by decide +kernel
theorem dX5_branch_194 : decode cX5_branch 194 = .ok (.istore 8, 2) := by decide +kernel
theorem dX5_branch_196 : decode cX5_branch 196 = .ok (.iload 8, 2) := by decide +kernel
theorem dX5_branch_198 : decode cX5_branch 198 = .ok (.iconst (-1), 1) := by decide +kernel
theorem dX5_branch_199 : decode cX5_branch 199 = .ok (.if_icmp .ne 7, 3) := by decide +kernel
theorem dX5_branch_202 : decode cX5_branch 202 = .ok (.iconst 0, 1) := by decide +kernel
theorem dX5_branch_203 : decode cX5_branch 203 = .ok (.goto 8, 3) := by decide +kernel
theorem dX5_branch_206 : decode cX5_branch 206 = .ok (.iload 8, 2) := by decide +kernel
theorem dX5_branch_208 : decode cX5_branch 208 = .ok (.invokestatic 55, 3) := by decide +kernel
theorem dX5_branch_211 : decode cX5_branch 211 = .ok (.ireturn, 1) := by decide +kernel
theorem dX5_windowEnd_0 : decode cX5_windowEnd 0 = .ok (.iload_n 1, 1) := by decide +kernel
theorem dX5_windowEnd_1 : decode cX5_windowEnd 1 = .ok (.istore_n 3, 1) := by decide +kernel
theorem dX5_windowEnd_2 : decode cX5_windowEnd 2 = .ok (.iload_n 3, 1) := by decide +kernel
theorem dX5_windowEnd_3 : decode cX5_windowEnd 3 = .ok (.aload_n 0, 1) := by decide +kernel
theorem dX5_windowEnd_4 : decode cX5_windowEnd 4 = .ok (.getfield 44, 3) := by decide +kernel
theorem dX5_windowEnd_7 : decode cX5_windowEnd 7 = .ok (.if_icmp .ge 49, 3) := by decide +kernel
theorem dX5_windowEnd_10 : decode cX5_windowEnd 10 = .ok (.ldc2_w 92, 3) := by decide +kernel
theorem dX5_windowEnd_13 : decode cX5_windowEnd 13 = .ok (.iload_n 3, 1) := by decide +kernel
theorem dX5_windowEnd_14 : decode cX5_windowEnd 14 = .ok (.iload_n 1, 1) := by decide +kernel
theorem dX5_windowEnd_15 : decode cX5_windowEnd 15 = .ok (.isub, 1) := by decide +kernel
theorem dX5_windowEnd_16 : decode cX5_windowEnd 16 = .ok (.i2l, 1) := by decide +kernel
theorem dX5_windowEnd_17 : decode cX5_windowEnd 17 = .ok (.lmul, 1) := by decide +kernel
theorem dX5_windowEnd_18 : decode cX5_windowEnd 18 = .ok (.iload_n 2, 1) := by decide +kernel
theorem dX5_windowEnd_19 : decode cX5_windowEnd 19 = .ok (.i2l, 1) := by decide +kernel
theorem dX5_windowEnd_20 : decode cX5_windowEnd 20 = .ok (.lcmp, 1) := by decide +kernel
theorem dX5_windowEnd_21 : decode cX5_windowEnd 21 = .ok (.ifCond .ge 35, 3) := by decide +kernel
theorem dX5_windowEnd_24 : decode cX5_windowEnd 24 = .ok (.aload_n 0, 1) := by decide +kernel
theorem dX5_windowEnd_25 : decode cX5_windowEnd 25 = .ok (.getfield 13, 3) := by decide +kernel
theorem dX5_windowEnd_28 : decode cX5_windowEnd 28 = .ok (.iload_n 3, 1) := by decide +kernel
theorem dX5_windowEnd_29 : decode cX5_windowEnd 29 = .ok (.baload, 1) := by decide +kernel
theorem dX5_windowEnd_30 : decode cX5_windowEnd 30 = .ok (.ifCond .eq 14, 3) := by decide +kernel
theorem dX5_windowEnd_33 : decode cX5_windowEnd 33 = .ok (.aload_n 0, 1) := by decide +kernel
theorem dX5_windowEnd_34 : decode cX5_windowEnd 34 = .ok (.getfield 17, 3) := by decide +kernel
theorem dX5_windowEnd_37 : decode cX5_windowEnd 37 = .ok (.iload_n 3, 1) := by decide +kernel
theorem dX5_windowEnd_38 : decode cX5_windowEnd 38 = .ok (.baload, 1) := by decide +kernel
theorem dX5_windowEnd_39 : decode cX5_windowEnd 39 = .ok (.ifCond .eq 5, 3) := by decide +kernel
theorem dX5_windowEnd_42 : decode cX5_windowEnd 42 = .ok (.iconst (-1), 1) := by decide +kernel
theorem dX5_windowEnd_43 : decode cX5_windowEnd 43 = .ok (.ireturn, 1) := by decide +kernel
theorem dX5_windowEnd_44 : decode cX5_windowEnd 44 = .ok (.iload_n 3, 1) := by decide +kernel
theorem dX5_windowEnd_45 : decode cX5_windowEnd 45 = .ok (.aload_n 0, 1) := by decide +kernel
theorem dX5_windowEnd_46 : decode cX5_windowEnd 46 = .ok (.getfield 7, 3) := by decide +kernel
theorem dX5_windowEnd_49 : decode cX5_windowEnd 49 = .ok (.iload_n 3, 1) := by decide +kernel
theorem dX5_windowEnd_50 : decode cX5_windowEnd 50 = .ok (.iaload, 1) := by decide +kernel
theorem dX5_windowEnd_51 : decode cX5_windowEnd 51 = .ok (.iadd, 1) := by decide +kernel
theorem dX5_windowEnd_52 : decode cX5_windowEnd 52 = .ok (.istore_n 3, 1) := by decide +kernel
theorem dX5_windowEnd_53 : decode cX5_windowEnd 53 = .ok (.goto (-51), 3) := by decide +kernel
theorem dX5_windowEnd_56 : decode cX5_windowEnd 56 = .ok (.ldc2_w 92, 3) := by decide +kernel
theorem dX5_windowEnd_59 : decode cX5_windowEnd 59 = .ok (.iload_n 3, 1) := by decide +kernel
theorem dX5_windowEnd_60 : decode cX5_windowEnd 60 = .ok (.iload_n 1, 1) := by decide +kernel
theorem dX5_windowEnd_61 : decode cX5_windowEnd 61 = .ok (.isub, 1) := by decide +kernel
theorem dX5_windowEnd_62 : decode cX5_windowEnd 62 = .ok (.i2l, 1) := by decide +kernel
theorem dX5_windowEnd_63 : decode cX5_windowEnd 63 = .ok (.lmul, 1) := by decide +kernel
theorem dX5_windowEnd_64 : decode cX5_windowEnd 64 = .ok (.iload_n 2, 1) := by decide +kernel
theorem dX5_windowEnd_65 : decode cX5_windowEnd 65 = .ok (.i2l, 1) := by decide +kernel
theorem dX5_windowEnd_66 : decode cX5_windowEnd 66 = .ok (.lcmp, 1) := by decide +kernel
theorem dX5_windowEnd_67 : decode cX5_windowEnd 67 = .ok (.ifCond .lt 7, 3) := by decide +kernel
theorem dX5_windowEnd_70 : decode cX5_windowEnd 70 = .ok (.iload_n 3, 1) := by decide +kernel
theorem dX5_windowEnd_71 : decode cX5_windowEnd 71 = .ok (.goto 4, 3) := by decide +kernel
theorem dX5_windowEnd_74 : decode cX5_windowEnd 74 = .ok (.iconst (-1), 1) := by decide +kernel
theorem dX5_windowEnd_75 : decode cX5_windowEnd 75 = .ok (.ireturn, 1) := by decide +kernel
theorem dX5_gathers_0 : decode cX5_gathers 0 = .ok (.aload_n 0, 1) := by decide +kernel
theorem dX5_gathers_1 : decode cX5_gathers 1 = .ok (.iconst 0, 1) := by decide +kernel
theorem dX5_gathers_2 : decode cX5_gathers 2 = .ok (.putfield 94, 3) := by decide +kernel
theorem dX5_gathers_5 : decode cX5_gathers 5 = .ok (.iload_n 1, 1) := by decide +kernel
theorem dX5_gathers_6 : decode cX5_gathers 6 = .ok (.istore_n 3, 1) := by decide +kernel
theorem dX5_gathers_7 : decode cX5_gathers 7 = .ok (.iload_n 3, 1) := by decide +kernel
theorem dX5_gathers_8 : decode cX5_gathers 8 = .ok (.iload_n 2, 1) := by decide +kernel
theorem dX5_gathers_9 : decode cX5_gathers 9 = .ok (.if_icmp .ge 98, 3) := by decide +kernel
theorem dX5_gathers_12 : decode cX5_gathers 12 = .ok (.aload_n 0, 1) := by decide +kernel
theorem dX5_gathers_13 : decode cX5_gathers 13 = .ok (.getfield 13, 3) := by decide +kernel
theorem dX5_gathers_16 : decode cX5_gathers 16 = .ok (.iload_n 3, 1) := by decide +kernel
theorem dX5_gathers_17 : decode cX5_gathers 17 = .ok (.baload, 1) := by decide +kernel
theorem dX5_gathers_18 : decode cX5_gathers 18 = .ok (.ifCond .eq 77, 3) := by decide +kernel
theorem dX5_gathers_21 : decode cX5_gathers 21 = .ok (.aload_n 0, 1) := by decide +kernel
theorem dX5_gathers_22 : decode cX5_gathers 22 = .ok (.getfield 94, 3) := by decide +kernel
theorem dX5_gathers_25 : decode cX5_gathers 25 = .ok (.istore 4, 2) := by decide +kernel
theorem dX5_gathers_27 : decode cX5_gathers 27 = .ok (.iload 4, 2) := by decide +kernel
theorem dX5_gathers_29 : decode cX5_gathers 29 = .ok (.ifCond .le 48, 3) := by decide +kernel
theorem dX5_gathers_32 : decode cX5_gathers 32 = .ok (.aload_n 0, 1) := by decide +kernel
theorem dX5_gathers_33 : decode cX5_gathers 33 = .ok (.getfield 7, 3) := by decide +kernel
theorem dX5_gathers_36 : decode cX5_gathers 36 = .ok (.aload_n 0, 1) := by decide +kernel
theorem dX5_gathers_37 : decode cX5_gathers 37 = .ok (.getfield 35, 3) := by decide +kernel
theorem dX5_gathers_40 : decode cX5_gathers 40 = .ok (.iload 4, 2) := by decide +kernel
theorem dX5_gathers_42 : decode cX5_gathers 42 = .ok (.iconst 1, 1) := by decide +kernel
theorem dX5_gathers_43 : decode cX5_gathers 43 = .ok (.isub, 1) := by decide +kernel
theorem dX5_gathers_44 : decode cX5_gathers 44 = .ok (.iaload, 1) := by decide +kernel
theorem dX5_gathers_45 : decode cX5_gathers 45 = .ok (.iaload, 1) := by decide +kernel
theorem dX5_gathers_46 : decode cX5_gathers 46 = .ok (.aload_n 0, 1) := by decide +kernel
theorem dX5_gathers_47 : decode cX5_gathers 47 = .ok (.getfield 7, 3) := by decide +kernel
theorem dX5_gathers_50 : decode cX5_gathers 50 = .ok (.iload_n 3, 1) := by decide +kernel
theorem dX5_gathers_51 : decode cX5_gathers 51 = .ok (.iaload, 1) := by decide +kernel
theorem dX5_gathers_52 : decode cX5_gathers 52 = .ok (.if_icmp .ge 25, 3) := by decide +kernel
theorem dX5_gathers_55 : decode cX5_gathers 55 = .ok (.aload_n 0, 1) := by decide +kernel
theorem dX5_gathers_56 : decode cX5_gathers 56 = .ok (.getfield 35, 3) := by decide +kernel
theorem dX5_gathers_59 : decode cX5_gathers 59 = .ok (.iload 4, 2) := by decide +kernel
theorem dX5_gathers_61 : decode cX5_gathers 61 = .ok (.aload_n 0, 1) := by decide +kernel
theorem dX5_gathers_62 : decode cX5_gathers 62 = .ok (.getfield 35, 3) := by decide +kernel
theorem dX5_gathers_65 : decode cX5_gathers 65 = .ok (.iload 4, 2) := by decide +kernel
theorem dX5_gathers_67 : decode cX5_gathers 67 = .ok (.iconst 1, 1) := by decide +kernel
theorem dX5_gathers_68 : decode cX5_gathers 68 = .ok (.isub, 1) := by decide +kernel
theorem dX5_gathers_69 : decode cX5_gathers 69 = .ok (.iaload, 1) := by decide +kernel
theorem dX5_gathers_70 : decode cX5_gathers 70 = .ok (.iastore, 1) := by decide +kernel
theorem dX5_gathers_71 : decode cX5_gathers 71 = .ok (.iinc 4 (-1), 3) := by decide +kernel
theorem dX5_gathers_74 : decode cX5_gathers 74 = .ok (.goto (-47), 3) := by decide +kernel
theorem dX5_gathers_77 : decode cX5_gathers 77 = .ok (.aload_n 0, 1) := by decide +kernel
theorem dX5_gathers_78 : decode cX5_gathers 78 = .ok (.getfield 35, 3) := by decide +kernel
theorem dX5_gathers_81 : decode cX5_gathers 81 = .ok (.iload 4, 2) := by decide +kernel
theorem dX5_gathers_83 : decode cX5_gathers 83 = .ok (.iload_n 3, 1) := by decide +kernel
theorem dX5_gathers_84 : decode cX5_gathers 84 = .ok (.iastore, 1) := by decide +kernel
theorem dX5_gathers_85 : decode cX5_gathers 85 = .ok (.aload_n 0, 1) := by decide +kernel
theorem dX5_gathers_86 : decode cX5_gathers 86 = .ok (.dup, 1) := by decide +kernel
theorem dX5_gathers_87 : decode cX5_gathers 87 = .ok (.getfield 94, 3) := by decide +kernel
theorem dX5_gathers_90 : decode cX5_gathers 90 = .ok (.iconst 1, 1) := by decide +kernel
theorem dX5_gathers_91 : decode cX5_gathers 91 = .ok (.iadd, 1) := by decide +kernel
theorem dX5_gathers_92 : decode cX5_gathers 92 = .ok (.putfield 94, 3) := by decide +kernel
theorem dX5_gathers_95 : decode cX5_gathers 95 = .ok (.iload_n 3, 1) := by decide +kernel
theorem dX5_gathers_96 : decode cX5_gathers 96 = .ok (.aload_n 0, 1) := by decide +kernel
theorem dX5_gathers_97 : decode cX5_gathers 97 = .ok (.getfield 7, 3) := by decide +kernel
theorem dX5_gathers_100 : decode cX5_gathers 100 = .ok (.iload_n 3, 1) := by decide +kernel
theorem dX5_gathers_101 : decode cX5_gathers 101 = .ok (.iaload, 1) := by decide +kernel
theorem dX5_gathers_102 : decode cX5_gathers 102 = .ok (.iadd, 1) := by decide +kernel
theorem dX5_gathers_103 : decode cX5_gathers 103 = .ok (.istore_n 3, 1) := by decide +kernel
theorem dX5_gathers_104 : decode cX5_gathers 104 = .ok (.goto (-97), 3) := by decide +kernel
theorem dX5_gathers_107 : decode cX5_gathers 107 = .ok (.return_, 1) := by decide +kernel
theorem dX5_places_0 : decode cX5_places 0 = .ok (.iconst 0, 1) := by decide +kernel
theorem dX5_places_1 : decode cX5_places 1 = .ok (.istore_n 3, 1) := by decide +kernel
theorem dX5_places_2 : decode cX5_places 2 = .ok (.iload_n 3, 1) := by decide +kernel
theorem dX5_places_3 : decode cX5_places 3 = .ok (.aload_n 0, 1) := by decide +kernel
theorem dX5_places_4 : decode cX5_places 4 = .ok (.getfield 44, 3) := by decide +kernel
theorem dX5_places_7 : decode cX5_places 7 = .ok (.if_icmp .ge 43, 3) := by decide +kernel
theorem dX5_places_10 : decode cX5_places 10 = .ok (.aload_n 0, 1) := by decide +kernel
theorem dX5_places_11 : decode cX5_places 11 = .ok (.getfield 41, 3) := by decide +kernel
theorem dX5_places_14 : decode cX5_places 14 = .ok (.iload_n 3, 1) := by decide +kernel
theorem dX5_places_15 : decode cX5_places 15 = .ok (.aload_n 0, 1) := by decide +kernel
theorem dX5_places_16 : decode cX5_places 16 = .ok (.iload_n 3, 1) := by decide +kernel
theorem dX5_places_17 : decode cX5_places 17 = .ok (.invokevirtual 51, 3) := by decide +kernel
theorem dX5_places_20 : decode cX5_places 20 = .ok (.ifCond .eq 22, 3) := by decide +kernel
theorem dX5_places_23 : decode cX5_places 23 = .ok (.iload_n 3, 1) := by decide +kernel
theorem dX5_places_24 : decode cX5_places 24 = .ok (.iload_n 1, 1) := by decide +kernel
theorem dX5_places_25 : decode cX5_places 25 = .ok (.if_icmp .lt 8, 3) := by decide +kernel
theorem dX5_places_28 : decode cX5_places 28 = .ok (.iload_n 3, 1) := by decide +kernel
theorem dX5_places_29 : decode cX5_places 29 = .ok (.iload_n 2, 1) := by decide +kernel
theorem dX5_places_30 : decode cX5_places 30 = .ok (.if_icmp .lt 12, 3) := by decide +kernel
theorem dX5_places_33 : decode cX5_places 33 = .ok (.aload_n 0, 1) := by decide +kernel
theorem dX5_places_34 : decode cX5_places 34 = .ok (.getfield 7, 3) := by decide +kernel
theorem dX5_places_37 : decode cX5_places 37 = .ok (.iload_n 3, 1) := by decide +kernel
theorem dX5_places_38 : decode cX5_places 38 = .ok (.iaload, 1) := by decide +kernel
theorem dX5_places_39 : decode cX5_places 39 = .ok (.goto 4, 3) := by decide +kernel
theorem dX5_places_42 : decode cX5_places 42 = .ok (.iconst 0, 1) := by decide +kernel
theorem dX5_places_43 : decode cX5_places 43 = .ok (.iastore, 1) := by decide +kernel
theorem dX5_places_44 : decode cX5_places 44 = .ok (.iinc 3 1, 3) := by decide +kernel
theorem dX5_places_47 : decode cX5_places 47 = .ok (.goto (-45), 3) := by decide +kernel
theorem dX5_places_50 : decode cX5_places 50 = .ok (.iconst 0, 1) := by decide +kernel
theorem dX5_places_51 : decode cX5_places 51 = .ok (.istore_n 3, 1) := by decide +kernel
theorem dX5_places_52 : decode cX5_places 52 = .ok (.iload_n 3, 1) := by decide +kernel
theorem dX5_places_53 : decode cX5_places 53 = .ok (.aload_n 0, 1) := by decide +kernel
theorem dX5_places_54 : decode cX5_places 54 = .ok (.getfield 94, 3) := by decide +kernel
theorem dX5_places_57 : decode cX5_places 57 = .ok (.if_icmp .ge 99, 3) := by decide +kernel
theorem dX5_places_60 : decode cX5_places 60 = .ok (.aload_n 0, 1) := by decide +kernel
theorem dX5_places_61 : decode cX5_places 61 = .ok (.getfield 7, 3) := by decide +kernel
theorem dX5_places_64 : decode cX5_places 64 = .ok (.aload_n 0, 1) := by decide +kernel
theorem dX5_places_65 : decode cX5_places 65 = .ok (.getfield 35, 3) := by decide +kernel
theorem dX5_places_68 : decode cX5_places 68 = .ok (.iload_n 3, 1) := by decide +kernel
theorem dX5_places_69 : decode cX5_places 69 = .ok (.iaload, 1) := by decide +kernel
theorem dX5_places_70 : decode cX5_places 70 = .ok (.iaload, 1) := by decide +kernel
theorem dX5_places_71 : decode cX5_places 71 = .ok (.istore 4, 2) := by decide +kernel
theorem dX5_places_73 : decode cX5_places 73 = .ok (.iconst 0, 1) := by decide +kernel
theorem dX5_places_74 : decode cX5_places 74 = .ok (.istore 5, 2) := by decide +kernel
theorem dX5_places_76 : decode cX5_places 76 = .ok (.iload 5, 2) := by decide +kernel
theorem dX5_places_78 : decode cX5_places 78 = .ok (.aload_n 0, 1) := by decide +kernel
theorem dX5_places_79 : decode cX5_places 79 = .ok (.getfield 44, 3) := by decide +kernel
theorem dX5_places_82 : decode cX5_places 82 = .ok (.if_icmp .ge 21, 3) := by decide +kernel
theorem dX5_places_85 : decode cX5_places 85 = .ok (.aload_n 0, 1) := by decide +kernel
theorem dX5_places_86 : decode cX5_places 86 = .ok (.getfield 41, 3) := by decide +kernel
theorem dX5_places_89 : decode cX5_places 89 = .ok (.iload 5, 2) := by decide +kernel
theorem dX5_places_91 : decode cX5_places 91 = .ok (.iaload, 1) := by decide +kernel
theorem dX5_places_92 : decode cX5_places 92 = .ok (.iload 4, 2) := by decide +kernel
theorem dX5_places_94 : decode cX5_places 94 = .ok (.if_icmp .ge 9, 3) := by decide +kernel
theorem dX5_places_97 : decode cX5_places 97 = .ok (.iinc 5 1, 3) := by decide +kernel
theorem dX5_places_100 : decode cX5_places 100 = .ok (.goto (-24), 3) := by decide +kernel
theorem dX5_places_103 : decode cX5_places 103 = .ok (.iload 5, 2) := by decide +kernel
theorem dX5_places_105 : decode cX5_places 105 = .ok (.aload_n 0, 1) := by decide +kernel
theorem dX5_places_106 : decode cX5_places 106 = .ok (.getfield 44, 3) := by decide +kernel
theorem dX5_places_109 : decode cX5_places 109 = .ok (.if_icmp .ne 5, 3) := by decide +kernel
theorem dX5_places_112 : decode cX5_places 112 = .ok (.iconst 0, 1) := by decide +kernel
theorem dX5_places_113 : decode cX5_places 113 = .ok (.ireturn, 1) := by decide +kernel
theorem dX5_places_114 : decode cX5_places 114 = .ok (.aload_n 0, 1) := by decide +kernel
theorem dX5_places_115 : decode cX5_places 115 = .ok (.getfield 38, 3) := by decide +kernel
theorem dX5_places_118 : decode cX5_places 118 = .ok (.iload_n 3, 1) := by decide +kernel
theorem dX5_places_119 : decode cX5_places 119 = .ok (.iload 5, 2) := by decide +kernel
theorem dX5_places_121 : decode cX5_places 121 = .ok (.aload_n 0, 1) := by decide +kernel
theorem dX5_places_122 : decode cX5_places 122 = .ok (.getfield 7, 3) := by decide +kernel
theorem dX5_places_125 : decode cX5_places 125 = .ok (.iload 5, 2) := by decide +kernel
theorem dX5_places_127 : decode cX5_places 127 = .ok (.iaload, 1) := by decide +kernel
theorem dX5_places_128 : decode cX5_places 128 = .ok (.iadd, 1) := by decide +kernel
theorem dX5_places_129 : decode cX5_places 129 = .ok (.aload_n 0, 1) := by decide +kernel
theorem dX5_places_130 : decode cX5_places 130 = .ok (.getfield 41, 3) := by decide +kernel
theorem dX5_places_133 : decode cX5_places 133 = .ok (.iload 5, 2) := by decide +kernel
theorem dX5_places_135 : decode cX5_places 135 = .ok (.iaload, 1) := by decide +kernel
theorem dX5_places_136 : decode cX5_places 136 = .ok (.isub, 1) := by decide +kernel
theorem dX5_places_137 : decode cX5_places 137 = .ok (.iastore, 1) := by decide +kernel
theorem dX5_places_138 : decode cX5_places 138 = .ok (.aload_n 0, 1) := by decide +kernel
theorem dX5_places_139 : decode cX5_places 139 = .ok (.getfield 41, 3) := by decide +kernel
theorem dX5_places_142 : decode cX5_places 142 = .ok (.iload 5, 2) := by decide +kernel
theorem dX5_places_144 : decode cX5_places 144 = .ok (.dup2, 1) := by decide +kernel
theorem dX5_places_145 : decode cX5_places 145 = .ok (.iaload, 1) := by decide +kernel
theorem dX5_places_146 : decode cX5_places 146 = .ok (.iload 4, 2) := by decide +kernel
theorem dX5_places_148 : decode cX5_places 148 = .ok (.isub, 1) := by decide +kernel
theorem dX5_places_149 : decode cX5_places 149 = .ok (.iastore, 1) := by decide +kernel
theorem dX5_places_150 : decode cX5_places 150 = .ok (.iinc 3 1, 3) := by decide +kernel
theorem dX5_places_153 : decode cX5_places 153 = .ok (.goto (-101), 3) := by decide +kernel
theorem dX5_places_156 : decode cX5_places 156 = .ok (.iconst 1, 1) := by decide +kernel
theorem dX5_places_157 : decode cX5_places 157 = .ok (.ireturn, 1) := by decide +kernel
theorem dX5_advise_0 : decode cX5_advise 0 = .ok (.aload_n 0, 1) := by decide +kernel
theorem dX5_advise_1 : decode cX5_advise 1 = .ok (.iconst 0, 1) := by decide +kernel
theorem dX5_advise_2 : decode cX5_advise 2 = .ok (.putfield 48, 3) := by decide +kernel
theorem dX5_advise_5 : decode cX5_advise 5 = .ok (.aload_n 0, 1) := by decide +kernel
theorem dX5_advise_6 : decode cX5_advise 6 = .ok (.iconst 0, 1) := by decide +kernel
theorem dX5_advise_7 : decode cX5_advise 7 = .ok (.putfield 70, 3) := by decide +kernel
theorem dX5_advise_10 : decode cX5_advise 10 = .ok (.iload_n 1, 1) := by decide +kernel
theorem dX5_advise_11 : decode cX5_advise 11 = .ok (.iconst 1, 1) := by decide +kernel
theorem dX5_advise_12 : decode cX5_advise 12 = .ok (.if_icmp .lt 14, 3) := by decide +kernel
theorem dX5_advise_15 : decode cX5_advise 15 = .ok (.aload_n 0, 1) := by decide +kernel
theorem dX5_advise_16 : decode cX5_advise 16 = .ok (.iconst 2, 1) := by decide +kernel
theorem dX5_advise_17 : decode cX5_advise 17 = .ok (.invokevirtual 97, 3) := by decide +kernel
theorem dX5_advise_20 : decode cX5_advise 20 = .ok (.sipush 128, 3) := by decide +kernel
theorem dX5_advise_23 : decode cX5_advise 23 = .ok (.if_icmp .le 5, 3) := by decide +kernel
theorem dX5_advise_26 : decode cX5_advise 26 = .ok (.iconst (-1), 1) := by decide +kernel
theorem dX5_advise_27 : decode cX5_advise 27 = .ok (.ireturn, 1) := by decide +kernel
theorem dX5_advise_28 : decode cX5_advise 28 = .ok (.iconst 0, 1) := by decide +kernel
theorem dX5_advise_29 : decode cX5_advise 29 = .ok (.istore_n 2, 1) := by decide +kernel
theorem dX5_advise_30 : decode cX5_advise 30 = .ok (.iload_n 2, 1) := by decide +kernel
theorem dX5_advise_31 : decode cX5_advise 31 = .ok (.aload_n 0, 1) := by decide +kernel
theorem dX5_advise_32 : decode cX5_advise 32 = .ok (.getfield 44, 3) := by decide +kernel
theorem dX5_advise_35 : decode cX5_advise 35 = .ok (.if_icmp .ge 131, 3) := by decide +kernel
theorem dX5_advise_38 : decode cX5_advise 38 = .ok (.aload_n 0, 1) := by decide +kernel
theorem dX5_advise_39 : decode cX5_advise 39 = .ok (.getfield 7, 3) := by decide +kernel
theorem dX5_advise_42 : decode cX5_advise 42 = .ok (.iload_n 2, 1) := by decide +kernel
theorem dX5_advise_43 : decode cX5_advise 43 = .ok (.iaload, 1) := by decide +kernel
theorem dX5_advise_44 : decode cX5_advise 44 = .ok (.ifCond .le 12, 3) := by decide +kernel
theorem dX5_advise_47 : decode cX5_advise 47 = .ok (.aload_n 0, 1) := by decide +kernel
theorem dX5_advise_48 : decode cX5_advise 48 = .ok (.iload_n 2, 1) := by decide +kernel
theorem dX5_advise_49 : decode cX5_advise 49 = .ok (.iload_n 1, 1) := by decide +kernel
theorem dX5_advise_50 : decode cX5_advise 50 = .ok (.invokevirtual 100, 3) := by decide +kernel
theorem dX5_advise_53 : decode cX5_advise 53 = .ok (.goto 4, 3) := by decide +kernel
theorem dX5_advise_56 : decode cX5_advise 56 = .ok (.iconst (-1), 1) := by decide +kernel
theorem dX5_advise_57 : decode cX5_advise 57 = .ok (.istore_n 3, 1) := by decide +kernel
theorem dX5_advise_58 : decode cX5_advise 58 = .ok (.iload_n 3, 1) := by decide +kernel
theorem dX5_advise_59 : decode cX5_advise 59 = .ok (.iconst (-1), 1) := by decide +kernel
theorem dX5_advise_60 : decode cX5_advise 60 = .ok (.if_icmp .eq 100, 3) := by decide +kernel
theorem dX5_advise_63 : decode cX5_advise 63 = .ok (.aload_n 0, 1) := by decide +kernel
theorem dX5_advise_64 : decode cX5_advise 64 = .ok (.iload_n 2, 1) := by decide +kernel
theorem dX5_advise_65 : decode cX5_advise 65 = .ok (.iload_n 3, 1) := by decide +kernel
theorem dX5_advise_66 : decode cX5_advise 66 = .ok (.invokevirtual 103, 3) := by decide +kernel
theorem dX5_advise_69 : decode cX5_advise 69 = .ok (.aload_n 0, 1) := by decide +kernel
theorem dX5_advise_70 : decode cX5_advise 70 = .ok (.getfield 70, 3) := by decide +kernel
theorem dX5_advise_73 : decode cX5_advise 73 = .ok (.ifCond .eq 14, 3) := by decide +kernel
theorem dX5_advise_76 : decode cX5_advise 76 = .ok (.aload_n 0, 1) := by decide +kernel
theorem dX5_advise_77 : decode cX5_advise 77 = .ok (.getfield 94, 3) := by decide +kernel
theorem dX5_advise_80 : decode cX5_advise 80 = .ok (.aload_n 0, 1) := by decide +kernel
theorem dX5_advise_81 : decode cX5_advise 81 = .ok (.getfield 89, 3) := by decide +kernel
theorem dX5_advise_84 : decode cX5_advise 84 = .ok (.if_icmp .ge 76, 3) := by decide +kernel
theorem dX5_advise_87 : decode cX5_advise 87 = .ok (.aload_n 0, 1) := by decide +kernel
theorem dX5_advise_88 : decode cX5_advise 88 = .ok (.iload_n 2, 1) := by decide +kernel
theorem dX5_advise_89 : decode cX5_advise 89 = .ok (.iload_n 3, 1) := by decide +kernel
theorem dX5_advise_90 : decode cX5_advise 90 = .ok (.invokevirtual 107, 3) := by decide +kernel
theorem dX5_advise_93 : decode cX5_advise 93 = .ok (.ifCond .eq 67, 3) := by decide +kernel
theorem dX5_advise_96 : decode cX5_advise 96 = .ok (.aload_n 0, 1) := by decide +kernel
theorem dX5_advise_97 : decode cX5_advise 97 = .ok (.iconst 1, 1) := by decide +kernel
theorem dX5_advise_98 : decode cX5_advise 98 = .ok (.putfield 70, 3) := by decide +kernel
theorem dX5_advise_101 : decode cX5_advise 101 = .ok (.aload_n 0, 1) := by decide +kernel
theorem dX5_advise_102 : decode cX5_advise 102 = .ok (.iload_n 2, 1) := by decide +kernel
theorem dX5_advise_103 : decode cX5_advise 103 = .ok (.putfield 111, 3) := by decide +kernel
theorem dX5_advise_106 : decode cX5_advise 106 = .ok (.aload_n 0, 1) := by decide +kernel
theorem dX5_advise_107 : decode cX5_advise 107 = .ok (.aload_n 0, 1) := by decide +kernel
theorem dX5_advise_108 : decode cX5_advise 108 = .ok (.getfield 94, 3) := by decide +kernel
theorem dX5_advise_111 : decode cX5_advise 111 = .ok (.putfield 89, 3) := by decide +kernel
theorem dX5_advise_114 : decode cX5_advise 114 = .ok (.iconst 0, 1) := by decide +kernel
theorem dX5_advise_115 : decode cX5_advise 115 = .ok (.istore 4, 2) := by decide +kernel
theorem dX5_advise_117 : decode cX5_advise 117 = .ok (.iload 4, 2) := by decide +kernel
theorem dX5_advise_119 : decode cX5_advise 119 = .ok (.aload_n 0, 1) := by decide +kernel
theorem dX5_advise_120 : decode cX5_advise 120 = .ok (.getfield 94, 3) := by decide +kernel
theorem dX5_advise_123 : decode cX5_advise 123 = .ok (.if_icmp .ge 37, 3) := by decide +kernel
theorem dX5_advise_126 : decode cX5_advise 126 = .ok (.aload_n 0, 1) := by decide +kernel
theorem dX5_advise_127 : decode cX5_advise 127 = .ok (.getfield 23, 3) := by decide +kernel
theorem dX5_advise_130 : decode cX5_advise 130 = .ok (.iload 4, 2) := by decide +kernel
theorem dX5_advise_132 : decode cX5_advise 132 = .ok (.aload_n 0, 1) := by decide +kernel
theorem dX5_advise_133 : decode cX5_advise 133 = .ok (.getfield 35, 3) := by decide +kernel
theorem dX5_advise_136 : decode cX5_advise 136 = .ok (.iload 4, 2) := by decide +kernel
theorem dX5_advise_138 : decode cX5_advise 138 = .ok (.iaload, 1) := by decide +kernel
theorem dX5_advise_139 : decode cX5_advise 139 = .ok (.iastore, 1) := by decide +kernel
theorem dX5_advise_140 : decode cX5_advise 140 = .ok (.aload_n 0, 1) := by decide +kernel
theorem dX5_advise_141 : decode cX5_advise 141 = .ok (.getfield 26, 3) := by decide +kernel
theorem dX5_advise_144 : decode cX5_advise 144 = .ok (.iload 4, 2) := by decide +kernel
theorem dX5_advise_146 : decode cX5_advise 146 = .ok (.aload_n 0, 1) := by decide +kernel
theorem dX5_advise_147 : decode cX5_advise 147 = .ok (.getfield 38, 3) := by decide +kernel
theorem dX5_advise_150 : decode cX5_advise 150 = .ok (.iload 4, 2) := by decide +kernel
theorem dX5_advise_152 : decode cX5_advise 152 = .ok (.iaload, 1) := by decide +kernel
theorem dX5_advise_153 : decode cX5_advise 153 = .ok (.iastore, 1) := by decide +kernel
theorem dX5_advise_154 : decode cX5_advise 154 = .ok (.iinc 4 1, 3) := by decide +kernel
theorem dX5_advise_157 : decode cX5_advise 157 = .ok (.goto (-40), 3) := by decide +kernel
theorem dX5_advise_160 : decode cX5_advise 160 = .ok (.iinc 2 1, 3) := by decide +kernel
theorem dX5_advise_163 : decode cX5_advise 163 = .ok (.goto (-133), 3) := by decide +kernel
theorem dX5_advise_166 : decode cX5_advise 166 = .ok (.aload_n 0, 1) := by decide +kernel
theorem dX5_advise_167 : decode cX5_advise 167 = .ok (.getfield 70, 3) := by decide +kernel
theorem dX5_advise_170 : decode cX5_advise 170 = .ok (.ifCond .eq 10, 3) := by decide +kernel
theorem dX5_advise_173 : decode cX5_advise 173 = .ok (.aload_n 0, 1) := by decide +kernel
theorem dX5_advise_174 : decode cX5_advise 174 = .ok (.getfield 89, 3) := by decide +kernel
theorem dX5_advise_177 : decode cX5_advise 177 = .ok (.goto 4, 3) := by decide +kernel
theorem dX5_advise_180 : decode cX5_advise 180 = .ok (.iconst (-1), 1) := by decide +kernel
theorem dX5_advise_181 : decode cX5_advise 181 = .ok (.ireturn, 1) := by decide +kernel
theorem dX5_window_0 : decode cX5_window 0 = .ok (.aload_n 0, 1) := by decide +kernel
theorem dX5_window_1 : decode cX5_window 1 = .ok (.iconst 0, 1) := by decide +kernel
theorem dX5_window_2 : decode cX5_window 2 = .ok (.putfield 48, 3) := by decide +kernel
theorem dX5_window_5 : decode cX5_window 5 = .ok (.aload_n 0, 1) := by decide +kernel
theorem dX5_window_6 : decode cX5_window 6 = .ok (.getfield 70, 3) := by decide +kernel
theorem dX5_window_9 : decode cX5_window 9 = .ok (.ifCond .eq 13, 3) := by decide +kernel
theorem dX5_window_12 : decode cX5_window 12 = .ok (.aload_n 0, 1) := by decide +kernel
theorem dX5_window_13 : decode cX5_window 13 = .ok (.getfield 111, 3) := by decide +kernel
theorem dX5_window_16 : decode cX5_window 16 = .ok (.invokestatic 55, 3) := by decide +kernel
theorem dX5_window_19 : decode cX5_window 19 = .ok (.goto 4, 3) := by decide +kernel
theorem dX5_window_22 : decode cX5_window 22 = .ok (.iconst (-1), 1) := by decide +kernel
theorem dX5_window_23 : decode cX5_window 23 = .ok (.ireturn, 1) := by decide +kernel
theorem dX5_move_0 : decode cX5_move 0 = .ok (.aload_n 0, 1) := by decide +kernel
theorem dX5_move_1 : decode cX5_move 1 = .ok (.aload_n 0, 1) := by decide +kernel
theorem dX5_move_2 : decode cX5_move 2 = .ok (.getfield 70, 3) := by decide +kernel
theorem dX5_move_5 : decode cX5_move 5 = .ok (.ifCond .eq 15, 3) := by decide +kernel
theorem dX5_move_8 : decode cX5_move 8 = .ok (.iload_n 1, 1) := by decide +kernel
theorem dX5_move_9 : decode cX5_move 9 = .ok (.ifCond .lt 11, 3) := by decide +kernel
theorem dX5_move_12 : decode cX5_move 12 = .ok (.iload_n 1, 1) := by decide +kernel
theorem dX5_move_13 : decode cX5_move 13 = .ok (.aload_n 0, 1) := by decide +kernel
theorem dX5_move_14 : decode cX5_move 14 = .ok (.getfield 89, 3) := by decide +kernel
theorem dX5_move_17 : decode cX5_move 17 = .ok (.if_icmp .lt 7, 3) := by decide +kernel
theorem dX5_move_20 : decode cX5_move 20 = .ok (.iconst 1, 1) := by decide +kernel
theorem dX5_move_21 : decode cX5_move 21 = .ok (.goto 17, 3) := by decide +kernel
theorem dX5_move_24 : decode cX5_move 24 = .ok (.iload_n 2, 1) := by decide +kernel
theorem dX5_move_25 : decode cX5_move 25 = .ok (.ifCond .lt 8, 3) := by decide +kernel
theorem dX5_move_28 : decode cX5_move 28 = .ok (.iload_n 2, 1) := by decide +kernel
theorem dX5_move_29 : decode cX5_move 29 = .ok (.iconst 1, 1) := by decide +kernel
theorem dX5_move_30 : decode cX5_move 30 = .ok (.if_icmp .le 7, 3) := by decide +kernel
theorem dX5_move_33 : decode cX5_move 33 = .ok (.iconst 2, 1) := by decide +kernel
theorem dX5_move_34 : decode cX5_move 34 = .ok (.goto 4, 3) := by decide +kernel
theorem dX5_move_37 : decode cX5_move 37 = .ok (.iconst 0, 1) := by decide +kernel
theorem dX5_move_38 : decode cX5_move 38 = .ok (.putfield 48, 3) := by decide +kernel
theorem dX5_move_41 : decode cX5_move 41 = .ok (.aload_n 0, 1) := by decide +kernel
theorem dX5_move_42 : decode cX5_move 42 = .ok (.getfield 48, 3) := by decide +kernel
theorem dX5_move_45 : decode cX5_move 45 = .ok (.ifCond .eq 7, 3) := by decide +kernel
theorem dX5_move_48 : decode cX5_move 48 = .ok (.iconst 0, 1) := by decide +kernel
theorem dX5_move_49 : decode cX5_move 49 = .ok (.goto 25, 3) := by decide +kernel
theorem dX5_move_52 : decode cX5_move 52 = .ok (.iload_n 2, 1) := by decide +kernel
theorem dX5_move_53 : decode cX5_move 53 = .ok (.ifCond .ne 12, 3) := by decide +kernel
theorem dX5_move_56 : decode cX5_move 56 = .ok (.aload_n 0, 1) := by decide +kernel
theorem dX5_move_57 : decode cX5_move 57 = .ok (.getfield 23, 3) := by decide +kernel
theorem dX5_move_60 : decode cX5_move 60 = .ok (.iload_n 1, 1) := by decide +kernel
theorem dX5_move_61 : decode cX5_move 61 = .ok (.iaload, 1) := by decide +kernel
theorem dX5_move_62 : decode cX5_move 62 = .ok (.goto 9, 3) := by decide +kernel
theorem dX5_move_65 : decode cX5_move 65 = .ok (.aload_n 0, 1) := by decide +kernel
theorem dX5_move_66 : decode cX5_move 66 = .ok (.getfield 26, 3) := by decide +kernel
theorem dX5_move_69 : decode cX5_move 69 = .ok (.iload_n 1, 1) := by decide +kernel
theorem dX5_move_70 : decode cX5_move 70 = .ok (.iaload, 1) := by decide +kernel
theorem dX5_move_71 : decode cX5_move 71 = .ok (.invokestatic 55, 3) := by decide +kernel
theorem dX5_move_74 : decode cX5_move 74 = .ok (.ireturn, 1) := by decide +kernel
theorem dX5_goes_0 : decode cX5_goes 0 = .ok (.aload_n 0, 1) := by decide +kernel
theorem dX5_goes_1 : decode cX5_goes 1 = .ok (.getfield 7, 3) := by decide +kernel
theorem dX5_goes_4 : decode cX5_goes 4 = .ok (.iload_n 1, 1) := by decide +kernel
theorem dX5_goes_5 : decode cX5_goes 5 = .ok (.iaload, 1) := by decide +kernel
theorem dX5_goes_6 : decode cX5_goes 6 = .ok (.istore_n 3, 1) := by decide +kernel
theorem dX5_goes_7 : decode cX5_goes 7 = .ok (.iload_n 2, 1) := by decide +kernel
theorem dX5_goes_8 : decode cX5_goes 8 = .ok (.istore 4, 2) := by decide +kernel
theorem dX5_goes_10 : decode cX5_goes 10 = .ok (.aload_n 0, 1) := by decide +kernel
theorem dX5_goes_11 : decode cX5_goes 11 = .ok (.getfield 7, 3) := by decide +kernel
theorem dX5_goes_14 : decode cX5_goes 14 = .ok (.iload 4, 2) := by decide +kernel
theorem dX5_goes_16 : decode cX5_goes 16 = .ok (.iaload, 1) := by decide +kernel
theorem dX5_goes_17 : decode cX5_goes 17 = .ok (.ifCond .ne 9, 3) := by decide +kernel
theorem dX5_goes_20 : decode cX5_goes 20 = .ok (.iinc 4 (-1), 3) := by decide +kernel
theorem dX5_goes_23 : decode cX5_goes 23 = .ok (.goto (-13), 3) := by decide +kernel
theorem dX5_goes_26 : decode cX5_goes 26 = .ok (.aload_n 0, 1) := by decide +kernel
theorem dX5_goes_27 : decode cX5_goes 27 = .ok (.iload 4, 2) := by decide +kernel
theorem dX5_goes_29 : decode cX5_goes 29 = .ok (.iload_n 2, 1) := by decide +kernel
theorem dX5_goes_30 : decode cX5_goes 30 = .ok (.iload_n 3, 1) := by decide +kernel
theorem dX5_goes_31 : decode cX5_goes 31 = .ok (.invokevirtual 66, 3) := by decide +kernel
theorem dX5_goes_34 : decode cX5_goes 34 = .ok (.iconst 0, 1) := by decide +kernel
theorem dX5_goes_35 : decode cX5_goes 35 = .ok (.istore 5, 2) := by decide +kernel
theorem dX5_goes_37 : decode cX5_goes 37 = .ok (.iload 5, 2) := by decide +kernel
theorem dX5_goes_39 : decode cX5_goes 39 = .ok (.iconst 4, 1) := by decide +kernel
theorem dX5_goes_40 : decode cX5_goes 40 = .ok (.iload_n 3, 1) := by decide +kernel
theorem dX5_goes_41 : decode cX5_goes 41 = .ok (.imul, 1) := by decide +kernel
theorem dX5_goes_42 : decode cX5_goes 42 = .ok (.iconst 1, 1) := by decide +kernel
theorem dX5_goes_43 : decode cX5_goes 43 = .ok (.isub, 1) := by decide +kernel
theorem dX5_goes_44 : decode cX5_goes 44 = .ok (.if_icmp .ge 33, 3) := by decide +kernel
theorem dX5_goes_47 : decode cX5_goes 47 = .ok (.aload_n 0, 1) := by decide +kernel
theorem dX5_goes_48 : decode cX5_goes 48 = .ok (.getfield 20, 3) := by decide +kernel
theorem dX5_goes_51 : decode cX5_goes 51 = .ok (.iload_n 2, 1) := by decide +kernel
theorem dX5_goes_52 : decode cX5_goes 52 = .ok (.invokestatic 55, 3) := by decide +kernel
theorem dX5_goes_55 : decode cX5_goes 55 = .ok (.iload 5, 2) := by decide +kernel
theorem dX5_goes_57 : decode cX5_goes 57 = .ok (.iadd, 1) := by decide +kernel
theorem dX5_goes_58 : decode cX5_goes 58 = .ok (.aload_n 0, 1) := by decide +kernel
theorem dX5_goes_59 : decode cX5_goes 59 = .ok (.getfield 20, 3) := by decide +kernel
theorem dX5_goes_62 : decode cX5_goes 62 = .ok (.iload_n 1, 1) := by decide +kernel
theorem dX5_goes_63 : decode cX5_goes 63 = .ok (.invokestatic 55, 3) := by decide +kernel
theorem dX5_goes_66 : decode cX5_goes 66 = .ok (.iload 5, 2) := by decide +kernel
theorem dX5_goes_68 : decode cX5_goes 68 = .ok (.iadd, 1) := by decide +kernel
theorem dX5_goes_69 : decode cX5_goes 69 = .ok (.iaload, 1) := by decide +kernel
theorem dX5_goes_70 : decode cX5_goes 70 = .ok (.iastore, 1) := by decide +kernel
theorem dX5_goes_71 : decode cX5_goes 71 = .ok (.iinc 5 1, 3) := by decide +kernel
theorem dX5_goes_74 : decode cX5_goes 74 = .ok (.goto (-37), 3) := by decide +kernel
theorem dX5_goes_77 : decode cX5_goes 77 = .ok (.aload_n 0, 1) := by decide +kernel
theorem dX5_goes_78 : decode cX5_goes 78 = .ok (.getfield 13, 3) := by decide +kernel
theorem dX5_goes_81 : decode cX5_goes 81 = .ok (.iload_n 1, 1) := by decide +kernel
theorem dX5_goes_82 : decode cX5_goes 82 = .ok (.iconst 0, 1) := by decide +kernel
theorem dX5_goes_83 : decode cX5_goes 83 = .ok (.bastore, 1) := by decide +kernel
theorem dX5_goes_84 : decode cX5_goes 84 = .ok (.return_, 1) := by decide +kernel
theorem dX5_apply_0 : decode cX5_apply 0 = .ok (.aload_n 0, 1) := by decide +kernel
theorem dX5_apply_1 : decode cX5_apply 1 = .ok (.iconst 0, 1) := by decide +kernel
theorem dX5_apply_2 : decode cX5_apply 2 = .ok (.putfield 48, 3) := by decide +kernel
theorem dX5_apply_5 : decode cX5_apply 5 = .ok (.aload_n 0, 1) := by decide +kernel
theorem dX5_apply_6 : decode cX5_apply 6 = .ok (.getfield 70, 3) := by decide +kernel
theorem dX5_apply_9 : decode cX5_apply 9 = .ok (.ifCond .ne 5, 3) := by decide +kernel
theorem dX5_apply_12 : decode cX5_apply 12 = .ok (.iconst (-1), 1) := by decide +kernel
theorem dX5_apply_13 : decode cX5_apply 13 = .ok (.ireturn, 1) := by decide +kernel
theorem dX5_apply_14 : decode cX5_apply 14 = .ok (.aload_n 0, 1) := by decide +kernel
theorem dX5_apply_15 : decode cX5_apply 15 = .ok (.aload_n 0, 1) := by decide +kernel
theorem dX5_apply_16 : decode cX5_apply 16 = .ok (.getfield 89, 3) := by decide +kernel
theorem dX5_apply_19 : decode cX5_apply 19 = .ok (.putfield 114, 3) := by decide +kernel
theorem dX5_apply_22 : decode cX5_apply 22 = .ok (.iconst 0, 1) := by decide +kernel
theorem dX5_apply_23 : decode cX5_apply 23 = .ok (.istore_n 1, 1) := by decide +kernel
theorem dX5_apply_24 : decode cX5_apply 24 = .ok (.iload_n 1, 1) := by decide +kernel
theorem dX5_apply_25 : decode cX5_apply 25 = .ok (.aload_n 0, 1) := by decide +kernel
theorem dX5_apply_26 : decode cX5_apply 26 = .ok (.getfield 89, 3) := by decide +kernel
theorem dX5_apply_29 : decode cX5_apply 29 = .ok (.if_icmp .ge 55, 3) := by decide +kernel
theorem dX5_apply_32 : decode cX5_apply 32 = .ok (.aload_n 0, 1) := by decide +kernel
theorem dX5_apply_33 : decode cX5_apply 33 = .ok (.getfield 29, 3) := by decide +kernel
theorem dX5_apply_36 : decode cX5_apply 36 = .ok (.iload_n 1, 1) := by decide +kernel
theorem dX5_apply_37 : decode cX5_apply 37 = .ok (.aload_n 0, 1) := by decide +kernel
theorem dX5_apply_38 : decode cX5_apply 38 = .ok (.getfield 23, 3) := by decide +kernel
theorem dX5_apply_41 : decode cX5_apply 41 = .ok (.iload_n 1, 1) := by decide +kernel
theorem dX5_apply_42 : decode cX5_apply 42 = .ok (.iaload, 1) := by decide +kernel
theorem dX5_apply_43 : decode cX5_apply 43 = .ok (.invokestatic 55, 3) := by decide +kernel
theorem dX5_apply_46 : decode cX5_apply 46 = .ok (.iastore, 1) := by decide +kernel
theorem dX5_apply_47 : decode cX5_apply 47 = .ok (.aload_n 0, 1) := by decide +kernel
theorem dX5_apply_48 : decode cX5_apply 48 = .ok (.getfield 32, 3) := by decide +kernel
theorem dX5_apply_51 : decode cX5_apply 51 = .ok (.iload_n 1, 1) := by decide +kernel
theorem dX5_apply_52 : decode cX5_apply 52 = .ok (.aload_n 0, 1) := by decide +kernel
theorem dX5_apply_53 : decode cX5_apply 53 = .ok (.getfield 26, 3) := by decide +kernel
theorem dX5_apply_56 : decode cX5_apply 56 = .ok (.iload_n 1, 1) := by decide +kernel
theorem dX5_apply_57 : decode cX5_apply 57 = .ok (.iaload, 1) := by decide +kernel
theorem dX5_apply_58 : decode cX5_apply 58 = .ok (.invokestatic 55, 3) := by decide +kernel
theorem dX5_apply_61 : decode cX5_apply 61 = .ok (.iastore, 1) := by decide +kernel
theorem dX5_apply_62 : decode cX5_apply 62 = .ok (.aload_n 0, 1) := by decide +kernel
theorem dX5_apply_63 : decode cX5_apply 63 = .ok (.aload_n 0, 1) := by decide +kernel
theorem dX5_apply_64 : decode cX5_apply 64 = .ok (.getfield 23, 3) := by decide +kernel
theorem dX5_apply_67 : decode cX5_apply 67 = .ok (.iload_n 1, 1) := by decide +kernel
theorem dX5_apply_68 : decode cX5_apply 68 = .ok (.iaload, 1) := by decide +kernel
theorem dX5_apply_69 : decode cX5_apply 69 = .ok (.aload_n 0, 1) := by decide +kernel
theorem dX5_apply_70 : decode cX5_apply 70 = .ok (.getfield 26, 3) := by decide +kernel
theorem dX5_apply_73 : decode cX5_apply 73 = .ok (.iload_n 1, 1) := by decide +kernel
theorem dX5_apply_74 : decode cX5_apply 74 = .ok (.iaload, 1) := by decide +kernel
theorem dX5_apply_75 : decode cX5_apply 75 = .ok (.invokevirtual 117, 3) := by decide +kernel
theorem dX5_apply_78 : decode cX5_apply 78 = .ok (.iinc 1 1, 3) := by decide +kernel
theorem dX5_apply_81 : decode cX5_apply 81 = .ok (.goto (-57), 3) := by decide +kernel
theorem dX5_apply_84 : decode cX5_apply 84 = .ok (.aload_n 0, 1) := by decide +kernel
theorem dX5_apply_85 : decode cX5_apply 85 = .ok (.invokevirtual 77, 3) := by decide +kernel
theorem dX5_apply_88 : decode cX5_apply 88 = .ok (.aload_n 0, 1) := by decide +kernel
theorem dX5_apply_89 : decode cX5_apply 89 = .ok (.iconst 0, 1) := by decide +kernel
theorem dX5_apply_90 : decode cX5_apply 90 = .ok (.putfield 70, 3) := by decide +kernel
theorem dX5_apply_93 : decode cX5_apply 93 = .ok (.aload_n 0, 1) := by decide +kernel
theorem dX5_apply_94 : decode cX5_apply 94 = .ok (.getfield 114, 3) := by decide +kernel
theorem dX5_apply_97 : decode cX5_apply 97 = .ok (.ireturn, 1) := by decide +kernel
theorem dX5_moved_0 : decode cX5_moved 0 = .ok (.aload_n 0, 1) := by decide +kernel
theorem dX5_moved_1 : decode cX5_moved 1 = .ok (.iconst 0, 1) := by decide +kernel
theorem dX5_moved_2 : decode cX5_moved 2 = .ok (.putfield 48, 3) := by decide +kernel
theorem dX5_moved_5 : decode cX5_moved 5 = .ok (.iconst 0, 1) := by decide +kernel
theorem dX5_moved_6 : decode cX5_moved 6 = .ok (.istore_n 2, 1) := by decide +kernel
theorem dX5_moved_7 : decode cX5_moved 7 = .ok (.iload_n 2, 1) := by decide +kernel
theorem dX5_moved_8 : decode cX5_moved 8 = .ok (.aload_n 0, 1) := by decide +kernel
theorem dX5_moved_9 : decode cX5_moved 9 = .ok (.getfield 114, 3) := by decide +kernel
theorem dX5_moved_12 : decode cX5_moved 12 = .ok (.if_icmp .ge 26, 3) := by decide +kernel
theorem dX5_moved_15 : decode cX5_moved 15 = .ok (.aload_n 0, 1) := by decide +kernel
theorem dX5_moved_16 : decode cX5_moved 16 = .ok (.getfield 29, 3) := by decide +kernel
theorem dX5_moved_19 : decode cX5_moved 19 = .ok (.iload_n 2, 1) := by decide +kernel
theorem dX5_moved_20 : decode cX5_moved 20 = .ok (.iaload, 1) := by decide +kernel
theorem dX5_moved_21 : decode cX5_moved 21 = .ok (.iload_n 1, 1) := by decide +kernel
theorem dX5_moved_22 : decode cX5_moved 22 = .ok (.if_icmp .ne 10, 3) := by decide +kernel
theorem dX5_moved_25 : decode cX5_moved 25 = .ok (.aload_n 0, 1) := by decide +kernel
theorem dX5_moved_26 : decode cX5_moved 26 = .ok (.getfield 32, 3) := by decide +kernel
theorem dX5_moved_29 : decode cX5_moved 29 = .ok (.iload_n 2, 1) := by decide +kernel
theorem dX5_moved_30 : decode cX5_moved 30 = .ok (.iaload, 1) := by decide +kernel
theorem dX5_moved_31 : decode cX5_moved 31 = .ok (.ireturn, 1) := by decide +kernel
theorem dX5_moved_32 : decode cX5_moved 32 = .ok (.iinc 2 1, 3) := by decide +kernel
theorem dX5_moved_35 : decode cX5_moved 35 = .ok (.goto (-28), 3) := by decide +kernel
theorem dX5_moved_38 : decode cX5_moved 38 = .ok (.iconst (-1), 1) := by decide +kernel
theorem dX5_moved_39 : decode cX5_moved 39 = .ok (.ireturn, 1) := by decide +kernel
