theorem dX4_init_0 : decode cX4_init 0 = .ok (.aload_n 0, 1) := by decide +kernel
theorem dX4_init_1 : decode cX4_init 1 = .ok (.invokespecial 1, 3) := by decide +kernel
theorem dX4_init_4 : decode cX4_init 4 = .ok (.bipush 16, 2) := by decide +kernel
theorem dX4_init_6 : decode cX4_init 6 = .ok (.sipush 4096, 3) := by decide +kernel
theorem dX4_init_9 : decode cX4_init 9 = .ok (.iload_n 1, 1) := by decide +kernel
theorem dX4_init_10 : decode cX4_init 10 = .ok (.invokestatic 9, 3) := by decide +kernel
theorem dX4_init_13 : decode cX4_init 13 = .ok (.invokestatic 15, 3) := by decide +kernel
theorem dX4_init_16 : decode cX4_init 16 = .ok (.istore_n 2, 1) := by decide +kernel
theorem dX4_init_17 : decode cX4_init 17 = .ok (.iload_n 2, 1) := by decide +kernel
theorem dX4_init_18 : decode cX4_init 18 = .ok (.iconst 3, 1) := by decide +kernel
theorem dX4_init_19 : decode cX4_init 19 = .ok (.isub, 1) := by decide +kernel
theorem dX4_init_20 : decode cX4_init 20 = .ok (.iconst 4, 1) := by decide +kernel
theorem dX4_init_21 : decode cX4_init 21 = .ok (.idiv, 1) := by decide +kernel
theorem dX4_init_22 : decode cX4_init 22 = .ok (.istore_n 3, 1) := by decide +kernel
theorem dX4_init_23 : decode cX4_init 23 = .ok (.aload_n 0, 1) := by decide +kernel
theorem dX4_init_24 : decode cX4_init 24 = .ok (.iload_n 2, 1) := by decide +kernel
theorem dX4_init_25 : decode cX4_init 25 = .ok (.newarray .int, 2) := by decide +kernel
theorem dX4_init_27 : decode cX4_init 27 = .ok (.putfield 18, 3) := by decide +kernel
theorem dX4_init_30 : decode cX4_init 30 = .ok (.aload_n 0, 1) := by decide +kernel
theorem dX4_init_31 : decode cX4_init 31 = .ok (.new 22, 3) := by decide +kernel
theorem dX4_init_34 : decode cX4_init 34 = .ok (.dup, 1) := by decide +kernel
theorem dX4_init_35 : decode cX4_init 35 = .ok (.iload_n 3, 1) := by decide +kernel
theorem dX4_init_36 : decode cX4_init 36 = .ok (.invokespecial 24, 3) := by decide +kernel
theorem dX4_init_39 : decode cX4_init 39 = .ok (.putfield 27, 3) := by decide +kernel
theorem dX4_init_42 : decode cX4_init 42 = .ok (.aload_n 0, 1) := by decide +kernel
theorem dX4_init_43 : decode cX4_init 43 = .ok (.new 31, 3) := by decide +kernel
theorem dX4_init_46 : decode cX4_init 46 = .ok (.dup, 1) := by decide +kernel
theorem dX4_init_47 : decode cX4_init 47 = .ok (.aload_n 0, 1) := by decide +kernel
theorem dX4_init_48 : decode cX4_init 48 = .ok (.getfield 27, 3) := by decide +kernel
theorem dX4_init_51 : decode cX4_init 51 = .ok (.iload_n 3, 1) := by decide +kernel
theorem dX4_init_52 : decode cX4_init 52 = .ok (.invokespecial 33, 3) := by decide +kernel
theorem dX4_init_55 : decode cX4_init 55 = .ok (.putfield 36, 3) := by decide +kernel
theorem dX4_init_58 : decode cX4_init 58 = .ok (.aload_n 0, 1) := by decide +kernel
theorem dX4_init_59 : decode cX4_init 59 = .ok (.new 40, 3) := by decide +kernel
theorem dX4_init_62 : decode cX4_init 62 = .ok (.dup, 1) := by decide +kernel
theorem dX4_init_63 : decode cX4_init 63 = .ok (.aload_n 0, 1) := by decide +kernel
theorem dX4_init_64 : decode cX4_init 64 = .ok (.getfield 27, 3) := by decide +kernel
theorem dX4_init_67 : decode cX4_init 67 = .ok (.iload_n 3, 1) := by decide +kernel
theorem dX4_init_68 : decode cX4_init 68 = .ok (.invokespecial 42, 3) := by decide +kernel
theorem dX4_init_71 : decode cX4_init 71 = .ok (.putfield 43, 3) := by decide +kernel
theorem dX4_init_74 : decode cX4_init 74 = .ok (.aload_n 0, 1) := by decide +kernel
theorem dX4_init_75 : decode cX4_init 75 = .ok (.new 47, 3) := by decide +kernel
theorem dX4_init_78 : decode cX4_init 78 = .ok (.dup, 1) := by decide +kernel
theorem dX4_init_79 : decode cX4_init 79 = .ok (.iload_n 3, 1) := by decide +kernel
theorem dX4_init_80 : decode cX4_init 80 = .ok (.sipush 128, 3) := by decide +kernel
theorem dX4_init_83 : decode cX4_init 83 = .ok (.invokestatic 9, 3) := by decide +kernel
theorem dX4_init_86 : decode cX4_init 86 = .ok (.invokespecial 49, 3) := by decide +kernel
theorem dX4_init_89 : decode cX4_init 89 = .ok (.putfield 50, 3) := by decide +kernel
theorem dX4_init_92 : decode cX4_init 92 = .ok (.return_, 1) := by decide +kernel
theorem dX4_give_0 : decode cX4_give 0 = .ok (.aload_n 0, 1) := by decide +kernel
theorem dX4_give_1 : decode cX4_give 1 = .ok (.iload_n 1, 1) := by decide +kernel
theorem dX4_give_2 : decode cX4_give 2 = .ok (.iconst 4, 1) := by decide +kernel
theorem dX4_give_3 : decode cX4_give 3 = .ok (.invokevirtual 54, 3) := by decide +kernel
theorem dX4_give_6 : decode cX4_give 6 = .ok (.ireturn, 1) := by decide +kernel
theorem dX4_giveAligned_0 : decode cX4_giveAligned 0 = .ok (.iload_n 2, 1) := by decide +kernel
theorem dX4_giveAligned_1 : decode cX4_giveAligned 1 = .ok (.iload_n 2, 1) := by decide +kernel
theorem dX4_giveAligned_2 : decode cX4_giveAligned 2 = .ok (.iconst 1, 1) := by decide +kernel
theorem dX4_giveAligned_3 : decode cX4_giveAligned 3 = .ok (.isub, 1) := by decide +kernel
theorem dX4_giveAligned_4 : decode cX4_giveAligned 4 = .ok (.iand, 1) := by decide +kernel
theorem dX4_giveAligned_5 : decode cX4_giveAligned 5 = .ok (.ifCond .ne 7, 3) := by decide +kernel
theorem dX4_giveAligned_8 : decode cX4_giveAligned 8 = .ok (.iconst 1, 1) := by decide +kernel
theorem dX4_giveAligned_9 : decode cX4_giveAligned 9 = .ok (.goto 4, 3) := by decide +kernel
theorem dX4_giveAligned_12 : decode cX4_giveAligned 12 = .ok (.iconst 0, 1) := by decide +kernel
theorem dX4_giveAligned_13 : decode cX4_giveAligned 13 = .ok (.istore_n 3, 1) := by decide +kernel
theorem dX4_giveAligned_14 : decode cX4_giveAligned 14 = .ok (.iload_n 2, 1) := by decide +kernel
theorem dX4_giveAligned_15 : decode cX4_giveAligned 15 = .ok (.iconst 4, 1) := by decide +kernel
theorem dX4_giveAligned_16 : decode cX4_giveAligned 16 = .ok (.if_icmp .lt 14, 3) := by decide +kernel
theorem dX4_giveAligned_19 : decode cX4_giveAligned 19 = .ok (.iload_n 2, 1) := by decide +kernel
theorem dX4_giveAligned_20 : decode cX4_giveAligned 20 = .ok (.sipush 1024, 3) := by decide +kernel
theorem dX4_giveAligned_23 : decode cX4_giveAligned 23 = .ok (.if_icmp .gt 7, 3) := by decide +kernel
theorem dX4_giveAligned_26 : decode cX4_giveAligned 26 = .ok (.iload_n 3, 1) := by decide +kernel
theorem dX4_giveAligned_27 : decode cX4_giveAligned 27 = .ok (.ifCond .ne 5, 3) := by decide +kernel
theorem dX4_giveAligned_30 : decode cX4_giveAligned 30 = .ok (.iconst 0, 1) := by decide +kernel
theorem dX4_giveAligned_31 : decode cX4_giveAligned 31 = .ok (.ireturn, 1) := by decide +kernel
theorem dX4_giveAligned_32 : decode cX4_giveAligned 32 = .ok (.aload_n 0, 1) := by decide +kernel
theorem dX4_giveAligned_33 : decode cX4_giveAligned 33 = .ok (.iload_n 1, 1) := by decide +kernel
theorem dX4_giveAligned_34 : decode cX4_giveAligned 34 = .ok (.iload_n 2, 1) := by decide +kernel
theorem dX4_giveAligned_35 : decode cX4_giveAligned 35 = .ok (.invokevirtual 54, 3) := by decide +kernel
theorem dX4_giveAligned_38 : decode cX4_giveAligned 38 = .ok (.ireturn, 1) := by decide +kernel
theorem dX4_free_0 : decode cX4_free 0 = .ok (.aload_n 0, 1) := by decide +kernel
theorem dX4_free_1 : decode cX4_free 1 = .ok (.getfield 27, 3) := by decide +kernel
theorem dX4_free_4 : decode cX4_free 4 = .ok (.iload_n 1, 1) := by decide +kernel
theorem dX4_free_5 : decode cX4_free 5 = .ok (.invokevirtual 57, 3) := by decide +kernel
theorem dX4_free_8 : decode cX4_free 8 = .ok (.istore_n 2, 1) := by decide +kernel
theorem dX4_free_9 : decode cX4_free 9 = .ok (.iload_n 2, 1) := by decide +kernel
theorem dX4_free_10 : decode cX4_free 10 = .ok (.iconst (-1), 1) := by decide +kernel
theorem dX4_free_11 : decode cX4_free 11 = .ok (.if_icmp .ne 5, 3) := by decide +kernel
theorem dX4_free_14 : decode cX4_free 14 = .ok (.iconst 0, 1) := by decide +kernel
theorem dX4_free_15 : decode cX4_free 15 = .ok (.ireturn, 1) := by decide +kernel
theorem dX4_free_16 : decode cX4_free 16 = .ok (.aload_n 0, 1) := by decide +kernel
theorem dX4_free_17 : decode cX4_free 17 = .ok (.getfield 27, 3) := by decide +kernel
theorem dX4_free_20 : decode cX4_free 20 = .ok (.iload_n 2, 1) := by decide +kernel
theorem dX4_free_21 : decode cX4_free 21 = .ok (.invokevirtual 61, 3) := by decide +kernel
theorem dX4_free_24 : decode cX4_free 24 = .ok (.aload_n 0, 1) := by decide +kernel
theorem dX4_free_25 : decode cX4_free 25 = .ok (.getfield 43, 3) := by decide +kernel
theorem dX4_free_28 : decode cX4_free 28 = .ok (.invokevirtual 64, 3) := by decide +kernel
theorem dX4_free_31 : decode cX4_free 31 = .ok (.iconst 1, 1) := by decide +kernel
theorem dX4_free_32 : decode cX4_free 32 = .ok (.ireturn, 1) := by decide +kernel
theorem dX4_grow_0 : decode cX4_grow 0 = .ok (.aload_n 0, 1) := by decide +kernel
theorem dX4_grow_1 : decode cX4_grow 1 = .ok (.getfield 27, 3) := by decide +kernel
theorem dX4_grow_4 : decode cX4_grow 4 = .ok (.iload_n 1, 1) := by decide +kernel
theorem dX4_grow_5 : decode cX4_grow 5 = .ok (.invokevirtual 57, 3) := by decide +kernel
theorem dX4_grow_8 : decode cX4_grow 8 = .ok (.istore_n 3, 1) := by decide +kernel
theorem dX4_grow_9 : decode cX4_grow 9 = .ok (.iload_n 3, 1) := by decide +kernel
theorem dX4_grow_10 : decode cX4_grow 10 = .ok (.iconst (-1), 1) := by decide +kernel
theorem dX4_grow_11 : decode cX4_grow 11 = .ok (.if_icmp .eq 8, 3) := by decide +kernel
theorem dX4_grow_14 : decode cX4_grow 14 = .ok (.iload_n 2, 1) := by decide +kernel
theorem dX4_grow_15 : decode cX4_grow 15 = .ok (.iconst 1, 1) := by decide +kernel
theorem dX4_grow_16 : decode cX4_grow 16 = .ok (.if_icmp .ge 5, 3) := by decide +kernel
theorem dX4_grow_19 : decode cX4_grow 19 = .ok (.iconst 0, 1) := by decide +kernel
theorem dX4_grow_20 : decode cX4_grow 20 = .ok (.ireturn, 1) := by decide +kernel
theorem dX4_grow_21 : decode cX4_grow 21 = .ok (.aload_n 0, 1) := by decide +kernel
theorem dX4_grow_22 : decode cX4_grow 22 = .ok (.getfield 27, 3) := by decide +kernel
theorem dX4_grow_25 : decode cX4_grow 25 = .ok (.getfield 67, 3) := by decide +kernel
theorem dX4_grow_28 : decode cX4_grow 28 = .ok (.iload_n 3, 1) := by decide +kernel
theorem dX4_grow_29 : decode cX4_grow 29 = .ok (.iaload, 1) := by decide +kernel
theorem dX4_grow_30 : decode cX4_grow 30 = .ok (.istore 4, 2) := by decide +kernel
theorem dX4_grow_32 : decode cX4_grow 32 = .ok (.iload_n 2, 1) := by decide +kernel
theorem dX4_grow_33 : decode cX4_grow 33 = .ok (.invokestatic 70, 3) := by decide +kernel
theorem dX4_grow_36 : decode cX4_grow 36 = .ok (.istore 5, 2) := by decide +kernel
theorem dX4_grow_38 : decode cX4_grow 38 = .ok (.iload 5, 2) := by decide +kernel
theorem dX4_grow_40 : decode cX4_grow 40 = .ok (.iload 4, 2) := by decide +kernel
theorem dX4_grow_42 : decode cX4_grow 42 = .ok (.if_icmp .le 44, 3) := by decide +kernel
theorem dX4_grow_45 : decode cX4_grow 45 = .ok (.aload_n 0, 1) := by decide +kernel
theorem dX4_grow_46 : decode cX4_grow 46 = .ok (.getfield 27, 3) := by decide +kernel
theorem dX4_grow_49 : decode cX4_grow 49 = .ok (.iload_n 3, 1) := by decide +kernel
theorem dX4_grow_50 : decode cX4_grow 50 = .ok (.invokevirtual 73, 3) := by decide +kernel
theorem dX4_grow_53 : decode cX4_grow 53 = .ok (.iload 5, 2) := by decide +kernel
theorem dX4_grow_55 : decode cX4_grow 55 = .ok (.iload 4, 2) := by decide +kernel
theorem dX4_grow_57 : decode cX4_grow 57 = .ok (.isub, 1) := by decide +kernel
theorem dX4_grow_58 : decode cX4_grow 58 = .ok (.if_icmp .ge 5, 3) := by decide +kernel
theorem dX4_grow_61 : decode cX4_grow 61 = .ok (.iconst 0, 1) := by decide +kernel
theorem dX4_grow_62 : decode cX4_grow 62 = .ok (.ireturn, 1) := by decide +kernel
theorem dX4_grow_63 : decode cX4_grow 63 = .ok (.aload_n 0, 1) := by decide +kernel
theorem dX4_grow_64 : decode cX4_grow 64 = .ok (.getfield 27, 3) := by decide +kernel
theorem dX4_grow_67 : decode cX4_grow 67 = .ok (.iload_n 3, 1) := by decide +kernel
theorem dX4_grow_68 : decode cX4_grow 68 = .ok (.iload 5, 2) := by decide +kernel
theorem dX4_grow_70 : decode cX4_grow 70 = .ok (.invokevirtual 76, 3) := by decide +kernel
theorem dX4_grow_73 : decode cX4_grow 73 = .ok (.aload_n 0, 1) := by decide +kernel
theorem dX4_grow_74 : decode cX4_grow 74 = .ok (.iload_n 1, 1) := by decide +kernel
theorem dX4_grow_75 : decode cX4_grow 75 = .ok (.iload 4, 2) := by decide +kernel
theorem dX4_grow_77 : decode cX4_grow 77 = .ok (.iconst 1, 1) := by decide +kernel
theorem dX4_grow_78 : decode cX4_grow 78 = .ok (.isub, 1) := by decide +kernel
theorem dX4_grow_79 : decode cX4_grow 79 = .ok (.iload 5, 2) := by decide +kernel
theorem dX4_grow_81 : decode cX4_grow 81 = .ok (.iconst 1, 1) := by decide +kernel
theorem dX4_grow_82 : decode cX4_grow 82 = .ok (.isub, 1) := by decide +kernel
theorem dX4_grow_83 : decode cX4_grow 83 = .ok (.invokevirtual 80, 3) := by decide +kernel
theorem dX4_grow_86 : decode cX4_grow 86 = .ok (.aload_n 0, 1) := by decide +kernel
theorem dX4_grow_87 : decode cX4_grow 87 = .ok (.getfield 43, 3) := by decide +kernel
theorem dX4_grow_90 : decode cX4_grow 90 = .ok (.invokevirtual 64, 3) := by decide +kernel
theorem dX4_grow_93 : decode cX4_grow 93 = .ok (.iconst 1, 1) := by decide +kernel
theorem dX4_grow_94 : decode cX4_grow 94 = .ok (.ireturn, 1) := by decide +kernel
theorem dX4_trim_0 : decode cX4_trim 0 = .ok (.aload_n 0, 1) := by decide +kernel
theorem dX4_trim_1 : decode cX4_trim 1 = .ok (.getfield 27, 3) := by decide +kernel
theorem dX4_trim_4 : decode cX4_trim 4 = .ok (.iload_n 1, 1) := by decide +kernel
theorem dX4_trim_5 : decode cX4_trim 5 = .ok (.invokevirtual 57, 3) := by decide +kernel
theorem dX4_trim_8 : decode cX4_trim 8 = .ok (.istore_n 3, 1) := by decide +kernel
theorem dX4_trim_9 : decode cX4_trim 9 = .ok (.iload_n 3, 1) := by decide +kernel
theorem dX4_trim_10 : decode cX4_trim 10 = .ok (.iconst (-1), 1) := by decide +kernel
theorem dX4_trim_11 : decode cX4_trim 11 = .ok (.if_icmp .eq 8, 3) := by decide +kernel
theorem dX4_trim_14 : decode cX4_trim 14 = .ok (.iload_n 2, 1) := by decide +kernel
theorem dX4_trim_15 : decode cX4_trim 15 = .ok (.iconst 1, 1) := by decide +kernel
theorem dX4_trim_16 : decode cX4_trim 16 = .ok (.if_icmp .ge 5, 3) := by decide +kernel
theorem dX4_trim_19 : decode cX4_trim 19 = .ok (.iconst 0, 1) := by decide +kernel
theorem dX4_trim_20 : decode cX4_trim 20 = .ok (.ireturn, 1) := by decide +kernel
theorem dX4_trim_21 : decode cX4_trim 21 = .ok (.iload_n 2, 1) := by decide +kernel
theorem dX4_trim_22 : decode cX4_trim 22 = .ok (.invokestatic 70, 3) := by decide +kernel
theorem dX4_trim_25 : decode cX4_trim 25 = .ok (.istore 4, 2) := by decide +kernel
theorem dX4_trim_27 : decode cX4_trim 27 = .ok (.iload 4, 2) := by decide +kernel
theorem dX4_trim_29 : decode cX4_trim 29 = .ok (.aload_n 0, 1) := by decide +kernel
theorem dX4_trim_30 : decode cX4_trim 30 = .ok (.getfield 27, 3) := by decide +kernel
theorem dX4_trim_33 : decode cX4_trim 33 = .ok (.getfield 67, 3) := by decide +kernel
theorem dX4_trim_36 : decode cX4_trim 36 = .ok (.iload_n 3, 1) := by decide +kernel
theorem dX4_trim_37 : decode cX4_trim 37 = .ok (.iaload, 1) := by decide +kernel
theorem dX4_trim_38 : decode cX4_trim 38 = .ok (.if_icmp .le 5, 3) := by decide +kernel
theorem dX4_trim_41 : decode cX4_trim 41 = .ok (.iconst 0, 1) := by decide +kernel
theorem dX4_trim_42 : decode cX4_trim 42 = .ok (.ireturn, 1) := by decide +kernel
theorem dX4_trim_43 : decode cX4_trim 43 = .ok (.aload_n 0, 1) := by decide +kernel
theorem dX4_trim_44 : decode cX4_trim 44 = .ok (.getfield 27, 3) := by decide +kernel
theorem dX4_trim_47 : decode cX4_trim 47 = .ok (.iload_n 3, 1) := by decide +kernel
theorem dX4_trim_48 : decode cX4_trim 48 = .ok (.iload 4, 2) := by decide +kernel
theorem dX4_trim_50 : decode cX4_trim 50 = .ok (.invokevirtual 84, 3) := by decide +kernel
theorem dX4_trim_53 : decode cX4_trim 53 = .ok (.aload_n 0, 1) := by decide +kernel
theorem dX4_trim_54 : decode cX4_trim 54 = .ok (.getfield 43, 3) := by decide +kernel
theorem dX4_trim_57 : decode cX4_trim 57 = .ok (.invokevirtual 64, 3) := by decide +kernel
theorem dX4_trim_60 : decode cX4_trim 60 = .ok (.iconst 1, 1) := by decide +kernel
theorem dX4_trim_61 : decode cX4_trim 61 = .ok (.ireturn, 1) := by decide +kernel
theorem dX4_pin_0 : decode cX4_pin 0 = .ok (.aload_n 0, 1) := by decide +kernel
theorem dX4_pin_1 : decode cX4_pin 1 = .ok (.getfield 27, 3) := by decide +kernel
theorem dX4_pin_4 : decode cX4_pin 4 = .ok (.iload_n 1, 1) := by decide +kernel
theorem dX4_pin_5 : decode cX4_pin 5 = .ok (.invokevirtual 57, 3) := by decide +kernel
theorem dX4_pin_8 : decode cX4_pin 8 = .ok (.istore_n 3, 1) := by decide +kernel
theorem dX4_pin_9 : decode cX4_pin 9 = .ok (.iload_n 3, 1) := by decide +kernel
theorem dX4_pin_10 : decode cX4_pin 10 = .ok (.iconst (-1), 1) := by decide +kernel
theorem dX4_pin_11 : decode cX4_pin 11 = .ok (.if_icmp .ne 5, 3) := by decide +kernel
theorem dX4_pin_14 : decode cX4_pin 14 = .ok (.iconst 0, 1) := by decide +kernel
theorem dX4_pin_15 : decode cX4_pin 15 = .ok (.ireturn, 1) := by decide +kernel
theorem dX4_pin_16 : decode cX4_pin 16 = .ok (.aload_n 0, 1) := by decide +kernel
theorem dX4_pin_17 : decode cX4_pin 17 = .ok (.getfield 27, 3) := by decide +kernel
theorem dX4_pin_20 : decode cX4_pin 20 = .ok (.getfield 87, 3) := by decide +kernel
theorem dX4_pin_23 : decode cX4_pin 23 = .ok (.iload_n 3, 1) := by decide +kernel
theorem dX4_pin_24 : decode cX4_pin 24 = .ok (.iload_n 2, 1) := by decide +kernel
theorem dX4_pin_25 : decode cX4_pin 25 = .ok (.ifCond .eq 7, 3) := by decide +kernel
theorem dX4_pin_28 : decode cX4_pin 28 = .ok (.iconst 2, 1) := by decide +kernel
theorem dX4_pin_29 : decode cX4_pin 29 = .ok (.goto 4, 3) := by decide +kernel
theorem dX4_pin_32 : decode cX4_pin 32 = .ok (.iconst 1, 1) := by decide +kernel
theorem dX4_pin_33 : decode cX4_pin 33 = .ok (.iastore, 1) := by decide +kernel
theorem dX4_pin_34 : decode cX4_pin 34 = .ok (.aload_n 0, 1) := by decide +kernel
theorem dX4_pin_35 : decode cX4_pin 35 = .ok (.getfield 43, 3) := by decide +kernel
theorem dX4_pin_38 : decode cX4_pin 38 = .ok (.invokevirtual 64, 3) := by decide +kernel
theorem dX4_pin_41 : decode cX4_pin 41 = .ok (.iconst 1, 1) := by decide +kernel
theorem dX4_pin_42 : decode cX4_pin 42 = .ok (.ireturn, 1) := by decide +kernel
theorem dX4_get_0 : decode cX4_get 0 = .ok (.aload_n 0, 1) := by decide +kernel
theorem dX4_get_1 : decode cX4_get 1 = .ok (.getfield 18, 3) := by decide +kernel
theorem dX4_get_4 : decode cX4_get 4 = .ok (.aload_n 0, 1) := by decide +kernel
theorem dX4_get_5 : decode cX4_get 5 = .ok (.iload_n 1, 1) := by decide +kernel
theorem dX4_get_6 : decode cX4_get 6 = .ok (.iload_n 2, 1) := by decide +kernel
theorem dX4_get_7 : decode cX4_get 7 = .ok (.invokevirtual 90, 3) := by decide +kernel
theorem dX4_get_10 : decode cX4_get 10 = .ok (.iaload, 1) := by decide +kernel
theorem dX4_get_11 : decode cX4_get 11 = .ok (.ireturn, 1) := by decide +kernel
theorem dX4_set_0 : decode cX4_set 0 = .ok (.aload_n 0, 1) := by decide +kernel
theorem dX4_set_1 : decode cX4_set 1 = .ok (.iload_n 1, 1) := by decide +kernel
theorem dX4_set_2 : decode cX4_set 2 = .ok (.iload_n 2, 1) := by decide +kernel
theorem dX4_set_3 : decode cX4_set 3 = .ok (.invokevirtual 90, 3) := by decide +kernel
theorem dX4_set_6 : decode cX4_set 6 = .ok (.istore 4, 2) := by decide +kernel
theorem dX4_set_8 : decode cX4_set 8 = .ok (.aload_n 0, 1) := by decide +kernel
theorem dX4_set_9 : decode cX4_set 9 = .ok (.getfield 18, 3) := by decide +kernel
theorem dX4_set_12 : decode cX4_set 12 = .ok (.iload 4, 2) := by decide +kernel
theorem dX4_set_14 : decode cX4_set 14 = .ok (.iaload, 1) := by decide +kernel
theorem dX4_set_15 : decode cX4_set 15 = .ok (.istore 5, 2) := by decide +kernel
theorem dX4_set_17 : decode cX4_set 17 = .ok (.aload_n 0, 1) := by decide +kernel
theorem dX4_set_18 : decode cX4_set 18 = .ok (.getfield 18, 3) := by decide +kernel
theorem dX4_set_21 : decode cX4_set 21 = .ok (.iload 4, 2) := by decide +kernel
theorem dX4_set_23 : decode cX4_set 23 = .ok (.iload_n 3, 1) := by decide +kernel
theorem dX4_set_24 : decode cX4_set 24 = .ok (.iastore, 1) := by decide +kernel
theorem dX4_set_25 : decode cX4_set 25 = .ok (.iload 5, 2) := by decide +kernel
theorem dX4_set_27 : decode cX4_set 27 = .ok (.ireturn, 1) := by decide +kernel
theorem dX4_sizeOf_0 : decode cX4_sizeOf 0 = .ok (.aload_n 0, 1) := by decide +kernel
theorem dX4_sizeOf_1 : decode cX4_sizeOf 1 = .ok (.getfield 27, 3) := by decide +kernel
theorem dX4_sizeOf_4 : decode cX4_sizeOf 4 = .ok (.iload_n 1, 1) := by decide +kernel
theorem dX4_sizeOf_5 : decode cX4_sizeOf 5 = .ok (.invokevirtual 57, 3) := by decide +kernel
theorem dX4_sizeOf_8 : decode cX4_sizeOf 8 = .ok (.istore_n 2, 1) := by decide +kernel
theorem dX4_sizeOf_9 : decode cX4_sizeOf 9 = .ok (.iload_n 2, 1) := by decide +kernel
theorem dX4_sizeOf_10 : decode cX4_sizeOf 10 = .ok (.iconst (-1), 1) := by decide +kernel
theorem dX4_sizeOf_11 : decode cX4_sizeOf 11 = .ok (.if_icmp .ne 7, 3) := by decide +kernel
theorem dX4_sizeOf_14 : decode cX4_sizeOf 14 = .ok (.iconst (-1), 1) := by decide +kernel
theorem dX4_sizeOf_15 : decode cX4_sizeOf 15 = .ok (.goto 14, 3) := by decide +kernel
theorem dX4_sizeOf_18 : decode cX4_sizeOf 18 = .ok (.aload_n 0, 1) := by decide +kernel
theorem dX4_sizeOf_19 : decode cX4_sizeOf 19 = .ok (.getfield 27, 3) := by decide +kernel
theorem dX4_sizeOf_22 : decode cX4_sizeOf 22 = .ok (.getfield 67, 3) := by decide +kernel
theorem dX4_sizeOf_25 : decode cX4_sizeOf 25 = .ok (.iload_n 2, 1) := by decide +kernel
theorem dX4_sizeOf_26 : decode cX4_sizeOf 26 = .ok (.iaload, 1) := by decide +kernel
theorem dX4_sizeOf_27 : decode cX4_sizeOf 27 = .ok (.iconst 1, 1) := by decide +kernel
theorem dX4_sizeOf_28 : decode cX4_sizeOf 28 = .ok (.isub, 1) := by decide +kernel
theorem dX4_sizeOf_29 : decode cX4_sizeOf 29 = .ok (.ireturn, 1) := by decide +kernel
theorem dX4_largest_0 : decode cX4_largest 0 = .ok (.aload_n 0, 1) := by decide +kernel
theorem dX4_largest_1 : decode cX4_largest 1 = .ok (.getfield 27, 3) := by decide +kernel
theorem dX4_largest_4 : decode cX4_largest 4 = .ok (.invokevirtual 93, 3) := by decide +kernel
theorem dX4_largest_7 : decode cX4_largest 7 = .ok (.ireturn, 1) := by decide +kernel
theorem dX4_count_0 : decode cX4_count 0 = .ok (.iload_n 1, 1) := by decide +kernel
theorem dX4_count_1 : decode cX4_count 1 = .ok (.tableswitch 78 0 4 #[35, 43, 51, 59, 70], 35) := by decide +kernel
theorem dX4_count_36 : decode cX4_count 36 = .ok (.aload_n 0, 1) := by decide +kernel
theorem dX4_count_37 : decode cX4_count 37 = .ok (.getfield 27, 3) := by decide +kernel
theorem dX4_count_40 : decode cX4_count 40 = .ok (.invokevirtual 97, 3) := by decide +kernel
theorem dX4_count_43 : decode cX4_count 43 = .ok (.ireturn, 1) := by decide +kernel
theorem dX4_count_44 : decode cX4_count 44 = .ok (.aload_n 0, 1) := by decide +kernel
theorem dX4_count_45 : decode cX4_count 45 = .ok (.getfield 27, 3) := by decide +kernel
theorem dX4_count_48 : decode cX4_count 48 = .ok (.invokevirtual 100, 3) := by decide +kernel
theorem dX4_count_51 : decode cX4_count 51 = .ok (.ireturn, 1) := by decide +kernel
theorem dX4_count_52 : decode cX4_count 52 = .ok (.aload_n 0, 1) := by decide +kernel
theorem dX4_count_53 : decode cX4_count 53 = .ok (.getfield 27, 3) := by decide +kernel
theorem dX4_count_56 : decode cX4_count 56 = .ok (.invokevirtual 103, 3) := by decide +kernel
theorem dX4_count_59 : decode cX4_count 59 = .ok (.ireturn, 1) := by decide +kernel
theorem dX4_count_60 : decode cX4_count 60 = .ok (.aload_n 0, 1) := by decide +kernel
theorem dX4_count_61 : decode cX4_count 61 = .ok (.getfield 43, 3) := by decide +kernel
theorem dX4_count_64 : decode cX4_count 64 = .ok (.getfield 106, 3) := by decide +kernel
theorem dX4_count_67 : decode cX4_count 67 = .ok (.getfield 109, 3) := by decide +kernel
theorem dX4_count_70 : decode cX4_count 70 = .ok (.ireturn, 1) := by decide +kernel
theorem dX4_count_71 : decode cX4_count 71 = .ok (.aload_n 0, 1) := by decide +kernel
theorem dX4_count_72 : decode cX4_count 72 = .ok (.getfield 36, 3) := by decide +kernel
theorem dX4_count_75 : decode cX4_count 75 = .ok (.invokevirtual 113, 3) := by decide +kernel
theorem dX4_count_78 : decode cX4_count 78 = .ok (.ireturn, 1) := by decide +kernel
theorem dX4_count_79 : decode cX4_count 79 = .ok (.iconst (-1), 1) := by decide +kernel
theorem dX4_count_80 : decode cX4_count 80 = .ok (.ireturn, 1) := by decide +kernel
theorem dX4_freeAt_0 : decode cX4_freeAt 0 = .ok (.aload_n 0, 1) := by decide +kernel
theorem dX4_freeAt_1 : decode cX4_freeAt 1 = .ok (.getfield 27, 3) := by decide +kernel
theorem dX4_freeAt_4 : decode cX4_freeAt 4 = .ok (.iload_n 1, 1) := by decide +kernel
theorem dX4_freeAt_5 : decode cX4_freeAt 5 = .ok (.invokevirtual 116, 3) := by decide +kernel
theorem dX4_freeAt_8 : decode cX4_freeAt 8 = .ok (.ireturn, 1) := by decide +kernel
theorem dX4_branch_0 : decode cX4_branch 0 = .ok (.aload_n 0, 1) := by decide +kernel
theorem dX4_branch_1 : decode cX4_branch 1 = .ok (.getfield 27, 3) := by decide +kernel
theorem dX4_branch_4 : decode cX4_branch 4 = .ok (.iload_n 1, 1) := by decide +kernel
theorem dX4_branch_5 : decode cX4_branch 5 = .ok (.invokevirtual 119, 3) := by decide +kernel
theorem dX4_branch_8 : decode cX4_branch 8 = .ok (.istore_n 3, 1) := by decide +kernel
theorem dX4_branch_9 : decode cX4_branch 9 = .ok (.iload_n 3, 1) := by decide +kernel
theorem dX4_branch_10 : decode cX4_branch 10 = .ok (.iconst (-1), 1) := by decide +kernel
theorem dX4_branch_11 : decode cX4_branch 11 = .ok (.if_icmp .ne 13, 3) := by decide +kernel
theorem dX4_branch_14 : decode cX4_branch 14 = .ok (.new 122, 3) := by decide +kernel
theorem dX4_branch_17 : decode cX4_branch 17 = .ok (.dup, 1) := by decide +kernel
theorem dX4_branch_18 : decode cX4_branch 18 = .ok (.ldc 124, 2) := by decide +kernel
theorem dX4_branch_20 : decode cX4_branch 20 = .ok (.invokespecial 126, 3) := by decide +kernel
theorem dX4_branch_23 : decode cX4_branch 23 = .ok (.athrow, 1) := by decide +kernel
theorem dX4_branch_24 : decode cX4_branch 24 = .ok (.iload_n 2, 1) := by decide +kernel
theorem dX4_branch_25 : decode cX4_branch 25 = .ok (.tableswitch 55 0 2 #[27, 36, 45], 27) := by decide +kernel
theorem dX4_branch_52 : decode cX4_branch 52 = .ok (.aload_n 0, 1) := by decide +kernel
theorem dX4_branch_53 : decode cX4_branch 53 = .ok (.getfield 36, 3) := by decide +kernel
theorem dX4_branch_56 : decode cX4_branch 56 = .ok (.iload_n 3, 1) := by decide +kernel
theorem dX4_branch_57 : decode cX4_branch 57 = .ok (.invokevirtual 129, 3) := by decide +kernel
theorem dX4_branch_60 : decode cX4_branch 60 = .ok (.ireturn, 1) := by decide +kernel
theorem dX4_branch_61 : decode cX4_branch 61 = .ok (.aload_n 0, 1) := by decide +kernel
theorem dX4_branch_62 : decode cX4_branch 62 = .ok (.getfield 36, 3) := by decide +kernel
theorem dX4_branch_65 : decode cX4_branch 65 = .ok (.iload_n 3, 1) := by decide +kernel
theorem dX4_branch_66 : decode cX4_branch 66 = .ok (.invokevirtual 132, 3) := by decide +kernel
theorem dX4_branch_69 : decode cX4_branch 69 = .ok (.ireturn, 1) := by decide +kernel
theorem dX4_branch_70 : decode cX4_branch 70 = .ok (.aload_n 0, 1) := by decide +kernel
theorem dX4_branch_71 : decode cX4_branch 71 = .ok (.getfield 27, 3) := by decide +kernel
theorem dX4_branch_74 : decode cX4_branch 74 = .ok (.getfield 67, 3) := by decide +kernel
theorem dX4_branch_77 : decode cX4_branch 77 = .ok (.iload_n 3, 1) := by decide +kernel
theorem dX4_branch_78 : decode cX4_branch 78 = .ok (.iaload, 1) := by decide +kernel
theorem dX4_branch_79 : decode cX4_branch 79 = .ok (.ireturn, 1) := by decide +kernel
theorem dX4_branch_80 : decode cX4_branch 80 = .ok (.new 135, 3) := by decide +kernel
theorem dX4_branch_83 : decode cX4_branch 83 = .ok (.dup, 1) := by decide +kernel
theorem dX4_branch_84 : decode cX4_branch 84 = .ok (.ldc 137, 2) := by decide +kernel
theorem dX4_branch_86 : decode cX4_branch 86 = .ok (.invokespecial 139, 3) := by decide +kernel
theorem dX4_branch_89 : decode cX4_branch 89 = .ok (.athrow, 1) := by decide +kernel
theorem dX4_advise_0 : decode cX4_advise 0 = .ok (.aload_n 0, 1) := by decide +kernel
theorem dX4_advise_1 : decode cX4_advise 1 = .ok (.getfield 43, 3) := by decide +kernel
theorem dX4_advise_4 : decode cX4_advise 4 = .ok (.invokevirtual 64, 3) := by decide +kernel
theorem dX4_advise_7 : decode cX4_advise 7 = .ok (.iload_n 1, 1) := by decide +kernel
theorem dX4_advise_8 : decode cX4_advise 8 = .ok (.iconst 1, 1) := by decide +kernel
theorem dX4_advise_9 : decode cX4_advise 9 = .ok (.if_icmp .lt 16, 3) := by decide +kernel
theorem dX4_advise_12 : decode cX4_advise 12 = .ok (.aload_n 0, 1) := by decide +kernel
theorem dX4_advise_13 : decode cX4_advise 13 = .ok (.getfield 27, 3) := by decide +kernel
theorem dX4_advise_16 : decode cX4_advise 16 = .ok (.invokevirtual 103, 3) := by decide +kernel
theorem dX4_advise_19 : decode cX4_advise 19 = .ok (.sipush 128, 3) := by decide +kernel
theorem dX4_advise_22 : decode cX4_advise 22 = .ok (.if_icmp .le 5, 3) := by decide +kernel
theorem dX4_advise_25 : decode cX4_advise 25 = .ok (.iconst (-1), 1) := by decide +kernel
theorem dX4_advise_26 : decode cX4_advise 26 = .ok (.ireturn, 1) := by decide +kernel
theorem dX4_advise_27 : decode cX4_advise 27 = .ok (.aload_n 0, 1) := by decide +kernel
theorem dX4_advise_28 : decode cX4_advise 28 = .ok (.getfield 43, 3) := by decide +kernel
theorem dX4_advise_31 : decode cX4_advise 31 = .ok (.iload_n 1, 1) := by decide +kernel
theorem dX4_advise_32 : decode cX4_advise 32 = .ok (.invokevirtual 140, 3) := by decide +kernel
theorem dX4_advise_35 : decode cX4_advise 35 = .ok (.aload_n 0, 1) := by decide +kernel
theorem dX4_advise_36 : decode cX4_advise 36 = .ok (.getfield 43, 3) := by decide +kernel
theorem dX4_advise_39 : decode cX4_advise 39 = .ok (.getfield 143, 3) := by decide +kernel
theorem dX4_advise_42 : decode cX4_advise 42 = .ok (.ifCond .eq 16, 3) := by decide +kernel
theorem dX4_advise_45 : decode cX4_advise 45 = .ok (.aload_n 0, 1) := by decide +kernel
theorem dX4_advise_46 : decode cX4_advise 46 = .ok (.getfield 43, 3) := by decide +kernel
theorem dX4_advise_49 : decode cX4_advise 49 = .ok (.getfield 106, 3) := by decide +kernel
theorem dX4_advise_52 : decode cX4_advise 52 = .ok (.getfield 109, 3) := by decide +kernel
theorem dX4_advise_55 : decode cX4_advise 55 = .ok (.goto 4, 3) := by decide +kernel
theorem dX4_advise_58 : decode cX4_advise 58 = .ok (.iconst (-1), 1) := by decide +kernel
theorem dX4_advise_59 : decode cX4_advise 59 = .ok (.ireturn, 1) := by decide +kernel
theorem dX4_window_0 : decode cX4_window 0 = .ok (.aload_n 0, 1) := by decide +kernel
theorem dX4_window_1 : decode cX4_window 1 = .ok (.getfield 43, 3) := by decide +kernel
theorem dX4_window_4 : decode cX4_window 4 = .ok (.getfield 143, 3) := by decide +kernel
theorem dX4_window_7 : decode cX4_window 7 = .ok (.ifCond .eq 13, 3) := by decide +kernel
theorem dX4_window_10 : decode cX4_window 10 = .ok (.aload_n 0, 1) := by decide +kernel
theorem dX4_window_11 : decode cX4_window 11 = .ok (.getfield 43, 3) := by decide +kernel
theorem dX4_window_14 : decode cX4_window 14 = .ok (.getfield 147, 3) := by decide +kernel
theorem dX4_window_17 : decode cX4_window 17 = .ok (.goto 4, 3) := by decide +kernel
theorem dX4_window_20 : decode cX4_window 20 = .ok (.iconst (-1), 1) := by decide +kernel
theorem dX4_window_21 : decode cX4_window 21 = .ok (.ireturn, 1) := by decide +kernel
theorem dX4_move_0 : decode cX4_move 0 = .ok (.aload_n 0, 1) := by decide +kernel
theorem dX4_move_1 : decode cX4_move 1 = .ok (.getfield 43, 3) := by decide +kernel
theorem dX4_move_4 : decode cX4_move 4 = .ok (.getfield 106, 3) := by decide +kernel
theorem dX4_move_7 : decode cX4_move 7 = .ok (.astore_n 3, 1) := by decide +kernel
theorem dX4_move_8 : decode cX4_move 8 = .ok (.iload_n 1, 1) := by decide +kernel
theorem dX4_move_9 : decode cX4_move 9 = .ok (.ifCond .lt 11, 3) := by decide +kernel
theorem dX4_move_12 : decode cX4_move 12 = .ok (.iload_n 1, 1) := by decide +kernel
theorem dX4_move_13 : decode cX4_move 13 = .ok (.aload_n 3, 1) := by decide +kernel
theorem dX4_move_14 : decode cX4_move 14 = .ok (.getfield 109, 3) := by decide +kernel
theorem dX4_move_17 : decode cX4_move 17 = .ok (.if_icmp .lt 13, 3) := by decide +kernel
theorem dX4_move_20 : decode cX4_move 20 = .ok (.new 150, 3) := by decide +kernel
theorem dX4_move_23 : decode cX4_move 23 = .ok (.dup, 1) := by decide +kernel
theorem dX4_move_24 : decode cX4_move 24 = .ok (.ldc 152, 2) := by decide +kernel
theorem dX4_move_26 : decode cX4_move 26 = .ok (.invokespecial 154, 3) := by decide +kernel
theorem dX4_move_29 : decode cX4_move 29 = .ok (.athrow, 1) := by decide +kernel
theorem dX4_move_30 : decode cX4_move 30 = .ok (.iload_n 2, 1) := by decide +kernel
theorem dX4_move_31 : decode cX4_move 31 = .ok (.ifCond .eq 18, 3) := by decide +kernel
theorem dX4_move_34 : decode cX4_move 34 = .ok (.iload_n 2, 1) := by decide +kernel
theorem dX4_move_35 : decode cX4_move 35 = .ok (.iconst 1, 1) := by decide +kernel
theorem dX4_move_36 : decode cX4_move 36 = .ok (.if_icmp .eq 13, 3) := by decide +kernel
theorem dX4_move_39 : decode cX4_move 39 = .ok (.new 135, 3) := by decide +kernel
theorem dX4_move_42 : decode cX4_move 42 = .ok (.dup, 1) := by decide +kernel
theorem dX4_move_43 : decode cX4_move 43 = .ok (.ldc 155, 2) := by decide +kernel
theorem dX4_move_45 : decode cX4_move 45 = .ok (.invokespecial 139, 3) := by decide +kernel
theorem dX4_move_48 : decode cX4_move 48 = .ok (.athrow, 1) := by decide +kernel
theorem dX4_move_49 : decode cX4_move 49 = .ok (.iload_n 2, 1) := by decide +kernel
theorem dX4_move_50 : decode cX4_move 50 = .ok (.ifCond .ne 12, 3) := by decide +kernel
theorem dX4_move_53 : decode cX4_move 53 = .ok (.aload_n 3, 1) := by decide +kernel
theorem dX4_move_54 : decode cX4_move 54 = .ok (.getfield 157, 3) := by decide +kernel
theorem dX4_move_57 : decode cX4_move 57 = .ok (.iload_n 1, 1) := by decide +kernel
theorem dX4_move_58 : decode cX4_move 58 = .ok (.iaload, 1) := by decide +kernel
theorem dX4_move_59 : decode cX4_move 59 = .ok (.goto 9, 3) := by decide +kernel
theorem dX4_move_62 : decode cX4_move 62 = .ok (.aload_n 3, 1) := by decide +kernel
theorem dX4_move_63 : decode cX4_move 63 = .ok (.getfield 160, 3) := by decide +kernel
theorem dX4_move_66 : decode cX4_move 66 = .ok (.iload_n 1, 1) := by decide +kernel
theorem dX4_move_67 : decode cX4_move 67 = .ok (.iaload, 1) := by decide +kernel
theorem dX4_move_68 : decode cX4_move 68 = .ok (.ireturn, 1) := by decide +kernel
theorem dX4_apply_0 : decode cX4_apply 0 = .ok (.aload_n 0, 1) := by decide +kernel
theorem dX4_apply_1 : decode cX4_apply 1 = .ok (.getfield 43, 3) := by decide +kernel
theorem dX4_apply_4 : decode cX4_apply 4 = .ok (.getfield 143, 3) := by decide +kernel
theorem dX4_apply_7 : decode cX4_apply 7 = .ok (.ifCond .ne 5, 3) := by decide +kernel
theorem dX4_apply_10 : decode cX4_apply 10 = .ok (.iconst (-1), 1) := by decide +kernel
theorem dX4_apply_11 : decode cX4_apply 11 = .ok (.ireturn, 1) := by decide +kernel
theorem dX4_apply_12 : decode cX4_apply 12 = .ok (.aload_n 0, 1) := by decide +kernel
theorem dX4_apply_13 : decode cX4_apply 13 = .ok (.getfield 50, 3) := by decide +kernel
theorem dX4_apply_16 : decode cX4_apply 16 = .ok (.aload_n 0, 1) := by decide +kernel
theorem dX4_apply_17 : decode cX4_apply 17 = .ok (.getfield 43, 3) := by decide +kernel
theorem dX4_apply_20 : decode cX4_apply 20 = .ok (.getfield 106, 3) := by decide +kernel
theorem dX4_apply_23 : decode cX4_apply 23 = .ok (.invokevirtual 163, 3) := by decide +kernel
theorem dX4_apply_26 : decode cX4_apply 26 = .ok (.aload_n 0, 1) := by decide +kernel
theorem dX4_apply_27 : decode cX4_apply 27 = .ok (.getfield 43, 3) := by decide +kernel
theorem dX4_apply_30 : decode cX4_apply 30 = .ok (.invokevirtual 64, 3) := by decide +kernel
theorem dX4_apply_33 : decode cX4_apply 33 = .ok (.iconst 0, 1) := by decide +kernel
theorem dX4_apply_34 : decode cX4_apply 34 = .ok (.istore_n 1, 1) := by decide +kernel
theorem dX4_apply_35 : decode cX4_apply 35 = .ok (.iload_n 1, 1) := by decide +kernel
theorem dX4_apply_36 : decode cX4_apply 36 = .ok (.aload_n 0, 1) := by decide +kernel
theorem dX4_apply_37 : decode cX4_apply 37 = .ok (.getfield 50, 3) := by decide +kernel
theorem dX4_apply_40 : decode cX4_apply 40 = .ok (.getfield 109, 3) := by decide +kernel
theorem dX4_apply_43 : decode cX4_apply 43 = .ok (.if_icmp .ge 31, 3) := by decide +kernel
theorem dX4_apply_46 : decode cX4_apply 46 = .ok (.aload_n 0, 1) := by decide +kernel
theorem dX4_apply_47 : decode cX4_apply 47 = .ok (.aload_n 0, 1) := by decide +kernel
theorem dX4_apply_48 : decode cX4_apply 48 = .ok (.getfield 50, 3) := by decide +kernel
theorem dX4_apply_51 : decode cX4_apply 51 = .ok (.getfield 157, 3) := by decide +kernel
theorem dX4_apply_54 : decode cX4_apply 54 = .ok (.iload_n 1, 1) := by decide +kernel
theorem dX4_apply_55 : decode cX4_apply 55 = .ok (.iaload, 1) := by decide +kernel
theorem dX4_apply_56 : decode cX4_apply 56 = .ok (.aload_n 0, 1) := by decide +kernel
theorem dX4_apply_57 : decode cX4_apply 57 = .ok (.getfield 50, 3) := by decide +kernel
theorem dX4_apply_60 : decode cX4_apply 60 = .ok (.getfield 160, 3) := by decide +kernel
theorem dX4_apply_63 : decode cX4_apply 63 = .ok (.iload_n 1, 1) := by decide +kernel
theorem dX4_apply_64 : decode cX4_apply 64 = .ok (.iaload, 1) := by decide +kernel
theorem dX4_apply_65 : decode cX4_apply 65 = .ok (.invokevirtual 167, 3) := by decide +kernel
theorem dX4_apply_68 : decode cX4_apply 68 = .ok (.iinc 1 1, 3) := by decide +kernel
theorem dX4_apply_71 : decode cX4_apply 71 = .ok (.goto (-36), 3) := by decide +kernel
theorem dX4_apply_74 : decode cX4_apply 74 = .ok (.iconst 0, 1) := by decide +kernel
theorem dX4_apply_75 : decode cX4_apply 75 = .ok (.istore_n 1, 1) := by decide +kernel
theorem dX4_apply_76 : decode cX4_apply 76 = .ok (.iload_n 1, 1) := by decide +kernel
theorem dX4_apply_77 : decode cX4_apply 77 = .ok (.aload_n 0, 1) := by decide +kernel
theorem dX4_apply_78 : decode cX4_apply 78 = .ok (.getfield 50, 3) := by decide +kernel
theorem dX4_apply_81 : decode cX4_apply 81 = .ok (.getfield 109, 3) := by decide +kernel
theorem dX4_apply_84 : decode cX4_apply 84 = .ok (.if_icmp .ge 22, 3) := by decide +kernel
theorem dX4_apply_87 : decode cX4_apply 87 = .ok (.aload_n 0, 1) := by decide +kernel
theorem dX4_apply_88 : decode cX4_apply 88 = .ok (.aload_n 0, 1) := by decide +kernel
theorem dX4_apply_89 : decode cX4_apply 89 = .ok (.getfield 50, 3) := by decide +kernel
theorem dX4_apply_92 : decode cX4_apply 92 = .ok (.getfield 157, 3) := by decide +kernel
theorem dX4_apply_95 : decode cX4_apply 95 = .ok (.iload_n 1, 1) := by decide +kernel
theorem dX4_apply_96 : decode cX4_apply 96 = .ok (.iaload, 1) := by decide +kernel
theorem dX4_apply_97 : decode cX4_apply 97 = .ok (.invokevirtual 170, 3) := by decide +kernel
theorem dX4_apply_100 : decode cX4_apply 100 = .ok (.iinc 1 1, 3) := by decide +kernel
theorem dX4_apply_103 : decode cX4_apply 103 = .ok (.goto (-27), 3) := by decide +kernel
theorem dX4_apply_106 : decode cX4_apply 106 = .ok (.aload_n 0, 1) := by decide +kernel
theorem dX4_apply_107 : decode cX4_apply 107 = .ok (.getfield 50, 3) := by decide +kernel
theorem dX4_apply_110 : decode cX4_apply 110 = .ok (.getfield 109, 3) := by decide +kernel
theorem dX4_apply_113 : decode cX4_apply 113 = .ok (.ireturn, 1) := by decide +kernel
theorem dX4_moved_0 : decode cX4_moved 0 = .ok (.aload_n 0, 1) := by decide +kernel
theorem dX4_moved_1 : decode cX4_moved 1 = .ok (.getfield 50, 3) := by decide +kernel
theorem dX4_moved_4 : decode cX4_moved 4 = .ok (.iload_n 1, 1) := by decide +kernel
theorem dX4_moved_5 : decode cX4_moved 5 = .ok (.invokevirtual 173, 3) := by decide +kernel
theorem dX4_moved_8 : decode cX4_moved 8 = .ok (.ireturn, 1) := by decide +kernel
theorem dX4_sizeFor_0 : decode cX4_sizeFor 0 = .ok (.iload_n 0, 1) := by decide +kernel
theorem dX4_sizeFor_1 : decode cX4_sizeFor 1 = .ok (.sipush 4096, 3) := by decide +kernel
theorem dX4_sizeFor_4 : decode cX4_sizeFor 4 = .ok (.invokestatic 9, 3) := by decide +kernel
theorem dX4_sizeFor_7 : decode cX4_sizeFor 7 = .ok (.iconst 4, 1) := by decide +kernel
theorem dX4_sizeFor_8 : decode cX4_sizeFor 8 = .ok (.idiv, 1) := by decide +kernel
theorem dX4_sizeFor_9 : decode cX4_sizeFor 9 = .ok (.iconst 1, 1) := by decide +kernel
theorem dX4_sizeFor_10 : decode cX4_sizeFor 10 = .ok (.iadd, 1) := by decide +kernel
theorem dX4_sizeFor_11 : decode cX4_sizeFor 11 = .ok (.iconst 4, 1) := by decide +kernel
theorem dX4_sizeFor_12 : decode cX4_sizeFor 12 = .ok (.imul, 1) := by decide +kernel
theorem dX4_sizeFor_13 : decode cX4_sizeFor 13 = .ok (.ireturn, 1) := by decide +kernel
theorem dX4_nextMultiple_0 : decode cX4_nextMultiple 0 = .ok (.iload_n 0, 1) := by decide +kernel
theorem dX4_nextMultiple_1 : decode cX4_nextMultiple 1 = .ok (.iload_n 1, 1) := by decide +kernel
theorem dX4_nextMultiple_2 : decode cX4_nextMultiple 2 = .ok (.iadd, 1) := by decide +kernel
theorem dX4_nextMultiple_3 : decode cX4_nextMultiple 3 = .ok (.iconst 1, 1) := by decide +kernel
theorem dX4_nextMultiple_4 : decode cX4_nextMultiple 4 = .ok (.isub, 1) := by decide +kernel
theorem dX4_nextMultiple_5 : decode cX4_nextMultiple 5 = .ok (.iload_n 1, 1) := by decide +kernel
theorem dX4_nextMultiple_6 : decode cX4_nextMultiple 6 = .ok (.idiv, 1) := by decide +kernel
theorem dX4_nextMultiple_7 : decode cX4_nextMultiple 7 = .ok (.iload_n 1, 1) := by decide +kernel
theorem dX4_nextMultiple_8 : decode cX4_nextMultiple 8 = .ok (.imul, 1) := by decide +kernel
theorem dX4_nextMultiple_9 : decode cX4_nextMultiple 9 = .ok (.ireturn, 1) := by decide +kernel
theorem dX4_giveAtMultiple_0 : decode cX4_giveAtMultiple 0 = .ok (.iload_n 1, 1) := by decide +kernel
theorem dX4_giveAtMultiple_1 : decode cX4_giveAtMultiple 1 = .ok (.iconst 1, 1) := by decide +kernel
theorem dX4_giveAtMultiple_2 : decode cX4_giveAtMultiple 2 = .ok (.if_icmp .ge 5, 3) := by decide +kernel
theorem dX4_giveAtMultiple_5 : decode cX4_giveAtMultiple 5 = .ok (.iconst 0, 1) := by decide +kernel
theorem dX4_giveAtMultiple_6 : decode cX4_giveAtMultiple 6 = .ok (.ireturn, 1) := by decide +kernel
theorem dX4_giveAtMultiple_7 : decode cX4_giveAtMultiple 7 = .ok (.iload_n 1, 1) := by decide +kernel
theorem dX4_giveAtMultiple_8 : decode cX4_giveAtMultiple 8 = .ok (.invokestatic 70, 3) := by decide +kernel
theorem dX4_giveAtMultiple_11 : decode cX4_giveAtMultiple 11 = .ok (.istore_n 3, 1) := by decide +kernel
theorem dX4_giveAtMultiple_12 : decode cX4_giveAtMultiple 12 = .ok (.iconst 0, 1) := by decide +kernel
theorem dX4_giveAtMultiple_13 : decode cX4_giveAtMultiple 13 = .ok (.istore 4, 2) := by decide +kernel
theorem dX4_giveAtMultiple_15 : decode cX4_giveAtMultiple 15 = .ok (.iload 4, 2) := by decide +kernel
theorem dX4_giveAtMultiple_17 : decode cX4_giveAtMultiple 17 = .ok (.aload_n 0, 1) := by decide +kernel
theorem dX4_giveAtMultiple_18 : decode cX4_giveAtMultiple 18 = .ok (.getfield 27, 3) := by decide +kernel
theorem dX4_giveAtMultiple_21 : decode cX4_giveAtMultiple 21 = .ok (.getfield 176, 3) := by decide +kernel
theorem dX4_giveAtMultiple_24 : decode cX4_giveAtMultiple 24 = .ok (.if_icmp .ge 86, 3) := by decide +kernel
theorem dX4_giveAtMultiple_27 : decode cX4_giveAtMultiple 27 = .ok (.aload_n 0, 1) := by decide +kernel
theorem dX4_giveAtMultiple_28 : decode cX4_giveAtMultiple 28 = .ok (.getfield 27, 3) := by decide +kernel
theorem dX4_giveAtMultiple_31 : decode cX4_giveAtMultiple 31 = .ok (.getfield 179, 3) := by decide +kernel
theorem dX4_giveAtMultiple_34 : decode cX4_giveAtMultiple 34 = .ok (.iload 4, 2) := by decide +kernel
theorem dX4_giveAtMultiple_36 : decode cX4_giveAtMultiple 36 = .ok (.iaload, 1) := by decide +kernel
theorem dX4_giveAtMultiple_37 : decode cX4_giveAtMultiple 37 = .ok (.iload_n 2, 1) := by decide +kernel
theorem dX4_giveAtMultiple_38 : decode cX4_giveAtMultiple 38 = .ok (.invokestatic 182, 3) := by decide +kernel
theorem dX4_giveAtMultiple_41 : decode cX4_giveAtMultiple 41 = .ok (.istore 5, 2) := by decide +kernel
theorem dX4_giveAtMultiple_43 : decode cX4_giveAtMultiple 43 = .ok (.aload_n 0, 1) := by decide +kernel
theorem dX4_giveAtMultiple_44 : decode cX4_giveAtMultiple 44 = .ok (.getfield 27, 3) := by decide +kernel
theorem dX4_giveAtMultiple_47 : decode cX4_giveAtMultiple 47 = .ok (.getfield 87, 3) := by decide +kernel
theorem dX4_giveAtMultiple_50 : decode cX4_giveAtMultiple 50 = .ok (.iload 4, 2) := by decide +kernel
theorem dX4_giveAtMultiple_52 : decode cX4_giveAtMultiple 52 = .ok (.iaload, 1) := by decide +kernel
theorem dX4_giveAtMultiple_53 : decode cX4_giveAtMultiple 53 = .ok (.ifCond .ne 51, 3) := by decide +kernel
theorem dX4_giveAtMultiple_56 : decode cX4_giveAtMultiple 56 = .ok (.iload 5, 2) := by decide +kernel
theorem dX4_giveAtMultiple_58 : decode cX4_giveAtMultiple 58 = .ok (.iload_n 3, 1) := by decide +kernel
theorem dX4_giveAtMultiple_59 : decode cX4_giveAtMultiple 59 = .ok (.iadd, 1) := by decide +kernel
theorem dX4_giveAtMultiple_60 : decode cX4_giveAtMultiple 60 = .ok (.aload_n 0, 1) := by decide +kernel
theorem dX4_giveAtMultiple_61 : decode cX4_giveAtMultiple 61 = .ok (.getfield 27, 3) := by decide +kernel
theorem dX4_giveAtMultiple_64 : decode cX4_giveAtMultiple 64 = .ok (.iload 4, 2) := by decide +kernel
theorem dX4_giveAtMultiple_66 : decode cX4_giveAtMultiple 66 = .ok (.invokevirtual 185, 3) := by decide +kernel
theorem dX4_giveAtMultiple_69 : decode cX4_giveAtMultiple 69 = .ok (.if_icmp .gt 35, 3) := by decide +kernel
theorem dX4_giveAtMultiple_72 : decode cX4_giveAtMultiple 72 = .ok (.aload_n 0, 1) := by decide +kernel
theorem dX4_giveAtMultiple_73 : decode cX4_giveAtMultiple 73 = .ok (.getfield 27, 3) := by decide +kernel
theorem dX4_giveAtMultiple_76 : decode cX4_giveAtMultiple 76 = .ok (.iload 4, 2) := by decide +kernel
theorem dX4_giveAtMultiple_78 : decode cX4_giveAtMultiple 78 = .ok (.iload 5, 2) := by decide +kernel
theorem dX4_giveAtMultiple_80 : decode cX4_giveAtMultiple 80 = .ok (.iload_n 3, 1) := by decide +kernel
theorem dX4_giveAtMultiple_81 : decode cX4_giveAtMultiple 81 = .ok (.invokevirtual 188, 3) := by decide +kernel
theorem dX4_giveAtMultiple_84 : decode cX4_giveAtMultiple 84 = .ok (.aload_n 0, 1) := by decide +kernel
theorem dX4_giveAtMultiple_85 : decode cX4_giveAtMultiple 85 = .ok (.iload 5, 2) := by decide +kernel
theorem dX4_giveAtMultiple_87 : decode cX4_giveAtMultiple 87 = .ok (.iconst 0, 1) := by decide +kernel
theorem dX4_giveAtMultiple_88 : decode cX4_giveAtMultiple 88 = .ok (.iload_n 3, 1) := by decide +kernel
theorem dX4_giveAtMultiple_89 : decode cX4_giveAtMultiple 89 = .ok (.iconst 1, 1) := by decide +kernel
theorem dX4_giveAtMultiple_90 : decode cX4_giveAtMultiple 90 = .ok (.isub, 1) := by decide +kernel
theorem dX4_giveAtMultiple_91 : decode cX4_giveAtMultiple 91 = .ok (.invokevirtual 80, 3) := by decide +kernel
theorem dX4_giveAtMultiple_94 : decode cX4_giveAtMultiple 94 = .ok (.aload_n 0, 1) := by decide +kernel
theorem dX4_giveAtMultiple_95 : decode cX4_giveAtMultiple 95 = .ok (.getfield 43, 3) := by decide +kernel
theorem dX4_giveAtMultiple_98 : decode cX4_giveAtMultiple 98 = .ok (.invokevirtual 64, 3) := by decide +kernel
theorem dX4_giveAtMultiple_101 : decode cX4_giveAtMultiple 101 = .ok (.iload 5, 2) := by decide +kernel
theorem dX4_giveAtMultiple_103 : decode cX4_giveAtMultiple 103 = .ok (.ireturn, 1) := by decide +kernel
theorem dX4_giveAtMultiple_104 : decode cX4_giveAtMultiple 104 = .ok (.iinc 4 1, 3) := by decide +kernel
theorem dX4_giveAtMultiple_107 : decode cX4_giveAtMultiple 107 = .ok (.goto (-92), 3) := by decide +kernel
theorem dX4_giveAtMultiple_110 : decode cX4_giveAtMultiple 110 = .ok (.iconst 0, 1) := by decide +kernel
theorem dX4_giveAtMultiple_111 : decode cX4_giveAtMultiple 111 = .ok (.ireturn, 1) := by decide +kernel
theorem dX4_clearPayload_0 : decode cX4_clearPayload 0 = .ok (.aload_n 0, 1) := by decide +kernel
theorem dX4_clearPayload_1 : decode cX4_clearPayload 1 = .ok (.getfield 18, 3) := by decide +kernel
theorem dX4_clearPayload_4 : decode cX4_clearPayload 4 = .ok (.iload_n 1, 1) := by decide +kernel
theorem dX4_clearPayload_5 : decode cX4_clearPayload 5 = .ok (.iload_n 2, 1) := by decide +kernel
theorem dX4_clearPayload_6 : decode cX4_clearPayload 6 = .ok (.iadd, 1) := by decide +kernel
theorem dX4_clearPayload_7 : decode cX4_clearPayload 7 = .ok (.iload_n 1, 1) := by decide +kernel
theorem dX4_clearPayload_8 : decode cX4_clearPayload 8 = .ok (.iload_n 3, 1) := by decide +kernel
theorem dX4_clearPayload_9 : decode cX4_clearPayload 9 = .ok (.iadd, 1) := by decide +kernel
theorem dX4_clearPayload_10 : decode cX4_clearPayload 10 = .ok (.iconst 0, 1) := by decide +kernel
theorem dX4_clearPayload_11 : decode cX4_clearPayload 11 = .ok (.invokestatic 191, 3) := by decide +kernel
theorem dX4_clearPayload_14 : decode cX4_clearPayload 14 = .ok (.return_, 1) := by decide +kernel
theorem dX4_payloadWord_0 : decode cX4_payloadWord 0 = .ok (.aload_n 0, 1) := by decide +kernel
theorem dX4_payloadWord_1 : decode cX4_payloadWord 1 = .ok (.getfield 27, 3) := by decide +kernel
theorem dX4_payloadWord_4 : decode cX4_payloadWord 4 = .ok (.iload_n 1, 1) := by decide +kernel
theorem dX4_payloadWord_5 : decode cX4_payloadWord 5 = .ok (.invokevirtual 57, 3) := by decide +kernel
theorem dX4_payloadWord_8 : decode cX4_payloadWord 8 = .ok (.istore_n 3, 1) := by decide +kernel
theorem dX4_payloadWord_9 : decode cX4_payloadWord 9 = .ok (.iload_n 3, 1) := by decide +kernel
theorem dX4_payloadWord_10 : decode cX4_payloadWord 10 = .ok (.iconst (-1), 1) := by decide +kernel
theorem dX4_payloadWord_11 : decode cX4_payloadWord 11 = .ok (.if_icmp .ne 13, 3) := by decide +kernel
theorem dX4_payloadWord_14 : decode cX4_payloadWord 14 = .ok (.new 122, 3) := by decide +kernel
theorem dX4_payloadWord_17 : decode cX4_payloadWord 17 = .ok (.dup, 1) := by decide +kernel
theorem dX4_payloadWord_18 : decode cX4_payloadWord 18 = .ok (.ldc 197, 2) := by decide +kernel
theorem dX4_payloadWord_20 : decode cX4_payloadWord 20 = .ok (.invokespecial 126, 3) := by decide +kernel
theorem dX4_payloadWord_23 : decode cX4_payloadWord 23 = .ok (.athrow, 1) := by decide +kernel
theorem dX4_payloadWord_24 : decode cX4_payloadWord 24 = .ok (.iload_n 2, 1) := by decide +kernel
theorem dX4_payloadWord_25 : decode cX4_payloadWord 25 = .ok (.ifCond .lt 18, 3) := by decide +kernel
theorem dX4_payloadWord_28 : decode cX4_payloadWord 28 = .ok (.iload_n 2, 1) := by decide +kernel
theorem dX4_payloadWord_29 : decode cX4_payloadWord 29 = .ok (.aload_n 0, 1) := by decide +kernel
theorem dX4_payloadWord_30 : decode cX4_payloadWord 30 = .ok (.getfield 27, 3) := by decide +kernel
theorem dX4_payloadWord_33 : decode cX4_payloadWord 33 = .ok (.getfield 67, 3) := by decide +kernel
theorem dX4_payloadWord_36 : decode cX4_payloadWord 36 = .ok (.iload_n 3, 1) := by decide +kernel
theorem dX4_payloadWord_37 : decode cX4_payloadWord 37 = .ok (.iaload, 1) := by decide +kernel
theorem dX4_payloadWord_38 : decode cX4_payloadWord 38 = .ok (.iconst 1, 1) := by decide +kernel
theorem dX4_payloadWord_39 : decode cX4_payloadWord 39 = .ok (.isub, 1) := by decide +kernel
theorem dX4_payloadWord_40 : decode cX4_payloadWord 40 = .ok (.if_icmp .lt 13, 3) := by decide +kernel
theorem dX4_payloadWord_43 : decode cX4_payloadWord 43 = .ok (.new 150, 3) := by decide +kernel
theorem dX4_payloadWord_46 : decode cX4_payloadWord 46 = .ok (.dup, 1) := by decide +kernel
theorem dX4_payloadWord_47 : decode cX4_payloadWord 47 = .ok (.ldc 199, 2) := by decide +kernel
theorem dX4_payloadWord_49 : decode cX4_payloadWord 49 = .ok (.invokespecial 154, 3) := by decide +kernel
theorem dX4_payloadWord_52 : decode cX4_payloadWord 52 = .ok (.athrow, 1) := by decide +kernel
theorem dX4_payloadWord_53 : decode cX4_payloadWord 53 = .ok (.iload_n 1, 1) := by decide +kernel
theorem dX4_payloadWord_54 : decode cX4_payloadWord 54 = .ok (.iload_n 2, 1) := by decide +kernel
theorem dX4_payloadWord_55 : decode cX4_payloadWord 55 = .ok (.iadd, 1) := by decide +kernel
theorem dX4_payloadWord_56 : decode cX4_payloadWord 56 = .ok (.ireturn, 1) := by decide +kernel
theorem dX4_copyBlock_0 : decode cX4_copyBlock 0 = .ok (.aload_n 0, 1) := by decide +kernel
theorem dX4_copyBlock_1 : decode cX4_copyBlock 1 = .ok (.getfield 27, 3) := by decide +kernel
theorem dX4_copyBlock_4 : decode cX4_copyBlock 4 = .ok (.iload_n 1, 1) := by decide +kernel
theorem dX4_copyBlock_5 : decode cX4_copyBlock 5 = .ok (.invokevirtual 57, 3) := by decide +kernel
theorem dX4_copyBlock_8 : decode cX4_copyBlock 8 = .ok (.istore_n 3, 1) := by decide +kernel
theorem dX4_copyBlock_9 : decode cX4_copyBlock 9 = .ok (.aload_n 0, 1) := by decide +kernel
theorem dX4_copyBlock_10 : decode cX4_copyBlock 10 = .ok (.getfield 27, 3) := by decide +kernel
theorem dX4_copyBlock_13 : decode cX4_copyBlock 13 = .ok (.iload_n 2, 1) := by decide +kernel
theorem dX4_copyBlock_14 : decode cX4_copyBlock 14 = .ok (.invokevirtual 119, 3) := by decide +kernel
theorem dX4_copyBlock_17 : decode cX4_copyBlock 17 = .ok (.istore 4, 2) := by decide +kernel
theorem dX4_copyBlock_19 : decode cX4_copyBlock 19 = .ok (.iload_n 3, 1) := by decide +kernel
theorem dX4_copyBlock_20 : decode cX4_copyBlock 20 = .ok (.iconst (-1), 1) := by decide +kernel
theorem dX4_copyBlock_21 : decode cX4_copyBlock 21 = .ok (.if_icmp .eq 49, 3) := by decide +kernel
theorem dX4_copyBlock_24 : decode cX4_copyBlock 24 = .ok (.iload 4, 2) := by decide +kernel
theorem dX4_copyBlock_26 : decode cX4_copyBlock 26 = .ok (.iconst (-1), 1) := by decide +kernel
theorem dX4_copyBlock_27 : decode cX4_copyBlock 27 = .ok (.if_icmp .eq 43, 3) := by decide +kernel
theorem dX4_copyBlock_30 : decode cX4_copyBlock 30 = .ok (.aload_n 0, 1) := by decide +kernel
theorem dX4_copyBlock_31 : decode cX4_copyBlock 31 = .ok (.getfield 27, 3) := by decide +kernel
theorem dX4_copyBlock_34 : decode cX4_copyBlock 34 = .ok (.getfield 67, 3) := by decide +kernel
theorem dX4_copyBlock_37 : decode cX4_copyBlock 37 = .ok (.iload_n 3, 1) := by decide +kernel
theorem dX4_copyBlock_38 : decode cX4_copyBlock 38 = .ok (.iaload, 1) := by decide +kernel
theorem dX4_copyBlock_39 : decode cX4_copyBlock 39 = .ok (.istore 5, 2) := by decide +kernel
theorem dX4_copyBlock_41 : decode cX4_copyBlock 41 = .ok (.aload_n 0, 1) := by decide +kernel
theorem dX4_copyBlock_42 : decode cX4_copyBlock 42 = .ok (.getfield 27, 3) := by decide +kernel
theorem dX4_copyBlock_45 : decode cX4_copyBlock 45 = .ok (.iload 4, 2) := by decide +kernel
theorem dX4_copyBlock_47 : decode cX4_copyBlock 47 = .ok (.iload_n 2, 1) := by decide +kernel
theorem dX4_copyBlock_48 : decode cX4_copyBlock 48 = .ok (.iload 5, 2) := by decide +kernel
theorem dX4_copyBlock_50 : decode cX4_copyBlock 50 = .ok (.invokevirtual 188, 3) := by decide +kernel
theorem dX4_copyBlock_53 : decode cX4_copyBlock 53 = .ok (.aload_n 0, 1) := by decide +kernel
theorem dX4_copyBlock_54 : decode cX4_copyBlock 54 = .ok (.getfield 18, 3) := by decide +kernel
theorem dX4_copyBlock_57 : decode cX4_copyBlock 57 = .ok (.iload_n 1, 1) := by decide +kernel
theorem dX4_copyBlock_58 : decode cX4_copyBlock 58 = .ok (.aload_n 0, 1) := by decide +kernel
theorem dX4_copyBlock_59 : decode cX4_copyBlock 59 = .ok (.getfield 18, 3) := by decide +kernel
theorem dX4_copyBlock_62 : decode cX4_copyBlock 62 = .ok (.iload_n 2, 1) := by decide +kernel
theorem dX4_copyBlock_63 : decode cX4_copyBlock 63 = .ok (.iload 5, 2) := by decide +kernel
theorem dX4_copyBlock_65 : decode cX4_copyBlock 65 = .ok (.iconst 1, 1) := by decide +kernel
theorem dX4_copyBlock_66 : decode cX4_copyBlock 66 = .ok (.isub, 1) := by decide +kernel
theorem dX4_copyBlock_67 : decode cX4_copyBlock 67 = .ok (.invokestatic 201, 3) := by decide +kernel
theorem dX4_copyBlock_70 : decode cX4_copyBlock 70 = .ok (.return_, 1) := by decide +kernel
theorem dX4_leaveBlock_0 : decode cX4_leaveBlock 0 = .ok (.aload_n 0, 1) := by decide +kernel
theorem dX4_leaveBlock_1 : decode cX4_leaveBlock 1 = .ok (.getfield 27, 3) := by decide +kernel
theorem dX4_leaveBlock_4 : decode cX4_leaveBlock 4 = .ok (.iload_n 1, 1) := by decide +kernel
theorem dX4_leaveBlock_5 : decode cX4_leaveBlock 5 = .ok (.invokevirtual 57, 3) := by decide +kernel
theorem dX4_leaveBlock_8 : decode cX4_leaveBlock 8 = .ok (.istore_n 2, 1) := by decide +kernel
theorem dX4_leaveBlock_9 : decode cX4_leaveBlock 9 = .ok (.iload_n 2, 1) := by decide +kernel
theorem dX4_leaveBlock_10 : decode cX4_leaveBlock 10 = .ok (.iconst (-1), 1) := by decide +kernel
theorem dX4_leaveBlock_11 : decode cX4_leaveBlock 11 = .ok (.if_icmp .eq 11, 3) := by decide +kernel
theorem dX4_leaveBlock_14 : decode cX4_leaveBlock 14 = .ok (.aload_n 0, 1) := by decide +kernel
theorem dX4_leaveBlock_15 : decode cX4_leaveBlock 15 = .ok (.getfield 27, 3) := by decide +kernel
theorem dX4_leaveBlock_18 : decode cX4_leaveBlock 18 = .ok (.iload_n 2, 1) := by decide +kernel
theorem dX4_leaveBlock_19 : decode cX4_leaveBlock 19 = .ok (.invokevirtual 61, 3) := by decide +kernel
theorem dX4_leaveBlock_22 : decode cX4_leaveBlock 22 = .ok (.return_, 1) := by decide +kernel
