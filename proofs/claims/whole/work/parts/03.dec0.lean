theorem dX0_init_0 : decode cX0_init 0 = .ok (.aload_n 0, 1) := by decide +kernel
theorem dX0_init_1 : decode cX0_init 1 = .ok (.invokespecial 3, 3) := by decide +kernel
theorem dX0_init_4 : decode cX0_init 4 = .ok (.aload_n 0, 1) := by decide +kernel
theorem dX0_init_5 : decode cX0_init 5 = .ok (.bipush 6, 2) := by decide +kernel
theorem dX0_init_7 : decode cX0_init 7 = .ok (.newarray .int, 2) := by decide +kernel
theorem dX0_init_9 : decode cX0_init 9 = .ok (.putfield 9, 3) := by decide +kernel
theorem dX0_init_12 : decode cX0_init 12 = .ok (.aload_n 0, 1) := by decide +kernel
theorem dX0_init_13 : decode cX0_init 13 = .ok (.bipush 6, 2) := by decide +kernel
theorem dX0_init_15 : decode cX0_init 15 = .ok (.newarray .int, 2) := by decide +kernel
theorem dX0_init_17 : decode cX0_init 17 = .ok (.putfield 15, 3) := by decide +kernel
theorem dX0_init_20 : decode cX0_init 20 = .ok (.aload_n 0, 1) := by decide +kernel
theorem dX0_init_21 : decode cX0_init 21 = .ok (.bipush 6, 2) := by decide +kernel
theorem dX0_init_23 : decode cX0_init 23 = .ok (.newarray .int, 2) := by decide +kernel
theorem dX0_init_25 : decode cX0_init 25 = .ok (.putfield 18, 3) := by decide +kernel
theorem dX0_init_28 : decode cX0_init 28 = .ok (.aload_n 0, 1) := by decide +kernel
theorem dX0_init_29 : decode cX0_init 29 = .ok (.iconst 0, 1) := by decide +kernel
theorem dX0_init_30 : decode cX0_init 30 = .ok (.putfield 21, 3) := by decide +kernel
theorem dX0_init_33 : decode cX0_init 33 = .ok (.aload_n 0, 1) := by decide +kernel
theorem dX0_init_34 : decode cX0_init 34 = .ok (.iconst 0, 1) := by decide +kernel
theorem dX0_init_35 : decode cX0_init 35 = .ok (.putfield 25, 3) := by decide +kernel
theorem dX0_init_38 : decode cX0_init 38 = .ok (.aload_n 0, 1) := by decide +kernel
theorem dX0_init_39 : decode cX0_init 39 = .ok (.iconst 0, 1) := by decide +kernel
theorem dX0_init_40 : decode cX0_init 40 = .ok (.putfield 28, 3) := by decide +kernel
theorem dX0_init_43 : decode cX0_init 43 = .ok (.return_, 1) := by decide +kernel
theorem dX0_seek_0 : decode cX0_seek 0 = .ok (.aload_n 0, 1) := by decide +kernel
theorem dX0_seek_1 : decode cX0_seek 1 = .ok (.aload_n 1, 1) := by decide +kernel
theorem dX0_seek_2 : decode cX0_seek 2 = .ok (.invokevirtual 31, 3) := by decide +kernel
theorem dX0_seek_5 : decode cX0_seek 5 = .ok (.iconst 1, 1) := by decide +kernel
theorem dX0_seek_6 : decode cX0_seek 6 = .ok (.istore_n 2, 1) := by decide +kernel
theorem dX0_seek_7 : decode cX0_seek 7 = .ok (.iconst 0, 1) := by decide +kernel
theorem dX0_seek_8 : decode cX0_seek 8 = .ok (.istore_n 3, 1) := by decide +kernel
theorem dX0_seek_9 : decode cX0_seek 9 = .ok (.iload_n 3, 1) := by decide +kernel
theorem dX0_seek_10 : decode cX0_seek 10 = .ok (.sipush 1000, 3) := by decide +kernel
theorem dX0_seek_13 : decode cX0_seek 13 = .ok (.if_icmp .ge 78, 3) := by decide +kernel
theorem dX0_seek_16 : decode cX0_seek 16 = .ok (.iload_n 2, 1) := by decide +kernel
theorem dX0_seek_17 : decode cX0_seek 17 = .ok (.ifCond .eq 74, 3) := by decide +kernel
theorem dX0_seek_20 : decode cX0_seek 20 = .ok (.aload_n 0, 1) := by decide +kernel
theorem dX0_seek_21 : decode cX0_seek 21 = .ok (.invokevirtual 35, 3) := by decide +kernel
theorem dX0_seek_24 : decode cX0_seek 24 = .ok (.istore 4, 2) := by decide +kernel
theorem dX0_seek_26 : decode cX0_seek 26 = .ok (.aload_n 0, 1) := by decide +kernel
theorem dX0_seek_27 : decode cX0_seek 27 = .ok (.aload_n 1, 1) := by decide +kernel
theorem dX0_seek_28 : decode cX0_seek 28 = .ok (.invokevirtual 39, 3) := by decide +kernel
theorem dX0_seek_31 : decode cX0_seek 31 = .ok (.istore 5, 2) := by decide +kernel
theorem dX0_seek_33 : decode cX0_seek 33 = .ok (.iload_n 3, 1) := by decide +kernel
theorem dX0_seek_34 : decode cX0_seek 34 = .ok (.ifCond .eq 30, 3) := by decide +kernel
theorem dX0_seek_37 : decode cX0_seek 37 = .ok (.iload 4, 2) := by decide +kernel
theorem dX0_seek_39 : decode cX0_seek 39 = .ok (.aload_n 0, 1) := by decide +kernel
theorem dX0_seek_40 : decode cX0_seek 40 = .ok (.getfield 25, 3) := by decide +kernel
theorem dX0_seek_43 : decode cX0_seek 43 = .ok (.if_icmp .lt 21, 3) := by decide +kernel
theorem dX0_seek_46 : decode cX0_seek 46 = .ok (.iload 4, 2) := by decide +kernel
theorem dX0_seek_48 : decode cX0_seek 48 = .ok (.aload_n 0, 1) := by decide +kernel
theorem dX0_seek_49 : decode cX0_seek 49 = .ok (.getfield 25, 3) := by decide +kernel
theorem dX0_seek_52 : decode cX0_seek 52 = .ok (.if_icmp .ne 28, 3) := by decide +kernel
theorem dX0_seek_55 : decode cX0_seek 55 = .ok (.iload 5, 2) := by decide +kernel
theorem dX0_seek_57 : decode cX0_seek 57 = .ok (.aload_n 0, 1) := by decide +kernel
theorem dX0_seek_58 : decode cX0_seek 58 = .ok (.getfield 28, 3) := by decide +kernel
theorem dX0_seek_61 : decode cX0_seek 61 = .ok (.if_icmp .ge 19, 3) := by decide +kernel
theorem dX0_seek_64 : decode cX0_seek 64 = .ok (.aload_n 0, 1) := by decide +kernel
theorem dX0_seek_65 : decode cX0_seek 65 = .ok (.iload 4, 2) := by decide +kernel
theorem dX0_seek_67 : decode cX0_seek 67 = .ok (.putfield 25, 3) := by decide +kernel
theorem dX0_seek_70 : decode cX0_seek 70 = .ok (.aload_n 0, 1) := by decide +kernel
theorem dX0_seek_71 : decode cX0_seek 71 = .ok (.iload 5, 2) := by decide +kernel
theorem dX0_seek_73 : decode cX0_seek 73 = .ok (.putfield 28, 3) := by decide +kernel
theorem dX0_seek_76 : decode cX0_seek 76 = .ok (.aload_n 0, 1) := by decide +kernel
theorem dX0_seek_77 : decode cX0_seek 77 = .ok (.invokevirtual 43, 3) := by decide +kernel
theorem dX0_seek_80 : decode cX0_seek 80 = .ok (.aload_n 0, 1) := by decide +kernel
theorem dX0_seek_81 : decode cX0_seek 81 = .ok (.invokevirtual 46, 3) := by decide +kernel
theorem dX0_seek_84 : decode cX0_seek 84 = .ok (.istore_n 2, 1) := by decide +kernel
theorem dX0_seek_85 : decode cX0_seek 85 = .ok (.iinc 3 1, 3) := by decide +kernel
theorem dX0_seek_88 : decode cX0_seek 88 = .ok (.goto (-79), 3) := by decide +kernel
theorem dX0_seek_91 : decode cX0_seek 91 = .ok (.return_, 1) := by decide +kernel
theorem dX0_begin_0 : decode cX0_begin 0 = .ok (.aload_n 0, 1) := by decide +kernel
theorem dX0_begin_1 : decode cX0_begin 1 = .ok (.iconst 0, 1) := by decide +kernel
theorem dX0_begin_2 : decode cX0_begin 2 = .ok (.putfield 21, 3) := by decide +kernel
theorem dX0_begin_5 : decode cX0_begin 5 = .ok (.iconst 0, 1) := by decide +kernel
theorem dX0_begin_6 : decode cX0_begin 6 = .ok (.istore_n 2, 1) := by decide +kernel
theorem dX0_begin_7 : decode cX0_begin 7 = .ok (.iload_n 2, 1) := by decide +kernel
theorem dX0_begin_8 : decode cX0_begin 8 = .ok (.aload_n 1, 1) := by decide +kernel
theorem dX0_begin_9 : decode cX0_begin 9 = .ok (.getfield 50, 3) := by decide +kernel
theorem dX0_begin_12 : decode cX0_begin 12 = .ok (.if_icmp .ge 47, 3) := by decide +kernel
theorem dX0_begin_15 : decode cX0_begin 15 = .ok (.aload_n 1, 1) := by decide +kernel
theorem dX0_begin_16 : decode cX0_begin 16 = .ok (.iload_n 2, 1) := by decide +kernel
theorem dX0_begin_17 : decode cX0_begin 17 = .ok (.invokevirtual 55, 3) := by decide +kernel
theorem dX0_begin_20 : decode cX0_begin 20 = .ok (.ifCond .eq 33, 3) := by decide +kernel
theorem dX0_begin_23 : decode cX0_begin 23 = .ok (.aload_n 0, 1) := by decide +kernel
theorem dX0_begin_24 : decode cX0_begin 24 = .ok (.getfield 9, 3) := by decide +kernel
theorem dX0_begin_27 : decode cX0_begin 27 = .ok (.aload_n 0, 1) := by decide +kernel
theorem dX0_begin_28 : decode cX0_begin 28 = .ok (.getfield 21, 3) := by decide +kernel
theorem dX0_begin_31 : decode cX0_begin 31 = .ok (.iload_n 2, 1) := by decide +kernel
theorem dX0_begin_32 : decode cX0_begin 32 = .ok (.iastore, 1) := by decide +kernel
theorem dX0_begin_33 : decode cX0_begin 33 = .ok (.aload_n 0, 1) := by decide +kernel
theorem dX0_begin_34 : decode cX0_begin 34 = .ok (.aload_n 1, 1) := by decide +kernel
theorem dX0_begin_35 : decode cX0_begin 35 = .ok (.getfield 59, 3) := by decide +kernel
theorem dX0_begin_38 : decode cX0_begin 38 = .ok (.iload_n 2, 1) := by decide +kernel
theorem dX0_begin_39 : decode cX0_begin 39 = .ok (.iaload, 1) := by decide +kernel
theorem dX0_begin_40 : decode cX0_begin 40 = .ok (.invokevirtual 62, 3) := by decide +kernel
theorem dX0_begin_43 : decode cX0_begin 43 = .ok (.aload_n 0, 1) := by decide +kernel
theorem dX0_begin_44 : decode cX0_begin 44 = .ok (.dup, 1) := by decide +kernel
theorem dX0_begin_45 : decode cX0_begin 45 = .ok (.getfield 21, 3) := by decide +kernel
theorem dX0_begin_48 : decode cX0_begin 48 = .ok (.iconst 1, 1) := by decide +kernel
theorem dX0_begin_49 : decode cX0_begin 49 = .ok (.iadd, 1) := by decide +kernel
theorem dX0_begin_50 : decode cX0_begin 50 = .ok (.putfield 21, 3) := by decide +kernel
theorem dX0_begin_53 : decode cX0_begin 53 = .ok (.iinc 2 1, 3) := by decide +kernel
theorem dX0_begin_56 : decode cX0_begin 56 = .ok (.goto (-49), 3) := by decide +kernel
theorem dX0_begin_59 : decode cX0_begin 59 = .ok (.return_, 1) := by decide +kernel
theorem dX0_insert_0 : decode cX0_insert 0 = .ok (.aload_n 0, 1) := by decide +kernel
theorem dX0_insert_1 : decode cX0_insert 1 = .ok (.getfield 21, 3) := by decide +kernel
theorem dX0_insert_4 : decode cX0_insert 4 = .ok (.istore_n 2, 1) := by decide +kernel
theorem dX0_insert_5 : decode cX0_insert 5 = .ok (.iload_n 2, 1) := by decide +kernel
theorem dX0_insert_6 : decode cX0_insert 6 = .ok (.ifCond .le 35, 3) := by decide +kernel
theorem dX0_insert_9 : decode cX0_insert 9 = .ok (.aload_n 0, 1) := by decide +kernel
theorem dX0_insert_10 : decode cX0_insert 10 = .ok (.getfield 15, 3) := by decide +kernel
theorem dX0_insert_13 : decode cX0_insert 13 = .ok (.iload_n 2, 1) := by decide +kernel
theorem dX0_insert_14 : decode cX0_insert 14 = .ok (.iconst 1, 1) := by decide +kernel
theorem dX0_insert_15 : decode cX0_insert 15 = .ok (.isub, 1) := by decide +kernel
theorem dX0_insert_16 : decode cX0_insert 16 = .ok (.iaload, 1) := by decide +kernel
theorem dX0_insert_17 : decode cX0_insert 17 = .ok (.iload_n 1, 1) := by decide +kernel
theorem dX0_insert_18 : decode cX0_insert 18 = .ok (.if_icmp .le 23, 3) := by decide +kernel
theorem dX0_insert_21 : decode cX0_insert 21 = .ok (.aload_n 0, 1) := by decide +kernel
theorem dX0_insert_22 : decode cX0_insert 22 = .ok (.getfield 15, 3) := by decide +kernel
theorem dX0_insert_25 : decode cX0_insert 25 = .ok (.iload_n 2, 1) := by decide +kernel
theorem dX0_insert_26 : decode cX0_insert 26 = .ok (.aload_n 0, 1) := by decide +kernel
theorem dX0_insert_27 : decode cX0_insert 27 = .ok (.getfield 15, 3) := by decide +kernel
theorem dX0_insert_30 : decode cX0_insert 30 = .ok (.iload_n 2, 1) := by decide +kernel
theorem dX0_insert_31 : decode cX0_insert 31 = .ok (.iconst 1, 1) := by decide +kernel
theorem dX0_insert_32 : decode cX0_insert 32 = .ok (.isub, 1) := by decide +kernel
theorem dX0_insert_33 : decode cX0_insert 33 = .ok (.iaload, 1) := by decide +kernel
theorem dX0_insert_34 : decode cX0_insert 34 = .ok (.iastore, 1) := by decide +kernel
theorem dX0_insert_35 : decode cX0_insert 35 = .ok (.iinc 2 (-1), 3) := by decide +kernel
theorem dX0_insert_38 : decode cX0_insert 38 = .ok (.goto (-33), 3) := by decide +kernel
theorem dX0_insert_41 : decode cX0_insert 41 = .ok (.aload_n 0, 1) := by decide +kernel
theorem dX0_insert_42 : decode cX0_insert 42 = .ok (.getfield 15, 3) := by decide +kernel
theorem dX0_insert_45 : decode cX0_insert 45 = .ok (.iload_n 2, 1) := by decide +kernel
theorem dX0_insert_46 : decode cX0_insert 46 = .ok (.iload_n 1, 1) := by decide +kernel
theorem dX0_insert_47 : decode cX0_insert 47 = .ok (.iastore, 1) := by decide +kernel
theorem dX0_insert_48 : decode cX0_insert 48 = .ok (.return_, 1) := by decide +kernel
theorem dX0_takeAsBest_0 : decode cX0_takeAsBest 0 = .ok (.iconst 0, 1) := by decide +kernel
theorem dX0_takeAsBest_1 : decode cX0_takeAsBest 1 = .ok (.istore_n 1, 1) := by decide +kernel
theorem dX0_takeAsBest_2 : decode cX0_takeAsBest 2 = .ok (.iload_n 1, 1) := by decide +kernel
theorem dX0_takeAsBest_3 : decode cX0_takeAsBest 3 = .ok (.aload_n 0, 1) := by decide +kernel
theorem dX0_takeAsBest_4 : decode cX0_takeAsBest 4 = .ok (.getfield 21, 3) := by decide +kernel
theorem dX0_takeAsBest_7 : decode cX0_takeAsBest 7 = .ok (.if_icmp .ge 21, 3) := by decide +kernel
theorem dX0_takeAsBest_10 : decode cX0_takeAsBest 10 = .ok (.aload_n 0, 1) := by decide +kernel
theorem dX0_takeAsBest_11 : decode cX0_takeAsBest 11 = .ok (.getfield 18, 3) := by decide +kernel
theorem dX0_takeAsBest_14 : decode cX0_takeAsBest 14 = .ok (.iload_n 1, 1) := by decide +kernel
theorem dX0_takeAsBest_15 : decode cX0_takeAsBest 15 = .ok (.aload_n 0, 1) := by decide +kernel
theorem dX0_takeAsBest_16 : decode cX0_takeAsBest 16 = .ok (.getfield 15, 3) := by decide +kernel
theorem dX0_takeAsBest_19 : decode cX0_takeAsBest 19 = .ok (.iload_n 1, 1) := by decide +kernel
theorem dX0_takeAsBest_20 : decode cX0_takeAsBest 20 = .ok (.iaload, 1) := by decide +kernel
theorem dX0_takeAsBest_21 : decode cX0_takeAsBest 21 = .ok (.iastore, 1) := by decide +kernel
theorem dX0_takeAsBest_22 : decode cX0_takeAsBest 22 = .ok (.iinc 1 1, 3) := by decide +kernel
theorem dX0_takeAsBest_25 : decode cX0_takeAsBest 25 = .ok (.goto (-23), 3) := by decide +kernel
theorem dX0_takeAsBest_28 : decode cX0_takeAsBest 28 = .ok (.return_, 1) := by decide +kernel
theorem dX0_apart_0 : decode cX0_apart 0 = .ok (.iconst 0, 1) := by decide +kernel
theorem dX0_apart_1 : decode cX0_apart 1 = .ok (.istore_n 1, 1) := by decide +kernel
theorem dX0_apart_2 : decode cX0_apart 2 = .ok (.iconst 0, 1) := by decide +kernel
theorem dX0_apart_3 : decode cX0_apart 3 = .ok (.istore_n 2, 1) := by decide +kernel
theorem dX0_apart_4 : decode cX0_apart 4 = .ok (.iload_n 2, 1) := by decide +kernel
theorem dX0_apart_5 : decode cX0_apart 5 = .ok (.iconst 1, 1) := by decide +kernel
theorem dX0_apart_6 : decode cX0_apart 6 = .ok (.iadd, 1) := by decide +kernel
theorem dX0_apart_7 : decode cX0_apart 7 = .ok (.aload_n 0, 1) := by decide +kernel
theorem dX0_apart_8 : decode cX0_apart 8 = .ok (.getfield 21, 3) := by decide +kernel
theorem dX0_apart_11 : decode cX0_apart 11 = .ok (.if_icmp .ge 60, 3) := by decide +kernel
theorem dX0_apart_14 : decode cX0_apart 14 = .ok (.aload_n 0, 1) := by decide +kernel
theorem dX0_apart_15 : decode cX0_apart 15 = .ok (.getfield 9, 3) := by decide +kernel
theorem dX0_apart_18 : decode cX0_apart 18 = .ok (.iload_n 2, 1) := by decide +kernel
theorem dX0_apart_19 : decode cX0_apart 19 = .ok (.iaload, 1) := by decide +kernel
theorem dX0_apart_20 : decode cX0_apart 20 = .ok (.iconst 2, 1) := by decide +kernel
theorem dX0_apart_21 : decode cX0_apart 21 = .ok (.irem, 1) := by decide +kernel
theorem dX0_apart_22 : decode cX0_apart 22 = .ok (.ifCond .ne 43, 3) := by decide +kernel
theorem dX0_apart_25 : decode cX0_apart 25 = .ok (.aload_n 0, 1) := by decide +kernel
theorem dX0_apart_26 : decode cX0_apart 26 = .ok (.getfield 9, 3) := by decide +kernel
theorem dX0_apart_29 : decode cX0_apart 29 = .ok (.iload_n 2, 1) := by decide +kernel
theorem dX0_apart_30 : decode cX0_apart 30 = .ok (.iconst 1, 1) := by decide +kernel
theorem dX0_apart_31 : decode cX0_apart 31 = .ok (.iadd, 1) := by decide +kernel
theorem dX0_apart_32 : decode cX0_apart 32 = .ok (.iaload, 1) := by decide +kernel
theorem dX0_apart_33 : decode cX0_apart 33 = .ok (.aload_n 0, 1) := by decide +kernel
theorem dX0_apart_34 : decode cX0_apart 34 = .ok (.getfield 9, 3) := by decide +kernel
theorem dX0_apart_37 : decode cX0_apart 37 = .ok (.iload_n 2, 1) := by decide +kernel
theorem dX0_apart_38 : decode cX0_apart 38 = .ok (.iaload, 1) := by decide +kernel
theorem dX0_apart_39 : decode cX0_apart 39 = .ok (.iconst 1, 1) := by decide +kernel
theorem dX0_apart_40 : decode cX0_apart 40 = .ok (.iadd, 1) := by decide +kernel
theorem dX0_apart_41 : decode cX0_apart 41 = .ok (.if_icmp .ne 24, 3) := by decide +kernel
theorem dX0_apart_44 : decode cX0_apart 44 = .ok (.iload_n 1, 1) := by decide +kernel
theorem dX0_apart_45 : decode cX0_apart 45 = .ok (.aload_n 0, 1) := by decide +kernel
theorem dX0_apart_46 : decode cX0_apart 46 = .ok (.getfield 15, 3) := by decide +kernel
theorem dX0_apart_49 : decode cX0_apart 49 = .ok (.iload_n 2, 1) := by decide +kernel
theorem dX0_apart_50 : decode cX0_apart 50 = .ok (.iaload, 1) := by decide +kernel
theorem dX0_apart_51 : decode cX0_apart 51 = .ok (.aload_n 0, 1) := by decide +kernel
theorem dX0_apart_52 : decode cX0_apart 52 = .ok (.getfield 15, 3) := by decide +kernel
theorem dX0_apart_55 : decode cX0_apart 55 = .ok (.iload_n 2, 1) := by decide +kernel
theorem dX0_apart_56 : decode cX0_apart 56 = .ok (.iconst 1, 1) := by decide +kernel
theorem dX0_apart_57 : decode cX0_apart 57 = .ok (.iadd, 1) := by decide +kernel
theorem dX0_apart_58 : decode cX0_apart 58 = .ok (.iaload, 1) := by decide +kernel
theorem dX0_apart_59 : decode cX0_apart 59 = .ok (.isub, 1) := by decide +kernel
theorem dX0_apart_60 : decode cX0_apart 60 = .ok (.invokestatic 66, 3) := by decide +kernel
theorem dX0_apart_63 : decode cX0_apart 63 = .ok (.iadd, 1) := by decide +kernel
theorem dX0_apart_64 : decode cX0_apart 64 = .ok (.istore_n 1, 1) := by decide +kernel
theorem dX0_apart_65 : decode cX0_apart 65 = .ok (.iinc 2 1, 3) := by decide +kernel
theorem dX0_apart_68 : decode cX0_apart 68 = .ok (.goto (-64), 3) := by decide +kernel
theorem dX0_apart_71 : decode cX0_apart 71 = .ok (.iload_n 1, 1) := by decide +kernel
theorem dX0_apart_72 : decode cX0_apart 72 = .ok (.ireturn, 1) := by decide +kernel
theorem dX0_far_0 : decode cX0_far 0 = .ok (.iconst 0, 1) := by decide +kernel
theorem dX0_far_1 : decode cX0_far 1 = .ok (.istore_n 2, 1) := by decide +kernel
theorem dX0_far_2 : decode cX0_far 2 = .ok (.iconst 0, 1) := by decide +kernel
theorem dX0_far_3 : decode cX0_far 3 = .ok (.istore_n 3, 1) := by decide +kernel
theorem dX0_far_4 : decode cX0_far 4 = .ok (.iload_n 3, 1) := by decide +kernel
theorem dX0_far_5 : decode cX0_far 5 = .ok (.aload_n 0, 1) := by decide +kernel
theorem dX0_far_6 : decode cX0_far 6 = .ok (.getfield 21, 3) := by decide +kernel
theorem dX0_far_9 : decode cX0_far 9 = .ok (.if_icmp .ge 33, 3) := by decide +kernel
theorem dX0_far_12 : decode cX0_far 12 = .ok (.iload_n 2, 1) := by decide +kernel
theorem dX0_far_13 : decode cX0_far 13 = .ok (.aload_n 0, 1) := by decide +kernel
theorem dX0_far_14 : decode cX0_far 14 = .ok (.getfield 15, 3) := by decide +kernel
theorem dX0_far_17 : decode cX0_far 17 = .ok (.iload_n 3, 1) := by decide +kernel
theorem dX0_far_18 : decode cX0_far 18 = .ok (.iaload, 1) := by decide +kernel
theorem dX0_far_19 : decode cX0_far 19 = .ok (.aload_n 1, 1) := by decide +kernel
theorem dX0_far_20 : decode cX0_far 20 = .ok (.getfield 72, 3) := by decide +kernel
theorem dX0_far_23 : decode cX0_far 23 = .ok (.aload_n 0, 1) := by decide +kernel
theorem dX0_far_24 : decode cX0_far 24 = .ok (.getfield 9, 3) := by decide +kernel
theorem dX0_far_27 : decode cX0_far 27 = .ok (.iload_n 3, 1) := by decide +kernel
theorem dX0_far_28 : decode cX0_far 28 = .ok (.iaload, 1) := by decide +kernel
theorem dX0_far_29 : decode cX0_far 29 = .ok (.iaload, 1) := by decide +kernel
theorem dX0_far_30 : decode cX0_far 30 = .ok (.isub, 1) := by decide +kernel
theorem dX0_far_31 : decode cX0_far 31 = .ok (.invokestatic 66, 3) := by decide +kernel
theorem dX0_far_34 : decode cX0_far 34 = .ok (.iadd, 1) := by decide +kernel
theorem dX0_far_35 : decode cX0_far 35 = .ok (.istore_n 2, 1) := by decide +kernel
theorem dX0_far_36 : decode cX0_far 36 = .ok (.iinc 3 1, 3) := by decide +kernel
theorem dX0_far_39 : decode cX0_far 39 = .ok (.goto (-35), 3) := by decide +kernel
theorem dX0_far_42 : decode cX0_far 42 = .ok (.iload_n 2, 1) := by decide +kernel
theorem dX0_far_43 : decode cX0_far 43 = .ok (.ireturn, 1) := by decide +kernel
theorem dX0_goOn_0 : decode cX0_goOn 0 = .ok (.aload_n 0, 1) := by decide +kernel
theorem dX0_goOn_1 : decode cX0_goOn 1 = .ok (.getfield 21, 3) := by decide +kernel
theorem dX0_goOn_4 : decode cX0_goOn 4 = .ok (.iconst 2, 1) := by decide +kernel
theorem dX0_goOn_5 : decode cX0_goOn 5 = .ok (.isub, 1) := by decide +kernel
theorem dX0_goOn_6 : decode cX0_goOn 6 = .ok (.istore_n 1, 1) := by decide +kernel
theorem dX0_goOn_7 : decode cX0_goOn 7 = .ok (.iload_n 1, 1) := by decide +kernel
theorem dX0_goOn_8 : decode cX0_goOn 8 = .ok (.ifCond .lt 26, 3) := by decide +kernel
theorem dX0_goOn_11 : decode cX0_goOn 11 = .ok (.aload_n 0, 1) := by decide +kernel
theorem dX0_goOn_12 : decode cX0_goOn 12 = .ok (.getfield 15, 3) := by decide +kernel
theorem dX0_goOn_15 : decode cX0_goOn 15 = .ok (.iload_n 1, 1) := by decide +kernel
theorem dX0_goOn_16 : decode cX0_goOn 16 = .ok (.iaload, 1) := by decide +kernel
theorem dX0_goOn_17 : decode cX0_goOn 17 = .ok (.aload_n 0, 1) := by decide +kernel
theorem dX0_goOn_18 : decode cX0_goOn 18 = .ok (.getfield 15, 3) := by decide +kernel
theorem dX0_goOn_21 : decode cX0_goOn 21 = .ok (.iload_n 1, 1) := by decide +kernel
theorem dX0_goOn_22 : decode cX0_goOn 22 = .ok (.iconst 1, 1) := by decide +kernel
theorem dX0_goOn_23 : decode cX0_goOn 23 = .ok (.iadd, 1) := by decide +kernel
theorem dX0_goOn_24 : decode cX0_goOn 24 = .ok (.iaload, 1) := by decide +kernel
theorem dX0_goOn_25 : decode cX0_goOn 25 = .ok (.if_icmp .le 9, 3) := by decide +kernel
theorem dX0_goOn_28 : decode cX0_goOn 28 = .ok (.iinc 1 (-1), 3) := by decide +kernel
theorem dX0_goOn_31 : decode cX0_goOn 31 = .ok (.goto (-24), 3) := by decide +kernel
theorem dX0_goOn_34 : decode cX0_goOn 34 = .ok (.iload_n 1, 1) := by decide +kernel
theorem dX0_goOn_35 : decode cX0_goOn 35 = .ok (.ifCond .ge 5, 3) := by decide +kernel
theorem dX0_goOn_38 : decode cX0_goOn 38 = .ok (.iconst 0, 1) := by decide +kernel
theorem dX0_goOn_39 : decode cX0_goOn 39 = .ok (.ireturn, 1) := by decide +kernel
theorem dX0_goOn_40 : decode cX0_goOn 40 = .ok (.aload_n 0, 1) := by decide +kernel
theorem dX0_goOn_41 : decode cX0_goOn 41 = .ok (.getfield 21, 3) := by decide +kernel
theorem dX0_goOn_44 : decode cX0_goOn 44 = .ok (.iconst 1, 1) := by decide +kernel
theorem dX0_goOn_45 : decode cX0_goOn 45 = .ok (.isub, 1) := by decide +kernel
theorem dX0_goOn_46 : decode cX0_goOn 46 = .ok (.istore_n 2, 1) := by decide +kernel
theorem dX0_goOn_47 : decode cX0_goOn 47 = .ok (.iload_n 2, 1) := by decide +kernel
theorem dX0_goOn_48 : decode cX0_goOn 48 = .ok (.iload_n 1, 1) := by decide +kernel
theorem dX0_goOn_49 : decode cX0_goOn 49 = .ok (.if_icmp .le 24, 3) := by decide +kernel
theorem dX0_goOn_52 : decode cX0_goOn 52 = .ok (.aload_n 0, 1) := by decide +kernel
theorem dX0_goOn_53 : decode cX0_goOn 53 = .ok (.getfield 15, 3) := by decide +kernel
theorem dX0_goOn_56 : decode cX0_goOn 56 = .ok (.iload_n 2, 1) := by decide +kernel
theorem dX0_goOn_57 : decode cX0_goOn 57 = .ok (.iaload, 1) := by decide +kernel
theorem dX0_goOn_58 : decode cX0_goOn 58 = .ok (.aload_n 0, 1) := by decide +kernel
theorem dX0_goOn_59 : decode cX0_goOn 59 = .ok (.getfield 15, 3) := by decide +kernel
theorem dX0_goOn_62 : decode cX0_goOn 62 = .ok (.iload_n 1, 1) := by decide +kernel
theorem dX0_goOn_63 : decode cX0_goOn 63 = .ok (.iaload, 1) := by decide +kernel
theorem dX0_goOn_64 : decode cX0_goOn 64 = .ok (.if_icmp .ge 9, 3) := by decide +kernel
theorem dX0_goOn_67 : decode cX0_goOn 67 = .ok (.iinc 2 (-1), 3) := by decide +kernel
theorem dX0_goOn_70 : decode cX0_goOn 70 = .ok (.goto (-23), 3) := by decide +kernel
theorem dX0_goOn_73 : decode cX0_goOn 73 = .ok (.aload_n 0, 1) := by decide +kernel
theorem dX0_goOn_74 : decode cX0_goOn 74 = .ok (.iload_n 1, 1) := by decide +kernel
theorem dX0_goOn_75 : decode cX0_goOn 75 = .ok (.iload_n 2, 1) := by decide +kernel
theorem dX0_goOn_76 : decode cX0_goOn 76 = .ok (.invokevirtual 75, 3) := by decide +kernel
theorem dX0_goOn_79 : decode cX0_goOn 79 = .ok (.iload_n 1, 1) := by decide +kernel
theorem dX0_goOn_80 : decode cX0_goOn 80 = .ok (.iconst 1, 1) := by decide +kernel
theorem dX0_goOn_81 : decode cX0_goOn 81 = .ok (.iadd, 1) := by decide +kernel
theorem dX0_goOn_82 : decode cX0_goOn 82 = .ok (.istore_n 3, 1) := by decide +kernel
theorem dX0_goOn_83 : decode cX0_goOn 83 = .ok (.aload_n 0, 1) := by decide +kernel
theorem dX0_goOn_84 : decode cX0_goOn 84 = .ok (.getfield 21, 3) := by decide +kernel
theorem dX0_goOn_87 : decode cX0_goOn 87 = .ok (.iconst 1, 1) := by decide +kernel
theorem dX0_goOn_88 : decode cX0_goOn 88 = .ok (.isub, 1) := by decide +kernel
theorem dX0_goOn_89 : decode cX0_goOn 89 = .ok (.istore 4, 2) := by decide +kernel
theorem dX0_goOn_91 : decode cX0_goOn 91 = .ok (.iload_n 3, 1) := by decide +kernel
theorem dX0_goOn_92 : decode cX0_goOn 92 = .ok (.iload 4, 2) := by decide +kernel
theorem dX0_goOn_94 : decode cX0_goOn 94 = .ok (.if_icmp .ge 19, 3) := by decide +kernel
theorem dX0_goOn_97 : decode cX0_goOn 97 = .ok (.aload_n 0, 1) := by decide +kernel
theorem dX0_goOn_98 : decode cX0_goOn 98 = .ok (.iload_n 3, 1) := by decide +kernel
theorem dX0_goOn_99 : decode cX0_goOn 99 = .ok (.iload 4, 2) := by decide +kernel
theorem dX0_goOn_101 : decode cX0_goOn 101 = .ok (.invokevirtual 75, 3) := by decide +kernel
theorem dX0_goOn_104 : decode cX0_goOn 104 = .ok (.iinc 3 1, 3) := by decide +kernel
theorem dX0_goOn_107 : decode cX0_goOn 107 = .ok (.iinc 4 (-1), 3) := by decide +kernel
theorem dX0_goOn_110 : decode cX0_goOn 110 = .ok (.goto (-19), 3) := by decide +kernel
theorem dX0_goOn_113 : decode cX0_goOn 113 = .ok (.iconst 1, 1) := by decide +kernel
theorem dX0_goOn_114 : decode cX0_goOn 114 = .ok (.ireturn, 1) := by decide +kernel
theorem dX0_swap_0 : decode cX0_swap 0 = .ok (.aload_n 0, 1) := by decide +kernel
theorem dX0_swap_1 : decode cX0_swap 1 = .ok (.getfield 15, 3) := by decide +kernel
theorem dX0_swap_4 : decode cX0_swap 4 = .ok (.iload_n 1, 1) := by decide +kernel
theorem dX0_swap_5 : decode cX0_swap 5 = .ok (.iaload, 1) := by decide +kernel
theorem dX0_swap_6 : decode cX0_swap 6 = .ok (.istore_n 3, 1) := by decide +kernel
theorem dX0_swap_7 : decode cX0_swap 7 = .ok (.aload_n 0, 1) := by decide +kernel
theorem dX0_swap_8 : decode cX0_swap 8 = .ok (.getfield 15, 3) := by decide +kernel
theorem dX0_swap_11 : decode cX0_swap 11 = .ok (.iload_n 1, 1) := by decide +kernel
theorem dX0_swap_12 : decode cX0_swap 12 = .ok (.aload_n 0, 1) := by decide +kernel
theorem dX0_swap_13 : decode cX0_swap 13 = .ok (.getfield 15, 3) := by decide +kernel
theorem dX0_swap_16 : decode cX0_swap 16 = .ok (.iload_n 2, 1) := by decide +kernel
theorem dX0_swap_17 : decode cX0_swap 17 = .ok (.iaload, 1) := by decide +kernel
theorem dX0_swap_18 : decode cX0_swap 18 = .ok (.iastore, 1) := by decide +kernel
theorem dX0_swap_19 : decode cX0_swap 19 = .ok (.aload_n 0, 1) := by decide +kernel
theorem dX0_swap_20 : decode cX0_swap 20 = .ok (.getfield 15, 3) := by decide +kernel
theorem dX0_swap_23 : decode cX0_swap 23 = .ok (.iload_n 2, 1) := by decide +kernel
theorem dX0_swap_24 : decode cX0_swap 24 = .ok (.iload_n 3, 1) := by decide +kernel
theorem dX0_swap_25 : decode cX0_swap 25 = .ok (.iastore, 1) := by decide +kernel
theorem dX0_swap_26 : decode cX0_swap 26 = .ok (.return_, 1) := by decide +kernel
theorem dX1_init_0 : decode cX1_init 0 = .ok (.aload_n 0, 1) := by decide +kernel
theorem dX1_init_1 : decode cX1_init 1 = .ok (.invokespecial 3, 3) := by decide +kernel
theorem dX1_init_4 : decode cX1_init 4 = .ok (.aload_n 0, 1) := by decide +kernel
theorem dX1_init_5 : decode cX1_init 5 = .ok (.iconst 5, 1) := by decide +kernel
theorem dX1_init_6 : decode cX1_init 6 = .ok (.bipush 41, 2) := by decide +kernel
theorem dX1_init_8 : decode cX1_init 8 = .ok (.multianewarray 9 2, 4) := by decide +kernel
theorem dX1_init_12 : decode cX1_init 12 = .ok (.putfield 11, 3) := by decide +kernel
theorem dX1_init_15 : decode cX1_init 15 = .ok (.aload_n 0, 1) := by decide +kernel
theorem dX1_init_16 : decode cX1_init 16 = .ok (.iconst 0, 1) := by decide +kernel
theorem dX1_init_17 : decode cX1_init 17 = .ok (.putfield 16, 3) := by decide +kernel
theorem dX1_init_20 : decode cX1_init 20 = .ok (.return_, 1) := by decide +kernel
theorem dX1_seek_0 : decode cX1_seek 0 = .ok (.iconst 0, 1) := by decide +kernel
theorem dX1_seek_1 : decode cX1_seek 1 = .ok (.istore 4, 2) := by decide +kernel
theorem dX1_seek_3 : decode cX1_seek 3 = .ok (.iload 4, 2) := by decide +kernel
theorem dX1_seek_5 : decode cX1_seek 5 = .ok (.iload_n 2, 1) := by decide +kernel
theorem dX1_seek_6 : decode cX1_seek 6 = .ok (.if_icmp .gt 68, 3) := by decide +kernel
theorem dX1_seek_9 : decode cX1_seek 9 = .ok (.iload 4, 2) := by decide +kernel
theorem dX1_seek_11 : decode cX1_seek 11 = .ok (.iconst 4, 1) := by decide +kernel
theorem dX1_seek_12 : decode cX1_seek 12 = .ok (.if_icmp .gt 62, 3) := by decide +kernel
theorem dX1_seek_15 : decode cX1_seek 15 = .ok (.iconst 0, 1) := by decide +kernel
theorem dX1_seek_16 : decode cX1_seek 16 = .ok (.istore 5, 2) := by decide +kernel
theorem dX1_seek_18 : decode cX1_seek 18 = .ok (.iload 5, 2) := by decide +kernel
theorem dX1_seek_20 : decode cX1_seek 20 = .ok (.bipush 40, 2) := by decide +kernel
theorem dX1_seek_22 : decode cX1_seek 22 = .ok (.if_icmp .gt 46, 3) := by decide +kernel
theorem dX1_seek_25 : decode cX1_seek 25 = .ok (.aload_n 0, 1) := by decide +kernel
theorem dX1_seek_26 : decode cX1_seek 26 = .ok (.getfield 11, 3) := by decide +kernel
theorem dX1_seek_29 : decode cX1_seek 29 = .ok (.iload 4, 2) := by decide +kernel
theorem dX1_seek_31 : decode cX1_seek 31 = .ok (.aaload, 1) := by decide +kernel
theorem dX1_seek_32 : decode cX1_seek 32 = .ok (.iload 5, 2) := by decide +kernel
theorem dX1_seek_34 : decode cX1_seek 34 = .ok (.iload 4, 2) := by decide +kernel
theorem dX1_seek_36 : decode cX1_seek 36 = .ok (.ifCond .ne 16, 3) := by decide +kernel
theorem dX1_seek_39 : decode cX1_seek 39 = .ok (.iload 5, 2) := by decide +kernel
theorem dX1_seek_41 : decode cX1_seek 41 = .ok (.ifCond .ne 7, 3) := by decide +kernel
theorem dX1_seek_44 : decode cX1_seek 44 = .ok (.iconst 1, 1) := by decide +kernel
theorem dX1_seek_45 : decode cX1_seek 45 = .ok (.goto 16, 3) := by decide +kernel
theorem dX1_seek_48 : decode cX1_seek 48 = .ok (.iconst 0, 1) := by decide +kernel
theorem dX1_seek_49 : decode cX1_seek 49 = .ok (.goto 12, 3) := by decide +kernel
theorem dX1_seek_52 : decode cX1_seek 52 = .ok (.aload_n 0, 1) := by decide +kernel
theorem dX1_seek_53 : decode cX1_seek 53 = .ok (.iload_n 1, 1) := by decide +kernel
theorem dX1_seek_54 : decode cX1_seek 54 = .ok (.iload 4, 2) := by decide +kernel
theorem dX1_seek_56 : decode cX1_seek 56 = .ok (.iload 5, 2) := by decide +kernel
theorem dX1_seek_58 : decode cX1_seek 58 = .ok (.invokevirtual 20, 3) := by decide +kernel
theorem dX1_seek_61 : decode cX1_seek 61 = .ok (.iastore, 1) := by decide +kernel
theorem dX1_seek_62 : decode cX1_seek 62 = .ok (.iinc 5 1, 3) := by decide +kernel
theorem dX1_seek_65 : decode cX1_seek 65 = .ok (.goto (-47), 3) := by decide +kernel
theorem dX1_seek_68 : decode cX1_seek 68 = .ok (.iinc 4 1, 3) := by decide +kernel
theorem dX1_seek_71 : decode cX1_seek 71 = .ok (.goto (-68), 3) := by decide +kernel
theorem dX1_seek_74 : decode cX1_seek 74 = .ok (.aload_n 0, 1) := by decide +kernel
theorem dX1_seek_75 : decode cX1_seek 75 = .ok (.iload_n 2, 1) := by decide +kernel
theorem dX1_seek_76 : decode cX1_seek 76 = .ok (.iload_n 3, 1) := by decide +kernel
theorem dX1_seek_77 : decode cX1_seek 77 = .ok (.invokevirtual 24, 3) := by decide +kernel
theorem dX1_seek_80 : decode cX1_seek 80 = .ok (.istore 4, 2) := by decide +kernel
theorem dX1_seek_82 : decode cX1_seek 82 = .ok (.iload 4, 2) := by decide +kernel
theorem dX1_seek_84 : decode cX1_seek 84 = .ok (.ifCond .le 14, 3) := by decide +kernel
theorem dX1_seek_87 : decode cX1_seek 87 = .ok (.aload_n 0, 1) := by decide +kernel
theorem dX1_seek_88 : decode cX1_seek 88 = .ok (.aload_n 0, 1) := by decide +kernel
theorem dX1_seek_89 : decode cX1_seek 89 = .ok (.iload_n 1, 1) := by decide +kernel
theorem dX1_seek_90 : decode cX1_seek 90 = .ok (.iload_n 2, 1) := by decide +kernel
theorem dX1_seek_91 : decode cX1_seek 91 = .ok (.iload_n 3, 1) := by decide +kernel
theorem dX1_seek_92 : decode cX1_seek 92 = .ok (.invokevirtual 28, 3) := by decide +kernel
theorem dX1_seek_95 : decode cX1_seek 95 = .ok (.putfield 16, 3) := by decide +kernel
theorem dX1_seek_98 : decode cX1_seek 98 = .ok (.iload 4, 2) := by decide +kernel
theorem dX1_seek_100 : decode cX1_seek 100 = .ok (.ireturn, 1) := by decide +kernel
theorem dX1_waysOf_0 : decode cX1_waysOf 0 = .ok (.iconst 0, 1) := by decide +kernel
theorem dX1_waysOf_1 : decode cX1_waysOf 1 = .ok (.iload_n 1, 1) := by decide +kernel
theorem dX1_waysOf_2 : decode cX1_waysOf 2 = .ok (.if_icmp .gt 30, 3) := by decide +kernel
theorem dX1_waysOf_5 : decode cX1_waysOf 5 = .ok (.iload_n 1, 1) := by decide +kernel
theorem dX1_waysOf_6 : decode cX1_waysOf 6 = .ok (.iconst 4, 1) := by decide +kernel
theorem dX1_waysOf_7 : decode cX1_waysOf 7 = .ok (.if_icmp .gt 25, 3) := by decide +kernel
theorem dX1_waysOf_10 : decode cX1_waysOf 10 = .ok (.iconst 0, 1) := by decide +kernel
theorem dX1_waysOf_11 : decode cX1_waysOf 11 = .ok (.iload_n 2, 1) := by decide +kernel
theorem dX1_waysOf_12 : decode cX1_waysOf 12 = .ok (.if_icmp .gt 20, 3) := by decide +kernel
theorem dX1_waysOf_15 : decode cX1_waysOf 15 = .ok (.iload_n 2, 1) := by decide +kernel
theorem dX1_waysOf_16 : decode cX1_waysOf 16 = .ok (.bipush 40, 2) := by decide +kernel
theorem dX1_waysOf_18 : decode cX1_waysOf 18 = .ok (.if_icmp .gt 14, 3) := by decide +kernel
theorem dX1_waysOf_21 : decode cX1_waysOf 21 = .ok (.aload_n 0, 1) := by decide +kernel
theorem dX1_waysOf_22 : decode cX1_waysOf 22 = .ok (.getfield 11, 3) := by decide +kernel
theorem dX1_waysOf_25 : decode cX1_waysOf 25 = .ok (.iload_n 1, 1) := by decide +kernel
theorem dX1_waysOf_26 : decode cX1_waysOf 26 = .ok (.aaload, 1) := by decide +kernel
theorem dX1_waysOf_27 : decode cX1_waysOf 27 = .ok (.iload_n 2, 1) := by decide +kernel
theorem dX1_waysOf_28 : decode cX1_waysOf 28 = .ok (.iaload, 1) := by decide +kernel
theorem dX1_waysOf_29 : decode cX1_waysOf 29 = .ok (.goto 4, 3) := by decide +kernel
theorem dX1_waysOf_32 : decode cX1_waysOf 32 = .ok (.iconst 0, 1) := by decide +kernel
theorem dX1_waysOf_33 : decode cX1_waysOf 33 = .ok (.ireturn, 1) := by decide +kernel
theorem dX1_waysByLast_0 : decode cX1_waysByLast 0 = .ok (.iconst 0, 1) := by decide +kernel
theorem dX1_waysByLast_1 : decode cX1_waysByLast 1 = .ok (.istore 4, 2) := by decide +kernel
theorem dX1_waysByLast_3 : decode cX1_waysByLast 3 = .ok (.iconst 0, 1) := by decide +kernel
theorem dX1_waysByLast_4 : decode cX1_waysByLast 4 = .ok (.istore 5, 2) := by decide +kernel
theorem dX1_waysByLast_6 : decode cX1_waysByLast 6 = .ok (.iload 5, 2) := by decide +kernel
theorem dX1_waysByLast_8 : decode cX1_waysByLast 8 = .ok (.bipush 10, 2) := by decide +kernel
theorem dX1_waysByLast_10 : decode cX1_waysByLast 10 = .ok (.if_icmp .ge 29, 3) := by decide +kernel
theorem dX1_waysByLast_13 : decode cX1_waysByLast 13 = .ok (.iload 4, 2) := by decide +kernel
theorem dX1_waysByLast_15 : decode cX1_waysByLast 15 = .ok (.aload_n 0, 1) := by decide +kernel
theorem dX1_waysByLast_16 : decode cX1_waysByLast 16 = .ok (.iload_n 2, 1) := by decide +kernel
theorem dX1_waysByLast_17 : decode cX1_waysByLast 17 = .ok (.iconst 1, 1) := by decide +kernel
theorem dX1_waysByLast_18 : decode cX1_waysByLast 18 = .ok (.isub, 1) := by decide +kernel
theorem dX1_waysByLast_19 : decode cX1_waysByLast 19 = .ok (.iload_n 3, 1) := by decide +kernel
theorem dX1_waysByLast_20 : decode cX1_waysByLast 20 = .ok (.iload_n 1, 1) := by decide +kernel
theorem dX1_waysByLast_21 : decode cX1_waysByLast 21 = .ok (.iload 5, 2) := by decide +kernel
theorem dX1_waysByLast_23 : decode cX1_waysByLast 23 = .ok (.invokestatic 31, 3) := by decide +kernel
theorem dX1_waysByLast_26 : decode cX1_waysByLast 26 = .ok (.isub, 1) := by decide +kernel
theorem dX1_waysByLast_27 : decode cX1_waysByLast 27 = .ok (.invokevirtual 24, 3) := by decide +kernel
theorem dX1_waysByLast_30 : decode cX1_waysByLast 30 = .ok (.iadd, 1) := by decide +kernel
theorem dX1_waysByLast_31 : decode cX1_waysByLast 31 = .ok (.istore 4, 2) := by decide +kernel
theorem dX1_waysByLast_33 : decode cX1_waysByLast 33 = .ok (.iinc 5 1, 3) := by decide +kernel
theorem dX1_waysByLast_36 : decode cX1_waysByLast 36 = .ok (.goto (-30), 3) := by decide +kernel
theorem dX1_waysByLast_39 : decode cX1_waysByLast 39 = .ok (.iload 4, 2) := by decide +kernel
theorem dX1_waysByLast_41 : decode cX1_waysByLast 41 = .ok (.ireturn, 1) := by decide +kernel
theorem dX1_firstRow_0 : decode cX1_firstRow 0 = .ok (.iconst 0, 1) := by decide +kernel
theorem dX1_firstRow_1 : decode cX1_firstRow 1 = .ok (.istore 4, 2) := by decide +kernel
theorem dX1_firstRow_3 : decode cX1_firstRow 3 = .ok (.iload_n 3, 1) := by decide +kernel
theorem dX1_firstRow_4 : decode cX1_firstRow 4 = .ok (.istore 5, 2) := by decide +kernel
theorem dX1_firstRow_6 : decode cX1_firstRow 6 = .ok (.iload_n 2, 1) := by decide +kernel
theorem dX1_firstRow_7 : decode cX1_firstRow 7 = .ok (.istore 6, 2) := by decide +kernel
theorem dX1_firstRow_9 : decode cX1_firstRow 9 = .ok (.iload 6, 2) := by decide +kernel
theorem dX1_firstRow_11 : decode cX1_firstRow 11 = .ok (.ifCond .le 41, 3) := by decide +kernel
theorem dX1_firstRow_14 : decode cX1_firstRow 14 = .ok (.aload_n 0, 1) := by decide +kernel
theorem dX1_firstRow_15 : decode cX1_firstRow 15 = .ok (.iload_n 1, 1) := by decide +kernel
theorem dX1_firstRow_16 : decode cX1_firstRow 16 = .ok (.iload 6, 2) := by decide +kernel
theorem dX1_firstRow_18 : decode cX1_firstRow 18 = .ok (.iload 5, 2) := by decide +kernel
theorem dX1_firstRow_20 : decode cX1_firstRow 20 = .ok (.invokevirtual 36, 3) := by decide +kernel
theorem dX1_firstRow_23 : decode cX1_firstRow 23 = .ok (.istore 7, 2) := by decide +kernel
theorem dX1_firstRow_25 : decode cX1_firstRow 25 = .ok (.bipush 10, 2) := by decide +kernel
theorem dX1_firstRow_27 : decode cX1_firstRow 27 = .ok (.iload 4, 2) := by decide +kernel
theorem dX1_firstRow_29 : decode cX1_firstRow 29 = .ok (.imul, 1) := by decide +kernel
theorem dX1_firstRow_30 : decode cX1_firstRow 30 = .ok (.iload 7, 2) := by decide +kernel
theorem dX1_firstRow_32 : decode cX1_firstRow 32 = .ok (.iadd, 1) := by decide +kernel
theorem dX1_firstRow_33 : decode cX1_firstRow 33 = .ok (.istore 4, 2) := by decide +kernel
theorem dX1_firstRow_35 : decode cX1_firstRow 35 = .ok (.iload 5, 2) := by decide +kernel
theorem dX1_firstRow_37 : decode cX1_firstRow 37 = .ok (.iload_n 1, 1) := by decide +kernel
theorem dX1_firstRow_38 : decode cX1_firstRow 38 = .ok (.iload 7, 2) := by decide +kernel
theorem dX1_firstRow_40 : decode cX1_firstRow 40 = .ok (.invokestatic 31, 3) := by decide +kernel
theorem dX1_firstRow_43 : decode cX1_firstRow 43 = .ok (.isub, 1) := by decide +kernel
theorem dX1_firstRow_44 : decode cX1_firstRow 44 = .ok (.istore 5, 2) := by decide +kernel
theorem dX1_firstRow_46 : decode cX1_firstRow 46 = .ok (.iinc 6 (-1), 3) := by decide +kernel
theorem dX1_firstRow_49 : decode cX1_firstRow 49 = .ok (.goto (-40), 3) := by decide +kernel
theorem dX1_firstRow_52 : decode cX1_firstRow 52 = .ok (.iload 4, 2) := by decide +kernel
theorem dX1_firstRow_54 : decode cX1_firstRow 54 = .ok (.ireturn, 1) := by decide +kernel
theorem dX1_firstWind_0 : decode cX1_firstWind 0 = .ok (.iconst 0, 1) := by decide +kernel
theorem dX1_firstWind_1 : decode cX1_firstWind 1 = .ok (.istore 4, 2) := by decide +kernel
theorem dX1_firstWind_3 : decode cX1_firstWind 3 = .ok (.iload 4, 2) := by decide +kernel
theorem dX1_firstWind_5 : decode cX1_firstWind 5 = .ok (.bipush 10, 2) := by decide +kernel
theorem dX1_firstWind_7 : decode cX1_firstWind 7 = .ok (.if_icmp .ge 30, 3) := by decide +kernel
theorem dX1_firstWind_10 : decode cX1_firstWind 10 = .ok (.aload_n 0, 1) := by decide +kernel
theorem dX1_firstWind_11 : decode cX1_firstWind 11 = .ok (.iload_n 2, 1) := by decide +kernel
theorem dX1_firstWind_12 : decode cX1_firstWind 12 = .ok (.iconst 1, 1) := by decide +kernel
theorem dX1_firstWind_13 : decode cX1_firstWind 13 = .ok (.isub, 1) := by decide +kernel
theorem dX1_firstWind_14 : decode cX1_firstWind 14 = .ok (.iload_n 3, 1) := by decide +kernel
theorem dX1_firstWind_15 : decode cX1_firstWind 15 = .ok (.iload_n 1, 1) := by decide +kernel
theorem dX1_firstWind_16 : decode cX1_firstWind 16 = .ok (.iload 4, 2) := by decide +kernel
theorem dX1_firstWind_18 : decode cX1_firstWind 18 = .ok (.invokestatic 31, 3) := by decide +kernel
theorem dX1_firstWind_21 : decode cX1_firstWind 21 = .ok (.isub, 1) := by decide +kernel
theorem dX1_firstWind_22 : decode cX1_firstWind 22 = .ok (.invokevirtual 24, 3) := by decide +kernel
theorem dX1_firstWind_25 : decode cX1_firstWind 25 = .ok (.ifCond .le 6, 3) := by decide +kernel
theorem dX1_firstWind_28 : decode cX1_firstWind 28 = .ok (.iload 4, 2) := by decide +kernel
theorem dX1_firstWind_30 : decode cX1_firstWind 30 = .ok (.ireturn, 1) := by decide +kernel
theorem dX1_firstWind_31 : decode cX1_firstWind 31 = .ok (.iinc 4 1, 3) := by decide +kernel
theorem dX1_firstWind_34 : decode cX1_firstWind 34 = .ok (.goto (-31), 3) := by decide +kernel
theorem dX1_firstWind_37 : decode cX1_firstWind 37 = .ok (.iconst 0, 1) := by decide +kernel
theorem dX1_firstWind_38 : decode cX1_firstWind 38 = .ok (.ireturn, 1) := by decide +kernel
theorem dX2_init_0 : decode cX2_init 0 = .ok (.aload_n 0, 1) := by decide +kernel
theorem dX2_init_1 : decode cX2_init 1 = .ok (.invokespecial 3, 3) := by decide +kernel
theorem dX2_init_4 : decode cX2_init 4 = .ok (.aload_n 0, 1) := by decide +kernel
theorem dX2_init_5 : decode cX2_init 5 = .ok (.iconst 0, 1) := by decide +kernel
theorem dX2_init_6 : decode cX2_init 6 = .ok (.putfield 9, 3) := by decide +kernel
theorem dX2_init_9 : decode cX2_init 9 = .ok (.aload_n 0, 1) := by decide +kernel
theorem dX2_init_10 : decode cX2_init 10 = .ok (.iconst 0, 1) := by decide +kernel
theorem dX2_init_11 : decode cX2_init 11 = .ok (.putfield 15, 3) := by decide +kernel
theorem dX2_init_14 : decode cX2_init 14 = .ok (.aload_n 0, 1) := by decide +kernel
theorem dX2_init_15 : decode cX2_init 15 = .ok (.iconst 0, 1) := by decide +kernel
theorem dX2_init_16 : decode cX2_init 16 = .ok (.putfield 18, 3) := by decide +kernel
theorem dX2_init_19 : decode cX2_init 19 = .ok (.aload_n 0, 1) := by decide +kernel
theorem dX2_init_20 : decode cX2_init 20 = .ok (.iconst 4, 1) := by decide +kernel
theorem dX2_init_21 : decode cX2_init 21 = .ok (.newarray .int, 2) := by decide +kernel
theorem dX2_init_23 : decode cX2_init 23 = .ok (.putfield 21, 3) := by decide +kernel
theorem dX2_init_26 : decode cX2_init 26 = .ok (.aload_n 0, 1) := by decide +kernel
theorem dX2_init_27 : decode cX2_init 27 = .ok (.bipush 6, 2) := by decide +kernel
theorem dX2_init_29 : decode cX2_init 29 = .ok (.newarray .int, 2) := by decide +kernel
theorem dX2_init_31 : decode cX2_init 31 = .ok (.putfield 25, 3) := by decide +kernel
theorem dX2_init_34 : decode cX2_init 34 = .ok (.aload_n 0, 1) := by decide +kernel
theorem dX2_init_35 : decode cX2_init 35 = .ok (.bipush 6, 2) := by decide +kernel
theorem dX2_init_37 : decode cX2_init 37 = .ok (.newarray .int, 2) := by decide +kernel
theorem dX2_init_39 : decode cX2_init 39 = .ok (.putfield 28, 3) := by decide +kernel
theorem dX2_init_42 : decode cX2_init 42 = .ok (.aload_n 0, 1) := by decide +kernel
theorem dX2_init_43 : decode cX2_init 43 = .ok (.bipush 6, 2) := by decide +kernel
theorem dX2_init_45 : decode cX2_init 45 = .ok (.newarray .int, 2) := by decide +kernel
theorem dX2_init_47 : decode cX2_init 47 = .ok (.putfield 31, 3) := by decide +kernel
theorem dX2_init_50 : decode cX2_init 50 = .ok (.aload_n 0, 1) := by decide +kernel
theorem dX2_init_51 : decode cX2_init 51 = .ok (.bipush 6, 2) := by decide +kernel
theorem dX2_init_53 : decode cX2_init 53 = .ok (.newarray .int, 2) := by decide +kernel
theorem dX2_init_55 : decode cX2_init 55 = .ok (.putfield 34, 3) := by decide +kernel
theorem dX2_init_58 : decode cX2_init 58 = .ok (.aload_n 0, 1) := by decide +kernel
theorem dX2_init_59 : decode cX2_init 59 = .ok (.bipush 6, 2) := by decide +kernel
theorem dX2_init_61 : decode cX2_init 61 = .ok (.newarray .int, 2) := by decide +kernel
theorem dX2_init_63 : decode cX2_init 63 = .ok (.putfield 37, 3) := by decide +kernel
theorem dX2_init_66 : decode cX2_init 66 = .ok (.aload_n 0, 1) := by decide +kernel
theorem dX2_init_67 : decode cX2_init 67 = .ok (.bipush 6, 2) := by decide +kernel
theorem dX2_init_69 : decode cX2_init 69 = .ok (.newarray .int, 2) := by decide +kernel
theorem dX2_init_71 : decode cX2_init 71 = .ok (.putfield 40, 3) := by decide +kernel
theorem dX2_init_74 : decode cX2_init 74 = .ok (.aload_n 0, 1) := by decide +kernel
theorem dX2_init_75 : decode cX2_init 75 = .ok (.iconst 0, 1) := by decide +kernel
theorem dX2_init_76 : decode cX2_init 76 = .ok (.putfield 43, 3) := by decide +kernel
theorem dX2_init_79 : decode cX2_init 79 = .ok (.return_, 1) := by decide +kernel
theorem dX2_clear_0 : decode cX2_clear 0 = .ok (.aload_n 0, 1) := by decide +kernel
theorem dX2_clear_1 : decode cX2_clear 1 = .ok (.iconst 0, 1) := by decide +kernel
theorem dX2_clear_2 : decode cX2_clear 2 = .ok (.putfield 9, 3) := by decide +kernel
theorem dX2_clear_5 : decode cX2_clear 5 = .ok (.aload_n 0, 1) := by decide +kernel
theorem dX2_clear_6 : decode cX2_clear 6 = .ok (.iconst 0, 1) := by decide +kernel
theorem dX2_clear_7 : decode cX2_clear 7 = .ok (.putfield 15, 3) := by decide +kernel
theorem dX2_clear_10 : decode cX2_clear 10 = .ok (.aload_n 0, 1) := by decide +kernel
theorem dX2_clear_11 : decode cX2_clear 11 = .ok (.iconst 0, 1) := by decide +kernel
theorem dX2_clear_12 : decode cX2_clear 12 = .ok (.putfield 18, 3) := by decide +kernel
theorem dX2_clear_15 : decode cX2_clear 15 = .ok (.aload_n 0, 1) := by decide +kernel
theorem dX2_clear_16 : decode cX2_clear 16 = .ok (.iconst 0, 1) := by decide +kernel
theorem dX2_clear_17 : decode cX2_clear 17 = .ok (.putfield 43, 3) := by decide +kernel
theorem dX2_clear_20 : decode cX2_clear 20 = .ok (.return_, 1) := by decide +kernel
theorem dX2_become_0 : decode cX2_become 0 = .ok (.aload_n 0, 1) := by decide +kernel
theorem dX2_become_1 : decode cX2_become 1 = .ok (.aload_n 1, 1) := by decide +kernel
theorem dX2_become_2 : decode cX2_become 2 = .ok (.getfield 9, 3) := by decide +kernel
theorem dX2_become_5 : decode cX2_become 5 = .ok (.putfield 9, 3) := by decide +kernel
theorem dX2_become_8 : decode cX2_become 8 = .ok (.aload_n 0, 1) := by decide +kernel
theorem dX2_become_9 : decode cX2_become 9 = .ok (.aload_n 1, 1) := by decide +kernel
theorem dX2_become_10 : decode cX2_become 10 = .ok (.getfield 15, 3) := by decide +kernel
theorem dX2_become_13 : decode cX2_become 13 = .ok (.putfield 15, 3) := by decide +kernel
theorem dX2_become_16 : decode cX2_become 16 = .ok (.aload_n 0, 1) := by decide +kernel
theorem dX2_become_17 : decode cX2_become 17 = .ok (.aload_n 1, 1) := by decide +kernel
theorem dX2_become_18 : decode cX2_become 18 = .ok (.getfield 18, 3) := by decide +kernel
theorem dX2_become_21 : decode cX2_become 21 = .ok (.putfield 18, 3) := by decide +kernel
theorem dX2_become_24 : decode cX2_become 24 = .ok (.aload_n 0, 1) := by decide +kernel
theorem dX2_become_25 : decode cX2_become 25 = .ok (.iconst 0, 1) := by decide +kernel
theorem dX2_become_26 : decode cX2_become 26 = .ok (.putfield 43, 3) := by decide +kernel
theorem dX2_become_29 : decode cX2_become 29 = .ok (.iconst 0, 1) := by decide +kernel
theorem dX2_become_30 : decode cX2_become 30 = .ok (.istore_n 2, 1) := by decide +kernel
theorem dX2_become_31 : decode cX2_become 31 = .ok (.iload_n 2, 1) := by decide +kernel
theorem dX2_become_32 : decode cX2_become 32 = .ok (.aload_n 0, 1) := by decide +kernel
theorem dX2_become_33 : decode cX2_become 33 = .ok (.getfield 21, 3) := by decide +kernel
theorem dX2_become_36 : decode cX2_become 36 = .ok (.arraylength, 1) := by decide +kernel
theorem dX2_become_37 : decode cX2_become 37 = .ok (.if_icmp .ge 21, 3) := by decide +kernel
theorem dX2_become_40 : decode cX2_become 40 = .ok (.aload_n 0, 1) := by decide +kernel
theorem dX2_become_41 : decode cX2_become 41 = .ok (.getfield 21, 3) := by decide +kernel
theorem dX2_become_44 : decode cX2_become 44 = .ok (.iload_n 2, 1) := by decide +kernel
theorem dX2_become_45 : decode cX2_become 45 = .ok (.aload_n 1, 1) := by decide +kernel
theorem dX2_become_46 : decode cX2_become 46 = .ok (.getfield 21, 3) := by decide +kernel
theorem dX2_become_49 : decode cX2_become 49 = .ok (.iload_n 2, 1) := by decide +kernel
theorem dX2_become_50 : decode cX2_become 50 = .ok (.iaload, 1) := by decide +kernel
theorem dX2_become_51 : decode cX2_become 51 = .ok (.iastore, 1) := by decide +kernel
theorem dX2_become_52 : decode cX2_become 52 = .ok (.iinc 2 1, 3) := by decide +kernel
theorem dX2_become_55 : decode cX2_become 55 = .ok (.goto (-24), 3) := by decide +kernel
theorem dX2_become_58 : decode cX2_become 58 = .ok (.iconst 0, 1) := by decide +kernel
theorem dX2_become_59 : decode cX2_become 59 = .ok (.istore_n 2, 1) := by decide +kernel
theorem dX2_become_60 : decode cX2_become 60 = .ok (.iload_n 2, 1) := by decide +kernel
theorem dX2_become_61 : decode cX2_become 61 = .ok (.bipush 6, 2) := by decide +kernel
theorem dX2_become_63 : decode cX2_become 63 = .ok (.if_icmp .ge 69, 3) := by decide +kernel
theorem dX2_become_66 : decode cX2_become 66 = .ok (.aload_n 0, 1) := by decide +kernel
theorem dX2_become_67 : decode cX2_become 67 = .ok (.getfield 25, 3) := by decide +kernel
theorem dX2_become_70 : decode cX2_become 70 = .ok (.iload_n 2, 1) := by decide +kernel
theorem dX2_become_71 : decode cX2_become 71 = .ok (.aload_n 1, 1) := by decide +kernel
theorem dX2_become_72 : decode cX2_become 72 = .ok (.getfield 25, 3) := by decide +kernel
theorem dX2_become_75 : decode cX2_become 75 = .ok (.iload_n 2, 1) := by decide +kernel
theorem dX2_become_76 : decode cX2_become 76 = .ok (.iaload, 1) := by decide +kernel
theorem dX2_become_77 : decode cX2_become 77 = .ok (.iastore, 1) := by decide +kernel
theorem dX2_become_78 : decode cX2_become 78 = .ok (.aload_n 0, 1) := by decide +kernel
theorem dX2_become_79 : decode cX2_become 79 = .ok (.getfield 28, 3) := by decide +kernel
theorem dX2_become_82 : decode cX2_become 82 = .ok (.iload_n 2, 1) := by decide +kernel
theorem dX2_become_83 : decode cX2_become 83 = .ok (.aload_n 1, 1) := by decide +kernel
theorem dX2_become_84 : decode cX2_become 84 = .ok (.getfield 28, 3) := by decide +kernel
theorem dX2_become_87 : decode cX2_become 87 = .ok (.iload_n 2, 1) := by decide +kernel
theorem dX2_become_88 : decode cX2_become 88 = .ok (.iaload, 1) := by decide +kernel
theorem dX2_become_89 : decode cX2_become 89 = .ok (.iastore, 1) := by decide +kernel
theorem dX2_become_90 : decode cX2_become 90 = .ok (.aload_n 0, 1) := by decide +kernel
theorem dX2_become_91 : decode cX2_become 91 = .ok (.getfield 31, 3) := by decide +kernel
theorem dX2_become_94 : decode cX2_become 94 = .ok (.iload_n 2, 1) := by decide +kernel
theorem dX2_become_95 : decode cX2_become 95 = .ok (.aload_n 1, 1) := by decide +kernel
theorem dX2_become_96 : decode cX2_become 96 = .ok (.getfield 31, 3) := by decide +kernel
theorem dX2_become_99 : decode cX2_become 99 = .ok (.iload_n 2, 1) := by decide +kernel
theorem dX2_become_100 : decode cX2_become 100 = .ok (.iaload, 1) := by decide +kernel
theorem dX2_become_101 : decode cX2_become 101 = .ok (.iastore, 1) := by decide +kernel
theorem dX2_become_102 : decode cX2_become 102 = .ok (.aload_n 0, 1) := by decide +kernel
theorem dX2_become_103 : decode cX2_become 103 = .ok (.getfield 34, 3) := by decide +kernel
theorem dX2_become_106 : decode cX2_become 106 = .ok (.iload_n 2, 1) := by decide +kernel
theorem dX2_become_107 : decode cX2_become 107 = .ok (.aload_n 1, 1) := by decide +kernel
theorem dX2_become_108 : decode cX2_become 108 = .ok (.getfield 34, 3) := by decide +kernel
theorem dX2_become_111 : decode cX2_become 111 = .ok (.iload_n 2, 1) := by decide +kernel
theorem dX2_become_112 : decode cX2_become 112 = .ok (.iaload, 1) := by decide +kernel
theorem dX2_become_113 : decode cX2_become 113 = .ok (.iastore, 1) := by decide +kernel
theorem dX2_become_114 : decode cX2_become 114 = .ok (.aload_n 0, 1) := by decide +kernel
theorem dX2_become_115 : decode cX2_become 115 = .ok (.getfield 37, 3) := by decide +kernel
theorem dX2_become_118 : decode cX2_become 118 = .ok (.iload_n 2, 1) := by decide +kernel
theorem dX2_become_119 : decode cX2_become 119 = .ok (.aload_n 1, 1) := by decide +kernel
theorem dX2_become_120 : decode cX2_become 120 = .ok (.getfield 37, 3) := by decide +kernel
theorem dX2_become_123 : decode cX2_become 123 = .ok (.iload_n 2, 1) := by decide +kernel
theorem dX2_become_124 : decode cX2_become 124 = .ok (.iaload, 1) := by decide +kernel
theorem dX2_become_125 : decode cX2_become 125 = .ok (.iastore, 1) := by decide +kernel
theorem dX2_become_126 : decode cX2_become 126 = .ok (.iinc 2 1, 3) := by decide +kernel
theorem dX2_become_129 : decode cX2_become 129 = .ok (.goto (-69), 3) := by decide +kernel
theorem dX2_become_132 : decode cX2_become 132 = .ok (.return_, 1) := by decide +kernel
theorem dX2_knows_0 : decode cX2_knows 0 = .ok (.iconst 0, 1) := by decide +kernel
theorem dX2_knows_1 : decode cX2_knows 1 = .ok (.iload_n 1, 1) := by decide +kernel
theorem dX2_knows_2 : decode cX2_knows 2 = .ok (.if_icmp .gt 15, 3) := by decide +kernel
theorem dX2_knows_5 : decode cX2_knows 5 = .ok (.iload_n 1, 1) := by decide +kernel
theorem dX2_knows_6 : decode cX2_knows 6 = .ok (.aload_n 0, 1) := by decide +kernel
theorem dX2_knows_7 : decode cX2_knows 7 = .ok (.getfield 9, 3) := by decide +kernel
theorem dX2_knows_10 : decode cX2_knows 10 = .ok (.if_icmp .ge 7, 3) := by decide +kernel
theorem dX2_knows_13 : decode cX2_knows 13 = .ok (.iconst 1, 1) := by decide +kernel
theorem dX2_knows_14 : decode cX2_knows 14 = .ok (.goto 4, 3) := by decide +kernel
theorem dX2_knows_17 : decode cX2_knows 17 = .ok (.iconst 0, 1) := by decide +kernel
theorem dX2_knows_18 : decode cX2_knows 18 = .ok (.ireturn, 1) := by decide +kernel
theorem dX2_isThere_0 : decode cX2_isThere 0 = .ok (.aload_n 0, 1) := by decide +kernel
theorem dX2_isThere_1 : decode cX2_isThere 1 = .ok (.iload_n 1, 1) := by decide +kernel
theorem dX2_isThere_2 : decode cX2_isThere 2 = .ok (.invokevirtual 46, 3) := by decide +kernel
theorem dX2_isThere_5 : decode cX2_isThere 5 = .ok (.ifCond .eq 18, 3) := by decide +kernel
theorem dX2_isThere_8 : decode cX2_isThere 8 = .ok (.aload_n 0, 1) := by decide +kernel
theorem dX2_isThere_9 : decode cX2_isThere 9 = .ok (.getfield 37, 3) := by decide +kernel
theorem dX2_isThere_12 : decode cX2_isThere 12 = .ok (.iload_n 1, 1) := by decide +kernel
theorem dX2_isThere_13 : decode cX2_isThere 13 = .ok (.iaload, 1) := by decide +kernel
theorem dX2_isThere_14 : decode cX2_isThere 14 = .ok (.bipush (-9), 2) := by decide +kernel
theorem dX2_isThere_16 : decode cX2_isThere 16 = .ok (.if_icmp .eq 7, 3) := by decide +kernel
theorem dX2_isThere_19 : decode cX2_isThere 19 = .ok (.iconst 1, 1) := by decide +kernel
theorem dX2_isThere_20 : decode cX2_isThere 20 = .ok (.goto 4, 3) := by decide +kernel
theorem dX2_isThere_23 : decode cX2_isThere 23 = .ok (.iconst 0, 1) := by decide +kernel
theorem dX2_isThere_24 : decode cX2_isThere 24 = .ok (.ireturn, 1) := by decide +kernel
theorem dX2_canBeFed_0 : decode cX2_canBeFed 0 = .ok (.aload_n 0, 1) := by decide +kernel
theorem dX2_canBeFed_1 : decode cX2_canBeFed 1 = .ok (.iload_n 1, 1) := by decide +kernel
theorem dX2_canBeFed_2 : decode cX2_canBeFed 2 = .ok (.invokevirtual 50, 3) := by decide +kernel
theorem dX2_canBeFed_5 : decode cX2_canBeFed 5 = .ok (.ifCond .eq 14, 3) := by decide +kernel
theorem dX2_canBeFed_8 : decode cX2_canBeFed 8 = .ok (.aload_n 0, 1) := by decide +kernel
theorem dX2_canBeFed_9 : decode cX2_canBeFed 9 = .ok (.getfield 15, 3) := by decide +kernel
theorem dX2_canBeFed_12 : decode cX2_canBeFed 12 = .ok (.ifCond .le 7, 3) := by decide +kernel
theorem dX2_canBeFed_15 : decode cX2_canBeFed 15 = .ok (.iconst 1, 1) := by decide +kernel
theorem dX2_canBeFed_16 : decode cX2_canBeFed 16 = .ok (.goto 4, 3) := by decide +kernel
theorem dX2_canBeFed_19 : decode cX2_canBeFed 19 = .ok (.iconst 0, 1) := by decide +kernel
theorem dX2_canBeFed_20 : decode cX2_canBeFed 20 = .ok (.ireturn, 1) := by decide +kernel
theorem dX2_hasHomeOn_0 : decode cX2_hasHomeOn 0 = .ok (.iconst 0, 1) := by decide +kernel
theorem dX2_hasHomeOn_1 : decode cX2_hasHomeOn 1 = .ok (.istore_n 2, 1) := by decide +kernel
theorem dX2_hasHomeOn_2 : decode cX2_hasHomeOn 2 = .ok (.iload_n 2, 1) := by decide +kernel
theorem dX2_hasHomeOn_3 : decode cX2_hasHomeOn 3 = .ok (.aload_n 0, 1) := by decide +kernel
theorem dX2_hasHomeOn_4 : decode cX2_hasHomeOn 4 = .ok (.getfield 9, 3) := by decide +kernel
theorem dX2_hasHomeOn_7 : decode cX2_hasHomeOn 7 = .ok (.if_icmp .ge 21, 3) := by decide +kernel
theorem dX2_hasHomeOn_10 : decode cX2_hasHomeOn 10 = .ok (.aload_n 0, 1) := by decide +kernel
theorem dX2_hasHomeOn_11 : decode cX2_hasHomeOn 11 = .ok (.getfield 28, 3) := by decide +kernel
theorem dX2_hasHomeOn_14 : decode cX2_hasHomeOn 14 = .ok (.iload_n 2, 1) := by decide +kernel
theorem dX2_hasHomeOn_15 : decode cX2_hasHomeOn 15 = .ok (.iaload, 1) := by decide +kernel
theorem dX2_hasHomeOn_16 : decode cX2_hasHomeOn 16 = .ok (.iload_n 1, 1) := by decide +kernel
theorem dX2_hasHomeOn_17 : decode cX2_hasHomeOn 17 = .ok (.if_icmp .ne 5, 3) := by decide +kernel
theorem dX2_hasHomeOn_20 : decode cX2_hasHomeOn 20 = .ok (.iconst 1, 1) := by decide +kernel
theorem dX2_hasHomeOn_21 : decode cX2_hasHomeOn 21 = .ok (.ireturn, 1) := by decide +kernel
theorem dX2_hasHomeOn_22 : decode cX2_hasHomeOn 22 = .ok (.iinc 2 1, 3) := by decide +kernel
theorem dX2_hasHomeOn_25 : decode cX2_hasHomeOn 25 = .ok (.goto (-23), 3) := by decide +kernel
theorem dX2_hasHomeOn_28 : decode cX2_hasHomeOn 28 = .ok (.iconst 0, 1) := by decide +kernel
theorem dX2_hasHomeOn_29 : decode cX2_hasHomeOn 29 = .ok (.ireturn, 1) := by decide +kernel
theorem dX2_settle_0 : decode cX2_settle 0 = .ok (.aload_n 0, 1) := by decide +kernel
theorem dX2_settle_1 : decode cX2_settle 1 = .ok (.getfield 9, 3) := by decide +kernel
theorem dX2_settle_4 : decode cX2_settle 4 = .ok (.bipush 6, 2) := by decide +kernel
theorem dX2_settle_6 : decode cX2_settle 6 = .ok (.if_icmp .lt 4, 3) := by decide +kernel
theorem dX2_settle_9 : decode cX2_settle 9 = .ok (.return_, 1) := by decide +kernel
theorem dX2_settle_10 : decode cX2_settle 10 = .ok (.aload_n 0, 1) := by decide +kernel
theorem dX2_settle_11 : decode cX2_settle 11 = .ok (.getfield 25, 3) := by decide +kernel
theorem dX2_settle_14 : decode cX2_settle 14 = .ok (.aload_n 0, 1) := by decide +kernel
theorem dX2_settle_15 : decode cX2_settle 15 = .ok (.getfield 9, 3) := by decide +kernel
theorem dX2_settle_18 : decode cX2_settle 18 = .ok (.iload_n 1, 1) := by decide +kernel
theorem dX2_settle_19 : decode cX2_settle 19 = .ok (.iastore, 1) := by decide +kernel
theorem dX2_settle_20 : decode cX2_settle 20 = .ok (.aload_n 0, 1) := by decide +kernel
theorem dX2_settle_21 : decode cX2_settle 21 = .ok (.getfield 28, 3) := by decide +kernel
theorem dX2_settle_24 : decode cX2_settle 24 = .ok (.aload_n 0, 1) := by decide +kernel
theorem dX2_settle_25 : decode cX2_settle 25 = .ok (.getfield 9, 3) := by decide +kernel
theorem dX2_settle_28 : decode cX2_settle 28 = .ok (.iload_n 2, 1) := by decide +kernel
theorem dX2_settle_29 : decode cX2_settle 29 = .ok (.iastore, 1) := by decide +kernel
theorem dX2_settle_30 : decode cX2_settle 30 = .ok (.aload_n 0, 1) := by decide +kernel
theorem dX2_settle_31 : decode cX2_settle 31 = .ok (.getfield 31, 3) := by decide +kernel
theorem dX2_settle_34 : decode cX2_settle 34 = .ok (.aload_n 0, 1) := by decide +kernel
theorem dX2_settle_35 : decode cX2_settle 35 = .ok (.getfield 9, 3) := by decide +kernel
theorem dX2_settle_38 : decode cX2_settle 38 = .ok (.iload_n 3, 1) := by decide +kernel
theorem dX2_settle_39 : decode cX2_settle 39 = .ok (.iastore, 1) := by decide +kernel
theorem dX2_settle_40 : decode cX2_settle 40 = .ok (.aload_n 0, 1) := by decide +kernel
theorem dX2_settle_41 : decode cX2_settle 41 = .ok (.getfield 34, 3) := by decide +kernel
theorem dX2_settle_44 : decode cX2_settle 44 = .ok (.aload_n 0, 1) := by decide +kernel
theorem dX2_settle_45 : decode cX2_settle 45 = .ok (.getfield 9, 3) := by decide +kernel
theorem dX2_settle_48 : decode cX2_settle 48 = .ok (.iload 4, 2) := by decide +kernel
theorem dX2_settle_50 : decode cX2_settle 50 = .ok (.iastore, 1) := by decide +kernel
theorem dX2_settle_51 : decode cX2_settle 51 = .ok (.aload_n 0, 1) := by decide +kernel
theorem dX2_settle_52 : decode cX2_settle 52 = .ok (.getfield 37, 3) := by decide +kernel
theorem dX2_settle_55 : decode cX2_settle 55 = .ok (.aload_n 0, 1) := by decide +kernel
theorem dX2_settle_56 : decode cX2_settle 56 = .ok (.getfield 9, 3) := by decide +kernel
theorem dX2_settle_59 : decode cX2_settle 59 = .ok (.iload_n 2, 1) := by decide +kernel
theorem dX2_settle_60 : decode cX2_settle 60 = .ok (.iastore, 1) := by decide +kernel
theorem dX2_settle_61 : decode cX2_settle 61 = .ok (.aload_n 0, 1) := by decide +kernel
theorem dX2_settle_62 : decode cX2_settle 62 = .ok (.dup, 1) := by decide +kernel
theorem dX2_settle_63 : decode cX2_settle 63 = .ok (.getfield 9, 3) := by decide +kernel
theorem dX2_settle_66 : decode cX2_settle 66 = .ok (.iconst 1, 1) := by decide +kernel
theorem dX2_settle_67 : decode cX2_settle 67 = .ok (.iadd, 1) := by decide +kernel
theorem dX2_settle_68 : decode cX2_settle 68 = .ok (.putfield 9, 3) := by decide +kernel
theorem dX2_settle_71 : decode cX2_settle 71 = .ok (.return_, 1) := by decide +kernel
theorem dX2_windDue_0 : decode cX2_windDue 0 = .ok (.aload_n 0, 1) := by decide +kernel
theorem dX2_windDue_1 : decode cX2_windDue 1 = .ok (.getfield 21, 3) := by decide +kernel
theorem dX2_windDue_4 : decode cX2_windDue 4 = .ok (.aload_n 0, 1) := by decide +kernel
theorem dX2_windDue_5 : decode cX2_windDue 5 = .ok (.getfield 18, 3) := by decide +kernel
theorem dX2_windDue_8 : decode cX2_windDue 8 = .ok (.aload_n 0, 1) := by decide +kernel
theorem dX2_windDue_9 : decode cX2_windDue 9 = .ok (.getfield 21, 3) := by decide +kernel
theorem dX2_windDue_12 : decode cX2_windDue 12 = .ok (.arraylength, 1) := by decide +kernel
theorem dX2_windDue_13 : decode cX2_windDue 13 = .ok (.invokestatic 53, 3) := by decide +kernel
theorem dX2_windDue_16 : decode cX2_windDue 16 = .ok (.iaload, 1) := by decide +kernel
theorem dX2_windDue_17 : decode cX2_windDue 17 = .ok (.ireturn, 1) := by decide +kernel
theorem dX2_wanted_0 : decode cX2_wanted 0 = .ok (.aload_n 0, 1) := by decide +kernel
theorem dX2_wanted_1 : decode cX2_wanted 1 = .ok (.getfield 25, 3) := by decide +kernel
theorem dX2_wanted_4 : decode cX2_wanted 4 = .ok (.iload_n 1, 1) := by decide +kernel
theorem dX2_wanted_5 : decode cX2_wanted 5 = .ok (.iaload, 1) := by decide +kernel
theorem dX2_wanted_6 : decode cX2_wanted 6 = .ok (.aload_n 0, 1) := by decide +kernel
theorem dX2_wanted_7 : decode cX2_wanted 7 = .ok (.getfield 28, 3) := by decide +kernel
theorem dX2_wanted_10 : decode cX2_wanted 10 = .ok (.iload_n 1, 1) := by decide +kernel
theorem dX2_wanted_11 : decode cX2_wanted 11 = .ok (.iaload, 1) := by decide +kernel
theorem dX2_wanted_12 : decode cX2_wanted 12 = .ok (.invokestatic 59, 3) := by decide +kernel
theorem dX2_wanted_15 : decode cX2_wanted 15 = .ok (.ireturn, 1) := by decide +kernel
theorem dX2_ofHut_0 : decode cX2_ofHut 0 = .ok (.iload_n 2, 1) := by decide +kernel
theorem dX2_ofHut_1 : decode cX2_ofHut 1 = .ok (.tableswitch 88 0 5 #[39, 46, 53, 60, 67, 74], 39) := by decide +kernel
theorem dX2_ofHut_40 : decode cX2_ofHut 40 = .ok (.aload_n 0, 1) := by decide +kernel
theorem dX2_ofHut_41 : decode cX2_ofHut 41 = .ok (.getfield 25, 3) := by decide +kernel
theorem dX2_ofHut_44 : decode cX2_ofHut 44 = .ok (.iload_n 1, 1) := by decide +kernel
theorem dX2_ofHut_45 : decode cX2_ofHut 45 = .ok (.iaload, 1) := by decide +kernel
theorem dX2_ofHut_46 : decode cX2_ofHut 46 = .ok (.ireturn, 1) := by decide +kernel
theorem dX2_ofHut_47 : decode cX2_ofHut 47 = .ok (.aload_n 0, 1) := by decide +kernel
theorem dX2_ofHut_48 : decode cX2_ofHut 48 = .ok (.getfield 28, 3) := by decide +kernel
theorem dX2_ofHut_51 : decode cX2_ofHut 51 = .ok (.iload_n 1, 1) := by decide +kernel
theorem dX2_ofHut_52 : decode cX2_ofHut 52 = .ok (.iaload, 1) := by decide +kernel
theorem dX2_ofHut_53 : decode cX2_ofHut 53 = .ok (.ireturn, 1) := by decide +kernel
theorem dX2_ofHut_54 : decode cX2_ofHut 54 = .ok (.aload_n 0, 1) := by decide +kernel
theorem dX2_ofHut_55 : decode cX2_ofHut 55 = .ok (.getfield 31, 3) := by decide +kernel
theorem dX2_ofHut_58 : decode cX2_ofHut 58 = .ok (.iload_n 1, 1) := by decide +kernel
theorem dX2_ofHut_59 : decode cX2_ofHut 59 = .ok (.iaload, 1) := by decide +kernel
theorem dX2_ofHut_60 : decode cX2_ofHut 60 = .ok (.ireturn, 1) := by decide +kernel
theorem dX2_ofHut_61 : decode cX2_ofHut 61 = .ok (.aload_n 0, 1) := by decide +kernel
theorem dX2_ofHut_62 : decode cX2_ofHut 62 = .ok (.getfield 34, 3) := by decide +kernel
theorem dX2_ofHut_65 : decode cX2_ofHut 65 = .ok (.iload_n 1, 1) := by decide +kernel
theorem dX2_ofHut_66 : decode cX2_ofHut 66 = .ok (.iaload, 1) := by decide +kernel
theorem dX2_ofHut_67 : decode cX2_ofHut 67 = .ok (.ireturn, 1) := by decide +kernel
theorem dX2_ofHut_68 : decode cX2_ofHut 68 = .ok (.aload_n 0, 1) := by decide +kernel
theorem dX2_ofHut_69 : decode cX2_ofHut 69 = .ok (.getfield 37, 3) := by decide +kernel
theorem dX2_ofHut_72 : decode cX2_ofHut 72 = .ok (.iload_n 1, 1) := by decide +kernel
theorem dX2_ofHut_73 : decode cX2_ofHut 73 = .ok (.iaload, 1) := by decide +kernel
theorem dX2_ofHut_74 : decode cX2_ofHut 74 = .ok (.ireturn, 1) := by decide +kernel
theorem dX2_ofHut_75 : decode cX2_ofHut 75 = .ok (.aload_n 0, 1) := by decide +kernel
theorem dX2_ofHut_76 : decode cX2_ofHut 76 = .ok (.getfield 25, 3) := by decide +kernel
theorem dX2_ofHut_79 : decode cX2_ofHut 79 = .ok (.iload_n 1, 1) := by decide +kernel
theorem dX2_ofHut_80 : decode cX2_ofHut 80 = .ok (.iaload, 1) := by decide +kernel
theorem dX2_ofHut_81 : decode cX2_ofHut 81 = .ok (.aload_n 0, 1) := by decide +kernel
theorem dX2_ofHut_82 : decode cX2_ofHut 82 = .ok (.invokevirtual 64, 3) := by decide +kernel
theorem dX2_ofHut_85 : decode cX2_ofHut 85 = .ok (.invokestatic 68, 3) := by decide +kernel
theorem dX2_ofHut_88 : decode cX2_ofHut 88 = .ok (.ireturn, 1) := by decide +kernel
theorem dX2_ofHut_89 : decode cX2_ofHut 89 = .ok (.aload_n 0, 1) := by decide +kernel
theorem dX2_ofHut_90 : decode cX2_ofHut 90 = .ok (.getfield 25, 3) := by decide +kernel
theorem dX2_ofHut_93 : decode cX2_ofHut 93 = .ok (.iload_n 1, 1) := by decide +kernel
theorem dX2_ofHut_94 : decode cX2_ofHut 94 = .ok (.iaload, 1) := by decide +kernel
theorem dX2_ofHut_95 : decode cX2_ofHut 95 = .ok (.invokestatic 71, 3) := by decide +kernel
theorem dX2_ofHut_98 : decode cX2_ofHut 98 = .ok (.ireturn, 1) := by decide +kernel
theorem dX2_hostOf_0 : decode cX2_hostOf 0 = .ok (.iconst 0, 1) := by decide +kernel
theorem dX2_hostOf_1 : decode cX2_hostOf 1 = .ok (.istore_n 2, 1) := by decide +kernel
theorem dX2_hostOf_2 : decode cX2_hostOf 2 = .ok (.iload_n 2, 1) := by decide +kernel
theorem dX2_hostOf_3 : decode cX2_hostOf 3 = .ok (.aload_n 0, 1) := by decide +kernel
theorem dX2_hostOf_4 : decode cX2_hostOf 4 = .ok (.getfield 9, 3) := by decide +kernel
theorem dX2_hostOf_7 : decode cX2_hostOf 7 = .ok (.if_icmp .ge 25, 3) := by decide +kernel
theorem dX2_hostOf_10 : decode cX2_hostOf 10 = .ok (.aload_n 0, 1) := by decide +kernel
theorem dX2_hostOf_11 : decode cX2_hostOf 11 = .ok (.getfield 37, 3) := by decide +kernel
theorem dX2_hostOf_14 : decode cX2_hostOf 14 = .ok (.iload_n 2, 1) := by decide +kernel
theorem dX2_hostOf_15 : decode cX2_hostOf 15 = .ok (.iaload, 1) := by decide +kernel
theorem dX2_hostOf_16 : decode cX2_hostOf 16 = .ok (.aload_n 0, 1) := by decide +kernel
theorem dX2_hostOf_17 : decode cX2_hostOf 17 = .ok (.iload_n 1, 1) := by decide +kernel
theorem dX2_hostOf_18 : decode cX2_hostOf 18 = .ok (.invokevirtual 75, 3) := by decide +kernel
theorem dX2_hostOf_21 : decode cX2_hostOf 21 = .ok (.if_icmp .ne 5, 3) := by decide +kernel
theorem dX2_hostOf_24 : decode cX2_hostOf 24 = .ok (.iload_n 2, 1) := by decide +kernel
theorem dX2_hostOf_25 : decode cX2_hostOf 25 = .ok (.ireturn, 1) := by decide +kernel
theorem dX2_hostOf_26 : decode cX2_hostOf 26 = .ok (.iinc 2 1, 3) := by decide +kernel
theorem dX2_hostOf_29 : decode cX2_hostOf 29 = .ok (.goto (-27), 3) := by decide +kernel
theorem dX2_hostOf_32 : decode cX2_hostOf 32 = .ok (.bipush 10, 2) := by decide +kernel
theorem dX2_hostOf_34 : decode cX2_hostOf 34 = .ok (.ireturn, 1) := by decide +kernel
theorem dX2_thereBits_0 : decode cX2_thereBits 0 = .ok (.iconst 0, 1) := by decide +kernel
theorem dX2_thereBits_1 : decode cX2_thereBits 1 = .ok (.istore_n 1, 1) := by decide +kernel
theorem dX2_thereBits_2 : decode cX2_thereBits 2 = .ok (.iconst 0, 1) := by decide +kernel
theorem dX2_thereBits_3 : decode cX2_thereBits 3 = .ok (.istore_n 2, 1) := by decide +kernel
theorem dX2_thereBits_4 : decode cX2_thereBits 4 = .ok (.iload_n 2, 1) := by decide +kernel
theorem dX2_thereBits_5 : decode cX2_thereBits 5 = .ok (.aload_n 0, 1) := by decide +kernel
theorem dX2_thereBits_6 : decode cX2_thereBits 6 = .ok (.getfield 9, 3) := by decide +kernel
theorem dX2_thereBits_9 : decode cX2_thereBits 9 = .ok (.if_icmp .ge 23, 3) := by decide +kernel
theorem dX2_thereBits_12 : decode cX2_thereBits 12 = .ok (.aload_n 0, 1) := by decide +kernel
theorem dX2_thereBits_13 : decode cX2_thereBits 13 = .ok (.iload_n 2, 1) := by decide +kernel
theorem dX2_thereBits_14 : decode cX2_thereBits 14 = .ok (.invokevirtual 50, 3) := by decide +kernel
theorem dX2_thereBits_17 : decode cX2_thereBits 17 = .ok (.ifCond .eq 9, 3) := by decide +kernel
theorem dX2_thereBits_20 : decode cX2_thereBits 20 = .ok (.iload_n 1, 1) := by decide +kernel
theorem dX2_thereBits_21 : decode cX2_thereBits 21 = .ok (.iconst 1, 1) := by decide +kernel
theorem dX2_thereBits_22 : decode cX2_thereBits 22 = .ok (.iload_n 2, 1) := by decide +kernel
theorem dX2_thereBits_23 : decode cX2_thereBits 23 = .ok (.ishl, 1) := by decide +kernel
theorem dX2_thereBits_24 : decode cX2_thereBits 24 = .ok (.ior, 1) := by decide +kernel
theorem dX2_thereBits_25 : decode cX2_thereBits 25 = .ok (.istore_n 1, 1) := by decide +kernel
theorem dX2_thereBits_26 : decode cX2_thereBits 26 = .ok (.iinc 2 1, 3) := by decide +kernel
theorem dX2_thereBits_29 : decode cX2_thereBits 29 = .ok (.goto (-25), 3) := by decide +kernel
theorem dX2_thereBits_32 : decode cX2_thereBits 32 = .ok (.iload_n 1, 1) := by decide +kernel
theorem dX2_thereBits_33 : decode cX2_thereBits 33 = .ok (.ireturn, 1) := by decide +kernel
theorem dX2_howManyThere_0 : decode cX2_howManyThere 0 = .ok (.aload_n 0, 1) := by decide +kernel
theorem dX2_howManyThere_1 : decode cX2_howManyThere 1 = .ok (.invokevirtual 78, 3) := by decide +kernel
theorem dX2_howManyThere_4 : decode cX2_howManyThere 4 = .ok (.invokestatic 81, 3) := by decide +kernel
theorem dX2_howManyThere_7 : decode cX2_howManyThere 7 = .ok (.ireturn, 1) := by decide +kernel
theorem dX2_atHomeBits_0 : decode cX2_atHomeBits 0 = .ok (.iconst 0, 1) := by decide +kernel
theorem dX2_atHomeBits_1 : decode cX2_atHomeBits 1 = .ok (.istore_n 1, 1) := by decide +kernel
theorem dX2_atHomeBits_2 : decode cX2_atHomeBits 2 = .ok (.iconst 0, 1) := by decide +kernel
theorem dX2_atHomeBits_3 : decode cX2_atHomeBits 3 = .ok (.istore_n 2, 1) := by decide +kernel
theorem dX2_atHomeBits_4 : decode cX2_atHomeBits 4 = .ok (.iload_n 2, 1) := by decide +kernel
theorem dX2_atHomeBits_5 : decode cX2_atHomeBits 5 = .ok (.aload_n 0, 1) := by decide +kernel
theorem dX2_atHomeBits_6 : decode cX2_atHomeBits 6 = .ok (.getfield 9, 3) := by decide +kernel
theorem dX2_atHomeBits_9 : decode cX2_atHomeBits 9 = .ok (.if_icmp .ge 30, 3) := by decide +kernel
theorem dX2_atHomeBits_12 : decode cX2_atHomeBits 12 = .ok (.aload_n 0, 1) := by decide +kernel
theorem dX2_atHomeBits_13 : decode cX2_atHomeBits 13 = .ok (.getfield 37, 3) := by decide +kernel
theorem dX2_atHomeBits_16 : decode cX2_atHomeBits 16 = .ok (.iload_n 2, 1) := by decide +kernel
theorem dX2_atHomeBits_17 : decode cX2_atHomeBits 17 = .ok (.iaload, 1) := by decide +kernel
theorem dX2_atHomeBits_18 : decode cX2_atHomeBits 18 = .ok (.aload_n 0, 1) := by decide +kernel
theorem dX2_atHomeBits_19 : decode cX2_atHomeBits 19 = .ok (.getfield 28, 3) := by decide +kernel
theorem dX2_atHomeBits_22 : decode cX2_atHomeBits 22 = .ok (.iload_n 2, 1) := by decide +kernel
theorem dX2_atHomeBits_23 : decode cX2_atHomeBits 23 = .ok (.iaload, 1) := by decide +kernel
theorem dX2_atHomeBits_24 : decode cX2_atHomeBits 24 = .ok (.if_icmp .ne 9, 3) := by decide +kernel
theorem dX2_atHomeBits_27 : decode cX2_atHomeBits 27 = .ok (.iload_n 1, 1) := by decide +kernel
theorem dX2_atHomeBits_28 : decode cX2_atHomeBits 28 = .ok (.iconst 1, 1) := by decide +kernel
theorem dX2_atHomeBits_29 : decode cX2_atHomeBits 29 = .ok (.iload_n 2, 1) := by decide +kernel
theorem dX2_atHomeBits_30 : decode cX2_atHomeBits 30 = .ok (.ishl, 1) := by decide +kernel
theorem dX2_atHomeBits_31 : decode cX2_atHomeBits 31 = .ok (.ior, 1) := by decide +kernel
theorem dX2_atHomeBits_32 : decode cX2_atHomeBits 32 = .ok (.istore_n 1, 1) := by decide +kernel
theorem dX2_atHomeBits_33 : decode cX2_atHomeBits 33 = .ok (.iinc 2 1, 3) := by decide +kernel
theorem dX2_atHomeBits_36 : decode cX2_atHomeBits 36 = .ok (.goto (-32), 3) := by decide +kernel
theorem dX2_atHomeBits_39 : decode cX2_atHomeBits 39 = .ok (.iload_n 1, 1) := by decide +kernel
theorem dX2_atHomeBits_40 : decode cX2_atHomeBits 40 = .ok (.ireturn, 1) := by decide +kernel
theorem dX2_strengthThere_0 : decode cX2_strengthThere 0 = .ok (.iconst 0, 1) := by decide +kernel
theorem dX2_strengthThere_1 : decode cX2_strengthThere 1 = .ok (.istore_n 1, 1) := by decide +kernel
theorem dX2_strengthThere_2 : decode cX2_strengthThere 2 = .ok (.iconst 0, 1) := by decide +kernel
theorem dX2_strengthThere_3 : decode cX2_strengthThere 3 = .ok (.istore_n 2, 1) := by decide +kernel
theorem dX2_strengthThere_4 : decode cX2_strengthThere 4 = .ok (.iload_n 2, 1) := by decide +kernel
theorem dX2_strengthThere_5 : decode cX2_strengthThere 5 = .ok (.aload_n 0, 1) := by decide +kernel
theorem dX2_strengthThere_6 : decode cX2_strengthThere 6 = .ok (.getfield 9, 3) := by decide +kernel
theorem dX2_strengthThere_9 : decode cX2_strengthThere 9 = .ok (.if_icmp .ge 26, 3) := by decide +kernel
theorem dX2_strengthThere_12 : decode cX2_strengthThere 12 = .ok (.aload_n 0, 1) := by decide +kernel
theorem dX2_strengthThere_13 : decode cX2_strengthThere 13 = .ok (.iload_n 2, 1) := by decide +kernel
theorem dX2_strengthThere_14 : decode cX2_strengthThere 14 = .ok (.invokevirtual 50, 3) := by decide +kernel
theorem dX2_strengthThere_17 : decode cX2_strengthThere 17 = .ok (.ifCond .eq 12, 3) := by decide +kernel
theorem dX2_strengthThere_20 : decode cX2_strengthThere 20 = .ok (.iload_n 1, 1) := by decide +kernel
theorem dX2_strengthThere_21 : decode cX2_strengthThere 21 = .ok (.aload_n 0, 1) := by decide +kernel
theorem dX2_strengthThere_22 : decode cX2_strengthThere 22 = .ok (.getfield 31, 3) := by decide +kernel
theorem dX2_strengthThere_25 : decode cX2_strengthThere 25 = .ok (.iload_n 2, 1) := by decide +kernel
theorem dX2_strengthThere_26 : decode cX2_strengthThere 26 = .ok (.iaload, 1) := by decide +kernel
theorem dX2_strengthThere_27 : decode cX2_strengthThere 27 = .ok (.iadd, 1) := by decide +kernel
theorem dX2_strengthThere_28 : decode cX2_strengthThere 28 = .ok (.istore_n 1, 1) := by decide +kernel
theorem dX2_strengthThere_29 : decode cX2_strengthThere 29 = .ok (.iinc 2 1, 3) := by decide +kernel
theorem dX2_strengthThere_32 : decode cX2_strengthThere 32 = .ok (.goto (-28), 3) := by decide +kernel
theorem dX2_strengthThere_35 : decode cX2_strengthThere 35 = .ok (.iload_n 1, 1) := by decide +kernel
theorem dX2_strengthThere_36 : decode cX2_strengthThere 36 = .ok (.ireturn, 1) := by decide +kernel
theorem dX2_howManyGuards_0 : decode cX2_howManyGuards 0 = .ok (.iconst 0, 1) := by decide +kernel
theorem dX2_howManyGuards_1 : decode cX2_howManyGuards 1 = .ok (.istore_n 1, 1) := by decide +kernel
theorem dX2_howManyGuards_2 : decode cX2_howManyGuards 2 = .ok (.iconst 0, 1) := by decide +kernel
theorem dX2_howManyGuards_3 : decode cX2_howManyGuards 3 = .ok (.istore_n 2, 1) := by decide +kernel
theorem dX2_howManyGuards_4 : decode cX2_howManyGuards 4 = .ok (.iload_n 2, 1) := by decide +kernel
theorem dX2_howManyGuards_5 : decode cX2_howManyGuards 5 = .ok (.aload_n 0, 1) := by decide +kernel
theorem dX2_howManyGuards_6 : decode cX2_howManyGuards 6 = .ok (.getfield 9, 3) := by decide +kernel
theorem dX2_howManyGuards_9 : decode cX2_howManyGuards 9 = .ok (.if_icmp .ge 25, 3) := by decide +kernel
theorem dX2_howManyGuards_12 : decode cX2_howManyGuards 12 = .ok (.aload_n 0, 1) := by decide +kernel
theorem dX2_howManyGuards_13 : decode cX2_howManyGuards 13 = .ok (.getfield 25, 3) := by decide +kernel
theorem dX2_howManyGuards_16 : decode cX2_howManyGuards 16 = .ok (.iload_n 2, 1) := by decide +kernel
theorem dX2_howManyGuards_17 : decode cX2_howManyGuards 17 = .ok (.iaload, 1) := by decide +kernel
theorem dX2_howManyGuards_18 : decode cX2_howManyGuards 18 = .ok (.iconst 3, 1) := by decide +kernel
theorem dX2_howManyGuards_19 : decode cX2_howManyGuards 19 = .ok (.invokestatic 86, 3) := by decide +kernel
theorem dX2_howManyGuards_22 : decode cX2_howManyGuards 22 = .ok (.ifCond .eq 6, 3) := by decide +kernel
theorem dX2_howManyGuards_25 : decode cX2_howManyGuards 25 = .ok (.iinc 1 1, 3) := by decide +kernel
theorem dX2_howManyGuards_28 : decode cX2_howManyGuards 28 = .ok (.iinc 2 1, 3) := by decide +kernel
theorem dX2_howManyGuards_31 : decode cX2_howManyGuards 31 = .ok (.goto (-27), 3) := by decide +kernel
theorem dX2_howManyGuards_34 : decode cX2_howManyGuards 34 = .ok (.iload_n 1, 1) := by decide +kernel
theorem dX2_howManyGuards_35 : decode cX2_howManyGuards 35 = .ok (.ireturn, 1) := by decide +kernel
theorem dX2_howManyLessLate_0 : decode cX2_howManyLessLate 0 = .ok (.iconst 0, 1) := by decide +kernel
theorem dX2_howManyLessLate_1 : decode cX2_howManyLessLate 1 = .ok (.istore_n 2, 1) := by decide +kernel
theorem dX2_howManyLessLate_2 : decode cX2_howManyLessLate 2 = .ok (.iconst 0, 1) := by decide +kernel
theorem dX2_howManyLessLate_3 : decode cX2_howManyLessLate 3 = .ok (.istore_n 3, 1) := by decide +kernel
theorem dX2_howManyLessLate_4 : decode cX2_howManyLessLate 4 = .ok (.iload_n 3, 1) := by decide +kernel
theorem dX2_howManyLessLate_5 : decode cX2_howManyLessLate 5 = .ok (.aload_n 0, 1) := by decide +kernel
theorem dX2_howManyLessLate_6 : decode cX2_howManyLessLate 6 = .ok (.getfield 9, 3) := by decide +kernel
theorem dX2_howManyLessLate_9 : decode cX2_howManyLessLate 9 = .ok (.if_icmp .ge 33, 3) := by decide +kernel
theorem dX2_howManyLessLate_12 : decode cX2_howManyLessLate 12 = .ok (.aload_n 0, 1) := by decide +kernel
theorem dX2_howManyLessLate_13 : decode cX2_howManyLessLate 13 = .ok (.getfield 25, 3) := by decide +kernel
theorem dX2_howManyLessLate_16 : decode cX2_howManyLessLate 16 = .ok (.iload_n 3, 1) := by decide +kernel
theorem dX2_howManyLessLate_17 : decode cX2_howManyLessLate 17 = .ok (.iaload, 1) := by decide +kernel
theorem dX2_howManyLessLate_18 : decode cX2_howManyLessLate 18 = .ok (.invokestatic 71, 3) := by decide +kernel
theorem dX2_howManyLessLate_21 : decode cX2_howManyLessLate 21 = .ok (.aload_n 0, 1) := by decide +kernel
theorem dX2_howManyLessLate_22 : decode cX2_howManyLessLate 22 = .ok (.getfield 25, 3) := by decide +kernel
theorem dX2_howManyLessLate_25 : decode cX2_howManyLessLate 25 = .ok (.iload_n 1, 1) := by decide +kernel
theorem dX2_howManyLessLate_26 : decode cX2_howManyLessLate 26 = .ok (.iaload, 1) := by decide +kernel
theorem dX2_howManyLessLate_27 : decode cX2_howManyLessLate 27 = .ok (.invokestatic 71, 3) := by decide +kernel
theorem dX2_howManyLessLate_30 : decode cX2_howManyLessLate 30 = .ok (.if_icmp .ge 6, 3) := by decide +kernel
theorem dX2_howManyLessLate_33 : decode cX2_howManyLessLate 33 = .ok (.iinc 2 1, 3) := by decide +kernel
theorem dX2_howManyLessLate_36 : decode cX2_howManyLessLate 36 = .ok (.iinc 3 1, 3) := by decide +kernel
theorem dX2_howManyLessLate_39 : decode cX2_howManyLessLate 39 = .ok (.goto (-35), 3) := by decide +kernel
theorem dX2_howManyLessLate_42 : decode cX2_howManyLessLate 42 = .ok (.iload_n 2, 1) := by decide +kernel
theorem dX2_howManyLessLate_43 : decode cX2_howManyLessLate 43 = .ok (.ireturn, 1) := by decide +kernel
theorem dX2_strongestOf_0 : decode cX2_strongestOf 0 = .ok (.bipush (-9), 2) := by decide +kernel
theorem dX2_strongestOf_2 : decode cX2_strongestOf 2 = .ok (.istore_n 2, 1) := by decide +kernel
theorem dX2_strongestOf_3 : decode cX2_strongestOf 3 = .ok (.iconst 0, 1) := by decide +kernel
theorem dX2_strongestOf_4 : decode cX2_strongestOf 4 = .ok (.istore_n 3, 1) := by decide +kernel
theorem dX2_strongestOf_5 : decode cX2_strongestOf 5 = .ok (.iload_n 3, 1) := by decide +kernel
theorem dX2_strongestOf_6 : decode cX2_strongestOf 6 = .ok (.aload_n 0, 1) := by decide +kernel
theorem dX2_strongestOf_7 : decode cX2_strongestOf 7 = .ok (.getfield 9, 3) := by decide +kernel
theorem dX2_strongestOf_10 : decode cX2_strongestOf 10 = .ok (.if_icmp .ge 41, 3) := by decide +kernel
theorem dX2_strongestOf_13 : decode cX2_strongestOf 13 = .ok (.iload_n 1, 1) := by decide +kernel
theorem dX2_strongestOf_14 : decode cX2_strongestOf 14 = .ok (.iload_n 3, 1) := by decide +kernel
theorem dX2_strongestOf_15 : decode cX2_strongestOf 15 = .ok (.ishr, 1) := by decide +kernel
theorem dX2_strongestOf_16 : decode cX2_strongestOf 16 = .ok (.iconst 1, 1) := by decide +kernel
theorem dX2_strongestOf_17 : decode cX2_strongestOf 17 = .ok (.iand, 1) := by decide +kernel
theorem dX2_strongestOf_18 : decode cX2_strongestOf 18 = .ok (.iconst 1, 1) := by decide +kernel
theorem dX2_strongestOf_19 : decode cX2_strongestOf 19 = .ok (.if_icmp .ne 26, 3) := by decide +kernel
theorem dX2_strongestOf_22 : decode cX2_strongestOf 22 = .ok (.iload_n 2, 1) := by decide +kernel
theorem dX2_strongestOf_23 : decode cX2_strongestOf 23 = .ok (.bipush (-9), 2) := by decide +kernel
theorem dX2_strongestOf_25 : decode cX2_strongestOf 25 = .ok (.if_icmp .eq 18, 3) := by decide +kernel
theorem dX2_strongestOf_28 : decode cX2_strongestOf 28 = .ok (.aload_n 0, 1) := by decide +kernel
theorem dX2_strongestOf_29 : decode cX2_strongestOf 29 = .ok (.getfield 31, 3) := by decide +kernel
theorem dX2_strongestOf_32 : decode cX2_strongestOf 32 = .ok (.iload_n 3, 1) := by decide +kernel
theorem dX2_strongestOf_33 : decode cX2_strongestOf 33 = .ok (.iaload, 1) := by decide +kernel
theorem dX2_strongestOf_34 : decode cX2_strongestOf 34 = .ok (.aload_n 0, 1) := by decide +kernel
theorem dX2_strongestOf_35 : decode cX2_strongestOf 35 = .ok (.getfield 31, 3) := by decide +kernel
theorem dX2_strongestOf_38 : decode cX2_strongestOf 38 = .ok (.iload_n 2, 1) := by decide +kernel
theorem dX2_strongestOf_39 : decode cX2_strongestOf 39 = .ok (.iaload, 1) := by decide +kernel
theorem dX2_strongestOf_40 : decode cX2_strongestOf 40 = .ok (.if_icmp .le 5, 3) := by decide +kernel
theorem dX2_strongestOf_43 : decode cX2_strongestOf 43 = .ok (.iload_n 3, 1) := by decide +kernel
theorem dX2_strongestOf_44 : decode cX2_strongestOf 44 = .ok (.istore_n 2, 1) := by decide +kernel
theorem dX2_strongestOf_45 : decode cX2_strongestOf 45 = .ok (.iinc 3 1, 3) := by decide +kernel
theorem dX2_strongestOf_48 : decode cX2_strongestOf 48 = .ok (.goto (-43), 3) := by decide +kernel
theorem dX2_strongestOf_51 : decode cX2_strongestOf 51 = .ok (.iload_n 2, 1) := by decide +kernel
theorem dX2_strongestOf_52 : decode cX2_strongestOf 52 = .ok (.ireturn, 1) := by decide +kernel
theorem dX2_leadByLuring_0 : decode cX2_leadByLuring 0 = .ok (.aload_n 0, 1) := by decide +kernel
theorem dX2_leadByLuring_1 : decode cX2_leadByLuring 1 = .ok (.invokevirtual 78, 3) := by decide +kernel
theorem dX2_leadByLuring_4 : decode cX2_leadByLuring 4 = .ok (.istore_n 2, 1) := by decide +kernel
theorem dX2_leadByLuring_5 : decode cX2_leadByLuring 5 = .ok (.iconst 0, 1) := by decide +kernel
theorem dX2_leadByLuring_6 : decode cX2_leadByLuring 6 = .ok (.istore_n 3, 1) := by decide +kernel
theorem dX2_leadByLuring_7 : decode cX2_leadByLuring 7 = .ok (.iconst 0, 1) := by decide +kernel
theorem dX2_leadByLuring_8 : decode cX2_leadByLuring 8 = .ok (.istore 4, 2) := by decide +kernel
theorem dX2_leadByLuring_10 : decode cX2_leadByLuring 10 = .ok (.iload 4, 2) := by decide +kernel
theorem dX2_leadByLuring_12 : decode cX2_leadByLuring 12 = .ok (.iload_n 1, 1) := by decide +kernel
theorem dX2_leadByLuring_13 : decode cX2_leadByLuring 13 = .ok (.if_icmp .ge 63, 3) := by decide +kernel
theorem dX2_leadByLuring_16 : decode cX2_leadByLuring 16 = .ok (.aload_n 0, 1) := by decide +kernel
theorem dX2_leadByLuring_17 : decode cX2_leadByLuring 17 = .ok (.iload_n 2, 1) := by decide +kernel
theorem dX2_leadByLuring_18 : decode cX2_leadByLuring 18 = .ok (.invokevirtual 90, 3) := by decide +kernel
theorem dX2_leadByLuring_21 : decode cX2_leadByLuring 21 = .ok (.istore 5, 2) := by decide +kernel
theorem dX2_leadByLuring_23 : decode cX2_leadByLuring 23 = .ok (.iload 5, 2) := by decide +kernel
theorem dX2_leadByLuring_25 : decode cX2_leadByLuring 25 = .ok (.bipush (-9), 2) := by decide +kernel
theorem dX2_leadByLuring_27 : decode cX2_leadByLuring 27 = .ok (.if_icmp .ne 6, 3) := by decide +kernel
theorem dX2_leadByLuring_30 : decode cX2_leadByLuring 30 = .ok (.goto 46, 3) := by decide +kernel
theorem dX2_leadByLuring_33 : decode cX2_leadByLuring 33 = .ok (.iload_n 3, 1) := by decide +kernel
theorem dX2_leadByLuring_34 : decode cX2_leadByLuring 34 = .ok (.iload 4, 2) := by decide +kernel
theorem dX2_leadByLuring_36 : decode cX2_leadByLuring 36 = .ok (.iconst 2, 1) := by decide +kernel
theorem dX2_leadByLuring_37 : decode cX2_leadByLuring 37 = .ok (.irem, 1) := by decide +kernel
theorem dX2_leadByLuring_38 : decode cX2_leadByLuring 38 = .ok (.ifCond .ne 13, 3) := by decide +kernel
theorem dX2_leadByLuring_41 : decode cX2_leadByLuring 41 = .ok (.aload_n 0, 1) := by decide +kernel
theorem dX2_leadByLuring_42 : decode cX2_leadByLuring 42 = .ok (.getfield 31, 3) := by decide +kernel
theorem dX2_leadByLuring_45 : decode cX2_leadByLuring 45 = .ok (.iload 5, 2) := by decide +kernel
theorem dX2_leadByLuring_47 : decode cX2_leadByLuring 47 = .ok (.iaload, 1) := by decide +kernel
theorem dX2_leadByLuring_48 : decode cX2_leadByLuring 48 = .ok (.goto 11, 3) := by decide +kernel
theorem dX2_leadByLuring_51 : decode cX2_leadByLuring 51 = .ok (.aload_n 0, 1) := by decide +kernel
theorem dX2_leadByLuring_52 : decode cX2_leadByLuring 52 = .ok (.getfield 31, 3) := by decide +kernel
theorem dX2_leadByLuring_55 : decode cX2_leadByLuring 55 = .ok (.iload 5, 2) := by decide +kernel
theorem dX2_leadByLuring_57 : decode cX2_leadByLuring 57 = .ok (.iaload, 1) := by decide +kernel
theorem dX2_leadByLuring_58 : decode cX2_leadByLuring 58 = .ok (.ineg, 1) := by decide +kernel
theorem dX2_leadByLuring_59 : decode cX2_leadByLuring 59 = .ok (.iadd, 1) := by decide +kernel
theorem dX2_leadByLuring_60 : decode cX2_leadByLuring 60 = .ok (.istore_n 3, 1) := by decide +kernel
theorem dX2_leadByLuring_61 : decode cX2_leadByLuring 61 = .ok (.iload_n 2, 1) := by decide +kernel
theorem dX2_leadByLuring_62 : decode cX2_leadByLuring 62 = .ok (.iconst 1, 1) := by decide +kernel
theorem dX2_leadByLuring_63 : decode cX2_leadByLuring 63 = .ok (.iload 5, 2) := by decide +kernel
theorem dX2_leadByLuring_65 : decode cX2_leadByLuring 65 = .ok (.ishl, 1) := by decide +kernel
theorem dX2_leadByLuring_66 : decode cX2_leadByLuring 66 = .ok (.iconst (-1), 1) := by decide +kernel
theorem dX2_leadByLuring_67 : decode cX2_leadByLuring 67 = .ok (.ixor, 1) := by decide +kernel
theorem dX2_leadByLuring_68 : decode cX2_leadByLuring 68 = .ok (.iand, 1) := by decide +kernel
theorem dX2_leadByLuring_69 : decode cX2_leadByLuring 69 = .ok (.istore_n 2, 1) := by decide +kernel
theorem dX2_leadByLuring_70 : decode cX2_leadByLuring 70 = .ok (.iinc 4 1, 3) := by decide +kernel
theorem dX2_leadByLuring_73 : decode cX2_leadByLuring 73 = .ok (.goto (-63), 3) := by decide +kernel
theorem dX2_leadByLuring_76 : decode cX2_leadByLuring 76 = .ok (.iload_n 3, 1) := by decide +kernel
theorem dX2_leadByLuring_77 : decode cX2_leadByLuring 77 = .ok (.ireturn, 1) := by decide +kernel
theorem dX2_beFed_0 : decode cX2_beFed 0 = .ok (.aload_n 0, 1) := by decide +kernel
theorem dX2_beFed_1 : decode cX2_beFed 1 = .ok (.iload_n 1, 1) := by decide +kernel
theorem dX2_beFed_2 : decode cX2_beFed 2 = .ok (.invokevirtual 93, 3) := by decide +kernel
theorem dX2_beFed_5 : decode cX2_beFed 5 = .ok (.ifCond .eq 32, 3) := by decide +kernel
theorem dX2_beFed_8 : decode cX2_beFed 8 = .ok (.aload_n 0, 1) := by decide +kernel
theorem dX2_beFed_9 : decode cX2_beFed 9 = .ok (.dup, 1) := by decide +kernel
theorem dX2_beFed_10 : decode cX2_beFed 10 = .ok (.getfield 15, 3) := by decide +kernel
theorem dX2_beFed_13 : decode cX2_beFed 13 = .ok (.iconst 1, 1) := by decide +kernel
theorem dX2_beFed_14 : decode cX2_beFed 14 = .ok (.isub, 1) := by decide +kernel
theorem dX2_beFed_15 : decode cX2_beFed 15 = .ok (.putfield 15, 3) := by decide +kernel
theorem dX2_beFed_18 : decode cX2_beFed 18 = .ok (.aload_n 0, 1) := by decide +kernel
theorem dX2_beFed_19 : decode cX2_beFed 19 = .ok (.getfield 31, 3) := by decide +kernel
theorem dX2_beFed_22 : decode cX2_beFed 22 = .ok (.iload_n 1, 1) := by decide +kernel
theorem dX2_beFed_23 : decode cX2_beFed 23 = .ok (.aload_n 0, 1) := by decide +kernel
theorem dX2_beFed_24 : decode cX2_beFed 24 = .ok (.getfield 31, 3) := by decide +kernel
theorem dX2_beFed_27 : decode cX2_beFed 27 = .ok (.iload_n 1, 1) := by decide +kernel
theorem dX2_beFed_28 : decode cX2_beFed 28 = .ok (.iaload, 1) := by decide +kernel
theorem dX2_beFed_29 : decode cX2_beFed 29 = .ok (.iconst 2, 1) := by decide +kernel
theorem dX2_beFed_30 : decode cX2_beFed 30 = .ok (.iadd, 1) := by decide +kernel
theorem dX2_beFed_31 : decode cX2_beFed 31 = .ok (.bipush 9, 2) := by decide +kernel
theorem dX2_beFed_33 : decode cX2_beFed 33 = .ok (.invokestatic 96, 3) := by decide +kernel
theorem dX2_beFed_36 : decode cX2_beFed 36 = .ok (.iastore, 1) := by decide +kernel
theorem dX2_beFed_37 : decode cX2_beFed 37 = .ok (.return_, 1) := by decide +kernel
theorem dX2_changeHomes_0 : decode cX2_changeHomes 0 = .ok (.aload_n 0, 1) := by decide +kernel
theorem dX2_changeHomes_1 : decode cX2_changeHomes 1 = .ok (.iload_n 1, 1) := by decide +kernel
theorem dX2_changeHomes_2 : decode cX2_changeHomes 2 = .ok (.invokevirtual 46, 3) := by decide +kernel
theorem dX2_changeHomes_5 : decode cX2_changeHomes 5 = .ok (.ifCond .eq 37, 3) := by decide +kernel
theorem dX2_changeHomes_8 : decode cX2_changeHomes 8 = .ok (.aload_n 0, 1) := by decide +kernel
theorem dX2_changeHomes_9 : decode cX2_changeHomes 9 = .ok (.iload_n 2, 1) := by decide +kernel
theorem dX2_changeHomes_10 : decode cX2_changeHomes 10 = .ok (.invokevirtual 46, 3) := by decide +kernel
theorem dX2_changeHomes_13 : decode cX2_changeHomes 13 = .ok (.ifCond .eq 29, 3) := by decide +kernel
theorem dX2_changeHomes_16 : decode cX2_changeHomes 16 = .ok (.aload_n 0, 1) := by decide +kernel
theorem dX2_changeHomes_17 : decode cX2_changeHomes 17 = .ok (.getfield 28, 3) := by decide +kernel
theorem dX2_changeHomes_20 : decode cX2_changeHomes 20 = .ok (.iload_n 1, 1) := by decide +kernel
theorem dX2_changeHomes_21 : decode cX2_changeHomes 21 = .ok (.iaload, 1) := by decide +kernel
theorem dX2_changeHomes_22 : decode cX2_changeHomes 22 = .ok (.istore_n 3, 1) := by decide +kernel
theorem dX2_changeHomes_23 : decode cX2_changeHomes 23 = .ok (.aload_n 0, 1) := by decide +kernel
theorem dX2_changeHomes_24 : decode cX2_changeHomes 24 = .ok (.getfield 28, 3) := by decide +kernel
theorem dX2_changeHomes_27 : decode cX2_changeHomes 27 = .ok (.iload_n 1, 1) := by decide +kernel
theorem dX2_changeHomes_28 : decode cX2_changeHomes 28 = .ok (.aload_n 0, 1) := by decide +kernel
theorem dX2_changeHomes_29 : decode cX2_changeHomes 29 = .ok (.getfield 28, 3) := by decide +kernel
theorem dX2_changeHomes_32 : decode cX2_changeHomes 32 = .ok (.iload_n 2, 1) := by decide +kernel
theorem dX2_changeHomes_33 : decode cX2_changeHomes 33 = .ok (.iaload, 1) := by decide +kernel
theorem dX2_changeHomes_34 : decode cX2_changeHomes 34 = .ok (.iastore, 1) := by decide +kernel
theorem dX2_changeHomes_35 : decode cX2_changeHomes 35 = .ok (.aload_n 0, 1) := by decide +kernel
theorem dX2_changeHomes_36 : decode cX2_changeHomes 36 = .ok (.getfield 28, 3) := by decide +kernel
theorem dX2_changeHomes_39 : decode cX2_changeHomes 39 = .ok (.iload_n 2, 1) := by decide +kernel
theorem dX2_changeHomes_40 : decode cX2_changeHomes 40 = .ok (.iload_n 3, 1) := by decide +kernel
theorem dX2_changeHomes_41 : decode cX2_changeHomes 41 = .ok (.iastore, 1) := by decide +kernel
theorem dX2_changeHomes_42 : decode cX2_changeHomes 42 = .ok (.return_, 1) := by decide +kernel
theorem dX2_lose_0 : decode cX2_lose 0 = .ok (.aload_n 0, 1) := by decide +kernel
theorem dX2_lose_1 : decode cX2_lose 1 = .ok (.iload_n 1, 1) := by decide +kernel
theorem dX2_lose_2 : decode cX2_lose 2 = .ok (.invokevirtual 46, 3) := by decide +kernel
theorem dX2_lose_5 : decode cX2_lose 5 = .ok (.ifCond .eq 11, 3) := by decide +kernel
theorem dX2_lose_8 : decode cX2_lose 8 = .ok (.aload_n 0, 1) := by decide +kernel
theorem dX2_lose_9 : decode cX2_lose 9 = .ok (.getfield 37, 3) := by decide +kernel
theorem dX2_lose_12 : decode cX2_lose 12 = .ok (.iload_n 1, 1) := by decide +kernel
theorem dX2_lose_13 : decode cX2_lose 13 = .ok (.bipush (-9), 2) := by decide +kernel
theorem dX2_lose_15 : decode cX2_lose 15 = .ok (.iastore, 1) := by decide +kernel
theorem dX2_lose_16 : decode cX2_lose 16 = .ok (.return_, 1) := by decide +kernel
theorem dX2_passWinters_0 : decode cX2_passWinters 0 = .ok (.iconst 0, 1) := by decide +kernel
theorem dX2_passWinters_1 : decode cX2_passWinters 1 = .ok (.istore_n 2, 1) := by decide +kernel
theorem dX2_passWinters_2 : decode cX2_passWinters 2 = .ok (.iload_n 2, 1) := by decide +kernel
theorem dX2_passWinters_3 : decode cX2_passWinters 3 = .ok (.iload_n 1, 1) := by decide +kernel
theorem dX2_passWinters_4 : decode cX2_passWinters 4 = .ok (.if_icmp .ge 13, 3) := by decide +kernel
theorem dX2_passWinters_7 : decode cX2_passWinters 7 = .ok (.aload_n 0, 1) := by decide +kernel
theorem dX2_passWinters_8 : decode cX2_passWinters 8 = .ok (.invokevirtual 99, 3) := by decide +kernel
theorem dX2_passWinters_11 : decode cX2_passWinters 11 = .ok (.iinc 2 1, 3) := by decide +kernel
theorem dX2_passWinters_14 : decode cX2_passWinters 14 = .ok (.goto (-12), 3) := by decide +kernel
theorem dX2_passWinters_17 : decode cX2_passWinters 17 = .ok (.return_, 1) := by decide +kernel
theorem dX2_passWinter_0 : decode cX2_passWinter 0 = .ok (.aload_n 0, 1) := by decide +kernel
theorem dX2_passWinter_1 : decode cX2_passWinter 1 = .ok (.invokevirtual 64, 3) := by decide +kernel
theorem dX2_passWinter_4 : decode cX2_passWinter 4 = .ok (.istore_n 1, 1) := by decide +kernel
theorem dX2_passWinter_5 : decode cX2_passWinter 5 = .ok (.aload_n 0, 1) := by decide +kernel
theorem dX2_passWinter_6 : decode cX2_passWinter 6 = .ok (.iconst 0, 1) := by decide +kernel
theorem dX2_passWinter_7 : decode cX2_passWinter 7 = .ok (.putfield 43, 3) := by decide +kernel
theorem dX2_passWinter_10 : decode cX2_passWinter 10 = .ok (.iconst 0, 1) := by decide +kernel
theorem dX2_passWinter_11 : decode cX2_passWinter 11 = .ok (.istore_n 2, 1) := by decide +kernel
theorem dX2_passWinter_12 : decode cX2_passWinter 12 = .ok (.iload_n 2, 1) := by decide +kernel
theorem dX2_passWinter_13 : decode cX2_passWinter 13 = .ok (.aload_n 0, 1) := by decide +kernel
theorem dX2_passWinter_14 : decode cX2_passWinter 14 = .ok (.getfield 9, 3) := by decide +kernel
theorem dX2_passWinter_17 : decode cX2_passWinter 17 = .ok (.if_icmp .ge 47, 3) := by decide +kernel
theorem dX2_passWinter_20 : decode cX2_passWinter 20 = .ok (.aload_n 0, 1) := by decide +kernel
theorem dX2_passWinter_21 : decode cX2_passWinter 21 = .ok (.iload_n 2, 1) := by decide +kernel
theorem dX2_passWinter_22 : decode cX2_passWinter 22 = .ok (.invokevirtual 50, 3) := by decide +kernel
theorem dX2_passWinter_25 : decode cX2_passWinter 25 = .ok (.ifCond .ne 6, 3) := by decide +kernel
theorem dX2_passWinter_28 : decode cX2_passWinter 28 = .ok (.goto 30, 3) := by decide +kernel
theorem dX2_passWinter_31 : decode cX2_passWinter 31 = .ok (.aload_n 0, 1) := by decide +kernel
theorem dX2_passWinter_32 : decode cX2_passWinter 32 = .ok (.getfield 25, 3) := by decide +kernel
theorem dX2_passWinter_35 : decode cX2_passWinter 35 = .ok (.iload_n 2, 1) := by decide +kernel
theorem dX2_passWinter_36 : decode cX2_passWinter 36 = .ok (.iaload, 1) := by decide +kernel
theorem dX2_passWinter_37 : decode cX2_passWinter 37 = .ok (.iload_n 1, 1) := by decide +kernel
theorem dX2_passWinter_38 : decode cX2_passWinter 38 = .ok (.invokestatic 102, 3) := by decide +kernel
theorem dX2_passWinter_41 : decode cX2_passWinter 41 = .ok (.ifCond .eq 11, 3) := by decide +kernel
theorem dX2_passWinter_44 : decode cX2_passWinter 44 = .ok (.aload_n 0, 1) := by decide +kernel
theorem dX2_passWinter_45 : decode cX2_passWinter 45 = .ok (.iload_n 2, 1) := by decide +kernel
theorem dX2_passWinter_46 : decode cX2_passWinter 46 = .ok (.invokevirtual 105, 3) := by decide +kernel
theorem dX2_passWinter_49 : decode cX2_passWinter 49 = .ok (.goto 9, 3) := by decide +kernel
theorem dX2_passWinter_52 : decode cX2_passWinter 52 = .ok (.aload_n 0, 1) := by decide +kernel
theorem dX2_passWinter_53 : decode cX2_passWinter 53 = .ok (.iload_n 2, 1) := by decide +kernel
theorem dX2_passWinter_54 : decode cX2_passWinter 54 = .ok (.iload_n 1, 1) := by decide +kernel
theorem dX2_passWinter_55 : decode cX2_passWinter 55 = .ok (.invokevirtual 109, 3) := by decide +kernel
theorem dX2_passWinter_58 : decode cX2_passWinter 58 = .ok (.iinc 2 1, 3) := by decide +kernel
theorem dX2_passWinter_61 : decode cX2_passWinter 61 = .ok (.goto (-49), 3) := by decide +kernel
theorem dX2_passWinter_64 : decode cX2_passWinter 64 = .ok (.iconst 0, 1) := by decide +kernel
theorem dX2_passWinter_65 : decode cX2_passWinter 65 = .ok (.istore_n 2, 1) := by decide +kernel
theorem dX2_passWinter_66 : decode cX2_passWinter 66 = .ok (.iload_n 2, 1) := by decide +kernel
theorem dX2_passWinter_67 : decode cX2_passWinter 67 = .ok (.aload_n 0, 1) := by decide +kernel
theorem dX2_passWinter_68 : decode cX2_passWinter 68 = .ok (.getfield 43, 3) := by decide +kernel
theorem dX2_passWinter_71 : decode cX2_passWinter 71 = .ok (.if_icmp .ge 19, 3) := by decide +kernel
theorem dX2_passWinter_74 : decode cX2_passWinter 74 = .ok (.aload_n 0, 1) := by decide +kernel
theorem dX2_passWinter_75 : decode cX2_passWinter 75 = .ok (.aload_n 0, 1) := by decide +kernel
theorem dX2_passWinter_76 : decode cX2_passWinter 76 = .ok (.getfield 40, 3) := by decide +kernel
theorem dX2_passWinter_79 : decode cX2_passWinter 79 = .ok (.iload_n 2, 1) := by decide +kernel
theorem dX2_passWinter_80 : decode cX2_passWinter 80 = .ok (.iaload, 1) := by decide +kernel
theorem dX2_passWinter_81 : decode cX2_passWinter 81 = .ok (.invokevirtual 113, 3) := by decide +kernel
theorem dX2_passWinter_84 : decode cX2_passWinter 84 = .ok (.iinc 2 1, 3) := by decide +kernel
theorem dX2_passWinter_87 : decode cX2_passWinter 87 = .ok (.goto (-21), 3) := by decide +kernel
theorem dX2_passWinter_90 : decode cX2_passWinter 90 = .ok (.aload_n 0, 1) := by decide +kernel
theorem dX2_passWinter_91 : decode cX2_passWinter 91 = .ok (.dup, 1) := by decide +kernel
theorem dX2_passWinter_92 : decode cX2_passWinter 92 = .ok (.getfield 18, 3) := by decide +kernel
theorem dX2_passWinter_95 : decode cX2_passWinter 95 = .ok (.iconst 1, 1) := by decide +kernel
theorem dX2_passWinter_96 : decode cX2_passWinter 96 = .ok (.iadd, 1) := by decide +kernel
theorem dX2_passWinter_97 : decode cX2_passWinter 97 = .ok (.putfield 18, 3) := by decide +kernel
theorem dX2_passWinter_100 : decode cX2_passWinter 100 = .ok (.return_, 1) := by decide +kernel
theorem dX2_stay_0 : decode cX2_stay 0 = .ok (.aload_n 0, 1) := by decide +kernel
theorem dX2_stay_1 : decode cX2_stay 1 = .ok (.getfield 15, 3) := by decide +kernel
theorem dX2_stay_4 : decode cX2_stay 4 = .ok (.ifCond .le 16, 3) := by decide +kernel
theorem dX2_stay_7 : decode cX2_stay 7 = .ok (.aload_n 0, 1) := by decide +kernel
theorem dX2_stay_8 : decode cX2_stay 8 = .ok (.dup, 1) := by decide +kernel
theorem dX2_stay_9 : decode cX2_stay 9 = .ok (.getfield 15, 3) := by decide +kernel
theorem dX2_stay_12 : decode cX2_stay 12 = .ok (.iconst 1, 1) := by decide +kernel
theorem dX2_stay_13 : decode cX2_stay 13 = .ok (.isub, 1) := by decide +kernel
theorem dX2_stay_14 : decode cX2_stay 14 = .ok (.putfield 15, 3) := by decide +kernel
theorem dX2_stay_17 : decode cX2_stay 17 = .ok (.goto 21, 3) := by decide +kernel
theorem dX2_stay_20 : decode cX2_stay 20 = .ok (.aload_n 0, 1) := by decide +kernel
theorem dX2_stay_21 : decode cX2_stay 21 = .ok (.getfield 31, 3) := by decide +kernel
theorem dX2_stay_24 : decode cX2_stay 24 = .ok (.iload_n 1, 1) := by decide +kernel
theorem dX2_stay_25 : decode cX2_stay 25 = .ok (.aload_n 0, 1) := by decide +kernel
theorem dX2_stay_26 : decode cX2_stay 26 = .ok (.getfield 31, 3) := by decide +kernel
theorem dX2_stay_29 : decode cX2_stay 29 = .ok (.iload_n 1, 1) := by decide +kernel
theorem dX2_stay_30 : decode cX2_stay 30 = .ok (.iaload, 1) := by decide +kernel
theorem dX2_stay_31 : decode cX2_stay 31 = .ok (.iconst 1, 1) := by decide +kernel
theorem dX2_stay_32 : decode cX2_stay 32 = .ok (.isub, 1) := by decide +kernel
theorem dX2_stay_33 : decode cX2_stay 33 = .ok (.iconst 0, 1) := by decide +kernel
theorem dX2_stay_34 : decode cX2_stay 34 = .ok (.invokestatic 116, 3) := by decide +kernel
theorem dX2_stay_37 : decode cX2_stay 37 = .ok (.iastore, 1) := by decide +kernel
theorem dX2_stay_38 : decode cX2_stay 38 = .ok (.return_, 1) := by decide +kernel
theorem dX2_go_0 : decode cX2_go 0 = .ok (.aload_n 0, 1) := by decide +kernel
theorem dX2_go_1 : decode cX2_go 1 = .ok (.getfield 25, 3) := by decide +kernel
theorem dX2_go_4 : decode cX2_go 4 = .ok (.iload_n 1, 1) := by decide +kernel
theorem dX2_go_5 : decode cX2_go 5 = .ok (.iaload, 1) := by decide +kernel
theorem dX2_go_6 : decode cX2_go 6 = .ok (.iload_n 2, 1) := by decide +kernel
theorem dX2_go_7 : decode cX2_go 7 = .ok (.invokestatic 68, 3) := by decide +kernel
theorem dX2_go_10 : decode cX2_go 10 = .ok (.istore_n 3, 1) := by decide +kernel
theorem dX2_go_11 : decode cX2_go 11 = .ok (.aload_n 0, 1) := by decide +kernel
theorem dX2_go_12 : decode cX2_go 12 = .ok (.getfield 37, 3) := by decide +kernel
theorem dX2_go_15 : decode cX2_go 15 = .ok (.iload_n 1, 1) := by decide +kernel
theorem dX2_go_16 : decode cX2_go 16 = .ok (.bipush (-9), 2) := by decide +kernel
theorem dX2_go_18 : decode cX2_go 18 = .ok (.iastore, 1) := by decide +kernel
theorem dX2_go_19 : decode cX2_go 19 = .ok (.iload_n 3, 1) := by decide +kernel
theorem dX2_go_20 : decode cX2_go 20 = .ok (.aload_n 0, 1) := by decide +kernel
theorem dX2_go_21 : decode cX2_go 21 = .ok (.getfield 31, 3) := by decide +kernel
theorem dX2_go_24 : decode cX2_go 24 = .ok (.iload_n 1, 1) := by decide +kernel
theorem dX2_go_25 : decode cX2_go 25 = .ok (.iaload, 1) := by decide +kernel
theorem dX2_go_26 : decode cX2_go 26 = .ok (.if_icmp .le 4, 3) := by decide +kernel
theorem dX2_go_29 : decode cX2_go 29 = .ok (.return_, 1) := by decide +kernel
theorem dX2_go_30 : decode cX2_go 30 = .ok (.aload_n 0, 1) := by decide +kernel
theorem dX2_go_31 : decode cX2_go 31 = .ok (.getfield 31, 3) := by decide +kernel
theorem dX2_go_34 : decode cX2_go 34 = .ok (.iload_n 1, 1) := by decide +kernel
theorem dX2_go_35 : decode cX2_go 35 = .ok (.dup2, 1) := by decide +kernel
theorem dX2_go_36 : decode cX2_go 36 = .ok (.iaload, 1) := by decide +kernel
theorem dX2_go_37 : decode cX2_go 37 = .ok (.iload_n 3, 1) := by decide +kernel
theorem dX2_go_38 : decode cX2_go 38 = .ok (.isub, 1) := by decide +kernel
theorem dX2_go_39 : decode cX2_go 39 = .ok (.iastore, 1) := by decide +kernel
theorem dX2_go_40 : decode cX2_go 40 = .ok (.aload_n 0, 1) := by decide +kernel
theorem dX2_go_41 : decode cX2_go 41 = .ok (.getfield 43, 3) := by decide +kernel
theorem dX2_go_44 : decode cX2_go 44 = .ok (.iconst 5, 1) := by decide +kernel
theorem dX2_go_45 : decode cX2_go 45 = .ok (.invokestatic 96, 3) := by decide +kernel
theorem dX2_go_48 : decode cX2_go 48 = .ok (.istore 4, 2) := by decide +kernel
theorem dX2_go_50 : decode cX2_go 50 = .ok (.iload 4, 2) := by decide +kernel
theorem dX2_go_52 : decode cX2_go 52 = .ok (.ifCond .le 42, 3) := by decide +kernel
theorem dX2_go_55 : decode cX2_go 55 = .ok (.aload_n 0, 1) := by decide +kernel
theorem dX2_go_56 : decode cX2_go 56 = .ok (.iload_n 1, 1) := by decide +kernel
theorem dX2_go_57 : decode cX2_go 57 = .ok (.aload_n 0, 1) := by decide +kernel
theorem dX2_go_58 : decode cX2_go 58 = .ok (.getfield 40, 3) := by decide +kernel
theorem dX2_go_61 : decode cX2_go 61 = .ok (.iload 4, 2) := by decide +kernel
theorem dX2_go_63 : decode cX2_go 63 = .ok (.iconst 1, 1) := by decide +kernel
theorem dX2_go_64 : decode cX2_go 64 = .ok (.isub, 1) := by decide +kernel
theorem dX2_go_65 : decode cX2_go 65 = .ok (.iaload, 1) := by decide +kernel
theorem dX2_go_66 : decode cX2_go 66 = .ok (.invokevirtual 119, 3) := by decide +kernel
theorem dX2_go_69 : decode cX2_go 69 = .ok (.ifCond .eq 25, 3) := by decide +kernel
theorem dX2_go_72 : decode cX2_go 72 = .ok (.aload_n 0, 1) := by decide +kernel
theorem dX2_go_73 : decode cX2_go 73 = .ok (.getfield 40, 3) := by decide +kernel
theorem dX2_go_76 : decode cX2_go 76 = .ok (.iload 4, 2) := by decide +kernel
theorem dX2_go_78 : decode cX2_go 78 = .ok (.aload_n 0, 1) := by decide +kernel
theorem dX2_go_79 : decode cX2_go 79 = .ok (.getfield 40, 3) := by decide +kernel
theorem dX2_go_82 : decode cX2_go 82 = .ok (.iload 4, 2) := by decide +kernel
theorem dX2_go_84 : decode cX2_go 84 = .ok (.iconst 1, 1) := by decide +kernel
theorem dX2_go_85 : decode cX2_go 85 = .ok (.isub, 1) := by decide +kernel
theorem dX2_go_86 : decode cX2_go 86 = .ok (.iaload, 1) := by decide +kernel
theorem dX2_go_87 : decode cX2_go 87 = .ok (.iastore, 1) := by decide +kernel
theorem dX2_go_88 : decode cX2_go 88 = .ok (.iinc 4 (-1), 3) := by decide +kernel
theorem dX2_go_91 : decode cX2_go 91 = .ok (.goto (-41), 3) := by decide +kernel
theorem dX2_go_94 : decode cX2_go 94 = .ok (.aload_n 0, 1) := by decide +kernel
theorem dX2_go_95 : decode cX2_go 95 = .ok (.getfield 40, 3) := by decide +kernel
theorem dX2_go_98 : decode cX2_go 98 = .ok (.iload 4, 2) := by decide +kernel
theorem dX2_go_100 : decode cX2_go 100 = .ok (.iload_n 1, 1) := by decide +kernel
theorem dX2_go_101 : decode cX2_go 101 = .ok (.iastore, 1) := by decide +kernel
theorem dX2_go_102 : decode cX2_go 102 = .ok (.aload_n 0, 1) := by decide +kernel
theorem dX2_go_103 : decode cX2_go 103 = .ok (.dup, 1) := by decide +kernel
theorem dX2_go_104 : decode cX2_go 104 = .ok (.getfield 43, 3) := by decide +kernel
theorem dX2_go_107 : decode cX2_go 107 = .ok (.iconst 1, 1) := by decide +kernel
theorem dX2_go_108 : decode cX2_go 108 = .ok (.iadd, 1) := by decide +kernel
theorem dX2_go_109 : decode cX2_go 109 = .ok (.putfield 43, 3) := by decide +kernel
theorem dX2_go_112 : decode cX2_go 112 = .ok (.return_, 1) := by decide +kernel
theorem dX2_isAheadOf_0 : decode cX2_isAheadOf 0 = .ok (.aload_n 0, 1) := by decide +kernel
theorem dX2_isAheadOf_1 : decode cX2_isAheadOf 1 = .ok (.getfield 25, 3) := by decide +kernel
theorem dX2_isAheadOf_4 : decode cX2_isAheadOf 4 = .ok (.iload_n 1, 1) := by decide +kernel
theorem dX2_isAheadOf_5 : decode cX2_isAheadOf 5 = .ok (.iaload, 1) := by decide +kernel
theorem dX2_isAheadOf_6 : decode cX2_isAheadOf 6 = .ok (.invokestatic 71, 3) := by decide +kernel
theorem dX2_isAheadOf_9 : decode cX2_isAheadOf 9 = .ok (.istore_n 3, 1) := by decide +kernel
theorem dX2_isAheadOf_10 : decode cX2_isAheadOf 10 = .ok (.aload_n 0, 1) := by decide +kernel
theorem dX2_isAheadOf_11 : decode cX2_isAheadOf 11 = .ok (.getfield 25, 3) := by decide +kernel
theorem dX2_isAheadOf_14 : decode cX2_isAheadOf 14 = .ok (.iload_n 2, 1) := by decide +kernel
theorem dX2_isAheadOf_15 : decode cX2_isAheadOf 15 = .ok (.iaload, 1) := by decide +kernel
theorem dX2_isAheadOf_16 : decode cX2_isAheadOf 16 = .ok (.invokestatic 71, 3) := by decide +kernel
theorem dX2_isAheadOf_19 : decode cX2_isAheadOf 19 = .ok (.istore 4, 2) := by decide +kernel
theorem dX2_isAheadOf_21 : decode cX2_isAheadOf 21 = .ok (.iload_n 3, 1) := by decide +kernel
theorem dX2_isAheadOf_22 : decode cX2_isAheadOf 22 = .ok (.iload 4, 2) := by decide +kernel
theorem dX2_isAheadOf_24 : decode cX2_isAheadOf 24 = .ok (.if_icmp .eq 17, 3) := by decide +kernel
theorem dX2_isAheadOf_27 : decode cX2_isAheadOf 27 = .ok (.iload_n 3, 1) := by decide +kernel
theorem dX2_isAheadOf_28 : decode cX2_isAheadOf 28 = .ok (.iload 4, 2) := by decide +kernel
theorem dX2_isAheadOf_30 : decode cX2_isAheadOf 30 = .ok (.if_icmp .ge 7, 3) := by decide +kernel
theorem dX2_isAheadOf_33 : decode cX2_isAheadOf 33 = .ok (.iconst 1, 1) := by decide +kernel
theorem dX2_isAheadOf_34 : decode cX2_isAheadOf 34 = .ok (.goto 27, 3) := by decide +kernel
theorem dX2_isAheadOf_37 : decode cX2_isAheadOf 37 = .ok (.iconst 0, 1) := by decide +kernel
theorem dX2_isAheadOf_38 : decode cX2_isAheadOf 38 = .ok (.goto 23, 3) := by decide +kernel
theorem dX2_isAheadOf_41 : decode cX2_isAheadOf 41 = .ok (.aload_n 0, 1) := by decide +kernel
theorem dX2_isAheadOf_42 : decode cX2_isAheadOf 42 = .ok (.getfield 31, 3) := by decide +kernel
theorem dX2_isAheadOf_45 : decode cX2_isAheadOf 45 = .ok (.iload_n 1, 1) := by decide +kernel
theorem dX2_isAheadOf_46 : decode cX2_isAheadOf 46 = .ok (.iaload, 1) := by decide +kernel
theorem dX2_isAheadOf_47 : decode cX2_isAheadOf 47 = .ok (.aload_n 0, 1) := by decide +kernel
theorem dX2_isAheadOf_48 : decode cX2_isAheadOf 48 = .ok (.getfield 31, 3) := by decide +kernel
theorem dX2_isAheadOf_51 : decode cX2_isAheadOf 51 = .ok (.iload_n 2, 1) := by decide +kernel
theorem dX2_isAheadOf_52 : decode cX2_isAheadOf 52 = .ok (.iaload, 1) := by decide +kernel
theorem dX2_isAheadOf_53 : decode cX2_isAheadOf 53 = .ok (.if_icmp .le 7, 3) := by decide +kernel
theorem dX2_isAheadOf_56 : decode cX2_isAheadOf 56 = .ok (.iconst 1, 1) := by decide +kernel
theorem dX2_isAheadOf_57 : decode cX2_isAheadOf 57 = .ok (.goto 4, 3) := by decide +kernel
theorem dX2_isAheadOf_60 : decode cX2_isAheadOf 60 = .ok (.iconst 0, 1) := by decide +kernel
theorem dX2_isAheadOf_61 : decode cX2_isAheadOf 61 = .ok (.ireturn, 1) := by decide +kernel
theorem dX2_land_0 : decode cX2_land 0 = .ok (.aload_n 0, 1) := by decide +kernel
theorem dX2_land_1 : decode cX2_land 1 = .ok (.getfield 37, 3) := by decide +kernel
theorem dX2_land_4 : decode cX2_land 4 = .ok (.iload_n 1, 1) := by decide +kernel
theorem dX2_land_5 : decode cX2_land 5 = .ok (.aload_n 0, 1) := by decide +kernel
theorem dX2_land_6 : decode cX2_land 6 = .ok (.aload_n 0, 1) := by decide +kernel
theorem dX2_land_7 : decode cX2_land 7 = .ok (.iload_n 1, 1) := by decide +kernel
theorem dX2_land_8 : decode cX2_land 8 = .ok (.invokevirtual 75, 3) := by decide +kernel
theorem dX2_land_11 : decode cX2_land 11 = .ok (.invokevirtual 122, 3) := by decide +kernel
theorem dX2_land_14 : decode cX2_land 14 = .ok (.iastore, 1) := by decide +kernel
theorem dX2_land_15 : decode cX2_land 15 = .ok (.aload_n 0, 1) := by decide +kernel
theorem dX2_land_16 : decode cX2_land 16 = .ok (.getfield 34, 3) := by decide +kernel
theorem dX2_land_19 : decode cX2_land 19 = .ok (.iload_n 1, 1) := by decide +kernel
theorem dX2_land_20 : decode cX2_land 20 = .ok (.aload_n 0, 1) := by decide +kernel
theorem dX2_land_21 : decode cX2_land 21 = .ok (.getfield 34, 3) := by decide +kernel
theorem dX2_land_24 : decode cX2_land 24 = .ok (.iload_n 1, 1) := by decide +kernel
theorem dX2_land_25 : decode cX2_land 25 = .ok (.iaload, 1) := by decide +kernel
theorem dX2_land_26 : decode cX2_land 26 = .ok (.iconst 1, 1) := by decide +kernel
theorem dX2_land_27 : decode cX2_land 27 = .ok (.iadd, 1) := by decide +kernel
theorem dX2_land_28 : decode cX2_land 28 = .ok (.bipush 9, 2) := by decide +kernel
theorem dX2_land_30 : decode cX2_land 30 = .ok (.invokestatic 96, 3) := by decide +kernel
theorem dX2_land_33 : decode cX2_land 33 = .ok (.iastore, 1) := by decide +kernel
theorem dX2_land_34 : decode cX2_land 34 = .ok (.return_, 1) := by decide +kernel
theorem dX2_nearestFree_0 : decode cX2_nearestFree 0 = .ok (.aload_n 0, 1) := by decide +kernel
theorem dX2_nearestFree_1 : decode cX2_nearestFree 1 = .ok (.invokevirtual 125, 3) := by decide +kernel
theorem dX2_nearestFree_4 : decode cX2_nearestFree 4 = .ok (.istore_n 2, 1) := by decide +kernel
theorem dX2_nearestFree_5 : decode cX2_nearestFree 5 = .ok (.iconst 0, 1) := by decide +kernel
theorem dX2_nearestFree_6 : decode cX2_nearestFree 6 = .ok (.istore_n 3, 1) := by decide +kernel
theorem dX2_nearestFree_7 : decode cX2_nearestFree 7 = .ok (.iload_n 3, 1) := by decide +kernel
theorem dX2_nearestFree_8 : decode cX2_nearestFree 8 = .ok (.bipush 10, 2) := by decide +kernel
theorem dX2_nearestFree_10 : decode cX2_nearestFree 10 = .ok (.if_icmp .ge 53, 3) := by decide +kernel
theorem dX2_nearestFree_13 : decode cX2_nearestFree 13 = .ok (.iload_n 1, 1) := by decide +kernel
theorem dX2_nearestFree_14 : decode cX2_nearestFree 14 = .ok (.iload_n 3, 1) := by decide +kernel
theorem dX2_nearestFree_15 : decode cX2_nearestFree 15 = .ok (.isub, 1) := by decide +kernel
theorem dX2_nearestFree_16 : decode cX2_nearestFree 16 = .ok (.ifCond .lt 18, 3) := by decide +kernel
theorem dX2_nearestFree_19 : decode cX2_nearestFree 19 = .ok (.iload_n 2, 1) := by decide +kernel
theorem dX2_nearestFree_20 : decode cX2_nearestFree 20 = .ok (.iload_n 1, 1) := by decide +kernel
theorem dX2_nearestFree_21 : decode cX2_nearestFree 21 = .ok (.iload_n 3, 1) := by decide +kernel
theorem dX2_nearestFree_22 : decode cX2_nearestFree 22 = .ok (.isub, 1) := by decide +kernel
theorem dX2_nearestFree_23 : decode cX2_nearestFree 23 = .ok (.ishr, 1) := by decide +kernel
theorem dX2_nearestFree_24 : decode cX2_nearestFree 24 = .ok (.iconst 1, 1) := by decide +kernel
theorem dX2_nearestFree_25 : decode cX2_nearestFree 25 = .ok (.iand, 1) := by decide +kernel
theorem dX2_nearestFree_26 : decode cX2_nearestFree 26 = .ok (.iconst 1, 1) := by decide +kernel
theorem dX2_nearestFree_27 : decode cX2_nearestFree 27 = .ok (.if_icmp .ne 7, 3) := by decide +kernel
theorem dX2_nearestFree_30 : decode cX2_nearestFree 30 = .ok (.iload_n 1, 1) := by decide +kernel
theorem dX2_nearestFree_31 : decode cX2_nearestFree 31 = .ok (.iload_n 3, 1) := by decide +kernel
theorem dX2_nearestFree_32 : decode cX2_nearestFree 32 = .ok (.isub, 1) := by decide +kernel
theorem dX2_nearestFree_33 : decode cX2_nearestFree 33 = .ok (.ireturn, 1) := by decide +kernel
theorem dX2_nearestFree_34 : decode cX2_nearestFree 34 = .ok (.iload_n 1, 1) := by decide +kernel
theorem dX2_nearestFree_35 : decode cX2_nearestFree 35 = .ok (.iload_n 3, 1) := by decide +kernel
theorem dX2_nearestFree_36 : decode cX2_nearestFree 36 = .ok (.iadd, 1) := by decide +kernel
theorem dX2_nearestFree_37 : decode cX2_nearestFree 37 = .ok (.bipush 10, 2) := by decide +kernel
theorem dX2_nearestFree_39 : decode cX2_nearestFree 39 = .ok (.if_icmp .ge 18, 3) := by decide +kernel
theorem dX2_nearestFree_42 : decode cX2_nearestFree 42 = .ok (.iload_n 2, 1) := by decide +kernel
theorem dX2_nearestFree_43 : decode cX2_nearestFree 43 = .ok (.iload_n 1, 1) := by decide +kernel
theorem dX2_nearestFree_44 : decode cX2_nearestFree 44 = .ok (.iload_n 3, 1) := by decide +kernel
theorem dX2_nearestFree_45 : decode cX2_nearestFree 45 = .ok (.iadd, 1) := by decide +kernel
theorem dX2_nearestFree_46 : decode cX2_nearestFree 46 = .ok (.ishr, 1) := by decide +kernel
theorem dX2_nearestFree_47 : decode cX2_nearestFree 47 = .ok (.iconst 1, 1) := by decide +kernel
theorem dX2_nearestFree_48 : decode cX2_nearestFree 48 = .ok (.iand, 1) := by decide +kernel
theorem dX2_nearestFree_49 : decode cX2_nearestFree 49 = .ok (.iconst 1, 1) := by decide +kernel
theorem dX2_nearestFree_50 : decode cX2_nearestFree 50 = .ok (.if_icmp .ne 7, 3) := by decide +kernel
theorem dX2_nearestFree_53 : decode cX2_nearestFree 53 = .ok (.iload_n 1, 1) := by decide +kernel
theorem dX2_nearestFree_54 : decode cX2_nearestFree 54 = .ok (.iload_n 3, 1) := by decide +kernel
theorem dX2_nearestFree_55 : decode cX2_nearestFree 55 = .ok (.iadd, 1) := by decide +kernel
theorem dX2_nearestFree_56 : decode cX2_nearestFree 56 = .ok (.ireturn, 1) := by decide +kernel
theorem dX2_nearestFree_57 : decode cX2_nearestFree 57 = .ok (.iinc 3 1, 3) := by decide +kernel
theorem dX2_nearestFree_60 : decode cX2_nearestFree 60 = .ok (.goto (-53), 3) := by decide +kernel
theorem dX2_nearestFree_63 : decode cX2_nearestFree 63 = .ok (.bipush (-9), 2) := by decide +kernel
theorem dX2_nearestFree_65 : decode cX2_nearestFree 65 = .ok (.ireturn, 1) := by decide +kernel
theorem dX2_freeBits_0 : decode cX2_freeBits 0 = .ok (.sipush 1023, 3) := by decide +kernel
theorem dX2_freeBits_3 : decode cX2_freeBits 3 = .ok (.istore_n 1, 1) := by decide +kernel
theorem dX2_freeBits_4 : decode cX2_freeBits 4 = .ok (.iconst 0, 1) := by decide +kernel
theorem dX2_freeBits_5 : decode cX2_freeBits 5 = .ok (.istore_n 2, 1) := by decide +kernel
theorem dX2_freeBits_6 : decode cX2_freeBits 6 = .ok (.iload_n 2, 1) := by decide +kernel
theorem dX2_freeBits_7 : decode cX2_freeBits 7 = .ok (.aload_n 0, 1) := by decide +kernel
theorem dX2_freeBits_8 : decode cX2_freeBits 8 = .ok (.getfield 9, 3) := by decide +kernel
theorem dX2_freeBits_11 : decode cX2_freeBits 11 = .ok (.if_icmp .ge 33, 3) := by decide +kernel
theorem dX2_freeBits_14 : decode cX2_freeBits 14 = .ok (.aload_n 0, 1) := by decide +kernel
theorem dX2_freeBits_15 : decode cX2_freeBits 15 = .ok (.getfield 37, 3) := by decide +kernel
theorem dX2_freeBits_18 : decode cX2_freeBits 18 = .ok (.iload_n 2, 1) := by decide +kernel
theorem dX2_freeBits_19 : decode cX2_freeBits 19 = .ok (.iaload, 1) := by decide +kernel
theorem dX2_freeBits_20 : decode cX2_freeBits 20 = .ok (.bipush (-9), 2) := by decide +kernel
theorem dX2_freeBits_22 : decode cX2_freeBits 22 = .ok (.if_icmp .eq 16, 3) := by decide +kernel
theorem dX2_freeBits_25 : decode cX2_freeBits 25 = .ok (.iload_n 1, 1) := by decide +kernel
theorem dX2_freeBits_26 : decode cX2_freeBits 26 = .ok (.iconst 1, 1) := by decide +kernel
theorem dX2_freeBits_27 : decode cX2_freeBits 27 = .ok (.aload_n 0, 1) := by decide +kernel
theorem dX2_freeBits_28 : decode cX2_freeBits 28 = .ok (.getfield 37, 3) := by decide +kernel
theorem dX2_freeBits_31 : decode cX2_freeBits 31 = .ok (.iload_n 2, 1) := by decide +kernel
theorem dX2_freeBits_32 : decode cX2_freeBits 32 = .ok (.iaload, 1) := by decide +kernel
theorem dX2_freeBits_33 : decode cX2_freeBits 33 = .ok (.ishl, 1) := by decide +kernel
theorem dX2_freeBits_34 : decode cX2_freeBits 34 = .ok (.iconst (-1), 1) := by decide +kernel
theorem dX2_freeBits_35 : decode cX2_freeBits 35 = .ok (.ixor, 1) := by decide +kernel
theorem dX2_freeBits_36 : decode cX2_freeBits 36 = .ok (.iand, 1) := by decide +kernel
theorem dX2_freeBits_37 : decode cX2_freeBits 37 = .ok (.istore_n 1, 1) := by decide +kernel
theorem dX2_freeBits_38 : decode cX2_freeBits 38 = .ok (.iinc 2 1, 3) := by decide +kernel
theorem dX2_freeBits_41 : decode cX2_freeBits 41 = .ok (.goto (-35), 3) := by decide +kernel
theorem dX2_freeBits_44 : decode cX2_freeBits 44 = .ok (.iload_n 1, 1) := by decide +kernel
theorem dX2_freeBits_45 : decode cX2_freeBits 45 = .ok (.ireturn, 1) := by decide +kernel
theorem dX3_byLetter_0 : decode cX3_byLetter 0 = .ok (.iconst 0, 1) := by decide +kernel
theorem dX3_byLetter_1 : decode cX3_byLetter 1 = .ok (.istore_n 1, 1) := by decide +kernel
theorem dX3_byLetter_2 : decode cX3_byLetter 2 = .ok (.iload_n 1, 1) := by decide +kernel
theorem dX3_byLetter_3 : decode cX3_byLetter 3 = .ok (.getstatic 9, 3) := by decide +kernel
theorem dX3_byLetter_6 : decode cX3_byLetter 6 = .ok (.arraylength, 1) := by decide +kernel
theorem dX3_byLetter_7 : decode cX3_byLetter 7 = .ok (.if_icmp .ge 20, 3) := by decide +kernel
theorem dX3_byLetter_10 : decode cX3_byLetter 10 = .ok (.getstatic 9, 3) := by decide +kernel
theorem dX3_byLetter_13 : decode cX3_byLetter 13 = .ok (.iload_n 1, 1) := by decide +kernel
theorem dX3_byLetter_14 : decode cX3_byLetter 14 = .ok (.iaload, 1) := by decide +kernel
theorem dX3_byLetter_15 : decode cX3_byLetter 15 = .ok (.iload_n 0, 1) := by decide +kernel
theorem dX3_byLetter_16 : decode cX3_byLetter 16 = .ok (.if_icmp .ne 5, 3) := by decide +kernel
theorem dX3_byLetter_19 : decode cX3_byLetter 19 = .ok (.iload_n 1, 1) := by decide +kernel
theorem dX3_byLetter_20 : decode cX3_byLetter 20 = .ok (.ireturn, 1) := by decide +kernel
theorem dX3_byLetter_21 : decode cX3_byLetter 21 = .ok (.iinc 1 1, 3) := by decide +kernel
theorem dX3_byLetter_24 : decode cX3_byLetter 24 = .ok (.goto (-22), 3) := by decide +kernel
theorem dX3_byLetter_27 : decode cX3_byLetter 27 = .ok (.bipush (-9), 2) := by decide +kernel
theorem dX3_byLetter_29 : decode cX3_byLetter 29 = .ok (.ireturn, 1) := by decide +kernel
theorem dX3_isOf_0 : decode cX3_isOf 0 = .ok (.iload_n 1, 1) := by decide +kernel
theorem dX3_isOf_1 : decode cX3_isOf 1 = .ok (.iload_n 0, 1) := by decide +kernel
theorem dX3_isOf_2 : decode cX3_isOf 2 = .ok (.if_icmp .eq 27, 3) := by decide +kernel
theorem dX3_isOf_5 : decode cX3_isOf 5 = .ok (.iload_n 1, 1) := by decide +kernel
theorem dX3_isOf_6 : decode cX3_isOf 6 = .ok (.ifCond .eq 23, 3) := by decide +kernel
theorem dX3_isOf_9 : decode cX3_isOf 9 = .ok (.iload_n 1, 1) := by decide +kernel
theorem dX3_isOf_10 : decode cX3_isOf 10 = .ok (.iconst 1, 1) := by decide +kernel
theorem dX3_isOf_11 : decode cX3_isOf 11 = .ok (.if_icmp .ne 8, 3) := by decide +kernel
theorem dX3_isOf_14 : decode cX3_isOf 14 = .ok (.iload_n 0, 1) := by decide +kernel
theorem dX3_isOf_15 : decode cX3_isOf 15 = .ok (.iconst 4, 1) := by decide +kernel
theorem dX3_isOf_16 : decode cX3_isOf 16 = .ok (.if_icmp .eq 13, 3) := by decide +kernel
theorem dX3_isOf_19 : decode cX3_isOf 19 = .ok (.iload_n 1, 1) := by decide +kernel
theorem dX3_isOf_20 : decode cX3_isOf 20 = .ok (.iconst 3, 1) := by decide +kernel
theorem dX3_isOf_21 : decode cX3_isOf 21 = .ok (.if_icmp .ne 12, 3) := by decide +kernel
theorem dX3_isOf_24 : decode cX3_isOf 24 = .ok (.iload_n 0, 1) := by decide +kernel
theorem dX3_isOf_25 : decode cX3_isOf 25 = .ok (.iconst 5, 1) := by decide +kernel
theorem dX3_isOf_26 : decode cX3_isOf 26 = .ok (.if_icmp .ne 7, 3) := by decide +kernel
theorem dX3_isOf_29 : decode cX3_isOf 29 = .ok (.iconst 1, 1) := by decide +kernel
theorem dX3_isOf_30 : decode cX3_isOf 30 = .ok (.goto 4, 3) := by decide +kernel
theorem dX3_isOf_33 : decode cX3_isOf 33 = .ok (.iconst 0, 1) := by decide +kernel
theorem dX3_isOf_34 : decode cX3_isOf 34 = .ok (.ireturn, 1) := by decide +kernel
theorem dX3_stays_0 : decode cX3_stays 0 = .ok (.iload_n 0, 1) := by decide +kernel
theorem dX3_stays_1 : decode cX3_stays 1 = .ok (.iconst 2, 1) := by decide +kernel
theorem dX3_stays_2 : decode cX3_stays 2 = .ok (.if_icmp .ne 12, 3) := by decide +kernel
theorem dX3_stays_5 : decode cX3_stays 5 = .ok (.iload_n 1, 1) := by decide +kernel
theorem dX3_stays_6 : decode cX3_stays 6 = .ok (.iconst 5, 1) := by decide +kernel
theorem dX3_stays_7 : decode cX3_stays 7 = .ok (.if_icmp .lt 7, 3) := by decide +kernel
theorem dX3_stays_10 : decode cX3_stays 10 = .ok (.iconst 1, 1) := by decide +kernel
theorem dX3_stays_11 : decode cX3_stays 11 = .ok (.goto 4, 3) := by decide +kernel
theorem dX3_stays_14 : decode cX3_stays 14 = .ok (.iconst 0, 1) := by decide +kernel
theorem dX3_stays_15 : decode cX3_stays 15 = .ok (.ireturn, 1) := by decide +kernel
theorem dX3_tiredBy_0 : decode cX3_tiredBy 0 = .ok (.iload_n 0, 1) := by decide +kernel
theorem dX3_tiredBy_1 : decode cX3_tiredBy 1 = .ok (.iload_n 1, 1) := by decide +kernel
theorem dX3_tiredBy_2 : decode cX3_tiredBy 2 = .ok (.invokestatic 15, 3) := by decide +kernel
theorem dX3_tiredBy_5 : decode cX3_tiredBy 5 = .ok (.ifCond .eq 7, 3) := by decide +kernel
theorem dX3_tiredBy_8 : decode cX3_tiredBy 8 = .ok (.iconst 0, 1) := by decide +kernel
theorem dX3_tiredBy_9 : decode cX3_tiredBy 9 = .ok (.goto 8, 3) := by decide +kernel
theorem dX3_tiredBy_12 : decode cX3_tiredBy 12 = .ok (.iload_n 0, 1) := by decide +kernel
theorem dX3_tiredBy_13 : decode cX3_tiredBy 13 = .ok (.iload_n 1, 1) := by decide +kernel
theorem dX3_tiredBy_14 : decode cX3_tiredBy 14 = .ok (.invokestatic 19, 3) := by decide +kernel
theorem dX3_tiredBy_17 : decode cX3_tiredBy 17 = .ok (.ireturn, 1) := by decide +kernel
theorem dX3_tiredInFlight_0 : decode cX3_tiredInFlight 0 = .ok (.iload_n 0, 1) := by decide +kernel
theorem dX3_tiredInFlight_1 : decode cX3_tiredInFlight 1 = .ok (.tableswitch 49 1 5 #[35, 49, 39, 35, 43], 35) := by decide +kernel
theorem dX3_tiredInFlight_36 : decode cX3_tiredInFlight 36 = .ok (.iload_n 1, 1) := by decide +kernel
theorem dX3_tiredInFlight_37 : decode cX3_tiredInFlight 37 = .ok (.iconst 1, 1) := by decide +kernel
theorem dX3_tiredInFlight_38 : decode cX3_tiredInFlight 38 = .ok (.iadd, 1) := by decide +kernel
theorem dX3_tiredInFlight_39 : decode cX3_tiredInFlight 39 = .ok (.ireturn, 1) := by decide +kernel
theorem dX3_tiredInFlight_40 : decode cX3_tiredInFlight 40 = .ok (.iload_n 1, 1) := by decide +kernel
theorem dX3_tiredInFlight_41 : decode cX3_tiredInFlight 41 = .ok (.iconst 2, 1) := by decide +kernel
theorem dX3_tiredInFlight_42 : decode cX3_tiredInFlight 42 = .ok (.idiv, 1) := by decide +kernel
theorem dX3_tiredInFlight_43 : decode cX3_tiredInFlight 43 = .ok (.ireturn, 1) := by decide +kernel
theorem dX3_tiredInFlight_44 : decode cX3_tiredInFlight 44 = .ok (.iload_n 1, 1) := by decide +kernel
theorem dX3_tiredInFlight_45 : decode cX3_tiredInFlight 45 = .ok (.iconst 2, 1) := by decide +kernel
theorem dX3_tiredInFlight_46 : decode cX3_tiredInFlight 46 = .ok (.idiv, 1) := by decide +kernel
theorem dX3_tiredInFlight_47 : decode cX3_tiredInFlight 47 = .ok (.iconst 1, 1) := by decide +kernel
theorem dX3_tiredInFlight_48 : decode cX3_tiredInFlight 48 = .ok (.iadd, 1) := by decide +kernel
theorem dX3_tiredInFlight_49 : decode cX3_tiredInFlight 49 = .ok (.ireturn, 1) := by decide +kernel
theorem dX3_tiredInFlight_50 : decode cX3_tiredInFlight 50 = .ok (.iload_n 1, 1) := by decide +kernel
theorem dX3_tiredInFlight_51 : decode cX3_tiredInFlight 51 = .ok (.ireturn, 1) := by decide +kernel
theorem dX3_lateBy_0 : decode cX3_lateBy 0 = .ok (.iload_n 0, 1) := by decide +kernel
theorem dX3_lateBy_1 : decode cX3_lateBy 1 = .ok (.tableswitch 41 1 5 #[35, 41, 37, 39, 39], 35) := by decide +kernel
theorem dX3_lateBy_36 : decode cX3_lateBy 36 = .ok (.iconst 3, 1) := by decide +kernel
theorem dX3_lateBy_37 : decode cX3_lateBy 37 = .ok (.ireturn, 1) := by decide +kernel
theorem dX3_lateBy_38 : decode cX3_lateBy 38 = .ok (.iconst 0, 1) := by decide +kernel
theorem dX3_lateBy_39 : decode cX3_lateBy 39 = .ok (.ireturn, 1) := by decide +kernel
theorem dX3_lateBy_40 : decode cX3_lateBy 40 = .ok (.iconst 2, 1) := by decide +kernel
theorem dX3_lateBy_41 : decode cX3_lateBy 41 = .ok (.ireturn, 1) := by decide +kernel
theorem dX3_lateBy_42 : decode cX3_lateBy 42 = .ok (.iconst 1, 1) := by decide +kernel
theorem dX3_lateBy_43 : decode cX3_lateBy 43 = .ok (.ireturn, 1) := by decide +kernel
theorem dX3_wants_0 : decode cX3_wants 0 = .ok (.iload_n 0, 1) := by decide +kernel
theorem dX3_wants_1 : decode cX3_wants 1 = .ok (.iconst 4, 1) := by decide +kernel
theorem dX3_wants_2 : decode cX3_wants 2 = .ok (.if_icmp .eq 5, 3) := by decide +kernel
theorem dX3_wants_5 : decode cX3_wants 5 = .ok (.iload_n 1, 1) := by decide +kernel
theorem dX3_wants_6 : decode cX3_wants 6 = .ok (.ireturn, 1) := by decide +kernel
theorem dX3_wants_7 : decode cX3_wants 7 = .ok (.iload_n 1, 1) := by decide +kernel
theorem dX3_wants_8 : decode cX3_wants 8 = .ok (.bipush 9, 2) := by decide +kernel
theorem dX3_wants_10 : decode cX3_wants 10 = .ok (.if_icmp .lt 7, 3) := by decide +kernel
theorem dX3_wants_13 : decode cX3_wants 13 = .ok (.iconst 0, 1) := by decide +kernel
theorem dX3_wants_14 : decode cX3_wants 14 = .ok (.goto 6, 3) := by decide +kernel
theorem dX3_wants_17 : decode cX3_wants 17 = .ok (.iload_n 1, 1) := by decide +kernel
theorem dX3_wants_18 : decode cX3_wants 18 = .ok (.iconst 1, 1) := by decide +kernel
theorem dX3_wants_19 : decode cX3_wants 19 = .ok (.iadd, 1) := by decide +kernel
theorem dX3_wants_20 : decode cX3_wants 20 = .ok (.ireturn, 1) := by decide +kernel
theorem dX3_greatestPart_0 : decode cX3_greatestPart 0 = .ok (.iconst 0, 1) := by decide +kernel
theorem dX3_greatestPart_1 : decode cX3_greatestPart 1 = .ok (.istore_n 2, 1) := by decide +kernel
theorem dX3_greatestPart_2 : decode cX3_greatestPart 2 = .ok (.iconst 0, 1) := by decide +kernel
theorem dX3_greatestPart_3 : decode cX3_greatestPart 3 = .ok (.istore_n 3, 1) := by decide +kernel
theorem dX3_greatestPart_4 : decode cX3_greatestPart 4 = .ok (.iload_n 3, 1) := by decide +kernel
theorem dX3_greatestPart_5 : decode cX3_greatestPart 5 = .ok (.bipush 11, 2) := by decide +kernel
theorem dX3_greatestPart_7 : decode cX3_greatestPart 7 = .ok (.if_icmp .gt 58, 3) := by decide +kernel
theorem dX3_greatestPart_10 : decode cX3_greatestPart 10 = .ok (.iconst 0, 1) := by decide +kernel
theorem dX3_greatestPart_11 : decode cX3_greatestPart 11 = .ok (.istore 4, 2) := by decide +kernel
theorem dX3_greatestPart_13 : decode cX3_greatestPart 13 = .ok (.iconst 0, 1) := by decide +kernel
theorem dX3_greatestPart_14 : decode cX3_greatestPart 14 = .ok (.istore 5, 2) := by decide +kernel
theorem dX3_greatestPart_16 : decode cX3_greatestPart 16 = .ok (.iload 5, 2) := by decide +kernel
theorem dX3_greatestPart_18 : decode cX3_greatestPart 18 = .ok (.bipush 6, 2) := by decide +kernel
theorem dX3_greatestPart_20 : decode cX3_greatestPart 20 = .ok (.if_icmp .ge 32, 3) := by decide +kernel
theorem dX3_greatestPart_23 : decode cX3_greatestPart 23 = .ok (.iload_n 0, 1) := by decide +kernel
theorem dX3_greatestPart_24 : decode cX3_greatestPart 24 = .ok (.iload 5, 2) := by decide +kernel
theorem dX3_greatestPart_26 : decode cX3_greatestPart 26 = .ok (.ishr, 1) := by decide +kernel
theorem dX3_greatestPart_27 : decode cX3_greatestPart 27 = .ok (.iconst 1, 1) := by decide +kernel
theorem dX3_greatestPart_28 : decode cX3_greatestPart 28 = .ok (.iand, 1) := by decide +kernel
theorem dX3_greatestPart_29 : decode cX3_greatestPart 29 = .ok (.iconst 1, 1) := by decide +kernel
theorem dX3_greatestPart_30 : decode cX3_greatestPart 30 = .ok (.if_icmp .ne 16, 3) := by decide +kernel
theorem dX3_greatestPart_33 : decode cX3_greatestPart 33 = .ok (.iload 5, 2) := by decide +kernel
theorem dX3_greatestPart_35 : decode cX3_greatestPart 35 = .ok (.iload_n 1, 1) := by decide +kernel
theorem dX3_greatestPart_36 : decode cX3_greatestPart 36 = .ok (.invokestatic 23, 3) := by decide +kernel
theorem dX3_greatestPart_39 : decode cX3_greatestPart 39 = .ok (.iload_n 3, 1) := by decide +kernel
theorem dX3_greatestPart_40 : decode cX3_greatestPart 40 = .ok (.if_icmp .ne 6, 3) := by decide +kernel
theorem dX3_greatestPart_43 : decode cX3_greatestPart 43 = .ok (.iinc 4 1, 3) := by decide +kernel
theorem dX3_greatestPart_46 : decode cX3_greatestPart 46 = .ok (.iinc 5 1, 3) := by decide +kernel
theorem dX3_greatestPart_49 : decode cX3_greatestPart 49 = .ok (.goto (-33), 3) := by decide +kernel
theorem dX3_greatestPart_52 : decode cX3_greatestPart 52 = .ok (.iload_n 2, 1) := by decide +kernel
theorem dX3_greatestPart_53 : decode cX3_greatestPart 53 = .ok (.iload 4, 2) := by decide +kernel
theorem dX3_greatestPart_55 : decode cX3_greatestPart 55 = .ok (.invokestatic 26, 3) := by decide +kernel
theorem dX3_greatestPart_58 : decode cX3_greatestPart 58 = .ok (.istore_n 2, 1) := by decide +kernel
theorem dX3_greatestPart_59 : decode cX3_greatestPart 59 = .ok (.iinc 3 1, 3) := by decide +kernel
theorem dX3_greatestPart_62 : decode cX3_greatestPart 62 = .ok (.goto (-58), 3) := by decide +kernel
theorem dX3_greatestPart_65 : decode cX3_greatestPart 65 = .ok (.iload_n 2, 1) := by decide +kernel
theorem dX3_greatestPart_66 : decode cX3_greatestPart 66 = .ok (.ireturn, 1) := by decide +kernel
theorem dX4_init_0 : decode cX4_init 0 = .ok (.aload_n 0, 1) := by decide +kernel
theorem dX4_init_1 : decode cX4_init 1 = .ok (.invokespecial 3, 3) := by decide +kernel
theorem dX4_init_4 : decode cX4_init 4 = .ok (.aload_n 0, 1) := by decide +kernel
theorem dX4_init_5 : decode cX4_init 5 = .ok (.bipush 40, 2) := by decide +kernel
theorem dX4_init_7 : decode cX4_init 7 = .ok (.newarray .int, 2) := by decide +kernel
theorem dX4_init_9 : decode cX4_init 9 = .ok (.putfield 9, 3) := by decide +kernel
theorem dX4_init_12 : decode cX4_init 12 = .ok (.aload_n 0, 1) := by decide +kernel
theorem dX4_init_13 : decode cX4_init 13 = .ok (.iload_n 1, 1) := by decide +kernel
theorem dX4_init_14 : decode cX4_init 14 = .ok (.putfield 15, 3) := by decide +kernel
theorem dX4_init_17 : decode cX4_init 17 = .ok (.return_, 1) := by decide +kernel
theorem dX4_become_0 : decode cX4_become 0 = .ok (.aload_n 0, 1) := by decide +kernel
theorem dX4_become_1 : decode cX4_become 1 = .ok (.aload_n 1, 1) := by decide +kernel
theorem dX4_become_2 : decode cX4_become 2 = .ok (.getfield 15, 3) := by decide +kernel
theorem dX4_become_5 : decode cX4_become 5 = .ok (.putfield 15, 3) := by decide +kernel
theorem dX4_become_8 : decode cX4_become 8 = .ok (.iconst 0, 1) := by decide +kernel
theorem dX4_become_9 : decode cX4_become 9 = .ok (.istore_n 2, 1) := by decide +kernel
theorem dX4_become_10 : decode cX4_become 10 = .ok (.iload_n 2, 1) := by decide +kernel
theorem dX4_become_11 : decode cX4_become 11 = .ok (.aload_n 0, 1) := by decide +kernel
theorem dX4_become_12 : decode cX4_become 12 = .ok (.getfield 15, 3) := by decide +kernel
theorem dX4_become_15 : decode cX4_become 15 = .ok (.if_icmp .ge 30, 3) := by decide +kernel
theorem dX4_become_18 : decode cX4_become 18 = .ok (.iload_n 2, 1) := by decide +kernel
theorem dX4_become_19 : decode cX4_become 19 = .ok (.aload_n 0, 1) := by decide +kernel
theorem dX4_become_20 : decode cX4_become 20 = .ok (.getfield 9, 3) := by decide +kernel
theorem dX4_become_23 : decode cX4_become 23 = .ok (.arraylength, 1) := by decide +kernel
theorem dX4_become_24 : decode cX4_become 24 = .ok (.if_icmp .ge 21, 3) := by decide +kernel
theorem dX4_become_27 : decode cX4_become 27 = .ok (.aload_n 0, 1) := by decide +kernel
theorem dX4_become_28 : decode cX4_become 28 = .ok (.getfield 9, 3) := by decide +kernel
theorem dX4_become_31 : decode cX4_become 31 = .ok (.iload_n 2, 1) := by decide +kernel
theorem dX4_become_32 : decode cX4_become 32 = .ok (.aload_n 1, 1) := by decide +kernel
theorem dX4_become_33 : decode cX4_become 33 = .ok (.getfield 9, 3) := by decide +kernel
theorem dX4_become_36 : decode cX4_become 36 = .ok (.iload_n 2, 1) := by decide +kernel
theorem dX4_become_37 : decode cX4_become 37 = .ok (.iaload, 1) := by decide +kernel
theorem dX4_become_38 : decode cX4_become 38 = .ok (.iastore, 1) := by decide +kernel
theorem dX4_become_39 : decode cX4_become 39 = .ok (.iinc 2 1, 3) := by decide +kernel
theorem dX4_become_42 : decode cX4_become 42 = .ok (.goto (-32), 3) := by decide +kernel
theorem dX4_become_45 : decode cX4_become 45 = .ok (.return_, 1) := by decide +kernel
theorem dX4_lacks_0 : decode cX4_lacks 0 = .ok (.aload_n 0, 1) := by decide +kernel
theorem dX4_lacks_1 : decode cX4_lacks 1 = .ok (.getfield 15, 3) := by decide +kernel
theorem dX4_lacks_4 : decode cX4_lacks 4 = .ok (.iload_n 1, 1) := by decide +kernel
theorem dX4_lacks_5 : decode cX4_lacks 5 = .ok (.iadd, 1) := by decide +kernel
theorem dX4_lacks_6 : decode cX4_lacks 6 = .ok (.aload_n 0, 1) := by decide +kernel
theorem dX4_lacks_7 : decode cX4_lacks 7 = .ok (.getfield 9, 3) := by decide +kernel
theorem dX4_lacks_10 : decode cX4_lacks 10 = .ok (.arraylength, 1) := by decide +kernel
theorem dX4_lacks_11 : decode cX4_lacks 11 = .ok (.if_icmp .le 7, 3) := by decide +kernel
theorem dX4_lacks_14 : decode cX4_lacks 14 = .ok (.iconst 1, 1) := by decide +kernel
theorem dX4_lacks_15 : decode cX4_lacks 15 = .ok (.goto 4, 3) := by decide +kernel
theorem dX4_lacks_18 : decode cX4_lacks 18 = .ok (.iconst 0, 1) := by decide +kernel
theorem dX4_lacks_19 : decode cX4_lacks 19 = .ok (.ireturn, 1) := by decide +kernel
theorem dX4_add_0 : decode cX4_add 0 = .ok (.iconst 0, 1) := by decide +kernel
theorem dX4_add_1 : decode cX4_add 1 = .ok (.aload_n 0, 1) := by decide +kernel
theorem dX4_add_2 : decode cX4_add 2 = .ok (.getfield 15, 3) := by decide +kernel
theorem dX4_add_5 : decode cX4_add 5 = .ok (.if_icmp .gt 35, 3) := by decide +kernel
theorem dX4_add_8 : decode cX4_add 8 = .ok (.aload_n 0, 1) := by decide +kernel
theorem dX4_add_9 : decode cX4_add 9 = .ok (.getfield 15, 3) := by decide +kernel
theorem dX4_add_12 : decode cX4_add 12 = .ok (.aload_n 0, 1) := by decide +kernel
theorem dX4_add_13 : decode cX4_add 13 = .ok (.getfield 9, 3) := by decide +kernel
theorem dX4_add_16 : decode cX4_add 16 = .ok (.arraylength, 1) := by decide +kernel
theorem dX4_add_17 : decode cX4_add 17 = .ok (.if_icmp .ge 23, 3) := by decide +kernel
theorem dX4_add_20 : decode cX4_add 20 = .ok (.aload_n 0, 1) := by decide +kernel
theorem dX4_add_21 : decode cX4_add 21 = .ok (.getfield 9, 3) := by decide +kernel
theorem dX4_add_24 : decode cX4_add 24 = .ok (.aload_n 0, 1) := by decide +kernel
theorem dX4_add_25 : decode cX4_add 25 = .ok (.getfield 15, 3) := by decide +kernel
theorem dX4_add_28 : decode cX4_add 28 = .ok (.iload_n 1, 1) := by decide +kernel
theorem dX4_add_29 : decode cX4_add 29 = .ok (.iastore, 1) := by decide +kernel
theorem dX4_add_30 : decode cX4_add 30 = .ok (.aload_n 0, 1) := by decide +kernel
theorem dX4_add_31 : decode cX4_add 31 = .ok (.dup, 1) := by decide +kernel
theorem dX4_add_32 : decode cX4_add 32 = .ok (.getfield 15, 3) := by decide +kernel
theorem dX4_add_35 : decode cX4_add 35 = .ok (.iconst 1, 1) := by decide +kernel
theorem dX4_add_36 : decode cX4_add 36 = .ok (.iadd, 1) := by decide +kernel
theorem dX4_add_37 : decode cX4_add 37 = .ok (.putfield 15, 3) := by decide +kernel
theorem dX4_add_40 : decode cX4_add 40 = .ok (.return_, 1) := by decide +kernel
theorem dX4_code_0 : decode cX4_code 0 = .ok (.iload_n 0, 1) := by decide +kernel
theorem dX4_code_1 : decode cX4_code 1 = .ok (.bipush 100, 2) := by decide +kernel
theorem dX4_code_3 : decode cX4_code 3 = .ok (.imul, 1) := by decide +kernel
theorem dX4_code_4 : decode cX4_code 4 = .ok (.iload_n 1, 1) := by decide +kernel
theorem dX4_code_5 : decode cX4_code 5 = .ok (.bipush 10, 2) := by decide +kernel
theorem dX4_code_7 : decode cX4_code 7 = .ok (.imul, 1) := by decide +kernel
theorem dX4_code_8 : decode cX4_code 8 = .ok (.iadd, 1) := by decide +kernel
theorem dX4_code_9 : decode cX4_code 9 = .ok (.iload_n 2, 1) := by decide +kernel
theorem dX4_code_10 : decode cX4_code 10 = .ok (.iadd, 1) := by decide +kernel
theorem dX4_code_11 : decode cX4_code 11 = .ok (.ireturn, 1) := by decide +kernel
theorem dX4_doTo_0 : decode cX4_doTo 0 = .ok (.iload_n 1, 1) := by decide +kernel
theorem dX4_doTo_1 : decode cX4_doTo 1 = .ok (.bipush 10, 2) := by decide +kernel
theorem dX4_doTo_3 : decode cX4_doTo 3 = .ok (.idiv, 1) := by decide +kernel
theorem dX4_doTo_4 : decode cX4_doTo 4 = .ok (.bipush 10, 2) := by decide +kernel
theorem dX4_doTo_6 : decode cX4_doTo 6 = .ok (.irem, 1) := by decide +kernel
theorem dX4_doTo_7 : decode cX4_doTo 7 = .ok (.istore_n 2, 1) := by decide +kernel
theorem dX4_doTo_8 : decode cX4_doTo 8 = .ok (.iload_n 1, 1) := by decide +kernel
theorem dX4_doTo_9 : decode cX4_doTo 9 = .ok (.bipush 100, 2) := by decide +kernel
theorem dX4_doTo_11 : decode cX4_doTo 11 = .ok (.idiv, 1) := by decide +kernel
theorem dX4_doTo_12 : decode cX4_doTo 12 = .ok (.tableswitch 55 0 2 #[28, 35, 43], 28) := by decide +kernel
theorem dX4_doTo_40 : decode cX4_doTo 40 = .ok (.aload_n 0, 1) := by decide +kernel
theorem dX4_doTo_41 : decode cX4_doTo 41 = .ok (.invokevirtual 19, 3) := by decide +kernel
theorem dX4_doTo_44 : decode cX4_doTo 44 = .ok (.goto 28, 3) := by decide +kernel
theorem dX4_doTo_47 : decode cX4_doTo 47 = .ok (.aload_n 0, 1) := by decide +kernel
theorem dX4_doTo_48 : decode cX4_doTo 48 = .ok (.iload_n 2, 1) := by decide +kernel
theorem dX4_doTo_49 : decode cX4_doTo 49 = .ok (.invokevirtual 24, 3) := by decide +kernel
theorem dX4_doTo_52 : decode cX4_doTo 52 = .ok (.goto 20, 3) := by decide +kernel
theorem dX4_doTo_55 : decode cX4_doTo 55 = .ok (.aload_n 0, 1) := by decide +kernel
theorem dX4_doTo_56 : decode cX4_doTo 56 = .ok (.iload_n 2, 1) := by decide +kernel
theorem dX4_doTo_57 : decode cX4_doTo 57 = .ok (.iload_n 1, 1) := by decide +kernel
theorem dX4_doTo_58 : decode cX4_doTo 58 = .ok (.bipush 10, 2) := by decide +kernel
theorem dX4_doTo_60 : decode cX4_doTo 60 = .ok (.irem, 1) := by decide +kernel
theorem dX4_doTo_61 : decode cX4_doTo 61 = .ok (.invokevirtual 28, 3) := by decide +kernel
theorem dX4_doTo_64 : decode cX4_doTo 64 = .ok (.goto 8, 3) := by decide +kernel
theorem dX4_doTo_67 : decode cX4_doTo 67 = .ok (.aload_n 0, 1) := by decide +kernel
theorem dX4_doTo_68 : decode cX4_doTo 68 = .ok (.iload_n 2, 1) := by decide +kernel
theorem dX4_doTo_69 : decode cX4_doTo 69 = .ok (.invokevirtual 32, 3) := by decide +kernel
theorem dX4_doTo_72 : decode cX4_doTo 72 = .ok (.return_, 1) := by decide +kernel
theorem dX5_init_0 : decode cX5_init 0 = .ok (.aload_n 0, 1) := by decide +kernel
theorem dX5_init_1 : decode cX5_init 1 = .ok (.invokespecial 3, 3) := by decide +kernel
theorem dX5_init_4 : decode cX5_init 4 = .ok (.aload_n 0, 1) := by decide +kernel
theorem dX5_init_5 : decode cX5_init 5 = .ok (.bipush 60, 2) := by decide +kernel
theorem dX5_init_7 : decode cX5_init 7 = .ok (.newarray .int, 2) := by decide +kernel
theorem dX5_init_9 : decode cX5_init 9 = .ok (.putfield 9, 3) := by decide +kernel
theorem dX5_init_12 : decode cX5_init 12 = .ok (.aload_n 0, 1) := by decide +kernel
theorem dX5_init_13 : decode cX5_init 13 = .ok (.iconst 0, 1) := by decide +kernel
theorem dX5_init_14 : decode cX5_init 14 = .ok (.putfield 15, 3) := by decide +kernel
theorem dX5_init_17 : decode cX5_init 17 = .ok (.aload_n 0, 1) := by decide +kernel
theorem dX5_init_18 : decode cX5_init 18 = .ok (.iconst 0, 1) := by decide +kernel
theorem dX5_init_19 : decode cX5_init 19 = .ok (.putfield 19, 3) := by decide +kernel
theorem dX5_init_22 : decode cX5_init 22 = .ok (.return_, 1) := by decide +kernel
theorem dX5_read_0 : decode cX5_read 0 = .ok (.aload_n 0, 1) := by decide +kernel
theorem dX5_read_1 : decode cX5_read 1 = .ok (.iconst 0, 1) := by decide +kernel
theorem dX5_read_2 : decode cX5_read 2 = .ok (.putfield 19, 3) := by decide +kernel
theorem dX5_read_5 : decode cX5_read 5 = .ok (.aload_n 0, 1) := by decide +kernel
theorem dX5_read_6 : decode cX5_read 6 = .ok (.aload_n 1, 1) := by decide +kernel
theorem dX5_read_7 : decode cX5_read 7 = .ok (.iload_n 2, 1) := by decide +kernel
theorem dX5_read_8 : decode cX5_read 8 = .ok (.invokevirtual 22, 3) := by decide +kernel
theorem dX5_read_11 : decode cX5_read 11 = .ok (.bipush 60, 2) := by decide +kernel
theorem dX5_read_13 : decode cX5_read 13 = .ok (.invokestatic 27, 3) := by decide +kernel
theorem dX5_read_16 : decode cX5_read 16 = .ok (.putfield 15, 3) := by decide +kernel
theorem dX5_read_19 : decode cX5_read 19 = .ok (.iconst 0, 1) := by decide +kernel
theorem dX5_read_20 : decode cX5_read 20 = .ok (.istore 4, 2) := by decide +kernel
theorem dX5_read_22 : decode cX5_read 22 = .ok (.iload 4, 2) := by decide +kernel
theorem dX5_read_24 : decode cX5_read 24 = .ok (.aload_n 0, 1) := by decide +kernel
theorem dX5_read_25 : decode cX5_read 25 = .ok (.getfield 15, 3) := by decide +kernel
theorem dX5_read_28 : decode cX5_read 28 = .ok (.if_icmp .ge 23, 3) := by decide +kernel
theorem dX5_read_31 : decode cX5_read 31 = .ok (.aload_n 0, 1) := by decide +kernel
theorem dX5_read_32 : decode cX5_read 32 = .ok (.getfield 9, 3) := by decide +kernel
theorem dX5_read_35 : decode cX5_read 35 = .ok (.iload 4, 2) := by decide +kernel
theorem dX5_read_37 : decode cX5_read 37 = .ok (.aload_n 1, 1) := by decide +kernel
theorem dX5_read_38 : decode cX5_read 38 = .ok (.iload_n 2, 1) := by decide +kernel
theorem dX5_read_39 : decode cX5_read 39 = .ok (.iload 4, 2) := by decide +kernel
theorem dX5_read_41 : decode cX5_read 41 = .ok (.invokevirtual 33, 3) := by decide +kernel
theorem dX5_read_44 : decode cX5_read 44 = .ok (.iastore, 1) := by decide +kernel
theorem dX5_read_45 : decode cX5_read 45 = .ok (.iinc 4 1, 3) := by decide +kernel
theorem dX5_read_48 : decode cX5_read 48 = .ok (.goto (-26), 3) := by decide +kernel
theorem dX5_read_51 : decode cX5_read 51 = .ok (.aload_n 3, 1) := by decide +kernel
theorem dX5_read_52 : decode cX5_read 52 = .ok (.invokevirtual 36, 3) := by decide +kernel
theorem dX5_read_55 : decode cX5_read 55 = .ok (.aload_n 0, 1) := by decide +kernel
theorem dX5_read_56 : decode cX5_read 56 = .ok (.aload_n 3, 1) := by decide +kernel
theorem dX5_read_57 : decode cX5_read 57 = .ok (.invokevirtual 41, 3) := by decide +kernel
theorem dX5_read_60 : decode cX5_read 60 = .ok (.ifCond .eq 16, 3) := by decide +kernel
theorem dX5_read_63 : decode cX5_read 63 = .ok (.aload_n 0, 1) := by decide +kernel
theorem dX5_read_64 : decode cX5_read 64 = .ok (.aload_n 3, 1) := by decide +kernel
theorem dX5_read_65 : decode cX5_read 65 = .ok (.invokevirtual 45, 3) := by decide +kernel
theorem dX5_read_68 : decode cX5_read 68 = .ok (.ifCond .eq 8, 3) := by decide +kernel
theorem dX5_read_71 : decode cX5_read 71 = .ok (.bipush (-9), 2) := by decide +kernel
theorem dX5_read_73 : decode cX5_read 73 = .ok (.goto 7, 3) := by decide +kernel
theorem dX5_read_76 : decode cX5_read 76 = .ok (.aload_n 0, 1) := by decide +kernel
theorem dX5_read_77 : decode cX5_read 77 = .ok (.getfield 19, 3) := by decide +kernel
theorem dX5_read_80 : decode cX5_read 80 = .ok (.ireturn, 1) := by decide +kernel
theorem dX5_readHead_0 : decode cX5_readHead 0 = .ok (.aload_n 0, 1) := by decide +kernel
theorem dX5_readHead_1 : decode cX5_readHead 1 = .ok (.invokevirtual 48, 3) := by decide +kernel
theorem dX5_readHead_4 : decode cX5_readHead 4 = .ok (.aload_n 0, 1) := by decide +kernel
theorem dX5_readHead_5 : decode cX5_readHead 5 = .ok (.invokevirtual 51, 3) := by decide +kernel
theorem dX5_readHead_8 : decode cX5_readHead 8 = .ok (.bipush 102, 2) := by decide +kernel
theorem dX5_readHead_10 : decode cX5_readHead 10 = .ok (.if_icmp .eq 5, 3) := by decide +kernel
theorem dX5_readHead_13 : decode cX5_readHead 13 = .ok (.iconst 0, 1) := by decide +kernel
theorem dX5_readHead_14 : decode cX5_readHead 14 = .ok (.ireturn, 1) := by decide +kernel
theorem dX5_readHead_15 : decode cX5_readHead 15 = .ok (.aload_n 0, 1) := by decide +kernel
theorem dX5_readHead_16 : decode cX5_readHead 16 = .ok (.dup, 1) := by decide +kernel
theorem dX5_readHead_17 : decode cX5_readHead 17 = .ok (.getfield 19, 3) := by decide +kernel
theorem dX5_readHead_20 : decode cX5_readHead 20 = .ok (.iconst 1, 1) := by decide +kernel
theorem dX5_readHead_21 : decode cX5_readHead 21 = .ok (.iadd, 1) := by decide +kernel
theorem dX5_readHead_22 : decode cX5_readHead 22 = .ok (.putfield 19, 3) := by decide +kernel
theorem dX5_readHead_25 : decode cX5_readHead 25 = .ok (.iconst 0, 1) := by decide +kernel
theorem dX5_readHead_26 : decode cX5_readHead 26 = .ok (.istore_n 2, 1) := by decide +kernel
theorem dX5_readHead_27 : decode cX5_readHead 27 = .ok (.iload_n 2, 1) := by decide +kernel
theorem dX5_readHead_28 : decode cX5_readHead 28 = .ok (.aload_n 1, 1) := by decide +kernel
theorem dX5_readHead_29 : decode cX5_readHead 29 = .ok (.getfield 55, 3) := by decide +kernel
theorem dX5_readHead_32 : decode cX5_readHead 32 = .ok (.arraylength, 1) := by decide +kernel
theorem dX5_readHead_33 : decode cX5_readHead 33 = .ok (.if_icmp .ge 29, 3) := by decide +kernel
theorem dX5_readHead_36 : decode cX5_readHead 36 = .ok (.aload_n 0, 1) := by decide +kernel
theorem dX5_readHead_37 : decode cX5_readHead 37 = .ok (.invokevirtual 58, 3) := by decide +kernel
theorem dX5_readHead_40 : decode cX5_readHead 40 = .ok (.istore_n 3, 1) := by decide +kernel
theorem dX5_readHead_41 : decode cX5_readHead 41 = .ok (.iload_n 3, 1) := by decide +kernel
theorem dX5_readHead_42 : decode cX5_readHead 42 = .ok (.bipush (-9), 2) := by decide +kernel
theorem dX5_readHead_44 : decode cX5_readHead 44 = .ok (.if_icmp .ne 5, 3) := by decide +kernel
theorem dX5_readHead_47 : decode cX5_readHead 47 = .ok (.iconst 0, 1) := by decide +kernel
theorem dX5_readHead_48 : decode cX5_readHead 48 = .ok (.ireturn, 1) := by decide +kernel
theorem dX5_readHead_49 : decode cX5_readHead 49 = .ok (.aload_n 1, 1) := by decide +kernel
theorem dX5_readHead_50 : decode cX5_readHead 50 = .ok (.getfield 55, 3) := by decide +kernel
theorem dX5_readHead_53 : decode cX5_readHead 53 = .ok (.iload_n 2, 1) := by decide +kernel
theorem dX5_readHead_54 : decode cX5_readHead 54 = .ok (.iload_n 3, 1) := by decide +kernel
theorem dX5_readHead_55 : decode cX5_readHead 55 = .ok (.iastore, 1) := by decide +kernel
theorem dX5_readHead_56 : decode cX5_readHead 56 = .ok (.iinc 2 1, 3) := by decide +kernel
theorem dX5_readHead_59 : decode cX5_readHead 59 = .ok (.goto (-32), 3) := by decide +kernel
theorem dX5_readHead_62 : decode cX5_readHead 62 = .ok (.aload_n 0, 1) := by decide +kernel
theorem dX5_readHead_63 : decode cX5_readHead 63 = .ok (.aload_n 1, 1) := by decide +kernel
theorem dX5_readHead_64 : decode cX5_readHead 64 = .ok (.invokevirtual 61, 3) := by decide +kernel
theorem dX5_readHead_67 : decode cX5_readHead 67 = .ok (.ireturn, 1) := by decide +kernel
theorem dX5_readFood_0 : decode cX5_readFood 0 = .ok (.aload_n 0, 1) := by decide +kernel
theorem dX5_readFood_1 : decode cX5_readFood 1 = .ok (.invokevirtual 58, 3) := by decide +kernel
theorem dX5_readFood_4 : decode cX5_readFood 4 = .ok (.istore_n 2, 1) := by decide +kernel
theorem dX5_readFood_5 : decode cX5_readFood 5 = .ok (.iload_n 2, 1) := by decide +kernel
theorem dX5_readFood_6 : decode cX5_readFood 6 = .ok (.bipush (-9), 2) := by decide +kernel
theorem dX5_readFood_8 : decode cX5_readFood 8 = .ok (.if_icmp .ne 8, 3) := by decide +kernel
theorem dX5_readFood_11 : decode cX5_readFood 11 = .ok (.bipush (-9), 2) := by decide +kernel
theorem dX5_readFood_13 : decode cX5_readFood 13 = .ok (.goto 7, 3) := by decide +kernel
theorem dX5_readFood_16 : decode cX5_readFood 16 = .ok (.aload_n 0, 1) := by decide +kernel
theorem dX5_readFood_17 : decode cX5_readFood 17 = .ok (.invokevirtual 58, 3) := by decide +kernel
theorem dX5_readFood_20 : decode cX5_readFood 20 = .ok (.istore_n 3, 1) := by decide +kernel
theorem dX5_readFood_21 : decode cX5_readFood 21 = .ok (.iload_n 3, 1) := by decide +kernel
theorem dX5_readFood_22 : decode cX5_readFood 22 = .ok (.bipush (-9), 2) := by decide +kernel
theorem dX5_readFood_24 : decode cX5_readFood 24 = .ok (.if_icmp .ne 5, 3) := by decide +kernel
theorem dX5_readFood_27 : decode cX5_readFood 27 = .ok (.iconst 0, 1) := by decide +kernel
theorem dX5_readFood_28 : decode cX5_readFood 28 = .ok (.ireturn, 1) := by decide +kernel
theorem dX5_readFood_29 : decode cX5_readFood 29 = .ok (.aload_n 1, 1) := by decide +kernel
theorem dX5_readFood_30 : decode cX5_readFood 30 = .ok (.bipush 10, 2) := by decide +kernel
theorem dX5_readFood_32 : decode cX5_readFood 32 = .ok (.iload_n 2, 1) := by decide +kernel
theorem dX5_readFood_33 : decode cX5_readFood 33 = .ok (.imul, 1) := by decide +kernel
theorem dX5_readFood_34 : decode cX5_readFood 34 = .ok (.iload_n 3, 1) := by decide +kernel
theorem dX5_readFood_35 : decode cX5_readFood 35 = .ok (.iadd, 1) := by decide +kernel
theorem dX5_readFood_36 : decode cX5_readFood 36 = .ok (.putfield 64, 3) := by decide +kernel
theorem dX5_readFood_39 : decode cX5_readFood 39 = .ok (.aload_n 1, 1) := by decide +kernel
theorem dX5_readFood_40 : decode cX5_readFood 40 = .ok (.getfield 64, 3) := by decide +kernel
theorem dX5_readFood_43 : decode cX5_readFood 43 = .ok (.bipush 40, 2) := by decide +kernel
theorem dX5_readFood_45 : decode cX5_readFood 45 = .ok (.if_icmp .le 15, 3) := by decide +kernel
theorem dX5_readFood_48 : decode cX5_readFood 48 = .ok (.aload_n 0, 1) := by decide +kernel
theorem dX5_readFood_49 : decode cX5_readFood 49 = .ok (.dup, 1) := by decide +kernel
theorem dX5_readFood_50 : decode cX5_readFood 50 = .ok (.getfield 19, 3) := by decide +kernel
theorem dX5_readFood_53 : decode cX5_readFood 53 = .ok (.iconst 2, 1) := by decide +kernel
theorem dX5_readFood_54 : decode cX5_readFood 54 = .ok (.isub, 1) := by decide +kernel
theorem dX5_readFood_55 : decode cX5_readFood 55 = .ok (.putfield 19, 3) := by decide +kernel
theorem dX5_readFood_58 : decode cX5_readFood 58 = .ok (.iconst 0, 1) := by decide +kernel
theorem dX5_readFood_59 : decode cX5_readFood 59 = .ok (.ireturn, 1) := by decide +kernel
theorem dX5_readFood_60 : decode cX5_readFood 60 = .ok (.iconst 1, 1) := by decide +kernel
theorem dX5_readFood_61 : decode cX5_readFood 61 = .ok (.ireturn, 1) := by decide +kernel
theorem dX5_readHuts_0 : decode cX5_readHuts 0 = .ok (.aload_n 0, 1) := by decide +kernel
theorem dX5_readHuts_1 : decode cX5_readHuts 1 = .ok (.invokevirtual 48, 3) := by decide +kernel
theorem dX5_readHuts_4 : decode cX5_readHuts 4 = .ok (.iconst 0, 1) := by decide +kernel
theorem dX5_readHuts_5 : decode cX5_readHuts 5 = .ok (.istore_n 2, 1) := by decide +kernel
theorem dX5_readHuts_6 : decode cX5_readHuts 6 = .ok (.iload_n 2, 1) := by decide +kernel
theorem dX5_readHuts_7 : decode cX5_readHuts 7 = .ok (.bipush 6, 2) := by decide +kernel
theorem dX5_readHuts_9 : decode cX5_readHuts 9 = .ok (.if_icmp .ge 34, 3) := by decide +kernel
theorem dX5_readHuts_12 : decode cX5_readHuts 12 = .ok (.aload_n 0, 1) := by decide +kernel
theorem dX5_readHuts_13 : decode cX5_readHuts 13 = .ok (.getfield 19, 3) := by decide +kernel
theorem dX5_readHuts_16 : decode cX5_readHuts 16 = .ok (.aload_n 0, 1) := by decide +kernel
theorem dX5_readHuts_17 : decode cX5_readHuts 17 = .ok (.getfield 15, 3) := by decide +kernel
theorem dX5_readHuts_20 : decode cX5_readHuts 20 = .ok (.if_icmp .ge 23, 3) := by decide +kernel
theorem dX5_readHuts_23 : decode cX5_readHuts 23 = .ok (.aload_n 0, 1) := by decide +kernel
theorem dX5_readHuts_24 : decode cX5_readHuts 24 = .ok (.aload_n 1, 1) := by decide +kernel
theorem dX5_readHuts_25 : decode cX5_readHuts 25 = .ok (.invokevirtual 67, 3) := by decide +kernel
theorem dX5_readHuts_28 : decode cX5_readHuts 28 = .ok (.ifCond .ne 5, 3) := by decide +kernel
theorem dX5_readHuts_31 : decode cX5_readHuts 31 = .ok (.iconst 0, 1) := by decide +kernel
theorem dX5_readHuts_32 : decode cX5_readHuts 32 = .ok (.ireturn, 1) := by decide +kernel
theorem dX5_readHuts_33 : decode cX5_readHuts 33 = .ok (.aload_n 0, 1) := by decide +kernel
theorem dX5_readHuts_34 : decode cX5_readHuts 34 = .ok (.invokevirtual 48, 3) := by decide +kernel
theorem dX5_readHuts_37 : decode cX5_readHuts 37 = .ok (.iinc 2 1, 3) := by decide +kernel
theorem dX5_readHuts_40 : decode cX5_readHuts 40 = .ok (.goto (-34), 3) := by decide +kernel
theorem dX5_readHuts_43 : decode cX5_readHuts 43 = .ok (.aload_n 0, 1) := by decide +kernel
theorem dX5_readHuts_44 : decode cX5_readHuts 44 = .ok (.getfield 19, 3) := by decide +kernel
theorem dX5_readHuts_47 : decode cX5_readHuts 47 = .ok (.aload_n 0, 1) := by decide +kernel
theorem dX5_readHuts_48 : decode cX5_readHuts 48 = .ok (.getfield 15, 3) := by decide +kernel
theorem dX5_readHuts_51 : decode cX5_readHuts 51 = .ok (.if_icmp .ne 14, 3) := by decide +kernel
theorem dX5_readHuts_54 : decode cX5_readHuts 54 = .ok (.aload_n 1, 1) := by decide +kernel
theorem dX5_readHuts_55 : decode cX5_readHuts 55 = .ok (.getfield 70, 3) := by decide +kernel
theorem dX5_readHuts_58 : decode cX5_readHuts 58 = .ok (.ifCond .le 7, 3) := by decide +kernel
theorem dX5_readHuts_61 : decode cX5_readHuts 61 = .ok (.iconst 1, 1) := by decide +kernel
theorem dX5_readHuts_62 : decode cX5_readHuts 62 = .ok (.goto 4, 3) := by decide +kernel
theorem dX5_readHuts_65 : decode cX5_readHuts 65 = .ok (.iconst 0, 1) := by decide +kernel
theorem dX5_readHuts_66 : decode cX5_readHuts 66 = .ok (.ireturn, 1) := by decide +kernel
theorem dX5_readHut_0 : decode cX5_readHut 0 = .ok (.aload_n 0, 1) := by decide +kernel
theorem dX5_readHut_1 : decode cX5_readHut 1 = .ok (.invokevirtual 51, 3) := by decide +kernel
theorem dX5_readHut_4 : decode cX5_readHut 4 = .ok (.invokestatic 73, 3) := by decide +kernel
theorem dX5_readHut_7 : decode cX5_readHut 7 = .ok (.istore_n 2, 1) := by decide +kernel
theorem dX5_readHut_8 : decode cX5_readHut 8 = .ok (.iload_n 2, 1) := by decide +kernel
theorem dX5_readHut_9 : decode cX5_readHut 9 = .ok (.bipush (-9), 2) := by decide +kernel
theorem dX5_readHut_11 : decode cX5_readHut 11 = .ok (.if_icmp .ne 5, 3) := by decide +kernel
theorem dX5_readHut_14 : decode cX5_readHut 14 = .ok (.iconst 0, 1) := by decide +kernel
theorem dX5_readHut_15 : decode cX5_readHut 15 = .ok (.ireturn, 1) := by decide +kernel
theorem dX5_readHut_16 : decode cX5_readHut 16 = .ok (.aload_n 0, 1) := by decide +kernel
theorem dX5_readHut_17 : decode cX5_readHut 17 = .ok (.dup, 1) := by decide +kernel
theorem dX5_readHut_18 : decode cX5_readHut 18 = .ok (.getfield 19, 3) := by decide +kernel
theorem dX5_readHut_21 : decode cX5_readHut 21 = .ok (.iconst 1, 1) := by decide +kernel
theorem dX5_readHut_22 : decode cX5_readHut 22 = .ok (.iadd, 1) := by decide +kernel
theorem dX5_readHut_23 : decode cX5_readHut 23 = .ok (.putfield 19, 3) := by decide +kernel
theorem dX5_readHut_26 : decode cX5_readHut 26 = .ok (.aload_n 0, 1) := by decide +kernel
theorem dX5_readHut_27 : decode cX5_readHut 27 = .ok (.invokevirtual 58, 3) := by decide +kernel
theorem dX5_readHut_30 : decode cX5_readHut 30 = .ok (.istore_n 3, 1) := by decide +kernel
theorem dX5_readHut_31 : decode cX5_readHut 31 = .ok (.iload_n 3, 1) := by decide +kernel
theorem dX5_readHut_32 : decode cX5_readHut 32 = .ok (.bipush (-9), 2) := by decide +kernel
theorem dX5_readHut_34 : decode cX5_readHut 34 = .ok (.if_icmp .ne 5, 3) := by decide +kernel
theorem dX5_readHut_37 : decode cX5_readHut 37 = .ok (.iconst 0, 1) := by decide +kernel
theorem dX5_readHut_38 : decode cX5_readHut 38 = .ok (.ireturn, 1) := by decide +kernel
theorem dX5_readHut_39 : decode cX5_readHut 39 = .ok (.aload_n 1, 1) := by decide +kernel
theorem dX5_readHut_40 : decode cX5_readHut 40 = .ok (.iload_n 3, 1) := by decide +kernel
theorem dX5_readHut_41 : decode cX5_readHut 41 = .ok (.invokevirtual 78, 3) := by decide +kernel
theorem dX5_readHut_44 : decode cX5_readHut 44 = .ok (.ifCond .eq 15, 3) := by decide +kernel
theorem dX5_readHut_47 : decode cX5_readHut 47 = .ok (.aload_n 0, 1) := by decide +kernel
theorem dX5_readHut_48 : decode cX5_readHut 48 = .ok (.dup, 1) := by decide +kernel
theorem dX5_readHut_49 : decode cX5_readHut 49 = .ok (.getfield 19, 3) := by decide +kernel
theorem dX5_readHut_52 : decode cX5_readHut 52 = .ok (.iconst 1, 1) := by decide +kernel
theorem dX5_readHut_53 : decode cX5_readHut 53 = .ok (.isub, 1) := by decide +kernel
theorem dX5_readHut_54 : decode cX5_readHut 54 = .ok (.putfield 19, 3) := by decide +kernel
theorem dX5_readHut_57 : decode cX5_readHut 57 = .ok (.iconst 0, 1) := by decide +kernel
theorem dX5_readHut_58 : decode cX5_readHut 58 = .ok (.ireturn, 1) := by decide +kernel
theorem dX5_readHut_59 : decode cX5_readHut 59 = .ok (.aload_n 0, 1) := by decide +kernel
theorem dX5_readHut_60 : decode cX5_readHut 60 = .ok (.invokevirtual 58, 3) := by decide +kernel
theorem dX5_readHut_63 : decode cX5_readHut 63 = .ok (.istore 4, 2) := by decide +kernel
theorem dX5_readHut_65 : decode cX5_readHut 65 = .ok (.iload 4, 2) := by decide +kernel
theorem dX5_readHut_67 : decode cX5_readHut 67 = .ok (.bipush (-9), 2) := by decide +kernel
theorem dX5_readHut_69 : decode cX5_readHut 69 = .ok (.if_icmp .ne 8, 3) := by decide +kernel
theorem dX5_readHut_72 : decode cX5_readHut 72 = .ok (.bipush (-9), 2) := by decide +kernel
theorem dX5_readHut_74 : decode cX5_readHut 74 = .ok (.goto 7, 3) := by decide +kernel
theorem dX5_readHut_77 : decode cX5_readHut 77 = .ok (.aload_n 0, 1) := by decide +kernel
theorem dX5_readHut_78 : decode cX5_readHut 78 = .ok (.invokevirtual 58, 3) := by decide +kernel
theorem dX5_readHut_81 : decode cX5_readHut 81 = .ok (.istore 5, 2) := by decide +kernel
theorem dX5_readHut_83 : decode cX5_readHut 83 = .ok (.iload 5, 2) := by decide +kernel
theorem dX5_readHut_85 : decode cX5_readHut 85 = .ok (.bipush (-9), 2) := by decide +kernel
theorem dX5_readHut_87 : decode cX5_readHut 87 = .ok (.if_icmp .ne 5, 3) := by decide +kernel
theorem dX5_readHut_90 : decode cX5_readHut 90 = .ok (.iconst 0, 1) := by decide +kernel
theorem dX5_readHut_91 : decode cX5_readHut 91 = .ok (.ireturn, 1) := by decide +kernel
theorem dX5_readHut_92 : decode cX5_readHut 92 = .ok (.aload_n 1, 1) := by decide +kernel
theorem dX5_readHut_93 : decode cX5_readHut 93 = .ok (.iload_n 2, 1) := by decide +kernel
theorem dX5_readHut_94 : decode cX5_readHut 94 = .ok (.iload_n 3, 1) := by decide +kernel
theorem dX5_readHut_95 : decode cX5_readHut 95 = .ok (.iload 4, 2) := by decide +kernel
theorem dX5_readHut_97 : decode cX5_readHut 97 = .ok (.iload 5, 2) := by decide +kernel
theorem dX5_readHut_99 : decode cX5_readHut 99 = .ok (.invokevirtual 82, 3) := by decide +kernel
theorem dX5_readHut_102 : decode cX5_readHut 102 = .ok (.iconst 1, 1) := by decide +kernel
theorem dX5_readHut_103 : decode cX5_readHut 103 = .ok (.ireturn, 1) := by decide +kernel
theorem dX5_skipBlanks_0 : decode cX5_skipBlanks 0 = .ok (.aload_n 0, 1) := by decide +kernel
theorem dX5_skipBlanks_1 : decode cX5_skipBlanks 1 = .ok (.getfield 19, 3) := by decide +kernel
theorem dX5_skipBlanks_4 : decode cX5_skipBlanks 4 = .ok (.aload_n 0, 1) := by decide +kernel
theorem dX5_skipBlanks_5 : decode cX5_skipBlanks 5 = .ok (.getfield 15, 3) := by decide +kernel
theorem dX5_skipBlanks_8 : decode cX5_skipBlanks 8 = .ok (.if_icmp .ge 30, 3) := by decide +kernel
theorem dX5_skipBlanks_11 : decode cX5_skipBlanks 11 = .ok (.aload_n 0, 1) := by decide +kernel
theorem dX5_skipBlanks_12 : decode cX5_skipBlanks 12 = .ok (.getfield 9, 3) := by decide +kernel
theorem dX5_skipBlanks_15 : decode cX5_skipBlanks 15 = .ok (.aload_n 0, 1) := by decide +kernel
theorem dX5_skipBlanks_16 : decode cX5_skipBlanks 16 = .ok (.getfield 19, 3) := by decide +kernel
theorem dX5_skipBlanks_19 : decode cX5_skipBlanks 19 = .ok (.iaload, 1) := by decide +kernel
theorem dX5_skipBlanks_20 : decode cX5_skipBlanks 20 = .ok (.bipush 32, 2) := by decide +kernel
theorem dX5_skipBlanks_22 : decode cX5_skipBlanks 22 = .ok (.if_icmp .ne 16, 3) := by decide +kernel
theorem dX5_skipBlanks_25 : decode cX5_skipBlanks 25 = .ok (.aload_n 0, 1) := by decide +kernel
theorem dX5_skipBlanks_26 : decode cX5_skipBlanks 26 = .ok (.dup, 1) := by decide +kernel
theorem dX5_skipBlanks_27 : decode cX5_skipBlanks 27 = .ok (.getfield 19, 3) := by decide +kernel
theorem dX5_skipBlanks_30 : decode cX5_skipBlanks 30 = .ok (.iconst 1, 1) := by decide +kernel
theorem dX5_skipBlanks_31 : decode cX5_skipBlanks 31 = .ok (.iadd, 1) := by decide +kernel
theorem dX5_skipBlanks_32 : decode cX5_skipBlanks 32 = .ok (.putfield 19, 3) := by decide +kernel
theorem dX5_skipBlanks_35 : decode cX5_skipBlanks 35 = .ok (.goto (-35), 3) := by decide +kernel
theorem dX5_skipBlanks_38 : decode cX5_skipBlanks 38 = .ok (.return_, 1) := by decide +kernel
theorem dX5_sign_0 : decode cX5_sign 0 = .ok (.aload_n 0, 1) := by decide +kernel
theorem dX5_sign_1 : decode cX5_sign 1 = .ok (.getfield 19, 3) := by decide +kernel
theorem dX5_sign_4 : decode cX5_sign 4 = .ok (.aload_n 0, 1) := by decide +kernel
theorem dX5_sign_5 : decode cX5_sign 5 = .ok (.getfield 15, 3) := by decide +kernel
theorem dX5_sign_8 : decode cX5_sign 8 = .ok (.if_icmp .ge 15, 3) := by decide +kernel
theorem dX5_sign_11 : decode cX5_sign 11 = .ok (.aload_n 0, 1) := by decide +kernel
theorem dX5_sign_12 : decode cX5_sign 12 = .ok (.getfield 9, 3) := by decide +kernel
theorem dX5_sign_15 : decode cX5_sign 15 = .ok (.aload_n 0, 1) := by decide +kernel
theorem dX5_sign_16 : decode cX5_sign 16 = .ok (.getfield 19, 3) := by decide +kernel
theorem dX5_sign_19 : decode cX5_sign 19 = .ok (.iaload, 1) := by decide +kernel
theorem dX5_sign_20 : decode cX5_sign 20 = .ok (.goto 5, 3) := by decide +kernel
theorem dX5_sign_23 : decode cX5_sign 23 = .ok (.bipush (-9), 2) := by decide +kernel
theorem dX5_sign_25 : decode cX5_sign 25 = .ok (.ireturn, 1) := by decide +kernel
theorem dX5_readFigure_0 : decode cX5_readFigure 0 = .ok (.aload_n 0, 1) := by decide +kernel
theorem dX5_readFigure_1 : decode cX5_readFigure 1 = .ok (.invokevirtual 51, 3) := by decide +kernel
theorem dX5_readFigure_4 : decode cX5_readFigure 4 = .ok (.bipush 48, 2) := by decide +kernel
theorem dX5_readFigure_6 : decode cX5_readFigure 6 = .ok (.isub, 1) := by decide +kernel
theorem dX5_readFigure_7 : decode cX5_readFigure 7 = .ok (.istore_n 1, 1) := by decide +kernel
theorem dX5_readFigure_8 : decode cX5_readFigure 8 = .ok (.iload_n 1, 1) := by decide +kernel
theorem dX5_readFigure_9 : decode cX5_readFigure 9 = .ok (.ifCond .lt 9, 3) := by decide +kernel
theorem dX5_readFigure_12 : decode cX5_readFigure 12 = .ok (.iload_n 1, 1) := by decide +kernel
theorem dX5_readFigure_13 : decode cX5_readFigure 13 = .ok (.bipush 9, 2) := by decide +kernel
theorem dX5_readFigure_15 : decode cX5_readFigure 15 = .ok (.if_icmp .le 6, 3) := by decide +kernel
theorem dX5_readFigure_18 : decode cX5_readFigure 18 = .ok (.bipush (-9), 2) := by decide +kernel
theorem dX5_readFigure_20 : decode cX5_readFigure 20 = .ok (.ireturn, 1) := by decide +kernel
theorem dX5_readFigure_21 : decode cX5_readFigure 21 = .ok (.aload_n 0, 1) := by decide +kernel
theorem dX5_readFigure_22 : decode cX5_readFigure 22 = .ok (.dup, 1) := by decide +kernel
theorem dX5_readFigure_23 : decode cX5_readFigure 23 = .ok (.getfield 19, 3) := by decide +kernel
theorem dX5_readFigure_26 : decode cX5_readFigure 26 = .ok (.iconst 1, 1) := by decide +kernel
theorem dX5_readFigure_27 : decode cX5_readFigure 27 = .ok (.iadd, 1) := by decide +kernel
theorem dX5_readFigure_28 : decode cX5_readFigure 28 = .ok (.putfield 19, 3) := by decide +kernel
theorem dX5_readFigure_31 : decode cX5_readFigure 31 = .ok (.iload_n 1, 1) := by decide +kernel
theorem dX5_readFigure_32 : decode cX5_readFigure 32 = .ok (.ireturn, 1) := by decide +kernel
theorem dX6_init_0 : decode cX6_init 0 = .ok (.aload_n 0, 1) := by decide +kernel
theorem dX6_init_1 : decode cX6_init 1 = .ok (.invokespecial 1, 3) := by decide +kernel
theorem dX6_init_4 : decode cX6_init 4 = .ok (.aload_n 0, 1) := by decide +kernel
theorem dX6_init_5 : decode cX6_init 5 = .ok (.iload_n 2, 1) := by decide +kernel
theorem dX6_init_6 : decode cX6_init 6 = .ok (.putfield 7, 3) := by decide +kernel
theorem dX6_init_9 : decode cX6_init 9 = .ok (.aload_n 0, 1) := by decide +kernel
theorem dX6_init_10 : decode cX6_init 10 = .ok (.iload_n 1, 1) := by decide +kernel
theorem dX6_init_11 : decode cX6_init 11 = .ok (.iload_n 2, 1) := by decide +kernel
theorem dX6_init_12 : decode cX6_init 12 = .ok (.multianewarray 13 2, 4) := by decide +kernel
theorem dX6_init_16 : decode cX6_init 16 = .ok (.putfield 15, 3) := by decide +kernel
theorem dX6_init_19 : decode cX6_init 19 = .ok (.aload_n 0, 1) := by decide +kernel
theorem dX6_init_20 : decode cX6_init 20 = .ok (.iload_n 1, 1) := by decide +kernel
theorem dX6_init_21 : decode cX6_init 21 = .ok (.newarray .int, 2) := by decide +kernel
theorem dX6_init_23 : decode cX6_init 23 = .ok (.putfield 18, 3) := by decide +kernel
theorem dX6_init_26 : decode cX6_init 26 = .ok (.iconst 0, 1) := by decide +kernel
theorem dX6_init_27 : decode cX6_init 27 = .ok (.istore_n 3, 1) := by decide +kernel
theorem dX6_init_28 : decode cX6_init 28 = .ok (.iload_n 3, 1) := by decide +kernel
theorem dX6_init_29 : decode cX6_init 29 = .ok (.iload_n 1, 1) := by decide +kernel
theorem dX6_init_30 : decode cX6_init 30 = .ok (.if_icmp .ge 16, 3) := by decide +kernel
theorem dX6_init_33 : decode cX6_init 33 = .ok (.aload_n 0, 1) := by decide +kernel
theorem dX6_init_34 : decode cX6_init 34 = .ok (.getfield 18, 3) := by decide +kernel
theorem dX6_init_37 : decode cX6_init 37 = .ok (.iload_n 3, 1) := by decide +kernel
theorem dX6_init_38 : decode cX6_init 38 = .ok (.iconst (-1), 1) := by decide +kernel
theorem dX6_init_39 : decode cX6_init 39 = .ok (.iastore, 1) := by decide +kernel
theorem dX6_init_40 : decode cX6_init 40 = .ok (.iinc 3 1, 3) := by decide +kernel
theorem dX6_init_43 : decode cX6_init 43 = .ok (.goto (-15), 3) := by decide +kernel
theorem dX6_init_46 : decode cX6_init 46 = .ok (.return_, 1) := by decide +kernel
theorem dX6_knows_0 : decode cX6_knows 0 = .ok (.iconst 0, 1) := by decide +kernel
theorem dX6_knows_1 : decode cX6_knows 1 = .ok (.iload_n 1, 1) := by decide +kernel
theorem dX6_knows_2 : decode cX6_knows 2 = .ok (.if_icmp .gt 16, 3) := by decide +kernel
theorem dX6_knows_5 : decode cX6_knows 5 = .ok (.iload_n 1, 1) := by decide +kernel
theorem dX6_knows_6 : decode cX6_knows 6 = .ok (.aload_n 0, 1) := by decide +kernel
theorem dX6_knows_7 : decode cX6_knows 7 = .ok (.getfield 18, 3) := by decide +kernel
theorem dX6_knows_10 : decode cX6_knows 10 = .ok (.arraylength, 1) := by decide +kernel
theorem dX6_knows_11 : decode cX6_knows 11 = .ok (.if_icmp .ge 7, 3) := by decide +kernel
theorem dX6_knows_14 : decode cX6_knows 14 = .ok (.iconst 1, 1) := by decide +kernel
theorem dX6_knows_15 : decode cX6_knows 15 = .ok (.goto 4, 3) := by decide +kernel
theorem dX6_knows_18 : decode cX6_knows 18 = .ok (.iconst 0, 1) := by decide +kernel
theorem dX6_knows_19 : decode cX6_knows 19 = .ok (.ireturn, 1) := by decide +kernel
theorem dX6_has_0 : decode cX6_has 0 = .ok (.aload_n 0, 1) := by decide +kernel
theorem dX6_has_1 : decode cX6_has 1 = .ok (.iload_n 1, 1) := by decide +kernel
theorem dX6_has_2 : decode cX6_has 2 = .ok (.invokevirtual 22, 3) := by decide +kernel
theorem dX6_has_5 : decode cX6_has 5 = .ok (.ifCond .eq 17, 3) := by decide +kernel
theorem dX6_has_8 : decode cX6_has 8 = .ok (.aload_n 0, 1) := by decide +kernel
theorem dX6_has_9 : decode cX6_has 9 = .ok (.getfield 18, 3) := by decide +kernel
theorem dX6_has_12 : decode cX6_has 12 = .ok (.iload_n 1, 1) := by decide +kernel
theorem dX6_has_13 : decode cX6_has 13 = .ok (.iaload, 1) := by decide +kernel
theorem dX6_has_14 : decode cX6_has 14 = .ok (.iconst (-1), 1) := by decide +kernel
theorem dX6_has_15 : decode cX6_has 15 = .ok (.if_icmp .eq 7, 3) := by decide +kernel
theorem dX6_has_18 : decode cX6_has 18 = .ok (.iconst 1, 1) := by decide +kernel
theorem dX6_has_19 : decode cX6_has 19 = .ok (.goto 4, 3) := by decide +kernel
theorem dX6_has_22 : decode cX6_has 22 = .ok (.iconst 0, 1) := by decide +kernel
theorem dX6_has_23 : decode cX6_has 23 = .ok (.ireturn, 1) := by decide +kernel
theorem dX6_holds_0 : decode cX6_holds 0 = .ok (.aload_n 0, 1) := by decide +kernel
theorem dX6_holds_1 : decode cX6_holds 1 = .ok (.iload_n 1, 1) := by decide +kernel
theorem dX6_holds_2 : decode cX6_holds 2 = .ok (.invokevirtual 22, 3) := by decide +kernel
theorem dX6_holds_5 : decode cX6_holds 5 = .ok (.ifCond .eq 22, 3) := by decide +kernel
theorem dX6_holds_8 : decode cX6_holds 8 = .ok (.iconst 0, 1) := by decide +kernel
theorem dX6_holds_9 : decode cX6_holds 9 = .ok (.iload_n 2, 1) := by decide +kernel
theorem dX6_holds_10 : decode cX6_holds 10 = .ok (.if_icmp .gt 17, 3) := by decide +kernel
theorem dX6_holds_13 : decode cX6_holds 13 = .ok (.iload_n 2, 1) := by decide +kernel
theorem dX6_holds_14 : decode cX6_holds 14 = .ok (.aload_n 0, 1) := by decide +kernel
theorem dX6_holds_15 : decode cX6_holds 15 = .ok (.getfield 18, 3) := by decide +kernel
theorem dX6_holds_18 : decode cX6_holds 18 = .ok (.iload_n 1, 1) := by decide +kernel
theorem dX6_holds_19 : decode cX6_holds 19 = .ok (.iaload, 1) := by decide +kernel
theorem dX6_holds_20 : decode cX6_holds 20 = .ok (.if_icmp .ge 7, 3) := by decide +kernel
theorem dX6_holds_23 : decode cX6_holds 23 = .ok (.iconst 1, 1) := by decide +kernel
theorem dX6_holds_24 : decode cX6_holds 24 = .ok (.goto 4, 3) := by decide +kernel
theorem dX6_holds_27 : decode cX6_holds 27 = .ok (.iconst 0, 1) := by decide +kernel
theorem dX6_holds_28 : decode cX6_holds 28 = .ok (.ireturn, 1) := by decide +kernel
theorem dX6_holdsRun_0 : decode cX6_holdsRun 0 = .ok (.aload_n 0, 1) := by decide +kernel
theorem dX6_holdsRun_1 : decode cX6_holdsRun 1 = .ok (.iload_n 1, 1) := by decide +kernel
theorem dX6_holdsRun_2 : decode cX6_holdsRun 2 = .ok (.invokevirtual 26, 3) := by decide +kernel
theorem dX6_holdsRun_5 : decode cX6_holdsRun 5 = .ok (.ifCond .eq 39, 3) := by decide +kernel
theorem dX6_holdsRun_8 : decode cX6_holdsRun 8 = .ok (.iconst 0, 1) := by decide +kernel
theorem dX6_holdsRun_9 : decode cX6_holdsRun 9 = .ok (.iload_n 3, 1) := by decide +kernel
theorem dX6_holdsRun_10 : decode cX6_holdsRun 10 = .ok (.if_icmp .gt 34, 3) := by decide +kernel
theorem dX6_holdsRun_13 : decode cX6_holdsRun 13 = .ok (.iconst 0, 1) := by decide +kernel
theorem dX6_holdsRun_14 : decode cX6_holdsRun 14 = .ok (.iload_n 2, 1) := by decide +kernel
theorem dX6_holdsRun_15 : decode cX6_holdsRun 15 = .ok (.if_icmp .gt 29, 3) := by decide +kernel
theorem dX6_holdsRun_18 : decode cX6_holdsRun 18 = .ok (.iload_n 3, 1) := by decide +kernel
theorem dX6_holdsRun_19 : decode cX6_holdsRun 19 = .ok (.aload_n 0, 1) := by decide +kernel
theorem dX6_holdsRun_20 : decode cX6_holdsRun 20 = .ok (.getfield 18, 3) := by decide +kernel
theorem dX6_holdsRun_23 : decode cX6_holdsRun 23 = .ok (.iload_n 1, 1) := by decide +kernel
theorem dX6_holdsRun_24 : decode cX6_holdsRun 24 = .ok (.iaload, 1) := by decide +kernel
theorem dX6_holdsRun_25 : decode cX6_holdsRun 25 = .ok (.if_icmp .gt 19, 3) := by decide +kernel
theorem dX6_holdsRun_28 : decode cX6_holdsRun 28 = .ok (.iload_n 2, 1) := by decide +kernel
theorem dX6_holdsRun_29 : decode cX6_holdsRun 29 = .ok (.aload_n 0, 1) := by decide +kernel
theorem dX6_holdsRun_30 : decode cX6_holdsRun 30 = .ok (.getfield 18, 3) := by decide +kernel
theorem dX6_holdsRun_33 : decode cX6_holdsRun 33 = .ok (.iload_n 1, 1) := by decide +kernel
theorem dX6_holdsRun_34 : decode cX6_holdsRun 34 = .ok (.iaload, 1) := by decide +kernel
theorem dX6_holdsRun_35 : decode cX6_holdsRun 35 = .ok (.iload_n 3, 1) := by decide +kernel
theorem dX6_holdsRun_36 : decode cX6_holdsRun 36 = .ok (.isub, 1) := by decide +kernel
theorem dX6_holdsRun_37 : decode cX6_holdsRun 37 = .ok (.if_icmp .gt 7, 3) := by decide +kernel
theorem dX6_holdsRun_40 : decode cX6_holdsRun 40 = .ok (.iconst 1, 1) := by decide +kernel
theorem dX6_holdsRun_41 : decode cX6_holdsRun 41 = .ok (.goto 4, 3) := by decide +kernel
theorem dX6_holdsRun_44 : decode cX6_holdsRun 44 = .ok (.iconst 0, 1) := by decide +kernel
theorem dX6_holdsRun_45 : decode cX6_holdsRun 45 = .ok (.ireturn, 1) := by decide +kernel
theorem dX6_size_0 : decode cX6_size 0 = .ok (.aload_n 0, 1) := by decide +kernel
theorem dX6_size_1 : decode cX6_size 1 = .ok (.iload_n 1, 1) := by decide +kernel
theorem dX6_size_2 : decode cX6_size 2 = .ok (.invokevirtual 22, 3) := by decide +kernel
theorem dX6_size_5 : decode cX6_size 5 = .ok (.ifCond .eq 12, 3) := by decide +kernel
theorem dX6_size_8 : decode cX6_size 8 = .ok (.aload_n 0, 1) := by decide +kernel
theorem dX6_size_9 : decode cX6_size 9 = .ok (.getfield 18, 3) := by decide +kernel
theorem dX6_size_12 : decode cX6_size 12 = .ok (.iload_n 1, 1) := by decide +kernel
theorem dX6_size_13 : decode cX6_size 13 = .ok (.iaload, 1) := by decide +kernel
theorem dX6_size_14 : decode cX6_size 14 = .ok (.goto 4, 3) := by decide +kernel
theorem dX6_size_17 : decode cX6_size 17 = .ok (.iconst (-1), 1) := by decide +kernel
theorem dX6_size_18 : decode cX6_size 18 = .ok (.ireturn, 1) := by decide +kernel
theorem dX6_get_0 : decode cX6_get 0 = .ok (.aload_n 0, 1) := by decide +kernel
theorem dX6_get_1 : decode cX6_get 1 = .ok (.iload_n 1, 1) := by decide +kernel
theorem dX6_get_2 : decode cX6_get 2 = .ok (.iload_n 2, 1) := by decide +kernel
theorem dX6_get_3 : decode cX6_get 3 = .ok (.invokevirtual 29, 3) := by decide +kernel
theorem dX6_get_6 : decode cX6_get 6 = .ok (.ifCond .eq 14, 3) := by decide +kernel
theorem dX6_get_9 : decode cX6_get 9 = .ok (.aload_n 0, 1) := by decide +kernel
theorem dX6_get_10 : decode cX6_get 10 = .ok (.getfield 15, 3) := by decide +kernel
theorem dX6_get_13 : decode cX6_get 13 = .ok (.iload_n 1, 1) := by decide +kernel
theorem dX6_get_14 : decode cX6_get 14 = .ok (.aaload, 1) := by decide +kernel
theorem dX6_get_15 : decode cX6_get 15 = .ok (.iload_n 2, 1) := by decide +kernel
theorem dX6_get_16 : decode cX6_get 16 = .ok (.iaload, 1) := by decide +kernel
theorem dX6_get_17 : decode cX6_get 17 = .ok (.goto 4, 3) := by decide +kernel
theorem dX6_get_20 : decode cX6_get 20 = .ok (.iconst 0, 1) := by decide +kernel
theorem dX6_get_21 : decode cX6_get 21 = .ok (.ireturn, 1) := by decide +kernel
theorem dX6_set_0 : decode cX6_set 0 = .ok (.aload_n 0, 1) := by decide +kernel
theorem dX6_set_1 : decode cX6_set 1 = .ok (.iload_n 1, 1) := by decide +kernel
theorem dX6_set_2 : decode cX6_set 2 = .ok (.iload_n 2, 1) := by decide +kernel
theorem dX6_set_3 : decode cX6_set 3 = .ok (.invokevirtual 29, 3) := by decide +kernel
theorem dX6_set_6 : decode cX6_set 6 = .ok (.ifCond .eq 12, 3) := by decide +kernel
theorem dX6_set_9 : decode cX6_set 9 = .ok (.aload_n 0, 1) := by decide +kernel
theorem dX6_set_10 : decode cX6_set 10 = .ok (.getfield 15, 3) := by decide +kernel
theorem dX6_set_13 : decode cX6_set 13 = .ok (.iload_n 1, 1) := by decide +kernel
theorem dX6_set_14 : decode cX6_set 14 = .ok (.aaload, 1) := by decide +kernel
theorem dX6_set_15 : decode cX6_set 15 = .ok (.iload_n 2, 1) := by decide +kernel
theorem dX6_set_16 : decode cX6_set 16 = .ok (.iload_n 3, 1) := by decide +kernel
theorem dX6_set_17 : decode cX6_set 17 = .ok (.iastore, 1) := by decide +kernel
theorem dX6_set_18 : decode cX6_set 18 = .ok (.return_, 1) := by decide +kernel
theorem dX6_make_0 : decode cX6_make 0 = .ok (.aload_n 0, 1) := by decide +kernel
theorem dX6_make_1 : decode cX6_make 1 = .ok (.iload_n 1, 1) := by decide +kernel
theorem dX6_make_2 : decode cX6_make 2 = .ok (.invokevirtual 22, 3) := by decide +kernel
theorem dX6_make_5 : decode cX6_make 5 = .ok (.ifCond .eq 15, 3) := by decide +kernel
theorem dX6_make_8 : decode cX6_make 8 = .ok (.iload_n 2, 1) := by decide +kernel
theorem dX6_make_9 : decode cX6_make 9 = .ok (.ifCond .lt 11, 3) := by decide +kernel
theorem dX6_make_12 : decode cX6_make 12 = .ok (.iload_n 2, 1) := by decide +kernel
theorem dX6_make_13 : decode cX6_make 13 = .ok (.aload_n 0, 1) := by decide +kernel
theorem dX6_make_14 : decode cX6_make 14 = .ok (.getfield 7, 3) := by decide +kernel
theorem dX6_make_17 : decode cX6_make 17 = .ok (.if_icmp .le 4, 3) := by decide +kernel
theorem dX6_make_20 : decode cX6_make 20 = .ok (.return_, 1) := by decide +kernel
theorem dX6_make_21 : decode cX6_make 21 = .ok (.aload_n 0, 1) := by decide +kernel
theorem dX6_make_22 : decode cX6_make 22 = .ok (.getfield 18, 3) := by decide +kernel
theorem dX6_make_25 : decode cX6_make 25 = .ok (.iload_n 1, 1) := by decide +kernel
theorem dX6_make_26 : decode cX6_make 26 = .ok (.iload_n 2, 1) := by decide +kernel
theorem dX6_make_27 : decode cX6_make 27 = .ok (.iastore, 1) := by decide +kernel
theorem dX6_make_28 : decode cX6_make 28 = .ok (.iconst 0, 1) := by decide +kernel
theorem dX6_make_29 : decode cX6_make 29 = .ok (.istore_n 3, 1) := by decide +kernel
theorem dX6_make_30 : decode cX6_make 30 = .ok (.iload_n 3, 1) := by decide +kernel
theorem dX6_make_31 : decode cX6_make 31 = .ok (.iload_n 2, 1) := by decide +kernel
theorem dX6_make_32 : decode cX6_make 32 = .ok (.if_icmp .ge 18, 3) := by decide +kernel
theorem dX6_make_35 : decode cX6_make 35 = .ok (.aload_n 0, 1) := by decide +kernel
theorem dX6_make_36 : decode cX6_make 36 = .ok (.getfield 15, 3) := by decide +kernel
theorem dX6_make_39 : decode cX6_make 39 = .ok (.iload_n 1, 1) := by decide +kernel
theorem dX6_make_40 : decode cX6_make 40 = .ok (.aaload, 1) := by decide +kernel
theorem dX6_make_41 : decode cX6_make 41 = .ok (.iload_n 3, 1) := by decide +kernel
theorem dX6_make_42 : decode cX6_make 42 = .ok (.iconst 0, 1) := by decide +kernel
theorem dX6_make_43 : decode cX6_make 43 = .ok (.iastore, 1) := by decide +kernel
theorem dX6_make_44 : decode cX6_make 44 = .ok (.iinc 3 1, 3) := by decide +kernel
theorem dX6_make_47 : decode cX6_make 47 = .ok (.goto (-17), 3) := by decide +kernel
theorem dX6_make_50 : decode cX6_make 50 = .ok (.return_, 1) := by decide +kernel
theorem dX6_drop_0 : decode cX6_drop 0 = .ok (.aload_n 0, 1) := by decide +kernel
theorem dX6_drop_1 : decode cX6_drop 1 = .ok (.iload_n 1, 1) := by decide +kernel
theorem dX6_drop_2 : decode cX6_drop 2 = .ok (.invokevirtual 22, 3) := by decide +kernel
theorem dX6_drop_5 : decode cX6_drop 5 = .ok (.ifCond .eq 10, 3) := by decide +kernel
theorem dX6_drop_8 : decode cX6_drop 8 = .ok (.aload_n 0, 1) := by decide +kernel
theorem dX6_drop_9 : decode cX6_drop 9 = .ok (.getfield 18, 3) := by decide +kernel
theorem dX6_drop_12 : decode cX6_drop 12 = .ok (.iload_n 1, 1) := by decide +kernel
theorem dX6_drop_13 : decode cX6_drop 13 = .ok (.iconst (-1), 1) := by decide +kernel
theorem dX6_drop_14 : decode cX6_drop 14 = .ok (.iastore, 1) := by decide +kernel
theorem dX6_drop_15 : decode cX6_drop 15 = .ok (.return_, 1) := by decide +kernel
theorem dX6_write_0 : decode cX6_write 0 = .ok (.aload_n 0, 1) := by decide +kernel
theorem dX6_write_1 : decode cX6_write 1 = .ok (.iload_n 1, 1) := by decide +kernel
theorem dX6_write_2 : decode cX6_write 2 = .ok (.iload_n 3, 1) := by decide +kernel
theorem dX6_write_3 : decode cX6_write 3 = .ok (.invokevirtual 33, 3) := by decide +kernel
theorem dX6_write_6 : decode cX6_write 6 = .ok (.iconst 0, 1) := by decide +kernel
theorem dX6_write_7 : decode cX6_write 7 = .ok (.istore 4, 2) := by decide +kernel
theorem dX6_write_9 : decode cX6_write 9 = .ok (.iload 4, 2) := by decide +kernel
theorem dX6_write_11 : decode cX6_write 11 = .ok (.iload_n 3, 1) := by decide +kernel
theorem dX6_write_12 : decode cX6_write 12 = .ok (.if_icmp .ge 27, 3) := by decide +kernel
theorem dX6_write_15 : decode cX6_write 15 = .ok (.iload 4, 2) := by decide +kernel
theorem dX6_write_17 : decode cX6_write 17 = .ok (.aload_n 2, 1) := by decide +kernel
theorem dX6_write_18 : decode cX6_write 18 = .ok (.arraylength, 1) := by decide +kernel
theorem dX6_write_19 : decode cX6_write 19 = .ok (.if_icmp .ge 20, 3) := by decide +kernel
theorem dX6_write_22 : decode cX6_write 22 = .ok (.aload_n 0, 1) := by decide +kernel
theorem dX6_write_23 : decode cX6_write 23 = .ok (.iload_n 1, 1) := by decide +kernel
theorem dX6_write_24 : decode cX6_write 24 = .ok (.iload 4, 2) := by decide +kernel
theorem dX6_write_26 : decode cX6_write 26 = .ok (.aload_n 2, 1) := by decide +kernel
theorem dX6_write_27 : decode cX6_write 27 = .ok (.iload 4, 2) := by decide +kernel
theorem dX6_write_29 : decode cX6_write 29 = .ok (.iaload, 1) := by decide +kernel
theorem dX6_write_30 : decode cX6_write 30 = .ok (.invokevirtual 37, 3) := by decide +kernel
theorem dX6_write_33 : decode cX6_write 33 = .ok (.iinc 4 1, 3) := by decide +kernel
theorem dX6_write_36 : decode cX6_write 36 = .ok (.goto (-27), 3) := by decide +kernel
theorem dX6_write_39 : decode cX6_write 39 = .ok (.return_, 1) := by decide +kernel
theorem dX6_move_0 : decode cX6_move 0 = .ok (.aload_n 0, 1) := by decide +kernel
theorem dX6_move_1 : decode cX6_move 1 = .ok (.iload_n 1, 1) := by decide +kernel
theorem dX6_move_2 : decode cX6_move 2 = .ok (.iload_n 2, 1) := by decide +kernel
theorem dX6_move_3 : decode cX6_move 3 = .ok (.iload 5, 2) := by decide +kernel
theorem dX6_move_5 : decode cX6_move 5 = .ok (.invokevirtual 41, 3) := by decide +kernel
theorem dX6_move_8 : decode cX6_move 8 = .ok (.ifCond .eq 35, 3) := by decide +kernel
theorem dX6_move_11 : decode cX6_move 11 = .ok (.aload_n 0, 1) := by decide +kernel
theorem dX6_move_12 : decode cX6_move 12 = .ok (.iload_n 3, 1) := by decide +kernel
theorem dX6_move_13 : decode cX6_move 13 = .ok (.iload 4, 2) := by decide +kernel
theorem dX6_move_15 : decode cX6_move 15 = .ok (.iload 5, 2) := by decide +kernel
theorem dX6_move_17 : decode cX6_move 17 = .ok (.invokevirtual 41, 3) := by decide +kernel
theorem dX6_move_20 : decode cX6_move 20 = .ok (.ifCond .eq 23, 3) := by decide +kernel
theorem dX6_move_23 : decode cX6_move 23 = .ok (.aload_n 0, 1) := by decide +kernel
theorem dX6_move_24 : decode cX6_move 24 = .ok (.getfield 15, 3) := by decide +kernel
theorem dX6_move_27 : decode cX6_move 27 = .ok (.iload_n 1, 1) := by decide +kernel
theorem dX6_move_28 : decode cX6_move 28 = .ok (.aaload, 1) := by decide +kernel
theorem dX6_move_29 : decode cX6_move 29 = .ok (.iload_n 2, 1) := by decide +kernel
theorem dX6_move_30 : decode cX6_move 30 = .ok (.aload_n 0, 1) := by decide +kernel
theorem dX6_move_31 : decode cX6_move 31 = .ok (.getfield 15, 3) := by decide +kernel
theorem dX6_move_34 : decode cX6_move 34 = .ok (.iload_n 3, 1) := by decide +kernel
theorem dX6_move_35 : decode cX6_move 35 = .ok (.aaload, 1) := by decide +kernel
theorem dX6_move_36 : decode cX6_move 36 = .ok (.iload 4, 2) := by decide +kernel
theorem dX6_move_38 : decode cX6_move 38 = .ok (.iload 5, 2) := by decide +kernel
theorem dX6_move_40 : decode cX6_move 40 = .ok (.invokestatic 45, 3) := by decide +kernel
theorem dX6_move_43 : decode cX6_move 43 = .ok (.return_, 1) := by decide +kernel
theorem dX6_sum_0 : decode cX6_sum 0 = .ok (.lconst 0, 1) := by decide +kernel
theorem dX6_sum_1 : decode cX6_sum 1 = .ok (.lstore_n 2, 1) := by decide +kernel
theorem dX6_sum_2 : decode cX6_sum 2 = .ok (.iconst 0, 1) := by decide +kernel
theorem dX6_sum_3 : decode cX6_sum 3 = .ok (.istore 4, 2) := by decide +kernel
theorem dX6_sum_5 : decode cX6_sum 5 = .ok (.iload 4, 2) := by decide +kernel
theorem dX6_sum_7 : decode cX6_sum 7 = .ok (.aload_n 0, 1) := by decide +kernel
theorem dX6_sum_8 : decode cX6_sum 8 = .ok (.iload_n 1, 1) := by decide +kernel
theorem dX6_sum_9 : decode cX6_sum 9 = .ok (.invokevirtual 51, 3) := by decide +kernel
theorem dX6_sum_12 : decode cX6_sum 12 = .ok (.if_icmp .ge 20, 3) := by decide +kernel
theorem dX6_sum_15 : decode cX6_sum 15 = .ok (.lload_n 2, 1) := by decide +kernel
theorem dX6_sum_16 : decode cX6_sum 16 = .ok (.aload_n 0, 1) := by decide +kernel
theorem dX6_sum_17 : decode cX6_sum 17 = .ok (.iload_n 1, 1) := by decide +kernel
theorem dX6_sum_18 : decode cX6_sum 18 = .ok (.iload 4, 2) := by decide +kernel
theorem dX6_sum_20 : decode cX6_sum 20 = .ok (.invokevirtual 55, 3) := by decide +kernel
theorem dX6_sum_23 : decode cX6_sum 23 = .ok (.i2l, 1) := by decide +kernel
theorem dX6_sum_24 : decode cX6_sum 24 = .ok (.ladd, 1) := by decide +kernel
theorem dX6_sum_25 : decode cX6_sum 25 = .ok (.lstore_n 2, 1) := by decide +kernel
theorem dX6_sum_26 : decode cX6_sum 26 = .ok (.iinc 4 1, 3) := by decide +kernel
theorem dX6_sum_29 : decode cX6_sum 29 = .ok (.goto (-24), 3) := by decide +kernel
theorem dX6_sum_32 : decode cX6_sum 32 = .ok (.lload_n 2, 1) := by decide +kernel
theorem dX6_sum_33 : decode cX6_sum 33 = .ok (.lreturn, 1) := by decide +kernel
theorem dX6_howMany_0 : decode cX6_howMany 0 = .ok (.iconst 0, 1) := by decide +kernel
theorem dX6_howMany_1 : decode cX6_howMany 1 = .ok (.istore_n 1, 1) := by decide +kernel
theorem dX6_howMany_2 : decode cX6_howMany 2 = .ok (.iconst 0, 1) := by decide +kernel
theorem dX6_howMany_3 : decode cX6_howMany 3 = .ok (.istore_n 2, 1) := by decide +kernel
theorem dX6_howMany_4 : decode cX6_howMany 4 = .ok (.iload_n 2, 1) := by decide +kernel
theorem dX6_howMany_5 : decode cX6_howMany 5 = .ok (.aload_n 0, 1) := by decide +kernel
theorem dX6_howMany_6 : decode cX6_howMany 6 = .ok (.getfield 18, 3) := by decide +kernel
theorem dX6_howMany_9 : decode cX6_howMany 9 = .ok (.arraylength, 1) := by decide +kernel
theorem dX6_howMany_10 : decode cX6_howMany 10 = .ok (.if_icmp .ge 22, 3) := by decide +kernel
theorem dX6_howMany_13 : decode cX6_howMany 13 = .ok (.aload_n 0, 1) := by decide +kernel
theorem dX6_howMany_14 : decode cX6_howMany 14 = .ok (.getfield 18, 3) := by decide +kernel
theorem dX6_howMany_17 : decode cX6_howMany 17 = .ok (.iload_n 2, 1) := by decide +kernel
theorem dX6_howMany_18 : decode cX6_howMany 18 = .ok (.iaload, 1) := by decide +kernel
theorem dX6_howMany_19 : decode cX6_howMany 19 = .ok (.iconst (-1), 1) := by decide +kernel
theorem dX6_howMany_20 : decode cX6_howMany 20 = .ok (.if_icmp .eq 6, 3) := by decide +kernel
theorem dX6_howMany_23 : decode cX6_howMany 23 = .ok (.iinc 1 1, 3) := by decide +kernel
theorem dX6_howMany_26 : decode cX6_howMany 26 = .ok (.iinc 2 1, 3) := by decide +kernel
theorem dX6_howMany_29 : decode cX6_howMany 29 = .ok (.goto (-25), 3) := by decide +kernel
theorem dX6_howMany_32 : decode cX6_howMany 32 = .ok (.iload_n 1, 1) := by decide +kernel
theorem dX6_howMany_33 : decode cX6_howMany 33 = .ok (.ireturn, 1) := by decide +kernel
theorem dX6_digestOnto_0 : decode cX6_digestOnto 0 = .ok (.iconst 0, 1) := by decide +kernel
theorem dX6_digestOnto_1 : decode cX6_digestOnto 1 = .ok (.istore_n 3, 1) := by decide +kernel
theorem dX6_digestOnto_2 : decode cX6_digestOnto 2 = .ok (.iload_n 3, 1) := by decide +kernel
theorem dX6_digestOnto_3 : decode cX6_digestOnto 3 = .ok (.aload_n 0, 1) := by decide +kernel
theorem dX6_digestOnto_4 : decode cX6_digestOnto 4 = .ok (.getfield 18, 3) := by decide +kernel
theorem dX6_digestOnto_7 : decode cX6_digestOnto 7 = .ok (.arraylength, 1) := by decide +kernel
theorem dX6_digestOnto_8 : decode cX6_digestOnto 8 = .ok (.if_icmp .ge 58, 3) := by decide +kernel
theorem dX6_digestOnto_11 : decode cX6_digestOnto 11 = .ok (.ldc2_w 59, 3) := by decide +kernel
theorem dX6_digestOnto_14 : decode cX6_digestOnto 14 = .ok (.lload_n 1, 1) := by decide +kernel
theorem dX6_digestOnto_15 : decode cX6_digestOnto 15 = .ok (.lmul, 1) := by decide +kernel
theorem dX6_digestOnto_16 : decode cX6_digestOnto 16 = .ok (.aload_n 0, 1) := by decide +kernel
theorem dX6_digestOnto_17 : decode cX6_digestOnto 17 = .ok (.getfield 18, 3) := by decide +kernel
theorem dX6_digestOnto_20 : decode cX6_digestOnto 20 = .ok (.iload_n 3, 1) := by decide +kernel
theorem dX6_digestOnto_21 : decode cX6_digestOnto 21 = .ok (.iaload, 1) := by decide +kernel
theorem dX6_digestOnto_22 : decode cX6_digestOnto 22 = .ok (.i2l, 1) := by decide +kernel
theorem dX6_digestOnto_23 : decode cX6_digestOnto 23 = .ok (.ladd, 1) := by decide +kernel
theorem dX6_digestOnto_24 : decode cX6_digestOnto 24 = .ok (.lstore_n 1, 1) := by decide +kernel
theorem dX6_digestOnto_25 : decode cX6_digestOnto 25 = .ok (.iconst 0, 1) := by decide +kernel
theorem dX6_digestOnto_26 : decode cX6_digestOnto 26 = .ok (.istore 4, 2) := by decide +kernel
theorem dX6_digestOnto_28 : decode cX6_digestOnto 28 = .ok (.iload 4, 2) := by decide +kernel
theorem dX6_digestOnto_30 : decode cX6_digestOnto 30 = .ok (.aload_n 0, 1) := by decide +kernel
theorem dX6_digestOnto_31 : decode cX6_digestOnto 31 = .ok (.getfield 18, 3) := by decide +kernel
theorem dX6_digestOnto_34 : decode cX6_digestOnto 34 = .ok (.iload_n 3, 1) := by decide +kernel
theorem dX6_digestOnto_35 : decode cX6_digestOnto 35 = .ok (.iaload, 1) := by decide +kernel
theorem dX6_digestOnto_36 : decode cX6_digestOnto 36 = .ok (.if_icmp .ge 24, 3) := by decide +kernel
theorem dX6_digestOnto_39 : decode cX6_digestOnto 39 = .ok (.ldc2_w 59, 3) := by decide +kernel
theorem dX6_digestOnto_42 : decode cX6_digestOnto 42 = .ok (.lload_n 1, 1) := by decide +kernel
theorem dX6_digestOnto_43 : decode cX6_digestOnto 43 = .ok (.lmul, 1) := by decide +kernel
theorem dX6_digestOnto_44 : decode cX6_digestOnto 44 = .ok (.aload_n 0, 1) := by decide +kernel
theorem dX6_digestOnto_45 : decode cX6_digestOnto 45 = .ok (.iload_n 3, 1) := by decide +kernel
theorem dX6_digestOnto_46 : decode cX6_digestOnto 46 = .ok (.iload 4, 2) := by decide +kernel
theorem dX6_digestOnto_48 : decode cX6_digestOnto 48 = .ok (.invokevirtual 55, 3) := by decide +kernel
theorem dX6_digestOnto_51 : decode cX6_digestOnto 51 = .ok (.i2l, 1) := by decide +kernel
theorem dX6_digestOnto_52 : decode cX6_digestOnto 52 = .ok (.ladd, 1) := by decide +kernel
theorem dX6_digestOnto_53 : decode cX6_digestOnto 53 = .ok (.lstore_n 1, 1) := by decide +kernel
theorem dX6_digestOnto_54 : decode cX6_digestOnto 54 = .ok (.iinc 4 1, 3) := by decide +kernel
theorem dX6_digestOnto_57 : decode cX6_digestOnto 57 = .ok (.goto (-29), 3) := by decide +kernel
theorem dX6_digestOnto_60 : decode cX6_digestOnto 60 = .ok (.iinc 3 1, 3) := by decide +kernel
theorem dX6_digestOnto_63 : decode cX6_digestOnto 63 = .ok (.goto (-61), 3) := by decide +kernel
theorem dX6_digestOnto_66 : decode cX6_digestOnto 66 = .ok (.lload_n 1, 1) := by decide +kernel
theorem dX6_digestOnto_67 : decode cX6_digestOnto 67 = .ok (.lreturn, 1) := by decide +kernel
theorem dX7_init_0 : decode cX7_init 0 = .ok (.aload_n 0, 1) := by decide +kernel
theorem dX7_init_1 : decode cX7_init 1 = .ok (.invokespecial 3, 3) := by decide +kernel
theorem dX7_init_4 : decode cX7_init 4 = .ok (.aload_n 0, 1) := by decide +kernel
theorem dX7_init_5 : decode cX7_init 5 = .ok (.bipush 6, 2) := by decide +kernel
theorem dX7_init_7 : decode cX7_init 7 = .ok (.newarray .int, 2) := by decide +kernel
theorem dX7_init_9 : decode cX7_init 9 = .ok (.putfield 9, 3) := by decide +kernel
theorem dX7_init_12 : decode cX7_init 12 = .ok (.aload_n 0, 1) := by decide +kernel
theorem dX7_init_13 : decode cX7_init 13 = .ok (.iconst 4, 1) := by decide +kernel
theorem dX7_init_14 : decode cX7_init 14 = .ok (.newarray .int, 2) := by decide +kernel
theorem dX7_init_16 : decode cX7_init 16 = .ok (.putfield 15, 3) := by decide +kernel
theorem dX7_init_19 : decode cX7_init 19 = .ok (.aload_n 0, 1) := by decide +kernel
theorem dX7_init_20 : decode cX7_init 20 = .ok (.iconst 4, 1) := by decide +kernel
theorem dX7_init_21 : decode cX7_init 21 = .ok (.newarray .int, 2) := by decide +kernel
theorem dX7_init_23 : decode cX7_init 23 = .ok (.putfield 18, 3) := by decide +kernel
theorem dX7_init_26 : decode cX7_init 26 = .ok (.aload_n 0, 1) := by decide +kernel
theorem dX7_init_27 : decode cX7_init 27 = .ok (.iconst 0, 1) := by decide +kernel
theorem dX7_init_28 : decode cX7_init 28 = .ok (.putfield 21, 3) := by decide +kernel
theorem dX7_init_31 : decode cX7_init 31 = .ok (.aload_n 0, 1) := by decide +kernel
theorem dX7_init_32 : decode cX7_init 32 = .ok (.iconst 0, 1) := by decide +kernel
theorem dX7_init_33 : decode cX7_init 33 = .ok (.putfield 25, 3) := by decide +kernel
theorem dX7_init_36 : decode cX7_init 36 = .ok (.return_, 1) := by decide +kernel
theorem dX7_seek_0 : decode cX7_seek 0 = .ok (.aload_n 0, 1) := by decide +kernel
theorem dX7_seek_1 : decode cX7_seek 1 = .ok (.aload_n 1, 1) := by decide +kernel
theorem dX7_seek_2 : decode cX7_seek 2 = .ok (.iload_n 2, 1) := by decide +kernel
theorem dX7_seek_3 : decode cX7_seek 3 = .ok (.invokevirtual 28, 3) := by decide +kernel
theorem dX7_seek_6 : decode cX7_seek 6 = .ok (.aload_n 0, 1) := by decide +kernel
theorem dX7_seek_7 : decode cX7_seek 7 = .ok (.aload_n 1, 1) := by decide +kernel
theorem dX7_seek_8 : decode cX7_seek 8 = .ok (.invokevirtual 32, 3) := by decide +kernel
theorem dX7_seek_11 : decode cX7_seek 11 = .ok (.istore_n 3, 1) := by decide +kernel
theorem dX7_seek_12 : decode cX7_seek 12 = .ok (.aload_n 0, 1) := by decide +kernel
theorem dX7_seek_13 : decode cX7_seek 13 = .ok (.invokevirtual 36, 3) := by decide +kernel
theorem dX7_seek_16 : decode cX7_seek 16 = .ok (.istore 4, 2) := by decide +kernel
theorem dX7_seek_18 : decode cX7_seek 18 = .ok (.iconst 0, 1) := by decide +kernel
theorem dX7_seek_19 : decode cX7_seek 19 = .ok (.istore 5, 2) := by decide +kernel
theorem dX7_seek_21 : decode cX7_seek 21 = .ok (.iload 5, 2) := by decide +kernel
theorem dX7_seek_23 : decode cX7_seek 23 = .ok (.sipush 1000, 3) := by decide +kernel
theorem dX7_seek_26 : decode cX7_seek 26 = .ok (.if_icmp .ge 40, 3) := by decide +kernel
theorem dX7_seek_29 : decode cX7_seek 29 = .ok (.iload 4, 2) := by decide +kernel
theorem dX7_seek_31 : decode cX7_seek 31 = .ok (.ifCond .eq 35, 3) := by decide +kernel
theorem dX7_seek_34 : decode cX7_seek 34 = .ok (.aload_n 0, 1) := by decide +kernel
theorem dX7_seek_35 : decode cX7_seek 35 = .ok (.aload_n 1, 1) := by decide +kernel
theorem dX7_seek_36 : decode cX7_seek 36 = .ok (.invokevirtual 32, 3) := by decide +kernel
theorem dX7_seek_39 : decode cX7_seek 39 = .ok (.istore 6, 2) := by decide +kernel
theorem dX7_seek_41 : decode cX7_seek 41 = .ok (.iload 6, 2) := by decide +kernel
theorem dX7_seek_43 : decode cX7_seek 43 = .ok (.iload_n 3, 1) := by decide +kernel
theorem dX7_seek_44 : decode cX7_seek 44 = .ok (.if_icmp .le 10, 3) := by decide +kernel
theorem dX7_seek_47 : decode cX7_seek 47 = .ok (.iload 6, 2) := by decide +kernel
theorem dX7_seek_49 : decode cX7_seek 49 = .ok (.istore_n 3, 1) := by decide +kernel
theorem dX7_seek_50 : decode cX7_seek 50 = .ok (.aload_n 0, 1) := by decide +kernel
theorem dX7_seek_51 : decode cX7_seek 51 = .ok (.invokevirtual 40, 3) := by decide +kernel
theorem dX7_seek_54 : decode cX7_seek 54 = .ok (.aload_n 0, 1) := by decide +kernel
theorem dX7_seek_55 : decode cX7_seek 55 = .ok (.invokevirtual 36, 3) := by decide +kernel
theorem dX7_seek_58 : decode cX7_seek 58 = .ok (.istore 4, 2) := by decide +kernel
theorem dX7_seek_60 : decode cX7_seek 60 = .ok (.iinc 5 1, 3) := by decide +kernel
theorem dX7_seek_63 : decode cX7_seek 63 = .ok (.goto (-42), 3) := by decide +kernel
theorem dX7_seek_66 : decode cX7_seek 66 = .ok (.iload_n 3, 1) := by decide +kernel
theorem dX7_seek_67 : decode cX7_seek 67 = .ok (.ireturn, 1) := by decide +kernel
theorem dX7_begin_0 : decode cX7_begin 0 = .ok (.aload_n 0, 1) := by decide +kernel
theorem dX7_begin_1 : decode cX7_begin 1 = .ok (.iload_n 2, 1) := by decide +kernel
theorem dX7_begin_2 : decode cX7_begin 2 = .ok (.iconst 4, 1) := by decide +kernel
theorem dX7_begin_3 : decode cX7_begin 3 = .ok (.invokestatic 43, 3) := by decide +kernel
theorem dX7_begin_6 : decode cX7_begin 6 = .ok (.putfield 25, 3) := by decide +kernel
theorem dX7_begin_9 : decode cX7_begin 9 = .ok (.aload_n 0, 1) := by decide +kernel
theorem dX7_begin_10 : decode cX7_begin 10 = .ok (.iconst 0, 1) := by decide +kernel
theorem dX7_begin_11 : decode cX7_begin 11 = .ok (.putfield 21, 3) := by decide +kernel
theorem dX7_begin_14 : decode cX7_begin 14 = .ok (.iconst 0, 1) := by decide +kernel
theorem dX7_begin_15 : decode cX7_begin 15 = .ok (.istore_n 3, 1) := by decide +kernel
theorem dX7_begin_16 : decode cX7_begin 16 = .ok (.iload_n 3, 1) := by decide +kernel
theorem dX7_begin_17 : decode cX7_begin 17 = .ok (.aload_n 1, 1) := by decide +kernel
theorem dX7_begin_18 : decode cX7_begin 18 = .ok (.getfield 49, 3) := by decide +kernel
theorem dX7_begin_21 : decode cX7_begin 21 = .ok (.if_icmp .ge 37, 3) := by decide +kernel
theorem dX7_begin_24 : decode cX7_begin 24 = .ok (.aload_n 1, 1) := by decide +kernel
theorem dX7_begin_25 : decode cX7_begin 25 = .ok (.iload_n 3, 1) := by decide +kernel
theorem dX7_begin_26 : decode cX7_begin 26 = .ok (.invokevirtual 54, 3) := by decide +kernel
theorem dX7_begin_29 : decode cX7_begin 29 = .ok (.ifCond .eq 23, 3) := by decide +kernel
theorem dX7_begin_32 : decode cX7_begin 32 = .ok (.aload_n 0, 1) := by decide +kernel
theorem dX7_begin_33 : decode cX7_begin 33 = .ok (.getfield 9, 3) := by decide +kernel
theorem dX7_begin_36 : decode cX7_begin 36 = .ok (.aload_n 0, 1) := by decide +kernel
theorem dX7_begin_37 : decode cX7_begin 37 = .ok (.getfield 21, 3) := by decide +kernel
theorem dX7_begin_40 : decode cX7_begin 40 = .ok (.iload_n 3, 1) := by decide +kernel
theorem dX7_begin_41 : decode cX7_begin 41 = .ok (.iastore, 1) := by decide +kernel
theorem dX7_begin_42 : decode cX7_begin 42 = .ok (.aload_n 0, 1) := by decide +kernel
theorem dX7_begin_43 : decode cX7_begin 43 = .ok (.dup, 1) := by decide +kernel
theorem dX7_begin_44 : decode cX7_begin 44 = .ok (.getfield 21, 3) := by decide +kernel
theorem dX7_begin_47 : decode cX7_begin 47 = .ok (.iconst 1, 1) := by decide +kernel
theorem dX7_begin_48 : decode cX7_begin 48 = .ok (.iadd, 1) := by decide +kernel
theorem dX7_begin_49 : decode cX7_begin 49 = .ok (.putfield 21, 3) := by decide +kernel
theorem dX7_begin_52 : decode cX7_begin 52 = .ok (.iinc 3 1, 3) := by decide +kernel
theorem dX7_begin_55 : decode cX7_begin 55 = .ok (.goto (-39), 3) := by decide +kernel
theorem dX7_begin_58 : decode cX7_begin 58 = .ok (.iconst 0, 1) := by decide +kernel
theorem dX7_begin_59 : decode cX7_begin 59 = .ok (.istore_n 3, 1) := by decide +kernel
theorem dX7_begin_60 : decode cX7_begin 60 = .ok (.iload_n 3, 1) := by decide +kernel
theorem dX7_begin_61 : decode cX7_begin 61 = .ok (.aload_n 0, 1) := by decide +kernel
theorem dX7_begin_62 : decode cX7_begin 62 = .ok (.getfield 25, 3) := by decide +kernel
theorem dX7_begin_65 : decode cX7_begin 65 = .ok (.if_icmp .ge 16, 3) := by decide +kernel
theorem dX7_begin_68 : decode cX7_begin 68 = .ok (.aload_n 0, 1) := by decide +kernel
theorem dX7_begin_69 : decode cX7_begin 69 = .ok (.getfield 15, 3) := by decide +kernel
theorem dX7_begin_72 : decode cX7_begin 72 = .ok (.iload_n 3, 1) := by decide +kernel
theorem dX7_begin_73 : decode cX7_begin 73 = .ok (.iconst 0, 1) := by decide +kernel
theorem dX7_begin_74 : decode cX7_begin 74 = .ok (.iastore, 1) := by decide +kernel
theorem dX7_begin_75 : decode cX7_begin 75 = .ok (.iinc 3 1, 3) := by decide +kernel
theorem dX7_begin_78 : decode cX7_begin 78 = .ok (.goto (-18), 3) := by decide +kernel
theorem dX7_begin_81 : decode cX7_begin 81 = .ok (.aload_n 0, 1) := by decide +kernel
theorem dX7_begin_82 : decode cX7_begin 82 = .ok (.invokevirtual 40, 3) := by decide +kernel
theorem dX7_begin_85 : decode cX7_begin 85 = .ok (.return_, 1) := by decide +kernel
theorem dX7_takeAsBest_0 : decode cX7_takeAsBest 0 = .ok (.iconst 0, 1) := by decide +kernel
theorem dX7_takeAsBest_1 : decode cX7_takeAsBest 1 = .ok (.istore_n 1, 1) := by decide +kernel
theorem dX7_takeAsBest_2 : decode cX7_takeAsBest 2 = .ok (.iload_n 1, 1) := by decide +kernel
theorem dX7_takeAsBest_3 : decode cX7_takeAsBest 3 = .ok (.aload_n 0, 1) := by decide +kernel
theorem dX7_takeAsBest_4 : decode cX7_takeAsBest 4 = .ok (.getfield 25, 3) := by decide +kernel
theorem dX7_takeAsBest_7 : decode cX7_takeAsBest 7 = .ok (.if_icmp .ge 26, 3) := by decide +kernel
theorem dX7_takeAsBest_10 : decode cX7_takeAsBest 10 = .ok (.aload_n 0, 1) := by decide +kernel
theorem dX7_takeAsBest_11 : decode cX7_takeAsBest 11 = .ok (.getfield 18, 3) := by decide +kernel
theorem dX7_takeAsBest_14 : decode cX7_takeAsBest 14 = .ok (.iload_n 1, 1) := by decide +kernel
theorem dX7_takeAsBest_15 : decode cX7_takeAsBest 15 = .ok (.aload_n 0, 1) := by decide +kernel
theorem dX7_takeAsBest_16 : decode cX7_takeAsBest 16 = .ok (.getfield 9, 3) := by decide +kernel
theorem dX7_takeAsBest_19 : decode cX7_takeAsBest 19 = .ok (.aload_n 0, 1) := by decide +kernel
theorem dX7_takeAsBest_20 : decode cX7_takeAsBest 20 = .ok (.getfield 15, 3) := by decide +kernel
theorem dX7_takeAsBest_23 : decode cX7_takeAsBest 23 = .ok (.iload_n 1, 1) := by decide +kernel
theorem dX7_takeAsBest_24 : decode cX7_takeAsBest 24 = .ok (.iaload, 1) := by decide +kernel
theorem dX7_takeAsBest_25 : decode cX7_takeAsBest 25 = .ok (.iaload, 1) := by decide +kernel
theorem dX7_takeAsBest_26 : decode cX7_takeAsBest 26 = .ok (.iastore, 1) := by decide +kernel
theorem dX7_takeAsBest_27 : decode cX7_takeAsBest 27 = .ok (.iinc 1 1, 3) := by decide +kernel
theorem dX7_takeAsBest_30 : decode cX7_takeAsBest 30 = .ok (.goto (-28), 3) := by decide +kernel
theorem dX7_takeAsBest_33 : decode cX7_takeAsBest 33 = .ok (.return_, 1) := by decide +kernel
theorem dX7_goOn_0 : decode cX7_goOn 0 = .ok (.aload_n 0, 1) := by decide +kernel
theorem dX7_goOn_1 : decode cX7_goOn 1 = .ok (.getfield 25, 3) := by decide +kernel
theorem dX7_goOn_4 : decode cX7_goOn 4 = .ok (.iconst 1, 1) := by decide +kernel
theorem dX7_goOn_5 : decode cX7_goOn 5 = .ok (.isub, 1) := by decide +kernel
theorem dX7_goOn_6 : decode cX7_goOn 6 = .ok (.istore_n 1, 1) := by decide +kernel
theorem dX7_goOn_7 : decode cX7_goOn 7 = .ok (.iload_n 1, 1) := by decide +kernel
