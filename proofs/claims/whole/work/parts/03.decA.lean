theorem dX0_init_0 : decode cX0_init 0 = .ok (.aload_n 0, 1) := by decide +kernel
theorem dX0_init_1 : decode cX0_init 1 = .ok (.invokespecial 3, 3) := by decide +kernel
theorem dX0_init_4 : decode cX0_init 4 = .ok (.aload_n 0, 1) := by decide +kernel
theorem dX0_init_5 : decode cX0_init 5 = .ok (.bipush 16, 2) := by decide +kernel
theorem dX0_init_7 : decode cX0_init 7 = .ok (.newarray .int, 2) := by decide +kernel
theorem dX0_init_9 : decode cX0_init 9 = .ok (.putfield 9, 3) := by decide +kernel
theorem dX0_init_12 : decode cX0_init 12 = .ok (.aload_n 0, 1) := by decide +kernel
theorem dX0_init_13 : decode cX0_init 13 = .ok (.bipush 16, 2) := by decide +kernel
theorem dX0_init_15 : decode cX0_init 15 = .ok (.newarray .int, 2) := by decide +kernel
theorem dX0_init_17 : decode cX0_init 17 = .ok (.putfield 15, 3) := by decide +kernel
theorem dX0_init_20 : decode cX0_init 20 = .ok (.aload_n 0, 1) := by decide +kernel
theorem dX0_init_21 : decode cX0_init 21 = .ok (.bipush 16, 2) := by decide +kernel
theorem dX0_init_23 : decode cX0_init 23 = .ok (.newarray .int, 2) := by decide +kernel
theorem dX0_init_25 : decode cX0_init 25 = .ok (.putfield 18, 3) := by decide +kernel
theorem dX0_init_28 : decode cX0_init 28 = .ok (.aload_n 0, 1) := by decide +kernel
theorem dX0_init_29 : decode cX0_init 29 = .ok (.bipush 16, 2) := by decide +kernel
theorem dX0_init_31 : decode cX0_init 31 = .ok (.newarray .int, 2) := by decide +kernel
theorem dX0_init_33 : decode cX0_init 33 = .ok (.putfield 21, 3) := by decide +kernel
theorem dX0_init_36 : decode cX0_init 36 = .ok (.return_, 1) := by decide +kernel
theorem dX0_load_0 : decode cX0_load 0 = .ok (.aload_n 0, 1) := by decide +kernel
theorem dX0_load_1 : decode cX0_load 1 = .ok (.iload_n 2, 1) := by decide +kernel
theorem dX0_load_2 : decode cX0_load 2 = .ok (.putfield 24, 3) := by decide +kernel
theorem dX0_load_5 : decode cX0_load 5 = .ok (.aload_n 0, 1) := by decide +kernel
theorem dX0_load_6 : decode cX0_load 6 = .ok (.aload_n 1, 1) := by decide +kernel
theorem dX0_load_7 : decode cX0_load 7 = .ok (.iload_n 2, 1) := by decide +kernel
theorem dX0_load_8 : decode cX0_load 8 = .ok (.invokevirtual 28, 3) := by decide +kernel
theorem dX0_load_11 : decode cX0_load 11 = .ok (.putfield 34, 3) := by decide +kernel
theorem dX0_load_14 : decode cX0_load 14 = .ok (.iconst 0, 1) := by decide +kernel
theorem dX0_load_15 : decode cX0_load 15 = .ok (.istore_n 3, 1) := by decide +kernel
theorem dX0_load_16 : decode cX0_load 16 = .ok (.iload_n 3, 1) := by decide +kernel
theorem dX0_load_17 : decode cX0_load 17 = .ok (.aload_n 0, 1) := by decide +kernel
theorem dX0_load_18 : decode cX0_load 18 = .ok (.getfield 34, 3) := by decide +kernel
theorem dX0_load_21 : decode cX0_load 21 = .ok (.if_icmp .ge 27, 3) := by decide +kernel
theorem dX0_load_24 : decode cX0_load 24 = .ok (.iload_n 3, 1) := by decide +kernel
theorem dX0_load_25 : decode cX0_load 25 = .ok (.bipush 16, 2) := by decide +kernel
theorem dX0_load_27 : decode cX0_load 27 = .ok (.if_icmp .ge 21, 3) := by decide +kernel
theorem dX0_load_30 : decode cX0_load 30 = .ok (.aload_n 0, 1) := by decide +kernel
theorem dX0_load_31 : decode cX0_load 31 = .ok (.getfield 9, 3) := by decide +kernel
theorem dX0_load_34 : decode cX0_load 34 = .ok (.iload_n 3, 1) := by decide +kernel
theorem dX0_load_35 : decode cX0_load 35 = .ok (.aload_n 1, 1) := by decide +kernel
theorem dX0_load_36 : decode cX0_load 36 = .ok (.iload_n 2, 1) := by decide +kernel
theorem dX0_load_37 : decode cX0_load 37 = .ok (.iload_n 3, 1) := by decide +kernel
theorem dX0_load_38 : decode cX0_load 38 = .ok (.invokevirtual 37, 3) := by decide +kernel
theorem dX0_load_41 : decode cX0_load 41 = .ok (.iastore, 1) := by decide +kernel
theorem dX0_load_42 : decode cX0_load 42 = .ok (.iinc 3 1, 3) := by decide +kernel
theorem dX0_load_45 : decode cX0_load 45 = .ok (.goto (-29), 3) := by decide +kernel
theorem dX0_load_48 : decode cX0_load 48 = .ok (.return_, 1) := by decide +kernel
theorem dX0_keep_0 : decode cX0_keep 0 = .ok (.aload_n 1, 1) := by decide +kernel
theorem dX0_keep_1 : decode cX0_keep 1 = .ok (.aload_n 0, 1) := by decide +kernel
theorem dX0_keep_2 : decode cX0_keep 2 = .ok (.getfield 24, 3) := by decide +kernel
theorem dX0_keep_5 : decode cX0_keep 5 = .ok (.invokevirtual 41, 3) := by decide +kernel
theorem dX0_keep_8 : decode cX0_keep 8 = .ok (.iconst 0, 1) := by decide +kernel
theorem dX0_keep_9 : decode cX0_keep 9 = .ok (.istore_n 2, 1) := by decide +kernel
theorem dX0_keep_10 : decode cX0_keep 10 = .ok (.iload_n 2, 1) := by decide +kernel
theorem dX0_keep_11 : decode cX0_keep 11 = .ok (.aload_n 0, 1) := by decide +kernel
theorem dX0_keep_12 : decode cX0_keep 12 = .ok (.getfield 34, 3) := by decide +kernel
theorem dX0_keep_15 : decode cX0_keep 15 = .ok (.if_icmp .ge 29, 3) := by decide +kernel
theorem dX0_keep_18 : decode cX0_keep 18 = .ok (.iload_n 2, 1) := by decide +kernel
theorem dX0_keep_19 : decode cX0_keep 19 = .ok (.bipush 16, 2) := by decide +kernel
theorem dX0_keep_21 : decode cX0_keep 21 = .ok (.if_icmp .ge 23, 3) := by decide +kernel
theorem dX0_keep_24 : decode cX0_keep 24 = .ok (.aload_n 1, 1) := by decide +kernel
theorem dX0_keep_25 : decode cX0_keep 25 = .ok (.aload_n 0, 1) := by decide +kernel
theorem dX0_keep_26 : decode cX0_keep 26 = .ok (.getfield 24, 3) := by decide +kernel
theorem dX0_keep_29 : decode cX0_keep 29 = .ok (.aload_n 0, 1) := by decide +kernel
theorem dX0_keep_30 : decode cX0_keep 30 = .ok (.getfield 9, 3) := by decide +kernel
theorem dX0_keep_33 : decode cX0_keep 33 = .ok (.iload_n 2, 1) := by decide +kernel
theorem dX0_keep_34 : decode cX0_keep 34 = .ok (.iaload, 1) := by decide +kernel
theorem dX0_keep_35 : decode cX0_keep 35 = .ok (.invokevirtual 45, 3) := by decide +kernel
theorem dX0_keep_38 : decode cX0_keep 38 = .ok (.iinc 2 1, 3) := by decide +kernel
theorem dX0_keep_41 : decode cX0_keep 41 = .ok (.goto (-31), 3) := by decide +kernel
theorem dX0_keep_44 : decode cX0_keep 44 = .ok (.return_, 1) := by decide +kernel
theorem dX0_insert_0 : decode cX0_insert 0 = .ok (.iload_n 1, 1) := by decide +kernel
theorem dX0_insert_1 : decode cX0_insert 1 = .ok (.ifCond .lt 20, 3) := by decide +kernel
theorem dX0_insert_4 : decode cX0_insert 4 = .ok (.iload_n 1, 1) := by decide +kernel
theorem dX0_insert_5 : decode cX0_insert 5 = .ok (.aload_n 0, 1) := by decide +kernel
theorem dX0_insert_6 : decode cX0_insert 6 = .ok (.getfield 34, 3) := by decide +kernel
theorem dX0_insert_9 : decode cX0_insert 9 = .ok (.if_icmp .gt 12, 3) := by decide +kernel
theorem dX0_insert_12 : decode cX0_insert 12 = .ok (.aload_n 0, 1) := by decide +kernel
theorem dX0_insert_13 : decode cX0_insert 13 = .ok (.getfield 34, 3) := by decide +kernel
theorem dX0_insert_16 : decode cX0_insert 16 = .ok (.bipush 16, 2) := by decide +kernel
theorem dX0_insert_18 : decode cX0_insert 18 = .ok (.if_icmp .lt 4, 3) := by decide +kernel
theorem dX0_insert_21 : decode cX0_insert 21 = .ok (.return_, 1) := by decide +kernel
theorem dX0_insert_22 : decode cX0_insert 22 = .ok (.aload_n 0, 1) := by decide +kernel
theorem dX0_insert_23 : decode cX0_insert 23 = .ok (.getfield 34, 3) := by decide +kernel
theorem dX0_insert_26 : decode cX0_insert 26 = .ok (.istore_n 3, 1) := by decide +kernel
theorem dX0_insert_27 : decode cX0_insert 27 = .ok (.iload_n 3, 1) := by decide +kernel
theorem dX0_insert_28 : decode cX0_insert 28 = .ok (.iload_n 1, 1) := by decide +kernel
theorem dX0_insert_29 : decode cX0_insert 29 = .ok (.if_icmp .le 23, 3) := by decide +kernel
theorem dX0_insert_32 : decode cX0_insert 32 = .ok (.aload_n 0, 1) := by decide +kernel
theorem dX0_insert_33 : decode cX0_insert 33 = .ok (.getfield 9, 3) := by decide +kernel
theorem dX0_insert_36 : decode cX0_insert 36 = .ok (.iload_n 3, 1) := by decide +kernel
theorem dX0_insert_37 : decode cX0_insert 37 = .ok (.aload_n 0, 1) := by decide +kernel
theorem dX0_insert_38 : decode cX0_insert 38 = .ok (.getfield 9, 3) := by decide +kernel
theorem dX0_insert_41 : decode cX0_insert 41 = .ok (.iload_n 3, 1) := by decide +kernel
theorem dX0_insert_42 : decode cX0_insert 42 = .ok (.iconst 1, 1) := by decide +kernel
theorem dX0_insert_43 : decode cX0_insert 43 = .ok (.isub, 1) := by decide +kernel
theorem dX0_insert_44 : decode cX0_insert 44 = .ok (.iaload, 1) := by decide +kernel
theorem dX0_insert_45 : decode cX0_insert 45 = .ok (.iastore, 1) := by decide +kernel
theorem dX0_insert_46 : decode cX0_insert 46 = .ok (.iinc 3 (-1), 3) := by decide +kernel
theorem dX0_insert_49 : decode cX0_insert 49 = .ok (.goto (-22), 3) := by decide +kernel
theorem dX0_insert_52 : decode cX0_insert 52 = .ok (.aload_n 0, 1) := by decide +kernel
theorem dX0_insert_53 : decode cX0_insert 53 = .ok (.getfield 9, 3) := by decide +kernel
theorem dX0_insert_56 : decode cX0_insert 56 = .ok (.iload_n 1, 1) := by decide +kernel
theorem dX0_insert_57 : decode cX0_insert 57 = .ok (.iload_n 2, 1) := by decide +kernel
theorem dX0_insert_58 : decode cX0_insert 58 = .ok (.iastore, 1) := by decide +kernel
theorem dX0_insert_59 : decode cX0_insert 59 = .ok (.aload_n 0, 1) := by decide +kernel
theorem dX0_insert_60 : decode cX0_insert 60 = .ok (.dup, 1) := by decide +kernel
theorem dX0_insert_61 : decode cX0_insert 61 = .ok (.getfield 34, 3) := by decide +kernel
theorem dX0_insert_64 : decode cX0_insert 64 = .ok (.iconst 1, 1) := by decide +kernel
theorem dX0_insert_65 : decode cX0_insert 65 = .ok (.iadd, 1) := by decide +kernel
theorem dX0_insert_66 : decode cX0_insert 66 = .ok (.putfield 34, 3) := by decide +kernel
theorem dX0_insert_69 : decode cX0_insert 69 = .ok (.return_, 1) := by decide +kernel
theorem dX0_drop_0 : decode cX0_drop 0 = .ok (.iload_n 1, 1) := by decide +kernel
theorem dX0_drop_1 : decode cX0_drop 1 = .ok (.ifCond .lt 20, 3) := by decide +kernel
theorem dX0_drop_4 : decode cX0_drop 4 = .ok (.iload_n 1, 1) := by decide +kernel
theorem dX0_drop_5 : decode cX0_drop 5 = .ok (.aload_n 0, 1) := by decide +kernel
theorem dX0_drop_6 : decode cX0_drop 6 = .ok (.getfield 34, 3) := by decide +kernel
theorem dX0_drop_9 : decode cX0_drop 9 = .ok (.if_icmp .ge 12, 3) := by decide +kernel
theorem dX0_drop_12 : decode cX0_drop 12 = .ok (.aload_n 0, 1) := by decide +kernel
theorem dX0_drop_13 : decode cX0_drop 13 = .ok (.getfield 34, 3) := by decide +kernel
theorem dX0_drop_16 : decode cX0_drop 16 = .ok (.bipush 16, 2) := by decide +kernel
theorem dX0_drop_18 : decode cX0_drop 18 = .ok (.if_icmp .le 4, 3) := by decide +kernel
theorem dX0_drop_21 : decode cX0_drop 21 = .ok (.return_, 1) := by decide +kernel
theorem dX0_drop_22 : decode cX0_drop 22 = .ok (.iload_n 1, 1) := by decide +kernel
theorem dX0_drop_23 : decode cX0_drop 23 = .ok (.istore_n 2, 1) := by decide +kernel
theorem dX0_drop_24 : decode cX0_drop 24 = .ok (.iload_n 2, 1) := by decide +kernel
theorem dX0_drop_25 : decode cX0_drop 25 = .ok (.aload_n 0, 1) := by decide +kernel
theorem dX0_drop_26 : decode cX0_drop 26 = .ok (.getfield 34, 3) := by decide +kernel
theorem dX0_drop_29 : decode cX0_drop 29 = .ok (.iconst 1, 1) := by decide +kernel
theorem dX0_drop_30 : decode cX0_drop 30 = .ok (.isub, 1) := by decide +kernel
theorem dX0_drop_31 : decode cX0_drop 31 = .ok (.if_icmp .ge 23, 3) := by decide +kernel
theorem dX0_drop_34 : decode cX0_drop 34 = .ok (.aload_n 0, 1) := by decide +kernel
theorem dX0_drop_35 : decode cX0_drop 35 = .ok (.getfield 9, 3) := by decide +kernel
theorem dX0_drop_38 : decode cX0_drop 38 = .ok (.iload_n 2, 1) := by decide +kernel
theorem dX0_drop_39 : decode cX0_drop 39 = .ok (.aload_n 0, 1) := by decide +kernel
theorem dX0_drop_40 : decode cX0_drop 40 = .ok (.getfield 9, 3) := by decide +kernel
theorem dX0_drop_43 : decode cX0_drop 43 = .ok (.iload_n 2, 1) := by decide +kernel
theorem dX0_drop_44 : decode cX0_drop 44 = .ok (.iconst 1, 1) := by decide +kernel
theorem dX0_drop_45 : decode cX0_drop 45 = .ok (.iadd, 1) := by decide +kernel
theorem dX0_drop_46 : decode cX0_drop 46 = .ok (.iaload, 1) := by decide +kernel
theorem dX0_drop_47 : decode cX0_drop 47 = .ok (.iastore, 1) := by decide +kernel
theorem dX0_drop_48 : decode cX0_drop 48 = .ok (.iinc 2 1, 3) := by decide +kernel
theorem dX0_drop_51 : decode cX0_drop 51 = .ok (.goto (-27), 3) := by decide +kernel
theorem dX0_drop_54 : decode cX0_drop 54 = .ok (.aload_n 0, 1) := by decide +kernel
theorem dX0_drop_55 : decode cX0_drop 55 = .ok (.dup, 1) := by decide +kernel
theorem dX0_drop_56 : decode cX0_drop 56 = .ok (.getfield 34, 3) := by decide +kernel
theorem dX0_drop_59 : decode cX0_drop 59 = .ok (.iconst 1, 1) := by decide +kernel
theorem dX0_drop_60 : decode cX0_drop 60 = .ok (.isub, 1) := by decide +kernel
theorem dX0_drop_61 : decode cX0_drop 61 = .ok (.putfield 34, 3) := by decide +kernel
theorem dX0_drop_64 : decode cX0_drop 64 = .ok (.return_, 1) := by decide +kernel
theorem dX0_dropUnlocked_0 : decode cX0_dropUnlocked 0 = .ok (.aload_n 0, 1) := by decide +kernel
theorem dX0_dropUnlocked_1 : decode cX0_dropUnlocked 1 = .ok (.getfield 34, 3) := by decide +kernel
theorem dX0_dropUnlocked_4 : decode cX0_dropUnlocked 4 = .ok (.iconst 1, 1) := by decide +kernel
theorem dX0_dropUnlocked_5 : decode cX0_dropUnlocked 5 = .ok (.isub, 1) := by decide +kernel
theorem dX0_dropUnlocked_6 : decode cX0_dropUnlocked 6 = .ok (.istore_n 2, 1) := by decide +kernel
theorem dX0_dropUnlocked_7 : decode cX0_dropUnlocked 7 = .ok (.iload_n 2, 1) := by decide +kernel
theorem dX0_dropUnlocked_8 : decode cX0_dropUnlocked 8 = .ok (.ifCond .lt 26, 3) := by decide +kernel
theorem dX0_dropUnlocked_11 : decode cX0_dropUnlocked 11 = .ok (.aload_n 1, 1) := by decide +kernel
theorem dX0_dropUnlocked_12 : decode cX0_dropUnlocked 12 = .ok (.aload_n 0, 1) := by decide +kernel
theorem dX0_dropUnlocked_13 : decode cX0_dropUnlocked 13 = .ok (.iload_n 2, 1) := by decide +kernel
theorem dX0_dropUnlocked_14 : decode cX0_dropUnlocked 14 = .ok (.invokevirtual 49, 3) := by decide +kernel
theorem dX0_dropUnlocked_17 : decode cX0_dropUnlocked 17 = .ok (.invokevirtual 52, 3) := by decide +kernel
theorem dX0_dropUnlocked_20 : decode cX0_dropUnlocked 20 = .ok (.ifCond .ne 8, 3) := by decide +kernel
theorem dX0_dropUnlocked_23 : decode cX0_dropUnlocked 23 = .ok (.aload_n 0, 1) := by decide +kernel
theorem dX0_dropUnlocked_24 : decode cX0_dropUnlocked 24 = .ok (.iload_n 2, 1) := by decide +kernel
theorem dX0_dropUnlocked_25 : decode cX0_dropUnlocked 25 = .ok (.invokevirtual 56, 3) := by decide +kernel
theorem dX0_dropUnlocked_28 : decode cX0_dropUnlocked 28 = .ok (.iinc 2 (-1), 3) := by decide +kernel
theorem dX0_dropUnlocked_31 : decode cX0_dropUnlocked 31 = .ok (.goto (-24), 3) := by decide +kernel
theorem dX0_dropUnlocked_34 : decode cX0_dropUnlocked 34 = .ok (.return_, 1) := by decide +kernel
theorem dX0_replace_0 : decode cX0_replace 0 = .ok (.iload_n 1, 1) := by decide +kernel
theorem dX0_replace_1 : decode cX0_replace 1 = .ok (.ifCond .lt 19, 3) := by decide +kernel
theorem dX0_replace_4 : decode cX0_replace 4 = .ok (.iload_n 1, 1) := by decide +kernel
theorem dX0_replace_5 : decode cX0_replace 5 = .ok (.aload_n 0, 1) := by decide +kernel
theorem dX0_replace_6 : decode cX0_replace 6 = .ok (.getfield 9, 3) := by decide +kernel
theorem dX0_replace_9 : decode cX0_replace 9 = .ok (.arraylength, 1) := by decide +kernel
theorem dX0_replace_10 : decode cX0_replace 10 = .ok (.if_icmp .ge 10, 3) := by decide +kernel
theorem dX0_replace_13 : decode cX0_replace 13 = .ok (.aload_n 0, 1) := by decide +kernel
theorem dX0_replace_14 : decode cX0_replace 14 = .ok (.getfield 9, 3) := by decide +kernel
theorem dX0_replace_17 : decode cX0_replace 17 = .ok (.iload_n 1, 1) := by decide +kernel
theorem dX0_replace_18 : decode cX0_replace 18 = .ok (.iload_n 2, 1) := by decide +kernel
theorem dX0_replace_19 : decode cX0_replace 19 = .ok (.iastore, 1) := by decide +kernel
theorem dX0_replace_20 : decode cX0_replace 20 = .ok (.return_, 1) := by decide +kernel
theorem dX0_reverse_0 : decode cX0_reverse 0 = .ok (.iload_n 1, 1) := by decide +kernel
theorem dX0_reverse_1 : decode cX0_reverse 1 = .ok (.ifCond .lt 12, 3) := by decide +kernel
theorem dX0_reverse_4 : decode cX0_reverse 4 = .ok (.iload_n 2, 1) := by decide +kernel
theorem dX0_reverse_5 : decode cX0_reverse 5 = .ok (.aload_n 0, 1) := by decide +kernel
theorem dX0_reverse_6 : decode cX0_reverse 6 = .ok (.getfield 9, 3) := by decide +kernel
theorem dX0_reverse_9 : decode cX0_reverse 9 = .ok (.arraylength, 1) := by decide +kernel
theorem dX0_reverse_10 : decode cX0_reverse 10 = .ok (.if_icmp .lt 4, 3) := by decide +kernel
theorem dX0_reverse_13 : decode cX0_reverse 13 = .ok (.return_, 1) := by decide +kernel
theorem dX0_reverse_14 : decode cX0_reverse 14 = .ok (.iload_n 1, 1) := by decide +kernel
theorem dX0_reverse_15 : decode cX0_reverse 15 = .ok (.istore_n 3, 1) := by decide +kernel
theorem dX0_reverse_16 : decode cX0_reverse 16 = .ok (.iload_n 2, 1) := by decide +kernel
theorem dX0_reverse_17 : decode cX0_reverse 17 = .ok (.istore 4, 2) := by decide +kernel
theorem dX0_reverse_19 : decode cX0_reverse 19 = .ok (.iload_n 3, 1) := by decide +kernel
theorem dX0_reverse_20 : decode cX0_reverse 20 = .ok (.iload 4, 2) := by decide +kernel
theorem dX0_reverse_22 : decode cX0_reverse 22 = .ok (.if_icmp .ge 42, 3) := by decide +kernel
theorem dX0_reverse_25 : decode cX0_reverse 25 = .ok (.aload_n 0, 1) := by decide +kernel
theorem dX0_reverse_26 : decode cX0_reverse 26 = .ok (.getfield 9, 3) := by decide +kernel
theorem dX0_reverse_29 : decode cX0_reverse 29 = .ok (.iload_n 3, 1) := by decide +kernel
theorem dX0_reverse_30 : decode cX0_reverse 30 = .ok (.iaload, 1) := by decide +kernel
theorem dX0_reverse_31 : decode cX0_reverse 31 = .ok (.istore 5, 2) := by decide +kernel
theorem dX0_reverse_33 : decode cX0_reverse 33 = .ok (.aload_n 0, 1) := by decide +kernel
theorem dX0_reverse_34 : decode cX0_reverse 34 = .ok (.getfield 9, 3) := by decide +kernel
theorem dX0_reverse_37 : decode cX0_reverse 37 = .ok (.iload_n 3, 1) := by decide +kernel
theorem dX0_reverse_38 : decode cX0_reverse 38 = .ok (.aload_n 0, 1) := by decide +kernel
theorem dX0_reverse_39 : decode cX0_reverse 39 = .ok (.getfield 9, 3) := by decide +kernel
theorem dX0_reverse_42 : decode cX0_reverse 42 = .ok (.iload 4, 2) := by decide +kernel
theorem dX0_reverse_44 : decode cX0_reverse 44 = .ok (.iaload, 1) := by decide +kernel
theorem dX0_reverse_45 : decode cX0_reverse 45 = .ok (.iastore, 1) := by decide +kernel
theorem dX0_reverse_46 : decode cX0_reverse 46 = .ok (.aload_n 0, 1) := by decide +kernel
theorem dX0_reverse_47 : decode cX0_reverse 47 = .ok (.getfield 9, 3) := by decide +kernel
theorem dX0_reverse_50 : decode cX0_reverse 50 = .ok (.iload 4, 2) := by decide +kernel
theorem dX0_reverse_52 : decode cX0_reverse 52 = .ok (.iload 5, 2) := by decide +kernel
theorem dX0_reverse_54 : decode cX0_reverse 54 = .ok (.iastore, 1) := by decide +kernel
theorem dX0_reverse_55 : decode cX0_reverse 55 = .ok (.iinc 3 1, 3) := by decide +kernel
theorem dX0_reverse_58 : decode cX0_reverse 58 = .ok (.iinc 4 (-1), 3) := by decide +kernel
theorem dX0_reverse_61 : decode cX0_reverse 61 = .ok (.goto (-42), 3) := by decide +kernel
theorem dX0_reverse_64 : decode cX0_reverse 64 = .ok (.return_, 1) := by decide +kernel
theorem dX0_follow_0 : decode cX0_follow 0 = .ok (.aload_n 1, 1) := by decide +kernel
theorem dX0_follow_1 : decode cX0_follow 1 = .ok (.aload_n 0, 1) := by decide +kernel
theorem dX0_follow_2 : decode cX0_follow 2 = .ok (.getfield 24, 3) := by decide +kernel
theorem dX0_follow_5 : decode cX0_follow 5 = .ok (.iconst 1, 1) := by decide +kernel
theorem dX0_follow_6 : decode cX0_follow 6 = .ok (.invokevirtual 59, 3) := by decide +kernel
theorem dX0_follow_9 : decode cX0_follow 9 = .ok (.iload_n 2, 1) := by decide +kernel
theorem dX0_follow_10 : decode cX0_follow 10 = .ok (.iadd, 1) := by decide +kernel
theorem dX0_follow_11 : decode cX0_follow 11 = .ok (.istore_n 3, 1) := by decide +kernel
theorem dX0_follow_12 : decode cX0_follow 12 = .ok (.bipush 16, 2) := by decide +kernel
theorem dX0_follow_14 : decode cX0_follow 14 = .ok (.istore 4, 2) := by decide +kernel
theorem dX0_follow_16 : decode cX0_follow 16 = .ok (.aload_n 0, 1) := by decide +kernel
theorem dX0_follow_17 : decode cX0_follow 17 = .ok (.iconst 0, 1) := by decide +kernel
theorem dX0_follow_18 : decode cX0_follow 18 = .ok (.putfield 62, 3) := by decide +kernel
theorem dX0_follow_21 : decode cX0_follow 21 = .ok (.aload_n 0, 1) := by decide +kernel
theorem dX0_follow_22 : decode cX0_follow 22 = .ok (.iconst 0, 1) := by decide +kernel
theorem dX0_follow_23 : decode cX0_follow 23 = .ok (.putfield 65, 3) := by decide +kernel
theorem dX0_follow_26 : decode cX0_follow 26 = .ok (.aload_n 0, 1) := by decide +kernel
theorem dX0_follow_27 : decode cX0_follow 27 = .ok (.iconst 0, 1) := by decide +kernel
theorem dX0_follow_28 : decode cX0_follow 28 = .ok (.putfield 68, 3) := by decide +kernel
theorem dX0_follow_31 : decode cX0_follow 31 = .ok (.aload_n 0, 1) := by decide +kernel
theorem dX0_follow_32 : decode cX0_follow 32 = .ok (.bipush (-5), 2) := by decide +kernel
theorem dX0_follow_34 : decode cX0_follow 34 = .ok (.putfield 71, 3) := by decide +kernel
theorem dX0_follow_37 : decode cX0_follow 37 = .ok (.iconst 0, 1) := by decide +kernel
theorem dX0_follow_38 : decode cX0_follow 38 = .ok (.istore 5, 2) := by decide +kernel
theorem dX0_follow_40 : decode cX0_follow 40 = .ok (.iload 5, 2) := by decide +kernel
theorem dX0_follow_42 : decode cX0_follow 42 = .ok (.aload_n 0, 1) := by decide +kernel
theorem dX0_follow_43 : decode cX0_follow 43 = .ok (.getfield 34, 3) := by decide +kernel
theorem dX0_follow_46 : decode cX0_follow 46 = .ok (.if_icmp .ge 194, 3) := by decide +kernel
theorem dX0_follow_49 : decode cX0_follow 49 = .ok (.iload 5, 2) := by decide +kernel
theorem dX0_follow_51 : decode cX0_follow 51 = .ok (.bipush 16, 2) := by decide +kernel
theorem dX0_follow_53 : decode cX0_follow 53 = .ok (.if_icmp .ge 187, 3) := by decide +kernel
theorem dX0_follow_56 : decode cX0_follow 56 = .ok (.aload_n 0, 1) := by decide +kernel
theorem dX0_follow_57 : decode cX0_follow 57 = .ok (.getfield 71, 3) := by decide +kernel
theorem dX0_follow_60 : decode cX0_follow 60 = .ok (.bipush (-5), 2) := by decide +kernel
theorem dX0_follow_62 : decode cX0_follow 62 = .ok (.if_icmp .ne 178, 3) := by decide +kernel
theorem dX0_follow_65 : decode cX0_follow 65 = .ok (.aload_n 0, 1) := by decide +kernel
theorem dX0_follow_66 : decode cX0_follow 66 = .ok (.getfield 9, 3) := by decide +kernel
theorem dX0_follow_69 : decode cX0_follow 69 = .ok (.iload 5, 2) := by decide +kernel
theorem dX0_follow_71 : decode cX0_follow 71 = .ok (.iaload, 1) := by decide +kernel
theorem dX0_follow_72 : decode cX0_follow 72 = .ok (.istore 6, 2) := by decide +kernel
theorem dX0_follow_74 : decode cX0_follow 74 = .ok (.aload_n 1, 1) := by decide +kernel
theorem dX0_follow_75 : decode cX0_follow 75 = .ok (.iload 4, 2) := by decide +kernel
theorem dX0_follow_77 : decode cX0_follow 77 = .ok (.iload 6, 2) := by decide +kernel
theorem dX0_follow_79 : decode cX0_follow 79 = .ok (.invokevirtual 74, 3) := by decide +kernel
theorem dX0_follow_82 : decode cX0_follow 82 = .ok (.istore 7, 2) := by decide +kernel
theorem dX0_follow_84 : decode cX0_follow 84 = .ok (.aload_n 1, 1) := by decide +kernel
theorem dX0_follow_85 : decode cX0_follow 85 = .ok (.iload 6, 2) := by decide +kernel
theorem dX0_follow_87 : decode cX0_follow 87 = .ok (.iconst 3, 1) := by decide +kernel
theorem dX0_follow_88 : decode cX0_follow 88 = .ok (.invokevirtual 77, 3) := by decide +kernel
theorem dX0_follow_91 : decode cX0_follow 91 = .ok (.istore 8, 2) := by decide +kernel
theorem dX0_follow_93 : decode cX0_follow 93 = .ok (.aload_n 0, 1) := by decide +kernel
theorem dX0_follow_94 : decode cX0_follow 94 = .ok (.getfield 15, 3) := by decide +kernel
theorem dX0_follow_97 : decode cX0_follow 97 = .ok (.iload 5, 2) := by decide +kernel
theorem dX0_follow_99 : decode cX0_follow 99 = .ok (.iload_n 3, 1) := by decide +kernel
theorem dX0_follow_100 : decode cX0_follow 100 = .ok (.iload 7, 2) := by decide +kernel
theorem dX0_follow_102 : decode cX0_follow 102 = .ok (.iadd, 1) := by decide +kernel
theorem dX0_follow_103 : decode cX0_follow 103 = .ok (.iastore, 1) := by decide +kernel
theorem dX0_follow_104 : decode cX0_follow 104 = .ok (.aload_n 0, 1) := by decide +kernel
theorem dX0_follow_105 : decode cX0_follow 105 = .ok (.getfield 18, 3) := by decide +kernel
theorem dX0_follow_108 : decode cX0_follow 108 = .ok (.iload 5, 2) := by decide +kernel
theorem dX0_follow_110 : decode cX0_follow 110 = .ok (.aload_n 0, 1) := by decide +kernel
theorem dX0_follow_111 : decode cX0_follow 111 = .ok (.getfield 15, 3) := by decide +kernel
theorem dX0_follow_114 : decode cX0_follow 114 = .ok (.iload 5, 2) := by decide +kernel
theorem dX0_follow_116 : decode cX0_follow 116 = .ok (.iaload, 1) := by decide +kernel
theorem dX0_follow_117 : decode cX0_follow 117 = .ok (.iload 8, 2) := by decide +kernel
theorem dX0_follow_119 : decode cX0_follow 119 = .ok (.if_icmp .ge 8, 3) := by decide +kernel
theorem dX0_follow_122 : decode cX0_follow 122 = .ok (.iload 8, 2) := by decide +kernel
theorem dX0_follow_124 : decode cX0_follow 124 = .ok (.goto 10, 3) := by decide +kernel
theorem dX0_follow_127 : decode cX0_follow 127 = .ok (.aload_n 0, 1) := by decide +kernel
theorem dX0_follow_128 : decode cX0_follow 128 = .ok (.getfield 15, 3) := by decide +kernel
theorem dX0_follow_131 : decode cX0_follow 131 = .ok (.iload 5, 2) := by decide +kernel
theorem dX0_follow_133 : decode cX0_follow 133 = .ok (.iaload, 1) := by decide +kernel
theorem dX0_follow_134 : decode cX0_follow 134 = .ok (.iastore, 1) := by decide +kernel
theorem dX0_follow_135 : decode cX0_follow 135 = .ok (.aload_n 0, 1) := by decide +kernel
theorem dX0_follow_136 : decode cX0_follow 136 = .ok (.aload_n 0, 1) := by decide +kernel
theorem dX0_follow_137 : decode cX0_follow 137 = .ok (.getfield 18, 3) := by decide +kernel
theorem dX0_follow_140 : decode cX0_follow 140 = .ok (.iload 5, 2) := by decide +kernel
theorem dX0_follow_142 : decode cX0_follow 142 = .ok (.iaload, 1) := by decide +kernel
theorem dX0_follow_143 : decode cX0_follow 143 = .ok (.aload_n 1, 1) := by decide +kernel
theorem dX0_follow_144 : decode cX0_follow 144 = .ok (.iload 6, 2) := by decide +kernel
theorem dX0_follow_146 : decode cX0_follow 146 = .ok (.iconst 4, 1) := by decide +kernel
theorem dX0_follow_147 : decode cX0_follow 147 = .ok (.invokevirtual 77, 3) := by decide +kernel
theorem dX0_follow_150 : decode cX0_follow 150 = .ok (.if_icmp .le 8, 3) := by decide +kernel
theorem dX0_follow_153 : decode cX0_follow 153 = .ok (.iload 5, 2) := by decide +kernel
theorem dX0_follow_155 : decode cX0_follow 155 = .ok (.goto 5, 3) := by decide +kernel
theorem dX0_follow_158 : decode cX0_follow 158 = .ok (.bipush (-5), 2) := by decide +kernel
theorem dX0_follow_160 : decode cX0_follow 160 = .ok (.putfield 71, 3) := by decide +kernel
theorem dX0_follow_163 : decode cX0_follow 163 = .ok (.aload_n 0, 1) := by decide +kernel
theorem dX0_follow_164 : decode cX0_follow 164 = .ok (.dup, 1) := by decide +kernel
theorem dX0_follow_165 : decode cX0_follow 165 = .ok (.getfield 65, 3) := by decide +kernel
theorem dX0_follow_168 : decode cX0_follow 168 = .ok (.iload 7, 2) := by decide +kernel
theorem dX0_follow_170 : decode cX0_follow 170 = .ok (.iadd, 1) := by decide +kernel
theorem dX0_follow_171 : decode cX0_follow 171 = .ok (.putfield 65, 3) := by decide +kernel
theorem dX0_follow_174 : decode cX0_follow 174 = .ok (.aload_n 0, 1) := by decide +kernel
theorem dX0_follow_175 : decode cX0_follow 175 = .ok (.dup, 1) := by decide +kernel
theorem dX0_follow_176 : decode cX0_follow 176 = .ok (.getfield 68, 3) := by decide +kernel
theorem dX0_follow_179 : decode cX0_follow 179 = .ok (.aload_n 0, 1) := by decide +kernel
theorem dX0_follow_180 : decode cX0_follow 180 = .ok (.getfield 18, 3) := by decide +kernel
theorem dX0_follow_183 : decode cX0_follow 183 = .ok (.iload 5, 2) := by decide +kernel
theorem dX0_follow_185 : decode cX0_follow 185 = .ok (.iaload, 1) := by decide +kernel
theorem dX0_follow_186 : decode cX0_follow 186 = .ok (.aload_n 0, 1) := by decide +kernel
theorem dX0_follow_187 : decode cX0_follow 187 = .ok (.getfield 15, 3) := by decide +kernel
theorem dX0_follow_190 : decode cX0_follow 190 = .ok (.iload 5, 2) := by decide +kernel
theorem dX0_follow_192 : decode cX0_follow 192 = .ok (.iaload, 1) := by decide +kernel
theorem dX0_follow_193 : decode cX0_follow 193 = .ok (.isub, 1) := by decide +kernel
theorem dX0_follow_194 : decode cX0_follow 194 = .ok (.iadd, 1) := by decide +kernel
theorem dX0_follow_195 : decode cX0_follow 195 = .ok (.putfield 68, 3) := by decide +kernel
theorem dX0_follow_198 : decode cX0_follow 198 = .ok (.aload_n 0, 1) := by decide +kernel
theorem dX0_follow_199 : decode cX0_follow 199 = .ok (.dup, 1) := by decide +kernel
theorem dX0_follow_200 : decode cX0_follow 200 = .ok (.getfield 62, 3) := by decide +kernel
theorem dX0_follow_203 : decode cX0_follow 203 = .ok (.aload_n 1, 1) := by decide +kernel
theorem dX0_follow_204 : decode cX0_follow 204 = .ok (.iload 6, 2) := by decide +kernel
theorem dX0_follow_206 : decode cX0_follow 206 = .ok (.iconst 2, 1) := by decide +kernel
theorem dX0_follow_207 : decode cX0_follow 207 = .ok (.invokevirtual 77, 3) := by decide +kernel
theorem dX0_follow_210 : decode cX0_follow 210 = .ok (.iadd, 1) := by decide +kernel
theorem dX0_follow_211 : decode cX0_follow 211 = .ok (.putfield 62, 3) := by decide +kernel
theorem dX0_follow_214 : decode cX0_follow 214 = .ok (.aload_n 0, 1) := by decide +kernel
theorem dX0_follow_215 : decode cX0_follow 215 = .ok (.getfield 18, 3) := by decide +kernel
theorem dX0_follow_218 : decode cX0_follow 218 = .ok (.iload 5, 2) := by decide +kernel
theorem dX0_follow_220 : decode cX0_follow 220 = .ok (.iaload, 1) := by decide +kernel
theorem dX0_follow_221 : decode cX0_follow 221 = .ok (.aload_n 1, 1) := by decide +kernel
theorem dX0_follow_222 : decode cX0_follow 222 = .ok (.iload 6, 2) := by decide +kernel
theorem dX0_follow_224 : decode cX0_follow 224 = .ok (.iconst 5, 1) := by decide +kernel
theorem dX0_follow_225 : decode cX0_follow 225 = .ok (.invokevirtual 77, 3) := by decide +kernel
theorem dX0_follow_228 : decode cX0_follow 228 = .ok (.iadd, 1) := by decide +kernel
theorem dX0_follow_229 : decode cX0_follow 229 = .ok (.istore_n 3, 1) := by decide +kernel
theorem dX0_follow_230 : decode cX0_follow 230 = .ok (.iload 6, 2) := by decide +kernel
theorem dX0_follow_232 : decode cX0_follow 232 = .ok (.istore 4, 2) := by decide +kernel
theorem dX0_follow_234 : decode cX0_follow 234 = .ok (.iinc 5 1, 3) := by decide +kernel
theorem dX0_follow_237 : decode cX0_follow 237 = .ok (.goto (-197), 3) := by decide +kernel
theorem dX0_follow_240 : decode cX0_follow 240 = .ok (.aload_n 1, 1) := by decide +kernel
theorem dX0_follow_241 : decode cX0_follow 241 = .ok (.iload 4, 2) := by decide +kernel
theorem dX0_follow_243 : decode cX0_follow 243 = .ok (.bipush 16, 2) := by decide +kernel
theorem dX0_follow_245 : decode cX0_follow 245 = .ok (.invokevirtual 74, 3) := by decide +kernel
theorem dX0_follow_248 : decode cX0_follow 248 = .ok (.istore 5, 2) := by decide +kernel
theorem dX0_follow_250 : decode cX0_follow 250 = .ok (.aload_n 0, 1) := by decide +kernel
theorem dX0_follow_251 : decode cX0_follow 251 = .ok (.dup, 1) := by decide +kernel
theorem dX0_follow_252 : decode cX0_follow 252 = .ok (.getfield 65, 3) := by decide +kernel
theorem dX0_follow_255 : decode cX0_follow 255 = .ok (.iload 5, 2) := by decide +kernel
theorem dX0_follow_257 : decode cX0_follow 257 = .ok (.iadd, 1) := by decide +kernel
theorem dX0_follow_258 : decode cX0_follow 258 = .ok (.putfield 65, 3) := by decide +kernel
theorem dX0_follow_261 : decode cX0_follow 261 = .ok (.aload_n 0, 1) := by decide +kernel
theorem dX0_follow_262 : decode cX0_follow 262 = .ok (.iload_n 3, 1) := by decide +kernel
theorem dX0_follow_263 : decode cX0_follow 263 = .ok (.iload 5, 2) := by decide +kernel
theorem dX0_follow_265 : decode cX0_follow 265 = .ok (.iadd, 1) := by decide +kernel
theorem dX0_follow_266 : decode cX0_follow 266 = .ok (.putfield 80, 3) := by decide +kernel
theorem dX0_follow_269 : decode cX0_follow 269 = .ok (.aload_n 0, 1) := by decide +kernel
theorem dX0_follow_270 : decode cX0_follow 270 = .ok (.getfield 34, 3) := by decide +kernel
theorem dX0_follow_273 : decode cX0_follow 273 = .ok (.ifCond .le 36, 3) := by decide +kernel
theorem dX0_follow_276 : decode cX0_follow 276 = .ok (.aload_n 0, 1) := by decide +kernel
theorem dX0_follow_277 : decode cX0_follow 277 = .ok (.getfield 71, 3) := by decide +kernel
theorem dX0_follow_280 : decode cX0_follow 280 = .ok (.bipush (-5), 2) := by decide +kernel
theorem dX0_follow_282 : decode cX0_follow 282 = .ok (.if_icmp .ne 27, 3) := by decide +kernel
theorem dX0_follow_285 : decode cX0_follow 285 = .ok (.aload_n 0, 1) := by decide +kernel
theorem dX0_follow_286 : decode cX0_follow 286 = .ok (.getfield 80, 3) := by decide +kernel
theorem dX0_follow_289 : decode cX0_follow 289 = .ok (.aload_n 1, 1) := by decide +kernel
theorem dX0_follow_290 : decode cX0_follow 290 = .ok (.aload_n 0, 1) := by decide +kernel
theorem dX0_follow_291 : decode cX0_follow 291 = .ok (.getfield 24, 3) := by decide +kernel
theorem dX0_follow_294 : decode cX0_follow 294 = .ok (.iconst 2, 1) := by decide +kernel
theorem dX0_follow_295 : decode cX0_follow 295 = .ok (.invokevirtual 59, 3) := by decide +kernel
theorem dX0_follow_298 : decode cX0_follow 298 = .ok (.if_icmp .le 11, 3) := by decide +kernel
theorem dX0_follow_301 : decode cX0_follow 301 = .ok (.aload_n 0, 1) := by decide +kernel
theorem dX0_follow_302 : decode cX0_follow 302 = .ok (.aload_n 0, 1) := by decide +kernel
theorem dX0_follow_303 : decode cX0_follow 303 = .ok (.getfield 34, 3) := by decide +kernel
theorem dX0_follow_306 : decode cX0_follow 306 = .ok (.putfield 71, 3) := by decide +kernel
theorem dX0_follow_309 : decode cX0_follow 309 = .ok (.aload_n 0, 1) := by decide +kernel
theorem dX0_follow_310 : decode cX0_follow 310 = .ok (.getfield 71, 3) := by decide +kernel
theorem dX0_follow_313 : decode cX0_follow 313 = .ok (.bipush (-5), 2) := by decide +kernel
theorem dX0_follow_315 : decode cX0_follow 315 = .ok (.if_icmp .ne 23, 3) := by decide +kernel
theorem dX0_follow_318 : decode cX0_follow 318 = .ok (.aload_n 0, 1) := by decide +kernel
theorem dX0_follow_319 : decode cX0_follow 319 = .ok (.getfield 62, 3) := by decide +kernel
theorem dX0_follow_322 : decode cX0_follow 322 = .ok (.aload_n 1, 1) := by decide +kernel
theorem dX0_follow_323 : decode cX0_follow 323 = .ok (.aload_n 0, 1) := by decide +kernel
theorem dX0_follow_324 : decode cX0_follow 324 = .ok (.getfield 24, 3) := by decide +kernel
theorem dX0_follow_327 : decode cX0_follow 327 = .ok (.iconst 0, 1) := by decide +kernel
theorem dX0_follow_328 : decode cX0_follow 328 = .ok (.invokevirtual 59, 3) := by decide +kernel
theorem dX0_follow_331 : decode cX0_follow 331 = .ok (.if_icmp .gt 7, 3) := by decide +kernel
theorem dX0_follow_334 : decode cX0_follow 334 = .ok (.iconst 1, 1) := by decide +kernel
theorem dX0_follow_335 : decode cX0_follow 335 = .ok (.goto 4, 3) := by decide +kernel
theorem dX0_follow_338 : decode cX0_follow 338 = .ok (.iconst 0, 1) := by decide +kernel
theorem dX0_follow_339 : decode cX0_follow 339 = .ok (.ireturn, 1) := by decide +kernel
theorem dX0_lookBack_0 : decode cX0_lookBack 0 = .ok (.aload_n 1, 1) := by decide +kernel
theorem dX0_lookBack_1 : decode cX0_lookBack 1 = .ok (.aload_n 0, 1) := by decide +kernel
theorem dX0_lookBack_2 : decode cX0_lookBack 2 = .ok (.getfield 24, 3) := by decide +kernel
theorem dX0_lookBack_5 : decode cX0_lookBack 5 = .ok (.iconst 2, 1) := by decide +kernel
theorem dX0_lookBack_6 : decode cX0_lookBack 6 = .ok (.invokevirtual 59, 3) := by decide +kernel
theorem dX0_lookBack_9 : decode cX0_lookBack 9 = .ok (.istore_n 2, 1) := by decide +kernel
theorem dX0_lookBack_10 : decode cX0_lookBack 10 = .ok (.bipush 16, 2) := by decide +kernel
theorem dX0_lookBack_12 : decode cX0_lookBack 12 = .ok (.istore_n 3, 1) := by decide +kernel
theorem dX0_lookBack_13 : decode cX0_lookBack 13 = .ok (.aload_n 0, 1) := by decide +kernel
theorem dX0_lookBack_14 : decode cX0_lookBack 14 = .ok (.getfield 34, 3) := by decide +kernel
theorem dX0_lookBack_17 : decode cX0_lookBack 17 = .ok (.iconst 1, 1) := by decide +kernel
theorem dX0_lookBack_18 : decode cX0_lookBack 18 = .ok (.isub, 1) := by decide +kernel
theorem dX0_lookBack_19 : decode cX0_lookBack 19 = .ok (.istore 4, 2) := by decide +kernel
theorem dX0_lookBack_21 : decode cX0_lookBack 21 = .ok (.iload 4, 2) := by decide +kernel
theorem dX0_lookBack_23 : decode cX0_lookBack 23 = .ok (.ifCond .lt 100, 3) := by decide +kernel
theorem dX0_lookBack_26 : decode cX0_lookBack 26 = .ok (.iload 4, 2) := by decide +kernel
theorem dX0_lookBack_28 : decode cX0_lookBack 28 = .ok (.bipush 16, 2) := by decide +kernel
theorem dX0_lookBack_30 : decode cX0_lookBack 30 = .ok (.if_icmp .ge 93, 3) := by decide +kernel
theorem dX0_lookBack_33 : decode cX0_lookBack 33 = .ok (.aload_n 0, 1) := by decide +kernel
theorem dX0_lookBack_34 : decode cX0_lookBack 34 = .ok (.getfield 9, 3) := by decide +kernel
theorem dX0_lookBack_37 : decode cX0_lookBack 37 = .ok (.iload 4, 2) := by decide +kernel
theorem dX0_lookBack_39 : decode cX0_lookBack 39 = .ok (.iaload, 1) := by decide +kernel
theorem dX0_lookBack_40 : decode cX0_lookBack 40 = .ok (.istore 5, 2) := by decide +kernel
theorem dX0_lookBack_42 : decode cX0_lookBack 42 = .ok (.iload_n 2, 1) := by decide +kernel
theorem dX0_lookBack_43 : decode cX0_lookBack 43 = .ok (.aload_n 1, 1) := by decide +kernel
theorem dX0_lookBack_44 : decode cX0_lookBack 44 = .ok (.iload 5, 2) := by decide +kernel
theorem dX0_lookBack_46 : decode cX0_lookBack 46 = .ok (.iload_n 3, 1) := by decide +kernel
theorem dX0_lookBack_47 : decode cX0_lookBack 47 = .ok (.invokevirtual 74, 3) := by decide +kernel
theorem dX0_lookBack_50 : decode cX0_lookBack 50 = .ok (.isub, 1) := by decide +kernel
theorem dX0_lookBack_51 : decode cX0_lookBack 51 = .ok (.aload_n 1, 1) := by decide +kernel
theorem dX0_lookBack_52 : decode cX0_lookBack 52 = .ok (.iload 5, 2) := by decide +kernel
theorem dX0_lookBack_54 : decode cX0_lookBack 54 = .ok (.iconst 5, 1) := by decide +kernel
theorem dX0_lookBack_55 : decode cX0_lookBack 55 = .ok (.invokevirtual 77, 3) := by decide +kernel
theorem dX0_lookBack_58 : decode cX0_lookBack 58 = .ok (.isub, 1) := by decide +kernel
theorem dX0_lookBack_59 : decode cX0_lookBack 59 = .ok (.istore 6, 2) := by decide +kernel
theorem dX0_lookBack_61 : decode cX0_lookBack 61 = .ok (.aload_n 1, 1) := by decide +kernel
theorem dX0_lookBack_62 : decode cX0_lookBack 62 = .ok (.iload 5, 2) := by decide +kernel
theorem dX0_lookBack_64 : decode cX0_lookBack 64 = .ok (.iconst 4, 1) := by decide +kernel
theorem dX0_lookBack_65 : decode cX0_lookBack 65 = .ok (.invokevirtual 77, 3) := by decide +kernel
theorem dX0_lookBack_68 : decode cX0_lookBack 68 = .ok (.istore 7, 2) := by decide +kernel
theorem dX0_lookBack_70 : decode cX0_lookBack 70 = .ok (.iload 7, 2) := by decide +kernel
theorem dX0_lookBack_72 : decode cX0_lookBack 72 = .ok (.iload 6, 2) := by decide +kernel
theorem dX0_lookBack_74 : decode cX0_lookBack 74 = .ok (.if_icmp .ge 8, 3) := by decide +kernel
theorem dX0_lookBack_77 : decode cX0_lookBack 77 = .ok (.iload 7, 2) := by decide +kernel
theorem dX0_lookBack_79 : decode cX0_lookBack 79 = .ok (.goto 5, 3) := by decide +kernel
theorem dX0_lookBack_82 : decode cX0_lookBack 82 = .ok (.iload 6, 2) := by decide +kernel
theorem dX0_lookBack_84 : decode cX0_lookBack 84 = .ok (.istore_n 2, 1) := by decide +kernel
theorem dX0_lookBack_85 : decode cX0_lookBack 85 = .ok (.aload_n 0, 1) := by decide +kernel
theorem dX0_lookBack_86 : decode cX0_lookBack 86 = .ok (.getfield 21, 3) := by decide +kernel
theorem dX0_lookBack_89 : decode cX0_lookBack 89 = .ok (.iload 4, 2) := by decide +kernel
theorem dX0_lookBack_91 : decode cX0_lookBack 91 = .ok (.iload_n 2, 1) := by decide +kernel
theorem dX0_lookBack_92 : decode cX0_lookBack 92 = .ok (.aload_n 0, 1) := by decide +kernel
theorem dX0_lookBack_93 : decode cX0_lookBack 93 = .ok (.getfield 18, 3) := by decide +kernel
theorem dX0_lookBack_96 : decode cX0_lookBack 96 = .ok (.iload 4, 2) := by decide +kernel
theorem dX0_lookBack_98 : decode cX0_lookBack 98 = .ok (.iaload, 1) := by decide +kernel
theorem dX0_lookBack_99 : decode cX0_lookBack 99 = .ok (.isub, 1) := by decide +kernel
theorem dX0_lookBack_100 : decode cX0_lookBack 100 = .ok (.iastore, 1) := by decide +kernel
theorem dX0_lookBack_101 : decode cX0_lookBack 101 = .ok (.aload_n 0, 1) := by decide +kernel
theorem dX0_lookBack_102 : decode cX0_lookBack 102 = .ok (.iload_n 2, 1) := by decide +kernel
theorem dX0_lookBack_103 : decode cX0_lookBack 103 = .ok (.aload_n 0, 1) := by decide +kernel
theorem dX0_lookBack_104 : decode cX0_lookBack 104 = .ok (.getfield 15, 3) := by decide +kernel
theorem dX0_lookBack_107 : decode cX0_lookBack 107 = .ok (.iload 4, 2) := by decide +kernel
theorem dX0_lookBack_109 : decode cX0_lookBack 109 = .ok (.iaload, 1) := by decide +kernel
theorem dX0_lookBack_110 : decode cX0_lookBack 110 = .ok (.isub, 1) := by decide +kernel
theorem dX0_lookBack_111 : decode cX0_lookBack 111 = .ok (.putfield 83, 3) := by decide +kernel
theorem dX0_lookBack_114 : decode cX0_lookBack 114 = .ok (.iload 5, 2) := by decide +kernel
theorem dX0_lookBack_116 : decode cX0_lookBack 116 = .ok (.istore_n 3, 1) := by decide +kernel
theorem dX0_lookBack_117 : decode cX0_lookBack 117 = .ok (.iinc 4 (-1), 3) := by decide +kernel
theorem dX0_lookBack_120 : decode cX0_lookBack 120 = .ok (.goto (-99), 3) := by decide +kernel
theorem dX0_lookBack_123 : decode cX0_lookBack 123 = .ok (.return_, 1) := by decide +kernel
theorem dX0_stopAt_0 : decode cX0_stopAt 0 = .ok (.iload_n 1, 1) := by decide +kernel
theorem dX0_stopAt_1 : decode cX0_stopAt 1 = .ok (.ifCond .lt 21, 3) := by decide +kernel
theorem dX0_stopAt_4 : decode cX0_stopAt 4 = .ok (.iload_n 1, 1) := by decide +kernel
theorem dX0_stopAt_5 : decode cX0_stopAt 5 = .ok (.aload_n 0, 1) := by decide +kernel
theorem dX0_stopAt_6 : decode cX0_stopAt 6 = .ok (.getfield 9, 3) := by decide +kernel
theorem dX0_stopAt_9 : decode cX0_stopAt 9 = .ok (.arraylength, 1) := by decide +kernel
theorem dX0_stopAt_10 : decode cX0_stopAt 10 = .ok (.if_icmp .ge 12, 3) := by decide +kernel
theorem dX0_stopAt_13 : decode cX0_stopAt 13 = .ok (.aload_n 0, 1) := by decide +kernel
theorem dX0_stopAt_14 : decode cX0_stopAt 14 = .ok (.getfield 9, 3) := by decide +kernel
theorem dX0_stopAt_17 : decode cX0_stopAt 17 = .ok (.iload_n 1, 1) := by decide +kernel
theorem dX0_stopAt_18 : decode cX0_stopAt 18 = .ok (.iaload, 1) := by decide +kernel
theorem dX0_stopAt_19 : decode cX0_stopAt 19 = .ok (.goto 5, 3) := by decide +kernel
theorem dX0_stopAt_22 : decode cX0_stopAt 22 = .ok (.bipush 16, 2) := by decide +kernel
theorem dX0_stopAt_24 : decode cX0_stopAt 24 = .ok (.ireturn, 1) := by decide +kernel
theorem dX0_comesAt_0 : decode cX0_comesAt 0 = .ok (.iload_n 1, 1) := by decide +kernel
theorem dX0_comesAt_1 : decode cX0_comesAt 1 = .ok (.ifCond .lt 21, 3) := by decide +kernel
theorem dX0_comesAt_4 : decode cX0_comesAt 4 = .ok (.iload_n 1, 1) := by decide +kernel
theorem dX0_comesAt_5 : decode cX0_comesAt 5 = .ok (.aload_n 0, 1) := by decide +kernel
theorem dX0_comesAt_6 : decode cX0_comesAt 6 = .ok (.getfield 15, 3) := by decide +kernel
theorem dX0_comesAt_9 : decode cX0_comesAt 9 = .ok (.arraylength, 1) := by decide +kernel
theorem dX0_comesAt_10 : decode cX0_comesAt 10 = .ok (.if_icmp .ge 12, 3) := by decide +kernel
theorem dX0_comesAt_13 : decode cX0_comesAt 13 = .ok (.aload_n 0, 1) := by decide +kernel
theorem dX0_comesAt_14 : decode cX0_comesAt 14 = .ok (.getfield 15, 3) := by decide +kernel
theorem dX0_comesAt_17 : decode cX0_comesAt 17 = .ok (.iload_n 1, 1) := by decide +kernel
theorem dX0_comesAt_18 : decode cX0_comesAt 18 = .ok (.iaload, 1) := by decide +kernel
theorem dX0_comesAt_19 : decode cX0_comesAt 19 = .ok (.goto 5, 3) := by decide +kernel
theorem dX0_comesAt_22 : decode cX0_comesAt 22 = .ok (.bipush (-5), 2) := by decide +kernel
theorem dX0_comesAt_24 : decode cX0_comesAt 24 = .ok (.ireturn, 1) := by decide +kernel
theorem dX0_beginsAt_0 : decode cX0_beginsAt 0 = .ok (.iload_n 1, 1) := by decide +kernel
theorem dX0_beginsAt_1 : decode cX0_beginsAt 1 = .ok (.ifCond .lt 21, 3) := by decide +kernel
theorem dX0_beginsAt_4 : decode cX0_beginsAt 4 = .ok (.iload_n 1, 1) := by decide +kernel
theorem dX0_beginsAt_5 : decode cX0_beginsAt 5 = .ok (.aload_n 0, 1) := by decide +kernel
theorem dX0_beginsAt_6 : decode cX0_beginsAt 6 = .ok (.getfield 18, 3) := by decide +kernel
theorem dX0_beginsAt_9 : decode cX0_beginsAt 9 = .ok (.arraylength, 1) := by decide +kernel
theorem dX0_beginsAt_10 : decode cX0_beginsAt 10 = .ok (.if_icmp .ge 12, 3) := by decide +kernel
theorem dX0_beginsAt_13 : decode cX0_beginsAt 13 = .ok (.aload_n 0, 1) := by decide +kernel
theorem dX0_beginsAt_14 : decode cX0_beginsAt 14 = .ok (.getfield 18, 3) := by decide +kernel
theorem dX0_beginsAt_17 : decode cX0_beginsAt 17 = .ok (.iload_n 1, 1) := by decide +kernel
theorem dX0_beginsAt_18 : decode cX0_beginsAt 18 = .ok (.iaload, 1) := by decide +kernel
theorem dX0_beginsAt_19 : decode cX0_beginsAt 19 = .ok (.goto 5, 3) := by decide +kernel
theorem dX0_beginsAt_22 : decode cX0_beginsAt 22 = .ok (.bipush (-5), 2) := by decide +kernel
theorem dX0_beginsAt_24 : decode cX0_beginsAt 24 = .ok (.ireturn, 1) := by decide +kernel
theorem dX0_slackAt_0 : decode cX0_slackAt 0 = .ok (.iload_n 1, 1) := by decide +kernel
theorem dX0_slackAt_1 : decode cX0_slackAt 1 = .ok (.ifCond .lt 21, 3) := by decide +kernel
theorem dX0_slackAt_4 : decode cX0_slackAt 4 = .ok (.iload_n 1, 1) := by decide +kernel
theorem dX0_slackAt_5 : decode cX0_slackAt 5 = .ok (.aload_n 0, 1) := by decide +kernel
theorem dX0_slackAt_6 : decode cX0_slackAt 6 = .ok (.getfield 21, 3) := by decide +kernel
theorem dX0_slackAt_9 : decode cX0_slackAt 9 = .ok (.arraylength, 1) := by decide +kernel
theorem dX0_slackAt_10 : decode cX0_slackAt 10 = .ok (.if_icmp .ge 12, 3) := by decide +kernel
theorem dX0_slackAt_13 : decode cX0_slackAt 13 = .ok (.aload_n 0, 1) := by decide +kernel
theorem dX0_slackAt_14 : decode cX0_slackAt 14 = .ok (.getfield 21, 3) := by decide +kernel
theorem dX0_slackAt_17 : decode cX0_slackAt 17 = .ok (.iload_n 1, 1) := by decide +kernel
theorem dX0_slackAt_18 : decode cX0_slackAt 18 = .ok (.iaload, 1) := by decide +kernel
theorem dX0_slackAt_19 : decode cX0_slackAt 19 = .ok (.goto 5, 3) := by decide +kernel
theorem dX0_slackAt_22 : decode cX0_slackAt 22 = .ok (.bipush (-5), 2) := by decide +kernel
theorem dX0_slackAt_24 : decode cX0_slackAt 24 = .ok (.ireturn, 1) := by decide +kernel
theorem dX0_tightest_0 : decode cX0_tightest 0 = .ok (.bipush (-5), 2) := by decide +kernel
theorem dX0_tightest_2 : decode cX0_tightest 2 = .ok (.istore_n 1, 1) := by decide +kernel
theorem dX0_tightest_3 : decode cX0_tightest 3 = .ok (.iconst 0, 1) := by decide +kernel
theorem dX0_tightest_4 : decode cX0_tightest 4 = .ok (.istore_n 2, 1) := by decide +kernel
theorem dX0_tightest_5 : decode cX0_tightest 5 = .ok (.iconst 0, 1) := by decide +kernel
theorem dX0_tightest_6 : decode cX0_tightest 6 = .ok (.istore_n 3, 1) := by decide +kernel
theorem dX0_tightest_7 : decode cX0_tightest 7 = .ok (.iload_n 3, 1) := by decide +kernel
theorem dX0_tightest_8 : decode cX0_tightest 8 = .ok (.aload_n 0, 1) := by decide +kernel
theorem dX0_tightest_9 : decode cX0_tightest 9 = .ok (.getfield 34, 3) := by decide +kernel
theorem dX0_tightest_12 : decode cX0_tightest 12 = .ok (.if_icmp .ge 45, 3) := by decide +kernel
theorem dX0_tightest_15 : decode cX0_tightest 15 = .ok (.iload_n 3, 1) := by decide +kernel
theorem dX0_tightest_16 : decode cX0_tightest 16 = .ok (.bipush 16, 2) := by decide +kernel
theorem dX0_tightest_18 : decode cX0_tightest 18 = .ok (.if_icmp .ge 39, 3) := by decide +kernel
theorem dX0_tightest_21 : decode cX0_tightest 21 = .ok (.iload_n 1, 1) := by decide +kernel
theorem dX0_tightest_22 : decode cX0_tightest 22 = .ok (.bipush (-5), 2) := by decide +kernel
theorem dX0_tightest_24 : decode cX0_tightest 24 = .ok (.if_icmp .eq 13, 3) := by decide +kernel
theorem dX0_tightest_27 : decode cX0_tightest 27 = .ok (.aload_n 0, 1) := by decide +kernel
theorem dX0_tightest_28 : decode cX0_tightest 28 = .ok (.getfield 21, 3) := by decide +kernel
theorem dX0_tightest_31 : decode cX0_tightest 31 = .ok (.iload_n 3, 1) := by decide +kernel
theorem dX0_tightest_32 : decode cX0_tightest 32 = .ok (.iaload, 1) := by decide +kernel
theorem dX0_tightest_33 : decode cX0_tightest 33 = .ok (.iload_n 2, 1) := by decide +kernel
theorem dX0_tightest_34 : decode cX0_tightest 34 = .ok (.if_icmp .ge 17, 3) := by decide +kernel
theorem dX0_tightest_37 : decode cX0_tightest 37 = .ok (.aload_n 0, 1) := by decide +kernel
theorem dX0_tightest_38 : decode cX0_tightest 38 = .ok (.getfield 9, 3) := by decide +kernel
theorem dX0_tightest_41 : decode cX0_tightest 41 = .ok (.iload_n 3, 1) := by decide +kernel
theorem dX0_tightest_42 : decode cX0_tightest 42 = .ok (.iaload, 1) := by decide +kernel
theorem dX0_tightest_43 : decode cX0_tightest 43 = .ok (.istore_n 1, 1) := by decide +kernel
theorem dX0_tightest_44 : decode cX0_tightest 44 = .ok (.aload_n 0, 1) := by decide +kernel
theorem dX0_tightest_45 : decode cX0_tightest 45 = .ok (.getfield 21, 3) := by decide +kernel
theorem dX0_tightest_48 : decode cX0_tightest 48 = .ok (.iload_n 3, 1) := by decide +kernel
theorem dX0_tightest_49 : decode cX0_tightest 49 = .ok (.iaload, 1) := by decide +kernel
theorem dX0_tightest_50 : decode cX0_tightest 50 = .ok (.istore_n 2, 1) := by decide +kernel
theorem dX0_tightest_51 : decode cX0_tightest 51 = .ok (.iinc 3 1, 3) := by decide +kernel
theorem dX0_tightest_54 : decode cX0_tightest 54 = .ok (.goto (-47), 3) := by decide +kernel
theorem dX0_tightest_57 : decode cX0_tightest 57 = .ok (.iload_n 1, 1) := by decide +kernel
theorem dX0_tightest_58 : decode cX0_tightest 58 = .ok (.ireturn, 1) := by decide +kernel
theorem dX0_canLeaveLater_0 : decode cX0_canLeaveLater 0 = .ok (.aload_n 0, 1) := by decide +kernel
theorem dX0_canLeaveLater_1 : decode cX0_canLeaveLater 1 = .ok (.getfield 34, 3) := by decide +kernel
theorem dX0_canLeaveLater_4 : decode cX0_canLeaveLater 4 = .ok (.ifCond .le 10, 3) := by decide +kernel
theorem dX0_canLeaveLater_7 : decode cX0_canLeaveLater 7 = .ok (.aload_n 0, 1) := by decide +kernel
theorem dX0_canLeaveLater_8 : decode cX0_canLeaveLater 8 = .ok (.getfield 83, 3) := by decide +kernel
theorem dX0_canLeaveLater_11 : decode cX0_canLeaveLater 11 = .ok (.goto 5, 3) := by decide +kernel
theorem dX0_canLeaveLater_14 : decode cX0_canLeaveLater 14 = .ok (.bipush (-5), 2) := by decide +kernel
theorem dX0_canLeaveLater_16 : decode cX0_canLeaveLater 16 = .ok (.ireturn, 1) := by decide +kernel
theorem dX0_isAsSeen_0 : decode cX0_isAsSeen 0 = .ok (.iconst 0, 1) := by decide +kernel
theorem dX0_isAsSeen_1 : decode cX0_isAsSeen 1 = .ok (.istore_n 2, 1) := by decide +kernel
theorem dX0_isAsSeen_2 : decode cX0_isAsSeen 2 = .ok (.iload_n 2, 1) := by decide +kernel
theorem dX0_isAsSeen_3 : decode cX0_isAsSeen 3 = .ok (.aload_n 1, 1) := by decide +kernel
theorem dX0_isAsSeen_4 : decode cX0_isAsSeen 4 = .ok (.getfield 86, 3) := by decide +kernel
theorem dX0_isAsSeen_7 : decode cX0_isAsSeen 7 = .ok (.if_icmp .ge 61, 3) := by decide +kernel
theorem dX0_isAsSeen_10 : decode cX0_isAsSeen 10 = .ok (.iconst 0, 1) := by decide +kernel
theorem dX0_isAsSeen_11 : decode cX0_isAsSeen 11 = .ok (.istore_n 3, 1) := by decide +kernel
theorem dX0_isAsSeen_12 : decode cX0_isAsSeen 12 = .ok (.iload_n 3, 1) := by decide +kernel
theorem dX0_isAsSeen_13 : decode cX0_isAsSeen 13 = .ok (.aload_n 0, 1) := by decide +kernel
theorem dX0_isAsSeen_14 : decode cX0_isAsSeen 14 = .ok (.getfield 34, 3) := by decide +kernel
theorem dX0_isAsSeen_17 : decode cX0_isAsSeen 17 = .ok (.if_icmp .ge 45, 3) := by decide +kernel
theorem dX0_isAsSeen_20 : decode cX0_isAsSeen 20 = .ok (.iload_n 3, 1) := by decide +kernel
theorem dX0_isAsSeen_21 : decode cX0_isAsSeen 21 = .ok (.bipush 16, 2) := by decide +kernel
theorem dX0_isAsSeen_23 : decode cX0_isAsSeen 23 = .ok (.if_icmp .ge 39, 3) := by decide +kernel
theorem dX0_isAsSeen_26 : decode cX0_isAsSeen 26 = .ok (.aload_n 0, 1) := by decide +kernel
theorem dX0_isAsSeen_27 : decode cX0_isAsSeen 27 = .ok (.getfield 9, 3) := by decide +kernel
theorem dX0_isAsSeen_30 : decode cX0_isAsSeen 30 = .ok (.iload_n 3, 1) := by decide +kernel
theorem dX0_isAsSeen_31 : decode cX0_isAsSeen 31 = .ok (.iaload, 1) := by decide +kernel
theorem dX0_isAsSeen_32 : decode cX0_isAsSeen 32 = .ok (.aload_n 1, 1) := by decide +kernel
theorem dX0_isAsSeen_33 : decode cX0_isAsSeen 33 = .ok (.iload_n 2, 1) := by decide +kernel
theorem dX0_isAsSeen_34 : decode cX0_isAsSeen 34 = .ok (.invokevirtual 89, 3) := by decide +kernel
theorem dX0_isAsSeen_37 : decode cX0_isAsSeen 37 = .ok (.if_icmp .ne 19, 3) := by decide +kernel
theorem dX0_isAsSeen_40 : decode cX0_isAsSeen 40 = .ok (.aload_n 0, 1) := by decide +kernel
theorem dX0_isAsSeen_41 : decode cX0_isAsSeen 41 = .ok (.getfield 18, 3) := by decide +kernel
theorem dX0_isAsSeen_44 : decode cX0_isAsSeen 44 = .ok (.iload_n 3, 1) := by decide +kernel
theorem dX0_isAsSeen_45 : decode cX0_isAsSeen 45 = .ok (.iaload, 1) := by decide +kernel
theorem dX0_isAsSeen_46 : decode cX0_isAsSeen 46 = .ok (.aload_n 1, 1) := by decide +kernel
theorem dX0_isAsSeen_47 : decode cX0_isAsSeen 47 = .ok (.iload_n 2, 1) := by decide +kernel
theorem dX0_isAsSeen_48 : decode cX0_isAsSeen 48 = .ok (.invokevirtual 92, 3) := by decide +kernel
theorem dX0_isAsSeen_51 : decode cX0_isAsSeen 51 = .ok (.if_icmp .eq 5, 3) := by decide +kernel
theorem dX0_isAsSeen_54 : decode cX0_isAsSeen 54 = .ok (.iconst 0, 1) := by decide +kernel
theorem dX0_isAsSeen_55 : decode cX0_isAsSeen 55 = .ok (.ireturn, 1) := by decide +kernel
theorem dX0_isAsSeen_56 : decode cX0_isAsSeen 56 = .ok (.iinc 3 1, 3) := by decide +kernel
theorem dX0_isAsSeen_59 : decode cX0_isAsSeen 59 = .ok (.goto (-47), 3) := by decide +kernel
theorem dX0_isAsSeen_62 : decode cX0_isAsSeen 62 = .ok (.iinc 2 1, 3) := by decide +kernel
theorem dX0_isAsSeen_65 : decode cX0_isAsSeen 65 = .ok (.goto (-63), 3) := by decide +kernel
theorem dX0_isAsSeen_68 : decode cX0_isAsSeen 68 = .ok (.iconst 1, 1) := by decide +kernel
theorem dX0_isAsSeen_69 : decode cX0_isAsSeen 69 = .ok (.ireturn, 1) := by decide +kernel
theorem dX1_init_0 : decode cX1_init 0 = .ok (.aload_n 0, 1) := by decide +kernel
theorem dX1_init_1 : decode cX1_init 1 = .ok (.invokespecial 3, 3) := by decide +kernel
theorem dX1_init_4 : decode cX1_init 4 = .ok (.aload_n 0, 1) := by decide +kernel
theorem dX1_init_5 : decode cX1_init 5 = .ok (.new 9, 3) := by decide +kernel
theorem dX1_init_8 : decode cX1_init 8 = .ok (.dup, 1) := by decide +kernel
theorem dX1_init_9 : decode cX1_init 9 = .ok (.invokespecial 11, 3) := by decide +kernel
theorem dX1_init_12 : decode cX1_init 12 = .ok (.putfield 12, 3) := by decide +kernel
theorem dX1_init_15 : decode cX1_init 15 = .ok (.return_, 1) := by decide +kernel
theorem dX1_weigh_0 : decode cX1_weigh 0 = .ok (.aload_n 0, 1) := by decide +kernel
theorem dX1_weigh_1 : decode cX1_weigh 1 = .ok (.bipush (-5), 2) := by decide +kernel
theorem dX1_weigh_3 : decode cX1_weigh 3 = .ok (.putfield 18, 3) := by decide +kernel
theorem dX1_weigh_6 : decode cX1_weigh 6 = .ok (.aload_n 0, 1) := by decide +kernel
theorem dX1_weigh_7 : decode cX1_weigh 7 = .ok (.sipush 10000, 3) := by decide +kernel
theorem dX1_weigh_10 : decode cX1_weigh 10 = .ok (.putfield 22, 3) := by decide +kernel
theorem dX1_weigh_13 : decode cX1_weigh 13 = .ok (.iload_n 3, 1) := by decide +kernel
theorem dX1_weigh_14 : decode cX1_weigh 14 = .ok (.istore 5, 2) := by decide +kernel
theorem dX1_weigh_16 : decode cX1_weigh 16 = .ok (.iload 5, 2) := by decide +kernel
theorem dX1_weigh_18 : decode cX1_weigh 18 = .ok (.iload 4, 2) := by decide +kernel
theorem dX1_weigh_20 : decode cX1_weigh 20 = .ok (.if_icmp .gt 127, 3) := by decide +kernel
theorem dX1_weigh_23 : decode cX1_weigh 23 = .ok (.iload 5, 2) := by decide +kernel
theorem dX1_weigh_25 : decode cX1_weigh 25 = .ok (.iconst 4, 1) := by decide +kernel
theorem dX1_weigh_26 : decode cX1_weigh 26 = .ok (.if_icmp .ge 121, 3) := by decide +kernel
theorem dX1_weigh_29 : decode cX1_weigh 29 = .ok (.bipush (-5), 2) := by decide +kernel
theorem dX1_weigh_31 : decode cX1_weigh 31 = .ok (.istore 6, 2) := by decide +kernel
theorem dX1_weigh_33 : decode cX1_weigh 33 = .ok (.iconst 0, 1) := by decide +kernel
theorem dX1_weigh_34 : decode cX1_weigh 34 = .ok (.istore 7, 2) := by decide +kernel
theorem dX1_weigh_36 : decode cX1_weigh 36 = .ok (.iconst 0, 1) := by decide +kernel
theorem dX1_weigh_37 : decode cX1_weigh 37 = .ok (.istore 8, 2) := by decide +kernel
theorem dX1_weigh_39 : decode cX1_weigh 39 = .ok (.iload 8, 2) := by decide +kernel
theorem dX1_weigh_41 : decode cX1_weigh 41 = .ok (.aload_n 1, 1) := by decide +kernel
theorem dX1_weigh_42 : decode cX1_weigh 42 = .ok (.iload 5, 2) := by decide +kernel
theorem dX1_weigh_44 : decode cX1_weigh 44 = .ok (.invokevirtual 25, 3) := by decide +kernel
theorem dX1_weigh_47 : decode cX1_weigh 47 = .ok (.if_icmp .gt 77, 3) := by decide +kernel
theorem dX1_weigh_50 : decode cX1_weigh 50 = .ok (.aload_n 1, 1) := by decide +kernel
theorem dX1_weigh_51 : decode cX1_weigh 51 = .ok (.iload_n 2, 1) := by decide +kernel
theorem dX1_weigh_52 : decode cX1_weigh 52 = .ok (.iload 5, 2) := by decide +kernel
theorem dX1_weigh_54 : decode cX1_weigh 54 = .ok (.iload 8, 2) := by decide +kernel
theorem dX1_weigh_56 : decode cX1_weigh 56 = .ok (.invokevirtual 31, 3) := by decide +kernel
theorem dX1_weigh_59 : decode cX1_weigh 59 = .ok (.istore 9, 2) := by decide +kernel
theorem dX1_weigh_61 : decode cX1_weigh 61 = .ok (.iload 6, 2) := by decide +kernel
theorem dX1_weigh_63 : decode cX1_weigh 63 = .ok (.bipush (-5), 2) := by decide +kernel
theorem dX1_weigh_65 : decode cX1_weigh 65 = .ok (.if_icmp .eq 13, 3) := by decide +kernel
theorem dX1_weigh_68 : decode cX1_weigh 68 = .ok (.iload 9, 2) := by decide +kernel
theorem dX1_weigh_70 : decode cX1_weigh 70 = .ok (.iload 7, 2) := by decide +kernel
theorem dX1_weigh_72 : decode cX1_weigh 72 = .ok (.if_icmp .lt 6, 3) := by decide +kernel
theorem dX1_weigh_75 : decode cX1_weigh 75 = .ok (.goto 43, 3) := by decide +kernel
theorem dX1_weigh_78 : decode cX1_weigh 78 = .ok (.aload_n 0, 1) := by decide +kernel
theorem dX1_weigh_79 : decode cX1_weigh 79 = .ok (.getfield 12, 3) := by decide +kernel
theorem dX1_weigh_82 : decode cX1_weigh 82 = .ok (.aload_n 1, 1) := by decide +kernel
theorem dX1_weigh_83 : decode cX1_weigh 83 = .ok (.iload 5, 2) := by decide +kernel
theorem dX1_weigh_85 : decode cX1_weigh 85 = .ok (.invokevirtual 35, 3) := by decide +kernel
theorem dX1_weigh_88 : decode cX1_weigh 88 = .ok (.aload_n 0, 1) := by decide +kernel
theorem dX1_weigh_89 : decode cX1_weigh 89 = .ok (.getfield 12, 3) := by decide +kernel
theorem dX1_weigh_92 : decode cX1_weigh 92 = .ok (.iload 8, 2) := by decide +kernel
theorem dX1_weigh_94 : decode cX1_weigh 94 = .ok (.iload_n 2, 1) := by decide +kernel
theorem dX1_weigh_95 : decode cX1_weigh 95 = .ok (.invokevirtual 39, 3) := by decide +kernel
theorem dX1_weigh_98 : decode cX1_weigh 98 = .ok (.aload_n 0, 1) := by decide +kernel
theorem dX1_weigh_99 : decode cX1_weigh 99 = .ok (.getfield 12, 3) := by decide +kernel
theorem dX1_weigh_102 : decode cX1_weigh 102 = .ok (.aload_n 1, 1) := by decide +kernel
theorem dX1_weigh_103 : decode cX1_weigh 103 = .ok (.iconst 0, 1) := by decide +kernel
theorem dX1_weigh_104 : decode cX1_weigh 104 = .ok (.invokevirtual 43, 3) := by decide +kernel
theorem dX1_weigh_107 : decode cX1_weigh 107 = .ok (.ifCond .eq 11, 3) := by decide +kernel
theorem dX1_weigh_110 : decode cX1_weigh 110 = .ok (.iload 8, 2) := by decide +kernel
theorem dX1_weigh_112 : decode cX1_weigh 112 = .ok (.istore 6, 2) := by decide +kernel
theorem dX1_weigh_114 : decode cX1_weigh 114 = .ok (.iload 9, 2) := by decide +kernel
theorem dX1_weigh_116 : decode cX1_weigh 116 = .ok (.istore 7, 2) := by decide +kernel
theorem dX1_weigh_118 : decode cX1_weigh 118 = .ok (.iinc 8 1, 3) := by decide +kernel
theorem dX1_weigh_121 : decode cX1_weigh 121 = .ok (.goto (-82), 3) := by decide +kernel
theorem dX1_weigh_124 : decode cX1_weigh 124 = .ok (.iload 6, 2) := by decide +kernel
theorem dX1_weigh_126 : decode cX1_weigh 126 = .ok (.bipush (-5), 2) := by decide +kernel
theorem dX1_weigh_128 : decode cX1_weigh 128 = .ok (.if_icmp .eq 13, 3) := by decide +kernel
theorem dX1_weigh_131 : decode cX1_weigh 131 = .ok (.aload_n 0, 1) := by decide +kernel
theorem dX1_weigh_132 : decode cX1_weigh 132 = .ok (.iload 5, 2) := by decide +kernel
theorem dX1_weigh_134 : decode cX1_weigh 134 = .ok (.iload 6, 2) := by decide +kernel
theorem dX1_weigh_136 : decode cX1_weigh 136 = .ok (.iload 7, 2) := by decide +kernel
theorem dX1_weigh_138 : decode cX1_weigh 138 = .ok (.invokevirtual 47, 3) := by decide +kernel
theorem dX1_weigh_141 : decode cX1_weigh 141 = .ok (.iinc 5 1, 3) := by decide +kernel
theorem dX1_weigh_144 : decode cX1_weigh 144 = .ok (.goto (-128), 3) := by decide +kernel
theorem dX1_weigh_147 : decode cX1_weigh 147 = .ok (.return_, 1) := by decide +kernel
theorem dX1_compareRound_0 : decode cX1_compareRound 0 = .ok (.aload_n 0, 1) := by decide +kernel
theorem dX1_compareRound_1 : decode cX1_compareRound 1 = .ok (.getfield 18, 3) := by decide +kernel
theorem dX1_compareRound_4 : decode cX1_compareRound 4 = .ok (.bipush (-5), 2) := by decide +kernel
theorem dX1_compareRound_6 : decode cX1_compareRound 6 = .ok (.if_icmp .ne 13, 3) := by decide +kernel
theorem dX1_compareRound_9 : decode cX1_compareRound 9 = .ok (.aload_n 0, 1) := by decide +kernel
theorem dX1_compareRound_10 : decode cX1_compareRound 10 = .ok (.iload_n 1, 1) := by decide +kernel
theorem dX1_compareRound_11 : decode cX1_compareRound 11 = .ok (.iload_n 2, 1) := by decide +kernel
theorem dX1_compareRound_12 : decode cX1_compareRound 12 = .ok (.iload_n 3, 1) := by decide +kernel
theorem dX1_compareRound_13 : decode cX1_compareRound 13 = .ok (.invokevirtual 51, 3) := by decide +kernel
theorem dX1_compareRound_16 : decode cX1_compareRound 16 = .ok (.goto 54, 3) := by decide +kernel
theorem dX1_compareRound_19 : decode cX1_compareRound 19 = .ok (.iload_n 3, 1) := by decide +kernel
theorem dX1_compareRound_20 : decode cX1_compareRound 20 = .ok (.aload_n 0, 1) := by decide +kernel
theorem dX1_compareRound_21 : decode cX1_compareRound 21 = .ok (.getfield 54, 3) := by decide +kernel
theorem dX1_compareRound_24 : decode cX1_compareRound 24 = .ok (.if_icmp .ge 23, 3) := by decide +kernel
theorem dX1_compareRound_27 : decode cX1_compareRound 27 = .ok (.aload_n 0, 1) := by decide +kernel
theorem dX1_compareRound_28 : decode cX1_compareRound 28 = .ok (.aload_n 0, 1) := by decide +kernel
theorem dX1_compareRound_29 : decode cX1_compareRound 29 = .ok (.getfield 54, 3) := by decide +kernel
theorem dX1_compareRound_32 : decode cX1_compareRound 32 = .ok (.iload_n 3, 1) := by decide +kernel
theorem dX1_compareRound_33 : decode cX1_compareRound 33 = .ok (.isub, 1) := by decide +kernel
theorem dX1_compareRound_34 : decode cX1_compareRound 34 = .ok (.putfield 22, 3) := by decide +kernel
theorem dX1_compareRound_37 : decode cX1_compareRound 37 = .ok (.aload_n 0, 1) := by decide +kernel
theorem dX1_compareRound_38 : decode cX1_compareRound 38 = .ok (.iload_n 1, 1) := by decide +kernel
theorem dX1_compareRound_39 : decode cX1_compareRound 39 = .ok (.iload_n 2, 1) := by decide +kernel
theorem dX1_compareRound_40 : decode cX1_compareRound 40 = .ok (.iload_n 3, 1) := by decide +kernel
theorem dX1_compareRound_41 : decode cX1_compareRound 41 = .ok (.invokevirtual 51, 3) := by decide +kernel
theorem dX1_compareRound_44 : decode cX1_compareRound 44 = .ok (.goto 26, 3) := by decide +kernel
theorem dX1_compareRound_47 : decode cX1_compareRound 47 = .ok (.iload_n 3, 1) := by decide +kernel
theorem dX1_compareRound_48 : decode cX1_compareRound 48 = .ok (.aload_n 0, 1) := by decide +kernel
theorem dX1_compareRound_49 : decode cX1_compareRound 49 = .ok (.getfield 54, 3) := by decide +kernel
theorem dX1_compareRound_52 : decode cX1_compareRound 52 = .ok (.isub, 1) := by decide +kernel
theorem dX1_compareRound_53 : decode cX1_compareRound 53 = .ok (.aload_n 0, 1) := by decide +kernel
theorem dX1_compareRound_54 : decode cX1_compareRound 54 = .ok (.getfield 22, 3) := by decide +kernel
theorem dX1_compareRound_57 : decode cX1_compareRound 57 = .ok (.if_icmp .ge 13, 3) := by decide +kernel
theorem dX1_compareRound_60 : decode cX1_compareRound 60 = .ok (.aload_n 0, 1) := by decide +kernel
theorem dX1_compareRound_61 : decode cX1_compareRound 61 = .ok (.iload_n 3, 1) := by decide +kernel
theorem dX1_compareRound_62 : decode cX1_compareRound 62 = .ok (.aload_n 0, 1) := by decide +kernel
theorem dX1_compareRound_63 : decode cX1_compareRound 63 = .ok (.getfield 54, 3) := by decide +kernel
theorem dX1_compareRound_66 : decode cX1_compareRound 66 = .ok (.isub, 1) := by decide +kernel
theorem dX1_compareRound_67 : decode cX1_compareRound 67 = .ok (.putfield 22, 3) := by decide +kernel
theorem dX1_compareRound_70 : decode cX1_compareRound 70 = .ok (.return_, 1) := by decide +kernel
theorem dX1_keepRound_0 : decode cX1_keepRound 0 = .ok (.aload_n 0, 1) := by decide +kernel
theorem dX1_keepRound_1 : decode cX1_keepRound 1 = .ok (.iload_n 1, 1) := by decide +kernel
theorem dX1_keepRound_2 : decode cX1_keepRound 2 = .ok (.putfield 18, 3) := by decide +kernel
theorem dX1_keepRound_5 : decode cX1_keepRound 5 = .ok (.aload_n 0, 1) := by decide +kernel
theorem dX1_keepRound_6 : decode cX1_keepRound 6 = .ok (.iload_n 2, 1) := by decide +kernel
theorem dX1_keepRound_7 : decode cX1_keepRound 7 = .ok (.putfield 57, 3) := by decide +kernel
theorem dX1_keepRound_10 : decode cX1_keepRound 10 = .ok (.aload_n 0, 1) := by decide +kernel
theorem dX1_keepRound_11 : decode cX1_keepRound 11 = .ok (.iload_n 3, 1) := by decide +kernel
theorem dX1_keepRound_12 : decode cX1_keepRound 12 = .ok (.putfield 54, 3) := by decide +kernel
theorem dX1_keepRound_15 : decode cX1_keepRound 15 = .ok (.return_, 1) := by decide +kernel
theorem dX1_fillAll_0 : decode cX1_fillAll 0 = .ok (.iconst 0, 1) := by decide +kernel
theorem dX1_fillAll_1 : decode cX1_fillAll 1 = .ok (.istore_n 2, 1) := by decide +kernel
theorem dX1_fillAll_2 : decode cX1_fillAll 2 = .ok (.iconst 0, 1) := by decide +kernel
theorem dX1_fillAll_3 : decode cX1_fillAll 3 = .ok (.istore_n 3, 1) := by decide +kernel
theorem dX1_fillAll_4 : decode cX1_fillAll 4 = .ok (.iload_n 3, 1) := by decide +kernel
theorem dX1_fillAll_5 : decode cX1_fillAll 5 = .ok (.bipush 16, 2) := by decide +kernel
theorem dX1_fillAll_7 : decode cX1_fillAll 7 = .ok (.if_icmp .ge 109, 3) := by decide +kernel
theorem dX1_fillAll_10 : decode cX1_fillAll 10 = .ok (.aload_n 0, 1) := by decide +kernel
theorem dX1_fillAll_11 : decode cX1_fillAll 11 = .ok (.bipush (-5), 2) := by decide +kernel
theorem dX1_fillAll_13 : decode cX1_fillAll 13 = .ok (.putfield 60, 3) := by decide +kernel
theorem dX1_fillAll_16 : decode cX1_fillAll 16 = .ok (.iconst 0, 1) := by decide +kernel
theorem dX1_fillAll_17 : decode cX1_fillAll 17 = .ok (.istore 4, 2) := by decide +kernel
theorem dX1_fillAll_19 : decode cX1_fillAll 19 = .ok (.iload 4, 2) := by decide +kernel
theorem dX1_fillAll_21 : decode cX1_fillAll 21 = .ok (.aload_n 1, 1) := by decide +kernel
theorem dX1_fillAll_22 : decode cX1_fillAll 22 = .ok (.getfield 63, 3) := by decide +kernel
theorem dX1_fillAll_25 : decode cX1_fillAll 25 = .ok (.if_icmp .ge 35, 3) := by decide +kernel
theorem dX1_fillAll_28 : decode cX1_fillAll 28 = .ok (.aload_n 1, 1) := by decide +kernel
theorem dX1_fillAll_29 : decode cX1_fillAll 29 = .ok (.iload 4, 2) := by decide +kernel
theorem dX1_fillAll_31 : decode cX1_fillAll 31 = .ok (.invokevirtual 66, 3) := by decide +kernel
theorem dX1_fillAll_34 : decode cX1_fillAll 34 = .ok (.bipush (-5), 2) := by decide +kernel
theorem dX1_fillAll_36 : decode cX1_fillAll 36 = .ok (.if_icmp .ne 18, 3) := by decide +kernel
theorem dX1_fillAll_39 : decode cX1_fillAll 39 = .ok (.aload_n 0, 1) := by decide +kernel
theorem dX1_fillAll_40 : decode cX1_fillAll 40 = .ok (.aload_n 1, 1) := by decide +kernel
theorem dX1_fillAll_41 : decode cX1_fillAll 41 = .ok (.iload 4, 2) := by decide +kernel
theorem dX1_fillAll_43 : decode cX1_fillAll 43 = .ok (.iconst 0, 1) := by decide +kernel
theorem dX1_fillAll_44 : decode cX1_fillAll 44 = .ok (.iconst 3, 1) := by decide +kernel
theorem dX1_fillAll_45 : decode cX1_fillAll 45 = .ok (.invokevirtual 69, 3) := by decide +kernel
theorem dX1_fillAll_48 : decode cX1_fillAll 48 = .ok (.aload_n 0, 1) := by decide +kernel
theorem dX1_fillAll_49 : decode cX1_fillAll 49 = .ok (.iload 4, 2) := by decide +kernel
theorem dX1_fillAll_51 : decode cX1_fillAll 51 = .ok (.invokevirtual 73, 3) := by decide +kernel
theorem dX1_fillAll_54 : decode cX1_fillAll 54 = .ok (.iinc 4 1, 3) := by decide +kernel
theorem dX1_fillAll_57 : decode cX1_fillAll 57 = .ok (.goto (-38), 3) := by decide +kernel
theorem dX1_fillAll_60 : decode cX1_fillAll 60 = .ok (.aload_n 0, 1) := by decide +kernel
theorem dX1_fillAll_61 : decode cX1_fillAll 61 = .ok (.getfield 60, 3) := by decide +kernel
theorem dX1_fillAll_64 : decode cX1_fillAll 64 = .ok (.bipush (-5), 2) := by decide +kernel
theorem dX1_fillAll_66 : decode cX1_fillAll 66 = .ok (.if_icmp .ne 6, 3) := by decide +kernel
theorem dX1_fillAll_69 : decode cX1_fillAll 69 = .ok (.goto 47, 3) := by decide +kernel
theorem dX1_fillAll_72 : decode cX1_fillAll 72 = .ok (.aload_n 0, 1) := by decide +kernel
theorem dX1_fillAll_73 : decode cX1_fillAll 73 = .ok (.getfield 12, 3) := by decide +kernel
theorem dX1_fillAll_76 : decode cX1_fillAll 76 = .ok (.aload_n 1, 1) := by decide +kernel
theorem dX1_fillAll_77 : decode cX1_fillAll 77 = .ok (.aload_n 0, 1) := by decide +kernel
theorem dX1_fillAll_78 : decode cX1_fillAll 78 = .ok (.getfield 77, 3) := by decide +kernel
theorem dX1_fillAll_81 : decode cX1_fillAll 81 = .ok (.invokevirtual 35, 3) := by decide +kernel
theorem dX1_fillAll_84 : decode cX1_fillAll 84 = .ok (.aload_n 0, 1) := by decide +kernel
theorem dX1_fillAll_85 : decode cX1_fillAll 85 = .ok (.getfield 12, 3) := by decide +kernel
theorem dX1_fillAll_88 : decode cX1_fillAll 88 = .ok (.aload_n 0, 1) := by decide +kernel
theorem dX1_fillAll_89 : decode cX1_fillAll 89 = .ok (.getfield 80, 3) := by decide +kernel
theorem dX1_fillAll_92 : decode cX1_fillAll 92 = .ok (.aload_n 0, 1) := by decide +kernel
theorem dX1_fillAll_93 : decode cX1_fillAll 93 = .ok (.getfield 60, 3) := by decide +kernel
theorem dX1_fillAll_96 : decode cX1_fillAll 96 = .ok (.invokevirtual 39, 3) := by decide +kernel
theorem dX1_fillAll_99 : decode cX1_fillAll 99 = .ok (.aload_n 0, 1) := by decide +kernel
theorem dX1_fillAll_100 : decode cX1_fillAll 100 = .ok (.getfield 12, 3) := by decide +kernel
theorem dX1_fillAll_103 : decode cX1_fillAll 103 = .ok (.aload_n 1, 1) := by decide +kernel
theorem dX1_fillAll_104 : decode cX1_fillAll 104 = .ok (.invokevirtual 83, 3) := by decide +kernel
theorem dX1_fillAll_107 : decode cX1_fillAll 107 = .ok (.iinc 2 1, 3) := by decide +kernel
theorem dX1_fillAll_110 : decode cX1_fillAll 110 = .ok (.iinc 3 1, 3) := by decide +kernel
theorem dX1_fillAll_113 : decode cX1_fillAll 113 = .ok (.goto (-109), 3) := by decide +kernel
theorem dX1_fillAll_116 : decode cX1_fillAll 116 = .ok (.iload_n 2, 1) := by decide +kernel
theorem dX1_fillAll_117 : decode cX1_fillAll 117 = .ok (.ireturn, 1) := by decide +kernel
theorem dX1_compareStop_0 : decode cX1_compareStop 0 = .ok (.aload_n 0, 1) := by decide +kernel
theorem dX1_compareStop_1 : decode cX1_compareStop 1 = .ok (.getfield 18, 3) := by decide +kernel
theorem dX1_compareStop_4 : decode cX1_compareStop 4 = .ok (.bipush (-5), 2) := by decide +kernel
theorem dX1_compareStop_6 : decode cX1_compareStop 6 = .ok (.if_icmp .ne 4, 3) := by decide +kernel
theorem dX1_compareStop_9 : decode cX1_compareStop 9 = .ok (.return_, 1) := by decide +kernel
theorem dX1_compareStop_10 : decode cX1_compareStop 10 = .ok (.aload_n 0, 1) := by decide +kernel
theorem dX1_compareStop_11 : decode cX1_compareStop 11 = .ok (.getfield 22, 3) := by decide +kernel
theorem dX1_compareStop_14 : decode cX1_compareStop 14 = .ok (.aload_n 0, 1) := by decide +kernel
theorem dX1_compareStop_15 : decode cX1_compareStop 15 = .ok (.getfield 87, 3) := by decide +kernel
theorem dX1_compareStop_18 : decode cX1_compareStop 18 = .ok (.if_icmp .ne 7, 3) := by decide +kernel
theorem dX1_compareStop_21 : decode cX1_compareStop 21 = .ok (.iconst 1, 1) := by decide +kernel
theorem dX1_compareStop_22 : decode cX1_compareStop 22 = .ok (.goto 4, 3) := by decide +kernel
theorem dX1_compareStop_25 : decode cX1_compareStop 25 = .ok (.iconst 0, 1) := by decide +kernel
theorem dX1_compareStop_26 : decode cX1_compareStop 26 = .ok (.istore_n 2, 1) := by decide +kernel
theorem dX1_compareStop_27 : decode cX1_compareStop 27 = .ok (.aload_n 0, 1) := by decide +kernel
theorem dX1_compareStop_28 : decode cX1_compareStop 28 = .ok (.getfield 60, 3) := by decide +kernel
theorem dX1_compareStop_31 : decode cX1_compareStop 31 = .ok (.bipush (-5), 2) := by decide +kernel
theorem dX1_compareStop_33 : decode cX1_compareStop 33 = .ok (.if_icmp .eq 29, 3) := by decide +kernel
theorem dX1_compareStop_36 : decode cX1_compareStop 36 = .ok (.aload_n 0, 1) := by decide +kernel
theorem dX1_compareStop_37 : decode cX1_compareStop 37 = .ok (.getfield 22, 3) := by decide +kernel
theorem dX1_compareStop_40 : decode cX1_compareStop 40 = .ok (.aload_n 0, 1) := by decide +kernel
theorem dX1_compareStop_41 : decode cX1_compareStop 41 = .ok (.getfield 87, 3) := by decide +kernel
theorem dX1_compareStop_44 : decode cX1_compareStop 44 = .ok (.if_icmp .gt 18, 3) := by decide +kernel
theorem dX1_compareStop_47 : decode cX1_compareStop 47 = .ok (.iload_n 2, 1) := by decide +kernel
theorem dX1_compareStop_48 : decode cX1_compareStop 48 = .ok (.ifCond .eq 51, 3) := by decide +kernel
theorem dX1_compareStop_51 : decode cX1_compareStop 51 = .ok (.aload_n 0, 1) := by decide +kernel
theorem dX1_compareStop_52 : decode cX1_compareStop 52 = .ok (.getfield 54, 3) := by decide +kernel
theorem dX1_compareStop_55 : decode cX1_compareStop 55 = .ok (.aload_n 0, 1) := by decide +kernel
theorem dX1_compareStop_56 : decode cX1_compareStop 56 = .ok (.getfield 90, 3) := by decide +kernel
theorem dX1_compareStop_59 : decode cX1_compareStop 59 = .ok (.if_icmp .ge 40, 3) := by decide +kernel
theorem dX1_compareStop_62 : decode cX1_compareStop 62 = .ok (.aload_n 0, 1) := by decide +kernel
theorem dX1_compareStop_63 : decode cX1_compareStop 63 = .ok (.iload_n 1, 1) := by decide +kernel
theorem dX1_compareStop_64 : decode cX1_compareStop 64 = .ok (.putfield 60, 3) := by decide +kernel
theorem dX1_compareStop_67 : decode cX1_compareStop 67 = .ok (.aload_n 0, 1) := by decide +kernel
theorem dX1_compareStop_68 : decode cX1_compareStop 68 = .ok (.aload_n 0, 1) := by decide +kernel
theorem dX1_compareStop_69 : decode cX1_compareStop 69 = .ok (.getfield 18, 3) := by decide +kernel
theorem dX1_compareStop_72 : decode cX1_compareStop 72 = .ok (.putfield 77, 3) := by decide +kernel
theorem dX1_compareStop_75 : decode cX1_compareStop 75 = .ok (.aload_n 0, 1) := by decide +kernel
theorem dX1_compareStop_76 : decode cX1_compareStop 76 = .ok (.aload_n 0, 1) := by decide +kernel
theorem dX1_compareStop_77 : decode cX1_compareStop 77 = .ok (.getfield 57, 3) := by decide +kernel
theorem dX1_compareStop_80 : decode cX1_compareStop 80 = .ok (.putfield 80, 3) := by decide +kernel
theorem dX1_compareStop_83 : decode cX1_compareStop 83 = .ok (.aload_n 0, 1) := by decide +kernel
theorem dX1_compareStop_84 : decode cX1_compareStop 84 = .ok (.aload_n 0, 1) := by decide +kernel
theorem dX1_compareStop_85 : decode cX1_compareStop 85 = .ok (.getfield 54, 3) := by decide +kernel
theorem dX1_compareStop_88 : decode cX1_compareStop 88 = .ok (.putfield 90, 3) := by decide +kernel
theorem dX1_compareStop_91 : decode cX1_compareStop 91 = .ok (.aload_n 0, 1) := by decide +kernel
theorem dX1_compareStop_92 : decode cX1_compareStop 92 = .ok (.aload_n 0, 1) := by decide +kernel
theorem dX1_compareStop_93 : decode cX1_compareStop 93 = .ok (.getfield 22, 3) := by decide +kernel
theorem dX1_compareStop_96 : decode cX1_compareStop 96 = .ok (.putfield 87, 3) := by decide +kernel
theorem dX1_compareStop_99 : decode cX1_compareStop 99 = .ok (.return_, 1) := by decide +kernel
theorem dX2_init_0 : decode cX2_init 0 = .ok (.aload_n 0, 1) := by decide +kernel
theorem dX2_init_1 : decode cX2_init 1 = .ok (.invokespecial 3, 3) := by decide +kernel
theorem dX2_init_4 : decode cX2_init 4 = .ok (.aload_n 0, 1) := by decide +kernel
theorem dX2_init_5 : decode cX2_init 5 = .ok (.new 9, 3) := by decide +kernel
theorem dX2_init_8 : decode cX2_init 8 = .ok (.dup, 1) := by decide +kernel
theorem dX2_init_9 : decode cX2_init 9 = .ok (.invokespecial 11, 3) := by decide +kernel
theorem dX2_init_12 : decode cX2_init 12 = .ok (.putfield 12, 3) := by decide +kernel
theorem dX2_init_15 : decode cX2_init 15 = .ok (.aload_n 0, 1) := by decide +kernel
theorem dX2_init_16 : decode cX2_init 16 = .ok (.new 9, 3) := by decide +kernel
theorem dX2_init_19 : decode cX2_init 19 = .ok (.dup, 1) := by decide +kernel
theorem dX2_init_20 : decode cX2_init 20 = .ok (.invokespecial 11, 3) := by decide +kernel
theorem dX2_init_23 : decode cX2_init 23 = .ok (.putfield 18, 3) := by decide +kernel
theorem dX2_init_26 : decode cX2_init 26 = .ok (.return_, 1) := by decide +kernel
theorem dX2_foundFact_0 : decode cX2_foundFact 0 = .ok (.aload_n 0, 1) := by decide +kernel
theorem dX2_foundFact_1 : decode cX2_foundFact 1 = .ok (.getfield 21, 3) := by decide +kernel
theorem dX2_foundFact_4 : decode cX2_foundFact 4 = .ok (.bipush (-5), 2) := by decide +kernel
theorem dX2_foundFact_6 : decode cX2_foundFact 6 = .ok (.if_icmp .ne 6, 3) := by decide +kernel
theorem dX2_foundFact_9 : decode cX2_foundFact 9 = .ok (.bipush (-5), 2) := by decide +kernel
theorem dX2_foundFact_11 : decode cX2_foundFact 11 = .ok (.ireturn, 1) := by decide +kernel
theorem dX2_foundFact_12 : decode cX2_foundFact 12 = .ok (.iload_n 1, 1) := by decide +kernel
theorem dX2_foundFact_13 : decode cX2_foundFact 13 = .ok (.tableswitch 51 0 3 #[31, 36, 41, 46], 31) := by decide +kernel
theorem dX2_foundFact_44 : decode cX2_foundFact 44 = .ok (.aload_n 0, 1) := by decide +kernel
theorem dX2_foundFact_45 : decode cX2_foundFact 45 = .ok (.getfield 21, 3) := by decide +kernel
theorem dX2_foundFact_48 : decode cX2_foundFact 48 = .ok (.ireturn, 1) := by decide +kernel
theorem dX2_foundFact_49 : decode cX2_foundFact 49 = .ok (.aload_n 0, 1) := by decide +kernel
theorem dX2_foundFact_50 : decode cX2_foundFact 50 = .ok (.getfield 25, 3) := by decide +kernel
theorem dX2_foundFact_53 : decode cX2_foundFact 53 = .ok (.ireturn, 1) := by decide +kernel
theorem dX2_foundFact_54 : decode cX2_foundFact 54 = .ok (.aload_n 0, 1) := by decide +kernel
theorem dX2_foundFact_55 : decode cX2_foundFact 55 = .ok (.getfield 28, 3) := by decide +kernel
theorem dX2_foundFact_58 : decode cX2_foundFact 58 = .ok (.ireturn, 1) := by decide +kernel
theorem dX2_foundFact_59 : decode cX2_foundFact 59 = .ok (.aload_n 0, 1) := by decide +kernel
theorem dX2_foundFact_60 : decode cX2_foundFact 60 = .ok (.getfield 31, 3) := by decide +kernel
theorem dX2_foundFact_63 : decode cX2_foundFact 63 = .ok (.ireturn, 1) := by decide +kernel
theorem dX2_foundFact_64 : decode cX2_foundFact 64 = .ok (.aload_n 0, 1) := by decide +kernel
theorem dX2_foundFact_65 : decode cX2_foundFact 65 = .ok (.getfield 34, 3) := by decide +kernel
theorem dX2_foundFact_68 : decode cX2_foundFact 68 = .ok (.ireturn, 1) := by decide +kernel
theorem dX2_find_0 : decode cX2_find 0 = .ok (.aload_n 0, 1) := by decide +kernel
theorem dX2_find_1 : decode cX2_find 1 = .ok (.bipush (-5), 2) := by decide +kernel
theorem dX2_find_3 : decode cX2_find 3 = .ok (.putfield 21, 3) := by decide +kernel
theorem dX2_find_6 : decode cX2_find 6 = .ok (.aload_n 0, 1) := by decide +kernel
theorem dX2_find_7 : decode cX2_find 7 = .ok (.iconst 0, 1) := by decide +kernel
theorem dX2_find_8 : decode cX2_find 8 = .ok (.putfield 25, 3) := by decide +kernel
theorem dX2_find_11 : decode cX2_find 11 = .ok (.aload_n 0, 1) := by decide +kernel
theorem dX2_find_12 : decode cX2_find 12 = .ok (.aload_n 1, 1) := by decide +kernel
theorem dX2_find_13 : decode cX2_find 13 = .ok (.invokevirtual 37, 3) := by decide +kernel
theorem dX2_find_16 : decode cX2_find 16 = .ok (.aload_n 0, 1) := by decide +kernel
theorem dX2_find_17 : decode cX2_find 17 = .ok (.aload_n 1, 1) := by decide +kernel
theorem dX2_find_18 : decode cX2_find 18 = .ok (.invokevirtual 41, 3) := by decide +kernel
theorem dX2_find_21 : decode cX2_find 21 = .ok (.aload_n 0, 1) := by decide +kernel
theorem dX2_find_22 : decode cX2_find 22 = .ok (.aload_n 1, 1) := by decide +kernel
theorem dX2_find_23 : decode cX2_find 23 = .ok (.invokevirtual 44, 3) := by decide +kernel
theorem dX2_find_26 : decode cX2_find 26 = .ok (.return_, 1) := by decide +kernel
theorem dX2_keepFound_0 : decode cX2_keepFound 0 = .ok (.aload_n 0, 1) := by decide +kernel
theorem dX2_keepFound_1 : decode cX2_keepFound 1 = .ok (.iload_n 1, 1) := by decide +kernel
theorem dX2_keepFound_2 : decode cX2_keepFound 2 = .ok (.putfield 21, 3) := by decide +kernel
theorem dX2_keepFound_5 : decode cX2_keepFound 5 = .ok (.aload_n 0, 1) := by decide +kernel
theorem dX2_keepFound_6 : decode cX2_keepFound 6 = .ok (.iload_n 2, 1) := by decide +kernel
theorem dX2_keepFound_7 : decode cX2_keepFound 7 = .ok (.putfield 25, 3) := by decide +kernel
theorem dX2_keepFound_10 : decode cX2_keepFound 10 = .ok (.aload_n 0, 1) := by decide +kernel
theorem dX2_keepFound_11 : decode cX2_keepFound 11 = .ok (.iload_n 3, 1) := by decide +kernel
theorem dX2_keepFound_12 : decode cX2_keepFound 12 = .ok (.putfield 28, 3) := by decide +kernel
theorem dX2_keepFound_15 : decode cX2_keepFound 15 = .ok (.aload_n 0, 1) := by decide +kernel
theorem dX2_keepFound_16 : decode cX2_keepFound 16 = .ok (.iload 4, 2) := by decide +kernel
theorem dX2_keepFound_18 : decode cX2_keepFound 18 = .ok (.putfield 31, 3) := by decide +kernel
theorem dX2_keepFound_21 : decode cX2_keepFound 21 = .ok (.aload_n 0, 1) := by decide +kernel
theorem dX2_keepFound_22 : decode cX2_keepFound 22 = .ok (.iload 5, 2) := by decide +kernel
theorem dX2_keepFound_24 : decode cX2_keepFound 24 = .ok (.putfield 34, 3) := by decide +kernel
theorem dX2_keepFound_27 : decode cX2_keepFound 27 = .ok (.return_, 1) := by decide +kernel
theorem dX2_findTurns_0 : decode cX2_findTurns 0 = .ok (.iconst 0, 1) := by decide +kernel
theorem dX2_findTurns_1 : decode cX2_findTurns 1 = .ok (.istore_n 2, 1) := by decide +kernel
theorem dX2_findTurns_2 : decode cX2_findTurns 2 = .ok (.iload_n 2, 1) := by decide +kernel
theorem dX2_findTurns_3 : decode cX2_findTurns 3 = .ok (.iconst 4, 1) := by decide +kernel
theorem dX2_findTurns_4 : decode cX2_findTurns 4 = .ok (.if_icmp .ge 94, 3) := by decide +kernel
theorem dX2_findTurns_7 : decode cX2_findTurns 7 = .ok (.aload_n 1, 1) := by decide +kernel
theorem dX2_findTurns_8 : decode cX2_findTurns 8 = .ok (.iload_n 2, 1) := by decide +kernel
theorem dX2_findTurns_9 : decode cX2_findTurns 9 = .ok (.invokevirtual 47, 3) := by decide +kernel
theorem dX2_findTurns_12 : decode cX2_findTurns 12 = .ok (.istore_n 3, 1) := by decide +kernel
theorem dX2_findTurns_13 : decode cX2_findTurns 13 = .ok (.iconst 0, 1) := by decide +kernel
theorem dX2_findTurns_14 : decode cX2_findTurns 14 = .ok (.istore 4, 2) := by decide +kernel
theorem dX2_findTurns_16 : decode cX2_findTurns 16 = .ok (.iload 4, 2) := by decide +kernel
theorem dX2_findTurns_18 : decode cX2_findTurns 18 = .ok (.iload_n 3, 1) := by decide +kernel
theorem dX2_findTurns_19 : decode cX2_findTurns 19 = .ok (.if_icmp .ge 73, 3) := by decide +kernel
theorem dX2_findTurns_22 : decode cX2_findTurns 22 = .ok (.iload 4, 2) := by decide +kernel
theorem dX2_findTurns_24 : decode cX2_findTurns 24 = .ok (.iconst 1, 1) := by decide +kernel
theorem dX2_findTurns_25 : decode cX2_findTurns 25 = .ok (.iadd, 1) := by decide +kernel
theorem dX2_findTurns_26 : decode cX2_findTurns 26 = .ok (.istore 5, 2) := by decide +kernel
theorem dX2_findTurns_28 : decode cX2_findTurns 28 = .ok (.iload 5, 2) := by decide +kernel
theorem dX2_findTurns_30 : decode cX2_findTurns 30 = .ok (.iload_n 3, 1) := by decide +kernel
theorem dX2_findTurns_31 : decode cX2_findTurns 31 = .ok (.if_icmp .ge 55, 3) := by decide +kernel
theorem dX2_findTurns_34 : decode cX2_findTurns 34 = .ok (.aload_n 0, 1) := by decide +kernel
theorem dX2_findTurns_35 : decode cX2_findTurns 35 = .ok (.aload_n 1, 1) := by decide +kernel
theorem dX2_findTurns_36 : decode cX2_findTurns 36 = .ok (.iload_n 2, 1) := by decide +kernel
theorem dX2_findTurns_37 : decode cX2_findTurns 37 = .ok (.iload 4, 2) := by decide +kernel
theorem dX2_findTurns_39 : decode cX2_findTurns 39 = .ok (.iload 5, 2) := by decide +kernel
theorem dX2_findTurns_41 : decode cX2_findTurns 41 = .ok (.invokevirtual 53, 3) := by decide +kernel
theorem dX2_findTurns_44 : decode cX2_findTurns 44 = .ok (.istore 6, 2) := by decide +kernel
theorem dX2_findTurns_46 : decode cX2_findTurns 46 = .ok (.iload 6, 2) := by decide +kernel
theorem dX2_findTurns_48 : decode cX2_findTurns 48 = .ok (.aload_n 0, 1) := by decide +kernel
theorem dX2_findTurns_49 : decode cX2_findTurns 49 = .ok (.getfield 25, 3) := by decide +kernel
theorem dX2_findTurns_52 : decode cX2_findTurns 52 = .ok (.if_icmp .le 28, 3) := by decide +kernel
theorem dX2_findTurns_55 : decode cX2_findTurns 55 = .ok (.aload_n 0, 1) := by decide +kernel
theorem dX2_findTurns_56 : decode cX2_findTurns 56 = .ok (.aload_n 1, 1) := by decide +kernel
theorem dX2_findTurns_57 : decode cX2_findTurns 57 = .ok (.iload_n 2, 1) := by decide +kernel
theorem dX2_findTurns_58 : decode cX2_findTurns 58 = .ok (.iload 4, 2) := by decide +kernel
theorem dX2_findTurns_60 : decode cX2_findTurns 60 = .ok (.iload 5, 2) := by decide +kernel
theorem dX2_findTurns_62 : decode cX2_findTurns 62 = .ok (.invokevirtual 57, 3) := by decide +kernel
theorem dX2_findTurns_65 : decode cX2_findTurns 65 = .ok (.ifCond .eq 15, 3) := by decide +kernel
theorem dX2_findTurns_68 : decode cX2_findTurns 68 = .ok (.aload_n 0, 1) := by decide +kernel
theorem dX2_findTurns_69 : decode cX2_findTurns 69 = .ok (.iconst 1, 1) := by decide +kernel
theorem dX2_findTurns_70 : decode cX2_findTurns 70 = .ok (.iload 6, 2) := by decide +kernel
theorem dX2_findTurns_72 : decode cX2_findTurns 72 = .ok (.iload_n 2, 1) := by decide +kernel
theorem dX2_findTurns_73 : decode cX2_findTurns 73 = .ok (.iload 4, 2) := by decide +kernel
theorem dX2_findTurns_75 : decode cX2_findTurns 75 = .ok (.iload 5, 2) := by decide +kernel
theorem dX2_findTurns_77 : decode cX2_findTurns 77 = .ok (.invokevirtual 61, 3) := by decide +kernel
theorem dX2_findTurns_80 : decode cX2_findTurns 80 = .ok (.iinc 5 1, 3) := by decide +kernel
theorem dX2_findTurns_83 : decode cX2_findTurns 83 = .ok (.goto (-55), 3) := by decide +kernel
theorem dX2_findTurns_86 : decode cX2_findTurns 86 = .ok (.iinc 4 1, 3) := by decide +kernel
theorem dX2_findTurns_89 : decode cX2_findTurns 89 = .ok (.goto (-73), 3) := by decide +kernel
theorem dX2_findTurns_92 : decode cX2_findTurns 92 = .ok (.iinc 2 1, 3) := by decide +kernel
theorem dX2_findTurns_95 : decode cX2_findTurns 95 = .ok (.goto (-93), 3) := by decide +kernel
theorem dX2_findTurns_98 : decode cX2_findTurns 98 = .ok (.return_, 1) := by decide +kernel
theorem dX2_findShifts_0 : decode cX2_findShifts 0 = .ok (.iconst 0, 1) := by decide +kernel
theorem dX2_findShifts_1 : decode cX2_findShifts 1 = .ok (.istore_n 2, 1) := by decide +kernel
theorem dX2_findShifts_2 : decode cX2_findShifts 2 = .ok (.iload_n 2, 1) := by decide +kernel
theorem dX2_findShifts_3 : decode cX2_findShifts 3 = .ok (.aload_n 1, 1) := by decide +kernel
theorem dX2_findShifts_4 : decode cX2_findShifts 4 = .ok (.getfield 65, 3) := by decide +kernel
theorem dX2_findShifts_7 : decode cX2_findShifts 7 = .ok (.if_icmp .ge 157, 3) := by decide +kernel
theorem dX2_findShifts_10 : decode cX2_findShifts 10 = .ok (.aload_n 1, 1) := by decide +kernel
theorem dX2_findShifts_11 : decode cX2_findShifts 11 = .ok (.iload_n 2, 1) := by decide +kernel
theorem dX2_findShifts_12 : decode cX2_findShifts 12 = .ok (.invokevirtual 68, 3) := by decide +kernel
theorem dX2_findShifts_15 : decode cX2_findShifts 15 = .ok (.istore_n 3, 1) := by decide +kernel
theorem dX2_findShifts_16 : decode cX2_findShifts 16 = .ok (.iload_n 3, 1) := by decide +kernel
theorem dX2_findShifts_17 : decode cX2_findShifts 17 = .ok (.bipush (-5), 2) := by decide +kernel
theorem dX2_findShifts_19 : decode cX2_findShifts 19 = .ok (.if_icmp .eq 139, 3) := by decide +kernel
theorem dX2_findShifts_22 : decode cX2_findShifts 22 = .ok (.aload_n 1, 1) := by decide +kernel
theorem dX2_findShifts_23 : decode cX2_findShifts 23 = .ok (.iload_n 2, 1) := by decide +kernel
theorem dX2_findShifts_24 : decode cX2_findShifts 24 = .ok (.invokevirtual 71, 3) := by decide +kernel
theorem dX2_findShifts_27 : decode cX2_findShifts 27 = .ok (.ifCond .eq 6, 3) := by decide +kernel
theorem dX2_findShifts_30 : decode cX2_findShifts 30 = .ok (.goto 128, 3) := by decide +kernel
theorem dX2_findShifts_33 : decode cX2_findShifts 33 = .ok (.aload_n 1, 1) := by decide +kernel
theorem dX2_findShifts_34 : decode cX2_findShifts 34 = .ok (.iload_n 2, 1) := by decide +kernel
theorem dX2_findShifts_35 : decode cX2_findShifts 35 = .ok (.invokevirtual 75, 3) := by decide +kernel
theorem dX2_findShifts_38 : decode cX2_findShifts 38 = .ok (.istore 4, 2) := by decide +kernel
theorem dX2_findShifts_40 : decode cX2_findShifts 40 = .ok (.iconst 0, 1) := by decide +kernel
theorem dX2_findShifts_41 : decode cX2_findShifts 41 = .ok (.istore 5, 2) := by decide +kernel
theorem dX2_findShifts_43 : decode cX2_findShifts 43 = .ok (.iload 5, 2) := by decide +kernel
theorem dX2_findShifts_45 : decode cX2_findShifts 45 = .ok (.iconst 4, 1) := by decide +kernel
theorem dX2_findShifts_46 : decode cX2_findShifts 46 = .ok (.if_icmp .ge 112, 3) := by decide +kernel
theorem dX2_findShifts_49 : decode cX2_findShifts 49 = .ok (.iload 5, 2) := by decide +kernel
theorem dX2_findShifts_51 : decode cX2_findShifts 51 = .ok (.iload_n 3, 1) := by decide +kernel
theorem dX2_findShifts_52 : decode cX2_findShifts 52 = .ok (.if_icmp .ne 14, 3) := by decide +kernel
theorem dX2_findShifts_55 : decode cX2_findShifts 55 = .ok (.aload_n 1, 1) := by decide +kernel
theorem dX2_findShifts_56 : decode cX2_findShifts 56 = .ok (.iload 5, 2) := by decide +kernel
theorem dX2_findShifts_58 : decode cX2_findShifts 58 = .ok (.invokevirtual 47, 3) := by decide +kernel
theorem dX2_findShifts_61 : decode cX2_findShifts 61 = .ok (.iconst 1, 1) := by decide +kernel
theorem dX2_findShifts_62 : decode cX2_findShifts 62 = .ok (.isub, 1) := by decide +kernel
theorem dX2_findShifts_63 : decode cX2_findShifts 63 = .ok (.goto 9, 3) := by decide +kernel
theorem dX2_findShifts_66 : decode cX2_findShifts 66 = .ok (.aload_n 1, 1) := by decide +kernel
theorem dX2_findShifts_67 : decode cX2_findShifts 67 = .ok (.iload 5, 2) := by decide +kernel
theorem dX2_findShifts_69 : decode cX2_findShifts 69 = .ok (.invokevirtual 47, 3) := by decide +kernel
theorem dX2_findShifts_72 : decode cX2_findShifts 72 = .ok (.istore 6, 2) := by decide +kernel
theorem dX2_findShifts_74 : decode cX2_findShifts 74 = .ok (.iconst 0, 1) := by decide +kernel
theorem dX2_findShifts_75 : decode cX2_findShifts 75 = .ok (.istore 7, 2) := by decide +kernel
theorem dX2_findShifts_77 : decode cX2_findShifts 77 = .ok (.iload 7, 2) := by decide +kernel
theorem dX2_findShifts_79 : decode cX2_findShifts 79 = .ok (.iload 6, 2) := by decide +kernel
theorem dX2_findShifts_81 : decode cX2_findShifts 81 = .ok (.if_icmp .gt 71, 3) := by decide +kernel
theorem dX2_findShifts_84 : decode cX2_findShifts 84 = .ok (.iload 5, 2) := by decide +kernel
theorem dX2_findShifts_86 : decode cX2_findShifts 86 = .ok (.iload_n 3, 1) := by decide +kernel
theorem dX2_findShifts_87 : decode cX2_findShifts 87 = .ok (.if_icmp .ne 13, 3) := by decide +kernel
theorem dX2_findShifts_90 : decode cX2_findShifts 90 = .ok (.iload 7, 2) := by decide +kernel
theorem dX2_findShifts_92 : decode cX2_findShifts 92 = .ok (.iload 4, 2) := by decide +kernel
theorem dX2_findShifts_94 : decode cX2_findShifts 94 = .ok (.if_icmp .ne 6, 3) := by decide +kernel
theorem dX2_findShifts_97 : decode cX2_findShifts 97 = .ok (.goto 49, 3) := by decide +kernel
theorem dX2_findShifts_100 : decode cX2_findShifts 100 = .ok (.aload_n 0, 1) := by decide +kernel
theorem dX2_findShifts_101 : decode cX2_findShifts 101 = .ok (.aload_n 1, 1) := by decide +kernel
theorem dX2_findShifts_102 : decode cX2_findShifts 102 = .ok (.iload_n 2, 1) := by decide +kernel
theorem dX2_findShifts_103 : decode cX2_findShifts 103 = .ok (.iload 5, 2) := by decide +kernel
theorem dX2_findShifts_105 : decode cX2_findShifts 105 = .ok (.iload 7, 2) := by decide +kernel
theorem dX2_findShifts_107 : decode cX2_findShifts 107 = .ok (.invokevirtual 78, 3) := by decide +kernel
theorem dX2_findShifts_110 : decode cX2_findShifts 110 = .ok (.istore 8, 2) := by decide +kernel
theorem dX2_findShifts_112 : decode cX2_findShifts 112 = .ok (.iload 8, 2) := by decide +kernel
theorem dX2_findShifts_114 : decode cX2_findShifts 114 = .ok (.aload_n 0, 1) := by decide +kernel
theorem dX2_findShifts_115 : decode cX2_findShifts 115 = .ok (.getfield 25, 3) := by decide +kernel
theorem dX2_findShifts_118 : decode cX2_findShifts 118 = .ok (.if_icmp .le 28, 3) := by decide +kernel
theorem dX2_findShifts_121 : decode cX2_findShifts 121 = .ok (.aload_n 0, 1) := by decide +kernel
theorem dX2_findShifts_122 : decode cX2_findShifts 122 = .ok (.aload_n 1, 1) := by decide +kernel
theorem dX2_findShifts_123 : decode cX2_findShifts 123 = .ok (.iload_n 2, 1) := by decide +kernel
theorem dX2_findShifts_124 : decode cX2_findShifts 124 = .ok (.iload 5, 2) := by decide +kernel
theorem dX2_findShifts_126 : decode cX2_findShifts 126 = .ok (.iload 7, 2) := by decide +kernel
theorem dX2_findShifts_128 : decode cX2_findShifts 128 = .ok (.invokevirtual 81, 3) := by decide +kernel
theorem dX2_findShifts_131 : decode cX2_findShifts 131 = .ok (.ifCond .eq 15, 3) := by decide +kernel
theorem dX2_findShifts_134 : decode cX2_findShifts 134 = .ok (.aload_n 0, 1) := by decide +kernel
theorem dX2_findShifts_135 : decode cX2_findShifts 135 = .ok (.iconst 2, 1) := by decide +kernel
theorem dX2_findShifts_136 : decode cX2_findShifts 136 = .ok (.iload 8, 2) := by decide +kernel
theorem dX2_findShifts_138 : decode cX2_findShifts 138 = .ok (.iload_n 2, 1) := by decide +kernel
theorem dX2_findShifts_139 : decode cX2_findShifts 139 = .ok (.iload 5, 2) := by decide +kernel
theorem dX2_findShifts_141 : decode cX2_findShifts 141 = .ok (.iload 7, 2) := by decide +kernel
theorem dX2_findShifts_143 : decode cX2_findShifts 143 = .ok (.invokevirtual 61, 3) := by decide +kernel
theorem dX2_findShifts_146 : decode cX2_findShifts 146 = .ok (.iinc 7 1, 3) := by decide +kernel
theorem dX2_findShifts_149 : decode cX2_findShifts 149 = .ok (.goto (-72), 3) := by decide +kernel
theorem dX2_findShifts_152 : decode cX2_findShifts 152 = .ok (.iinc 5 1, 3) := by decide +kernel
theorem dX2_findShifts_155 : decode cX2_findShifts 155 = .ok (.goto (-112), 3) := by decide +kernel
theorem dX2_findShifts_158 : decode cX2_findShifts 158 = .ok (.iinc 2 1, 3) := by decide +kernel
theorem dX2_findShifts_161 : decode cX2_findShifts 161 = .ok (.goto (-159), 3) := by decide +kernel
theorem dX2_findShifts_164 : decode cX2_findShifts 164 = .ok (.return_, 1) := by decide +kernel
theorem dX2_findSwaps_0 : decode cX2_findSwaps 0 = .ok (.iconst 0, 1) := by decide +kernel
theorem dX2_findSwaps_1 : decode cX2_findSwaps 1 = .ok (.istore_n 2, 1) := by decide +kernel
theorem dX2_findSwaps_2 : decode cX2_findSwaps 2 = .ok (.iload_n 2, 1) := by decide +kernel
theorem dX2_findSwaps_3 : decode cX2_findSwaps 3 = .ok (.aload_n 1, 1) := by decide +kernel
theorem dX2_findSwaps_4 : decode cX2_findSwaps 4 = .ok (.getfield 65, 3) := by decide +kernel
theorem dX2_findSwaps_7 : decode cX2_findSwaps 7 = .ok (.if_icmp .ge 89, 3) := by decide +kernel
theorem dX2_findSwaps_10 : decode cX2_findSwaps 10 = .ok (.iload_n 2, 1) := by decide +kernel
theorem dX2_findSwaps_11 : decode cX2_findSwaps 11 = .ok (.iconst 1, 1) := by decide +kernel
theorem dX2_findSwaps_12 : decode cX2_findSwaps 12 = .ok (.iadd, 1) := by decide +kernel
theorem dX2_findSwaps_13 : decode cX2_findSwaps 13 = .ok (.istore_n 3, 1) := by decide +kernel
theorem dX2_findSwaps_14 : decode cX2_findSwaps 14 = .ok (.iload_n 3, 1) := by decide +kernel
theorem dX2_findSwaps_15 : decode cX2_findSwaps 15 = .ok (.aload_n 1, 1) := by decide +kernel
theorem dX2_findSwaps_16 : decode cX2_findSwaps 16 = .ok (.getfield 65, 3) := by decide +kernel
theorem dX2_findSwaps_19 : decode cX2_findSwaps 19 = .ok (.if_icmp .ge 71, 3) := by decide +kernel
theorem dX2_findSwaps_22 : decode cX2_findSwaps 22 = .ok (.aload_n 1, 1) := by decide +kernel
theorem dX2_findSwaps_23 : decode cX2_findSwaps 23 = .ok (.iload_n 2, 1) := by decide +kernel
theorem dX2_findSwaps_24 : decode cX2_findSwaps 24 = .ok (.invokevirtual 68, 3) := by decide +kernel
theorem dX2_findSwaps_27 : decode cX2_findSwaps 27 = .ok (.bipush (-5), 2) := by decide +kernel
theorem dX2_findSwaps_29 : decode cX2_findSwaps 29 = .ok (.if_icmp .eq 55, 3) := by decide +kernel
theorem dX2_findSwaps_32 : decode cX2_findSwaps 32 = .ok (.aload_n 1, 1) := by decide +kernel
theorem dX2_findSwaps_33 : decode cX2_findSwaps 33 = .ok (.iload_n 3, 1) := by decide +kernel
theorem dX2_findSwaps_34 : decode cX2_findSwaps 34 = .ok (.invokevirtual 68, 3) := by decide +kernel
theorem dX2_findSwaps_37 : decode cX2_findSwaps 37 = .ok (.bipush (-5), 2) := by decide +kernel
theorem dX2_findSwaps_39 : decode cX2_findSwaps 39 = .ok (.if_icmp .ne 6, 3) := by decide +kernel
theorem dX2_findSwaps_42 : decode cX2_findSwaps 42 = .ok (.goto 42, 3) := by decide +kernel
theorem dX2_findSwaps_45 : decode cX2_findSwaps 45 = .ok (.aload_n 0, 1) := by decide +kernel
theorem dX2_findSwaps_46 : decode cX2_findSwaps 46 = .ok (.aload_n 1, 1) := by decide +kernel
theorem dX2_findSwaps_47 : decode cX2_findSwaps 47 = .ok (.iload_n 2, 1) := by decide +kernel
theorem dX2_findSwaps_48 : decode cX2_findSwaps 48 = .ok (.iload_n 3, 1) := by decide +kernel
theorem dX2_findSwaps_49 : decode cX2_findSwaps 49 = .ok (.invokevirtual 84, 3) := by decide +kernel
theorem dX2_findSwaps_52 : decode cX2_findSwaps 52 = .ok (.istore 4, 2) := by decide +kernel
theorem dX2_findSwaps_54 : decode cX2_findSwaps 54 = .ok (.iload 4, 2) := by decide +kernel
theorem dX2_findSwaps_56 : decode cX2_findSwaps 56 = .ok (.aload_n 0, 1) := by decide +kernel
theorem dX2_findSwaps_57 : decode cX2_findSwaps 57 = .ok (.getfield 25, 3) := by decide +kernel
theorem dX2_findSwaps_60 : decode cX2_findSwaps 60 = .ok (.if_icmp .le 24, 3) := by decide +kernel
theorem dX2_findSwaps_63 : decode cX2_findSwaps 63 = .ok (.aload_n 0, 1) := by decide +kernel
theorem dX2_findSwaps_64 : decode cX2_findSwaps 64 = .ok (.aload_n 1, 1) := by decide +kernel
theorem dX2_findSwaps_65 : decode cX2_findSwaps 65 = .ok (.iload_n 2, 1) := by decide +kernel
theorem dX2_findSwaps_66 : decode cX2_findSwaps 66 = .ok (.iload_n 3, 1) := by decide +kernel
theorem dX2_findSwaps_67 : decode cX2_findSwaps 67 = .ok (.invokevirtual 88, 3) := by decide +kernel
theorem dX2_findSwaps_70 : decode cX2_findSwaps 70 = .ok (.ifCond .eq 14, 3) := by decide +kernel
theorem dX2_findSwaps_73 : decode cX2_findSwaps 73 = .ok (.aload_n 0, 1) := by decide +kernel
theorem dX2_findSwaps_74 : decode cX2_findSwaps 74 = .ok (.iconst 3, 1) := by decide +kernel
theorem dX2_findSwaps_75 : decode cX2_findSwaps 75 = .ok (.iload 4, 2) := by decide +kernel
theorem dX2_findSwaps_77 : decode cX2_findSwaps 77 = .ok (.iload_n 2, 1) := by decide +kernel
theorem dX2_findSwaps_78 : decode cX2_findSwaps 78 = .ok (.iload_n 3, 1) := by decide +kernel
theorem dX2_findSwaps_79 : decode cX2_findSwaps 79 = .ok (.bipush (-5), 2) := by decide +kernel
theorem dX2_findSwaps_81 : decode cX2_findSwaps 81 = .ok (.invokevirtual 61, 3) := by decide +kernel
theorem dX2_findSwaps_84 : decode cX2_findSwaps 84 = .ok (.iinc 3 1, 3) := by decide +kernel
theorem dX2_findSwaps_87 : decode cX2_findSwaps 87 = .ok (.goto (-73), 3) := by decide +kernel
theorem dX2_findSwaps_90 : decode cX2_findSwaps 90 = .ok (.iinc 2 1, 3) := by decide +kernel
theorem dX2_findSwaps_93 : decode cX2_findSwaps 93 = .ok (.goto (-91), 3) := by decide +kernel
theorem dX2_findSwaps_96 : decode cX2_findSwaps 96 = .ok (.return_, 1) := by decide +kernel
theorem dX2_perform_0 : decode cX2_perform 0 = .ok (.iconst 0, 1) := by decide +kernel
theorem dX2_perform_1 : decode cX2_perform 1 = .ok (.istore_n 2, 1) := by decide +kernel
theorem dX2_perform_2 : decode cX2_perform 2 = .ok (.aload_n 0, 1) := by decide +kernel
theorem dX2_perform_3 : decode cX2_perform 3 = .ok (.getfield 21, 3) := by decide +kernel
theorem dX2_perform_6 : decode cX2_perform 6 = .ok (.tableswitch 85 1 3 #[26, 47, 68], 26) := by decide +kernel
theorem dX2_perform_32 : decode cX2_perform 32 = .ok (.aload_n 0, 1) := by decide +kernel
theorem dX2_perform_33 : decode cX2_perform 33 = .ok (.aload_n 1, 1) := by decide +kernel
theorem dX2_perform_34 : decode cX2_perform 34 = .ok (.aload_n 0, 1) := by decide +kernel
theorem dX2_perform_35 : decode cX2_perform 35 = .ok (.getfield 28, 3) := by decide +kernel
theorem dX2_perform_38 : decode cX2_perform 38 = .ok (.aload_n 0, 1) := by decide +kernel
theorem dX2_perform_39 : decode cX2_perform 39 = .ok (.getfield 31, 3) := by decide +kernel
theorem dX2_perform_42 : decode cX2_perform 42 = .ok (.aload_n 0, 1) := by decide +kernel
theorem dX2_perform_43 : decode cX2_perform 43 = .ok (.getfield 34, 3) := by decide +kernel
theorem dX2_perform_46 : decode cX2_perform 46 = .ok (.invokevirtual 57, 3) := by decide +kernel
theorem dX2_perform_49 : decode cX2_perform 49 = .ok (.istore_n 2, 1) := by decide +kernel
theorem dX2_perform_50 : decode cX2_perform 50 = .ok (.goto 41, 3) := by decide +kernel
theorem dX2_perform_53 : decode cX2_perform 53 = .ok (.aload_n 0, 1) := by decide +kernel
theorem dX2_perform_54 : decode cX2_perform 54 = .ok (.aload_n 1, 1) := by decide +kernel
theorem dX2_perform_55 : decode cX2_perform 55 = .ok (.aload_n 0, 1) := by decide +kernel
theorem dX2_perform_56 : decode cX2_perform 56 = .ok (.getfield 28, 3) := by decide +kernel
theorem dX2_perform_59 : decode cX2_perform 59 = .ok (.aload_n 0, 1) := by decide +kernel
theorem dX2_perform_60 : decode cX2_perform 60 = .ok (.getfield 31, 3) := by decide +kernel
theorem dX2_perform_63 : decode cX2_perform 63 = .ok (.aload_n 0, 1) := by decide +kernel
theorem dX2_perform_64 : decode cX2_perform 64 = .ok (.getfield 34, 3) := by decide +kernel
theorem dX2_perform_67 : decode cX2_perform 67 = .ok (.invokevirtual 81, 3) := by decide +kernel
theorem dX2_perform_70 : decode cX2_perform 70 = .ok (.istore_n 2, 1) := by decide +kernel
theorem dX2_perform_71 : decode cX2_perform 71 = .ok (.goto 20, 3) := by decide +kernel
theorem dX2_perform_74 : decode cX2_perform 74 = .ok (.aload_n 0, 1) := by decide +kernel
theorem dX2_perform_75 : decode cX2_perform 75 = .ok (.aload_n 1, 1) := by decide +kernel
theorem dX2_perform_76 : decode cX2_perform 76 = .ok (.aload_n 0, 1) := by decide +kernel
theorem dX2_perform_77 : decode cX2_perform 77 = .ok (.getfield 28, 3) := by decide +kernel
theorem dX2_perform_80 : decode cX2_perform 80 = .ok (.aload_n 0, 1) := by decide +kernel
theorem dX2_perform_81 : decode cX2_perform 81 = .ok (.getfield 31, 3) := by decide +kernel
theorem dX2_perform_84 : decode cX2_perform 84 = .ok (.invokevirtual 88, 3) := by decide +kernel
theorem dX2_perform_87 : decode cX2_perform 87 = .ok (.istore_n 2, 1) := by decide +kernel
theorem dX2_perform_88 : decode cX2_perform 88 = .ok (.goto 3, 3) := by decide +kernel
theorem dX2_perform_91 : decode cX2_perform 91 = .ok (.iload_n 2, 1) := by decide +kernel
theorem dX2_perform_92 : decode cX2_perform 92 = .ok (.ifCond .ne 4, 3) := by decide +kernel
theorem dX2_perform_95 : decode cX2_perform 95 = .ok (.return_, 1) := by decide +kernel
theorem dX2_perform_96 : decode cX2_perform 96 = .ok (.aload_n 0, 1) := by decide +kernel
theorem dX2_perform_97 : decode cX2_perform 97 = .ok (.getfield 12, 3) := by decide +kernel
theorem dX2_perform_100 : decode cX2_perform 100 = .ok (.aload_n 1, 1) := by decide +kernel
theorem dX2_perform_101 : decode cX2_perform 101 = .ok (.invokevirtual 92, 3) := by decide +kernel
theorem dX2_perform_104 : decode cX2_perform 104 = .ok (.aload_n 0, 1) := by decide +kernel
theorem dX2_perform_105 : decode cX2_perform 105 = .ok (.getfield 95, 3) := by decide +kernel
theorem dX2_perform_108 : decode cX2_perform 108 = .ok (.ifCond .eq 11, 3) := by decide +kernel
theorem dX2_perform_111 : decode cX2_perform 111 = .ok (.aload_n 0, 1) := by decide +kernel
theorem dX2_perform_112 : decode cX2_perform 112 = .ok (.getfield 18, 3) := by decide +kernel
theorem dX2_perform_115 : decode cX2_perform 115 = .ok (.aload_n 1, 1) := by decide +kernel
theorem dX2_perform_116 : decode cX2_perform 116 = .ok (.invokevirtual 92, 3) := by decide +kernel
theorem dX2_perform_119 : decode cX2_perform 119 = .ok (.return_, 1) := by decide +kernel
theorem dX2_turnGain_0 : decode cX2_turnGain 0 = .ok (.aload_n 1, 1) := by decide +kernel
theorem dX2_turnGain_1 : decode cX2_turnGain 1 = .ok (.iload_n 2, 1) := by decide +kernel
theorem dX2_turnGain_2 : decode cX2_turnGain 2 = .ok (.iload_n 3, 1) := by decide +kernel
theorem dX2_turnGain_3 : decode cX2_turnGain 3 = .ok (.iconst 1, 1) := by decide +kernel
theorem dX2_turnGain_4 : decode cX2_turnGain 4 = .ok (.isub, 1) := by decide +kernel
theorem dX2_turnGain_5 : decode cX2_turnGain 5 = .ok (.invokevirtual 99, 3) := by decide +kernel
theorem dX2_turnGain_8 : decode cX2_turnGain 8 = .ok (.istore 5, 2) := by decide +kernel
theorem dX2_turnGain_10 : decode cX2_turnGain 10 = .ok (.aload_n 1, 1) := by decide +kernel
theorem dX2_turnGain_11 : decode cX2_turnGain 11 = .ok (.iload_n 2, 1) := by decide +kernel
theorem dX2_turnGain_12 : decode cX2_turnGain 12 = .ok (.iload_n 3, 1) := by decide +kernel
theorem dX2_turnGain_13 : decode cX2_turnGain 13 = .ok (.invokevirtual 99, 3) := by decide +kernel
theorem dX2_turnGain_16 : decode cX2_turnGain 16 = .ok (.istore 6, 2) := by decide +kernel
theorem dX2_turnGain_18 : decode cX2_turnGain 18 = .ok (.aload_n 1, 1) := by decide +kernel
theorem dX2_turnGain_19 : decode cX2_turnGain 19 = .ok (.iload_n 2, 1) := by decide +kernel
theorem dX2_turnGain_20 : decode cX2_turnGain 20 = .ok (.iload 4, 2) := by decide +kernel
theorem dX2_turnGain_22 : decode cX2_turnGain 22 = .ok (.invokevirtual 99, 3) := by decide +kernel
theorem dX2_turnGain_25 : decode cX2_turnGain 25 = .ok (.istore 7, 2) := by decide +kernel
theorem dX2_turnGain_27 : decode cX2_turnGain 27 = .ok (.aload_n 1, 1) := by decide +kernel
theorem dX2_turnGain_28 : decode cX2_turnGain 28 = .ok (.iload_n 2, 1) := by decide +kernel
theorem dX2_turnGain_29 : decode cX2_turnGain 29 = .ok (.iload 4, 2) := by decide +kernel
theorem dX2_turnGain_31 : decode cX2_turnGain 31 = .ok (.iconst 1, 1) := by decide +kernel
theorem dX2_turnGain_32 : decode cX2_turnGain 32 = .ok (.iadd, 1) := by decide +kernel
theorem dX2_turnGain_33 : decode cX2_turnGain 33 = .ok (.invokevirtual 99, 3) := by decide +kernel
theorem dX2_turnGain_36 : decode cX2_turnGain 36 = .ok (.istore 8, 2) := by decide +kernel
theorem dX2_turnGain_38 : decode cX2_turnGain 38 = .ok (.aload_n 1, 1) := by decide +kernel
theorem dX2_turnGain_39 : decode cX2_turnGain 39 = .ok (.iload 5, 2) := by decide +kernel
theorem dX2_turnGain_41 : decode cX2_turnGain 41 = .ok (.iload 6, 2) := by decide +kernel
theorem dX2_turnGain_43 : decode cX2_turnGain 43 = .ok (.invokevirtual 103, 3) := by decide +kernel
theorem dX2_turnGain_46 : decode cX2_turnGain 46 = .ok (.aload_n 1, 1) := by decide +kernel
theorem dX2_turnGain_47 : decode cX2_turnGain 47 = .ok (.iload 7, 2) := by decide +kernel
theorem dX2_turnGain_49 : decode cX2_turnGain 49 = .ok (.iload 8, 2) := by decide +kernel
theorem dX2_turnGain_51 : decode cX2_turnGain 51 = .ok (.invokevirtual 103, 3) := by decide +kernel
theorem dX2_turnGain_54 : decode cX2_turnGain 54 = .ok (.iadd, 1) := by decide +kernel
theorem dX2_turnGain_55 : decode cX2_turnGain 55 = .ok (.aload_n 1, 1) := by decide +kernel
theorem dX2_turnGain_56 : decode cX2_turnGain 56 = .ok (.iload 5, 2) := by decide +kernel
theorem dX2_turnGain_58 : decode cX2_turnGain 58 = .ok (.iload 7, 2) := by decide +kernel
theorem dX2_turnGain_60 : decode cX2_turnGain 60 = .ok (.invokevirtual 103, 3) := by decide +kernel
theorem dX2_turnGain_63 : decode cX2_turnGain 63 = .ok (.isub, 1) := by decide +kernel
theorem dX2_turnGain_64 : decode cX2_turnGain 64 = .ok (.aload_n 1, 1) := by decide +kernel
theorem dX2_turnGain_65 : decode cX2_turnGain 65 = .ok (.iload 6, 2) := by decide +kernel
theorem dX2_turnGain_67 : decode cX2_turnGain 67 = .ok (.iload 8, 2) := by decide +kernel
theorem dX2_turnGain_69 : decode cX2_turnGain 69 = .ok (.invokevirtual 103, 3) := by decide +kernel
theorem dX2_turnGain_72 : decode cX2_turnGain 72 = .ok (.isub, 1) := by decide +kernel
theorem dX2_turnGain_73 : decode cX2_turnGain 73 = .ok (.ireturn, 1) := by decide +kernel
theorem dX2_shiftGain_0 : decode cX2_shiftGain 0 = .ok (.aload_n 1, 1) := by decide +kernel
theorem dX2_shiftGain_1 : decode cX2_shiftGain 1 = .ok (.iload_n 2, 1) := by decide +kernel
theorem dX2_shiftGain_2 : decode cX2_shiftGain 2 = .ok (.invokevirtual 68, 3) := by decide +kernel
theorem dX2_shiftGain_5 : decode cX2_shiftGain 5 = .ok (.istore 5, 2) := by decide +kernel
theorem dX2_shiftGain_7 : decode cX2_shiftGain 7 = .ok (.aload_n 1, 1) := by decide +kernel
theorem dX2_shiftGain_8 : decode cX2_shiftGain 8 = .ok (.iload_n 2, 1) := by decide +kernel
theorem dX2_shiftGain_9 : decode cX2_shiftGain 9 = .ok (.invokevirtual 75, 3) := by decide +kernel
theorem dX2_shiftGain_12 : decode cX2_shiftGain 12 = .ok (.istore 6, 2) := by decide +kernel
theorem dX2_shiftGain_14 : decode cX2_shiftGain 14 = .ok (.aload_n 1, 1) := by decide +kernel
theorem dX2_shiftGain_15 : decode cX2_shiftGain 15 = .ok (.aload_n 1, 1) := by decide +kernel
theorem dX2_shiftGain_16 : decode cX2_shiftGain 16 = .ok (.iload 5, 2) := by decide +kernel
theorem dX2_shiftGain_18 : decode cX2_shiftGain 18 = .ok (.iload 6, 2) := by decide +kernel
theorem dX2_shiftGain_20 : decode cX2_shiftGain 20 = .ok (.iconst 1, 1) := by decide +kernel
theorem dX2_shiftGain_21 : decode cX2_shiftGain 21 = .ok (.isub, 1) := by decide +kernel
theorem dX2_shiftGain_22 : decode cX2_shiftGain 22 = .ok (.invokevirtual 99, 3) := by decide +kernel
theorem dX2_shiftGain_25 : decode cX2_shiftGain 25 = .ok (.iload_n 2, 1) := by decide +kernel
theorem dX2_shiftGain_26 : decode cX2_shiftGain 26 = .ok (.aload_n 1, 1) := by decide +kernel
theorem dX2_shiftGain_27 : decode cX2_shiftGain 27 = .ok (.iload 5, 2) := by decide +kernel
theorem dX2_shiftGain_29 : decode cX2_shiftGain 29 = .ok (.iload 6, 2) := by decide +kernel
theorem dX2_shiftGain_31 : decode cX2_shiftGain 31 = .ok (.iconst 1, 1) := by decide +kernel
theorem dX2_shiftGain_32 : decode cX2_shiftGain 32 = .ok (.iadd, 1) := by decide +kernel
theorem dX2_shiftGain_33 : decode cX2_shiftGain 33 = .ok (.invokevirtual 99, 3) := by decide +kernel
theorem dX2_shiftGain_36 : decode cX2_shiftGain 36 = .ok (.invokevirtual 106, 3) := by decide +kernel
theorem dX2_shiftGain_39 : decode cX2_shiftGain 39 = .ok (.istore 7, 2) := by decide +kernel
theorem dX2_shiftGain_41 : decode cX2_shiftGain 41 = .ok (.iload_n 3, 1) := by decide +kernel
theorem dX2_shiftGain_42 : decode cX2_shiftGain 42 = .ok (.iload 5, 2) := by decide +kernel
theorem dX2_shiftGain_44 : decode cX2_shiftGain 44 = .ok (.if_icmp .eq 34, 3) := by decide +kernel
theorem dX2_shiftGain_47 : decode cX2_shiftGain 47 = .ok (.iload 7, 2) := by decide +kernel
theorem dX2_shiftGain_49 : decode cX2_shiftGain 49 = .ok (.aload_n 1, 1) := by decide +kernel
theorem dX2_shiftGain_50 : decode cX2_shiftGain 50 = .ok (.iload 5, 2) := by decide +kernel
theorem dX2_shiftGain_52 : decode cX2_shiftGain 52 = .ok (.invokevirtual 47, 3) := by decide +kernel
theorem dX2_shiftGain_55 : decode cX2_shiftGain 55 = .ok (.iconst 1, 1) := by decide +kernel
theorem dX2_shiftGain_56 : decode cX2_shiftGain 56 = .ok (.if_icmp .ne 10, 3) := by decide +kernel
theorem dX2_shiftGain_59 : decode cX2_shiftGain 59 = .ok (.aload_n 1, 1) := by decide +kernel
theorem dX2_shiftGain_60 : decode cX2_shiftGain 60 = .ok (.getfield 110, 3) := by decide +kernel
theorem dX2_shiftGain_63 : decode cX2_shiftGain 63 = .ok (.goto 4, 3) := by decide +kernel
theorem dX2_shiftGain_66 : decode cX2_shiftGain 66 = .ok (.iconst 0, 1) := by decide +kernel
theorem dX2_shiftGain_67 : decode cX2_shiftGain 67 = .ok (.iadd, 1) := by decide +kernel
theorem dX2_shiftGain_68 : decode cX2_shiftGain 68 = .ok (.aload_n 1, 1) := by decide +kernel
theorem dX2_shiftGain_69 : decode cX2_shiftGain 69 = .ok (.iload_n 2, 1) := by decide +kernel
theorem dX2_shiftGain_70 : decode cX2_shiftGain 70 = .ok (.iload_n 3, 1) := by decide +kernel
theorem dX2_shiftGain_71 : decode cX2_shiftGain 71 = .ok (.iload 4, 2) := by decide +kernel
theorem dX2_shiftGain_73 : decode cX2_shiftGain 73 = .ok (.invokevirtual 113, 3) := by decide +kernel
theorem dX2_shiftGain_76 : decode cX2_shiftGain 76 = .ok (.isub, 1) := by decide +kernel
theorem dX2_shiftGain_77 : decode cX2_shiftGain 77 = .ok (.ireturn, 1) := by decide +kernel
theorem dX2_shiftGain_78 : decode cX2_shiftGain 78 = .ok (.aload_n 1, 1) := by decide +kernel
theorem dX2_shiftGain_79 : decode cX2_shiftGain 79 = .ok (.iload_n 3, 1) := by decide +kernel
theorem dX2_shiftGain_80 : decode cX2_shiftGain 80 = .ok (.iload 4, 2) := by decide +kernel
theorem dX2_shiftGain_82 : decode cX2_shiftGain 82 = .ok (.iconst 1, 1) := by decide +kernel
theorem dX2_shiftGain_83 : decode cX2_shiftGain 83 = .ok (.isub, 1) := by decide +kernel
theorem dX2_shiftGain_84 : decode cX2_shiftGain 84 = .ok (.iload 6, 2) := by decide +kernel
theorem dX2_shiftGain_86 : decode cX2_shiftGain 86 = .ok (.if_icmp .ge 10, 3) := by decide +kernel
theorem dX2_shiftGain_89 : decode cX2_shiftGain 89 = .ok (.iload 4, 2) := by decide +kernel
theorem dX2_shiftGain_91 : decode cX2_shiftGain 91 = .ok (.iconst 1, 1) := by decide +kernel
theorem dX2_shiftGain_92 : decode cX2_shiftGain 92 = .ok (.isub, 1) := by decide +kernel
theorem dX2_shiftGain_93 : decode cX2_shiftGain 93 = .ok (.goto 5, 3) := by decide +kernel
theorem dX2_shiftGain_96 : decode cX2_shiftGain 96 = .ok (.iload 4, 2) := by decide +kernel
theorem dX2_shiftGain_98 : decode cX2_shiftGain 98 = .ok (.invokevirtual 99, 3) := by decide +kernel
theorem dX2_shiftGain_101 : decode cX2_shiftGain 101 = .ok (.istore 8, 2) := by decide +kernel
theorem dX2_shiftGain_103 : decode cX2_shiftGain 103 = .ok (.aload_n 1, 1) := by decide +kernel
theorem dX2_shiftGain_104 : decode cX2_shiftGain 104 = .ok (.iload_n 3, 1) := by decide +kernel
theorem dX2_shiftGain_105 : decode cX2_shiftGain 105 = .ok (.iload 4, 2) := by decide +kernel
theorem dX2_shiftGain_107 : decode cX2_shiftGain 107 = .ok (.iload 6, 2) := by decide +kernel
theorem dX2_shiftGain_109 : decode cX2_shiftGain 109 = .ok (.if_icmp .ge 8, 3) := by decide +kernel
theorem dX2_shiftGain_112 : decode cX2_shiftGain 112 = .ok (.iload 4, 2) := by decide +kernel
theorem dX2_shiftGain_114 : decode cX2_shiftGain 114 = .ok (.goto 7, 3) := by decide +kernel
theorem dX2_shiftGain_117 : decode cX2_shiftGain 117 = .ok (.iload 4, 2) := by decide +kernel
theorem dX2_shiftGain_119 : decode cX2_shiftGain 119 = .ok (.iconst 1, 1) := by decide +kernel
theorem dX2_shiftGain_120 : decode cX2_shiftGain 120 = .ok (.iadd, 1) := by decide +kernel
theorem dX2_shiftGain_121 : decode cX2_shiftGain 121 = .ok (.invokevirtual 99, 3) := by decide +kernel
theorem dX2_shiftGain_124 : decode cX2_shiftGain 124 = .ok (.istore 9, 2) := by decide +kernel
theorem dX2_shiftGain_126 : decode cX2_shiftGain 126 = .ok (.iload 7, 2) := by decide +kernel
theorem dX2_shiftGain_128 : decode cX2_shiftGain 128 = .ok (.aload_n 1, 1) := by decide +kernel
theorem dX2_shiftGain_129 : decode cX2_shiftGain 129 = .ok (.iload 8, 2) := by decide +kernel
theorem dX2_shiftGain_131 : decode cX2_shiftGain 131 = .ok (.iload_n 2, 1) := by decide +kernel
theorem dX2_shiftGain_132 : decode cX2_shiftGain 132 = .ok (.iload 9, 2) := by decide +kernel
theorem dX2_shiftGain_134 : decode cX2_shiftGain 134 = .ok (.invokevirtual 106, 3) := by decide +kernel
theorem dX2_shiftGain_137 : decode cX2_shiftGain 137 = .ok (.isub, 1) := by decide +kernel
theorem dX2_shiftGain_138 : decode cX2_shiftGain 138 = .ok (.ireturn, 1) := by decide +kernel
theorem dX2_swapGain_0 : decode cX2_swapGain 0 = .ok (.aload_n 1, 1) := by decide +kernel
theorem dX2_swapGain_1 : decode cX2_swapGain 1 = .ok (.iload_n 2, 1) := by decide +kernel
theorem dX2_swapGain_2 : decode cX2_swapGain 2 = .ok (.invokevirtual 68, 3) := by decide +kernel
theorem dX2_swapGain_5 : decode cX2_swapGain 5 = .ok (.istore 4, 2) := by decide +kernel
theorem dX2_swapGain_7 : decode cX2_swapGain 7 = .ok (.aload_n 1, 1) := by decide +kernel
theorem dX2_swapGain_8 : decode cX2_swapGain 8 = .ok (.iload_n 2, 1) := by decide +kernel
theorem dX2_swapGain_9 : decode cX2_swapGain 9 = .ok (.invokevirtual 75, 3) := by decide +kernel
theorem dX2_swapGain_12 : decode cX2_swapGain 12 = .ok (.istore 5, 2) := by decide +kernel
theorem dX2_swapGain_14 : decode cX2_swapGain 14 = .ok (.aload_n 1, 1) := by decide +kernel
theorem dX2_swapGain_15 : decode cX2_swapGain 15 = .ok (.iload_n 3, 1) := by decide +kernel
theorem dX2_swapGain_16 : decode cX2_swapGain 16 = .ok (.invokevirtual 75, 3) := by decide +kernel
theorem dX2_swapGain_19 : decode cX2_swapGain 19 = .ok (.istore 6, 2) := by decide +kernel
theorem dX2_swapGain_21 : decode cX2_swapGain 21 = .ok (.iload 4, 2) := by decide +kernel
theorem dX2_swapGain_23 : decode cX2_swapGain 23 = .ok (.aload_n 1, 1) := by decide +kernel
theorem dX2_swapGain_24 : decode cX2_swapGain 24 = .ok (.iload_n 3, 1) := by decide +kernel
theorem dX2_swapGain_25 : decode cX2_swapGain 25 = .ok (.invokevirtual 68, 3) := by decide +kernel
theorem dX2_swapGain_28 : decode cX2_swapGain 28 = .ok (.if_icmp .ne 24, 3) := by decide +kernel
theorem dX2_swapGain_31 : decode cX2_swapGain 31 = .ok (.iload 5, 2) := by decide +kernel
theorem dX2_swapGain_33 : decode cX2_swapGain 33 = .ok (.iload 6, 2) := by decide +kernel
theorem dX2_swapGain_35 : decode cX2_swapGain 35 = .ok (.isub, 1) := by decide +kernel
theorem dX2_swapGain_36 : decode cX2_swapGain 36 = .ok (.iconst 1, 1) := by decide +kernel
theorem dX2_swapGain_37 : decode cX2_swapGain 37 = .ok (.if_icmp .ne 15, 3) := by decide +kernel
theorem dX2_swapGain_40 : decode cX2_swapGain 40 = .ok (.aload_n 0, 1) := by decide +kernel
theorem dX2_swapGain_41 : decode cX2_swapGain 41 = .ok (.aload_n 1, 1) := by decide +kernel
theorem dX2_swapGain_42 : decode cX2_swapGain 42 = .ok (.iload 4, 2) := by decide +kernel
theorem dX2_swapGain_44 : decode cX2_swapGain 44 = .ok (.iload 6, 2) := by decide +kernel
theorem dX2_swapGain_46 : decode cX2_swapGain 46 = .ok (.iload 5, 2) := by decide +kernel
theorem dX2_swapGain_48 : decode cX2_swapGain 48 = .ok (.invokevirtual 53, 3) := by decide +kernel
theorem dX2_swapGain_51 : decode cX2_swapGain 51 = .ok (.ireturn, 1) := by decide +kernel
theorem dX2_swapGain_52 : decode cX2_swapGain 52 = .ok (.iload 4, 2) := by decide +kernel
theorem dX2_swapGain_54 : decode cX2_swapGain 54 = .ok (.aload_n 1, 1) := by decide +kernel
theorem dX2_swapGain_55 : decode cX2_swapGain 55 = .ok (.iload_n 3, 1) := by decide +kernel
theorem dX2_swapGain_56 : decode cX2_swapGain 56 = .ok (.invokevirtual 68, 3) := by decide +kernel
theorem dX2_swapGain_59 : decode cX2_swapGain 59 = .ok (.if_icmp .ne 24, 3) := by decide +kernel
theorem dX2_swapGain_62 : decode cX2_swapGain 62 = .ok (.iload 6, 2) := by decide +kernel
theorem dX2_swapGain_64 : decode cX2_swapGain 64 = .ok (.iload 5, 2) := by decide +kernel
theorem dX2_swapGain_66 : decode cX2_swapGain 66 = .ok (.isub, 1) := by decide +kernel
theorem dX2_swapGain_67 : decode cX2_swapGain 67 = .ok (.iconst 1, 1) := by decide +kernel
theorem dX2_swapGain_68 : decode cX2_swapGain 68 = .ok (.if_icmp .ne 15, 3) := by decide +kernel
theorem dX2_swapGain_71 : decode cX2_swapGain 71 = .ok (.aload_n 0, 1) := by decide +kernel
theorem dX2_swapGain_72 : decode cX2_swapGain 72 = .ok (.aload_n 1, 1) := by decide +kernel
theorem dX2_swapGain_73 : decode cX2_swapGain 73 = .ok (.iload 4, 2) := by decide +kernel
theorem dX2_swapGain_75 : decode cX2_swapGain 75 = .ok (.iload 5, 2) := by decide +kernel
theorem dX2_swapGain_77 : decode cX2_swapGain 77 = .ok (.iload 6, 2) := by decide +kernel
theorem dX2_swapGain_79 : decode cX2_swapGain 79 = .ok (.invokevirtual 53, 3) := by decide +kernel
theorem dX2_swapGain_82 : decode cX2_swapGain 82 = .ok (.ireturn, 1) := by decide +kernel
theorem dX2_swapGain_83 : decode cX2_swapGain 83 = .ok (.aload_n 0, 1) := by decide +kernel
theorem dX2_swapGain_84 : decode cX2_swapGain 84 = .ok (.aload_n 1, 1) := by decide +kernel
theorem dX2_swapGain_85 : decode cX2_swapGain 85 = .ok (.iload 4, 2) := by decide +kernel
theorem dX2_swapGain_87 : decode cX2_swapGain 87 = .ok (.iload 5, 2) := by decide +kernel
theorem dX2_swapGain_89 : decode cX2_swapGain 89 = .ok (.iload_n 3, 1) := by decide +kernel
theorem dX2_swapGain_90 : decode cX2_swapGain 90 = .ok (.invokevirtual 116, 3) := by decide +kernel
theorem dX2_swapGain_93 : decode cX2_swapGain 93 = .ok (.aload_n 0, 1) := by decide +kernel
theorem dX2_swapGain_94 : decode cX2_swapGain 94 = .ok (.aload_n 1, 1) := by decide +kernel
theorem dX2_swapGain_95 : decode cX2_swapGain 95 = .ok (.aload_n 1, 1) := by decide +kernel
theorem dX2_swapGain_96 : decode cX2_swapGain 96 = .ok (.iload_n 3, 1) := by decide +kernel
theorem dX2_swapGain_97 : decode cX2_swapGain 97 = .ok (.invokevirtual 68, 3) := by decide +kernel
theorem dX2_swapGain_100 : decode cX2_swapGain 100 = .ok (.iload 6, 2) := by decide +kernel
theorem dX2_swapGain_102 : decode cX2_swapGain 102 = .ok (.iload_n 2, 1) := by decide +kernel
theorem dX2_swapGain_103 : decode cX2_swapGain 103 = .ok (.invokevirtual 116, 3) := by decide +kernel
theorem dX2_swapGain_106 : decode cX2_swapGain 106 = .ok (.iadd, 1) := by decide +kernel
theorem dX2_swapGain_107 : decode cX2_swapGain 107 = .ok (.ireturn, 1) := by decide +kernel
theorem dX2_standInGain_0 : decode cX2_standInGain 0 = .ok (.aload_n 1, 1) := by decide +kernel
theorem dX2_standInGain_1 : decode cX2_standInGain 1 = .ok (.iload_n 2, 1) := by decide +kernel
theorem dX2_standInGain_2 : decode cX2_standInGain 2 = .ok (.iload_n 3, 1) := by decide +kernel
theorem dX2_standInGain_3 : decode cX2_standInGain 3 = .ok (.iconst 1, 1) := by decide +kernel
theorem dX2_standInGain_4 : decode cX2_standInGain 4 = .ok (.isub, 1) := by decide +kernel
theorem dX2_standInGain_5 : decode cX2_standInGain 5 = .ok (.invokevirtual 99, 3) := by decide +kernel
theorem dX2_standInGain_8 : decode cX2_standInGain 8 = .ok (.istore 5, 2) := by decide +kernel
theorem dX2_standInGain_10 : decode cX2_standInGain 10 = .ok (.aload_n 1, 1) := by decide +kernel
theorem dX2_standInGain_11 : decode cX2_standInGain 11 = .ok (.iload_n 2, 1) := by decide +kernel
theorem dX2_standInGain_12 : decode cX2_standInGain 12 = .ok (.iload_n 3, 1) := by decide +kernel
theorem dX2_standInGain_13 : decode cX2_standInGain 13 = .ok (.invokevirtual 99, 3) := by decide +kernel
theorem dX2_standInGain_16 : decode cX2_standInGain 16 = .ok (.istore 6, 2) := by decide +kernel
theorem dX2_standInGain_18 : decode cX2_standInGain 18 = .ok (.aload_n 1, 1) := by decide +kernel
theorem dX2_standInGain_19 : decode cX2_standInGain 19 = .ok (.iload_n 2, 1) := by decide +kernel
theorem dX2_standInGain_20 : decode cX2_standInGain 20 = .ok (.iload_n 3, 1) := by decide +kernel
theorem dX2_standInGain_21 : decode cX2_standInGain 21 = .ok (.iconst 1, 1) := by decide +kernel
theorem dX2_standInGain_22 : decode cX2_standInGain 22 = .ok (.iadd, 1) := by decide +kernel
theorem dX2_standInGain_23 : decode cX2_standInGain 23 = .ok (.invokevirtual 99, 3) := by decide +kernel
theorem dX2_standInGain_26 : decode cX2_standInGain 26 = .ok (.istore 7, 2) := by decide +kernel
theorem dX2_standInGain_28 : decode cX2_standInGain 28 = .ok (.aload_n 1, 1) := by decide +kernel
theorem dX2_standInGain_29 : decode cX2_standInGain 29 = .ok (.iload 5, 2) := by decide +kernel
theorem dX2_standInGain_31 : decode cX2_standInGain 31 = .ok (.iload 6, 2) := by decide +kernel
theorem dX2_standInGain_33 : decode cX2_standInGain 33 = .ok (.invokevirtual 103, 3) := by decide +kernel
theorem dX2_standInGain_36 : decode cX2_standInGain 36 = .ok (.aload_n 1, 1) := by decide +kernel
theorem dX2_standInGain_37 : decode cX2_standInGain 37 = .ok (.iload 6, 2) := by decide +kernel
theorem dX2_standInGain_39 : decode cX2_standInGain 39 = .ok (.iload 7, 2) := by decide +kernel
theorem dX2_standInGain_41 : decode cX2_standInGain 41 = .ok (.invokevirtual 103, 3) := by decide +kernel
theorem dX2_standInGain_44 : decode cX2_standInGain 44 = .ok (.iadd, 1) := by decide +kernel
theorem dX2_standInGain_45 : decode cX2_standInGain 45 = .ok (.aload_n 1, 1) := by decide +kernel
theorem dX2_standInGain_46 : decode cX2_standInGain 46 = .ok (.iload 5, 2) := by decide +kernel
theorem dX2_standInGain_48 : decode cX2_standInGain 48 = .ok (.iload 4, 2) := by decide +kernel
theorem dX2_standInGain_50 : decode cX2_standInGain 50 = .ok (.invokevirtual 103, 3) := by decide +kernel
theorem dX2_standInGain_53 : decode cX2_standInGain 53 = .ok (.isub, 1) := by decide +kernel
theorem dX2_standInGain_54 : decode cX2_standInGain 54 = .ok (.aload_n 1, 1) := by decide +kernel
theorem dX2_standInGain_55 : decode cX2_standInGain 55 = .ok (.iload 4, 2) := by decide +kernel
theorem dX2_standInGain_57 : decode cX2_standInGain 57 = .ok (.iload 7, 2) := by decide +kernel
theorem dX2_standInGain_59 : decode cX2_standInGain 59 = .ok (.invokevirtual 103, 3) := by decide +kernel
theorem dX2_standInGain_62 : decode cX2_standInGain 62 = .ok (.isub, 1) := by decide +kernel
theorem dX2_standInGain_63 : decode cX2_standInGain 63 = .ok (.ireturn, 1) := by decide +kernel
theorem dX2_tryTurn_0 : decode cX2_tryTurn 0 = .ok (.iload_n 3, 1) := by decide +kernel
theorem dX2_tryTurn_1 : decode cX2_tryTurn 1 = .ok (.istore 5, 2) := by decide +kernel
theorem dX2_tryTurn_3 : decode cX2_tryTurn 3 = .ok (.iload 5, 2) := by decide +kernel
theorem dX2_tryTurn_5 : decode cX2_tryTurn 5 = .ok (.iload 4, 2) := by decide +kernel
theorem dX2_tryTurn_7 : decode cX2_tryTurn 7 = .ok (.if_icmp .gt 32, 3) := by decide +kernel
theorem dX2_tryTurn_10 : decode cX2_tryTurn 10 = .ok (.iload 5, 2) := by decide +kernel
theorem dX2_tryTurn_12 : decode cX2_tryTurn 12 = .ok (.bipush 16, 2) := by decide +kernel
theorem dX2_tryTurn_14 : decode cX2_tryTurn 14 = .ok (.if_icmp .ge 25, 3) := by decide +kernel
theorem dX2_tryTurn_17 : decode cX2_tryTurn 17 = .ok (.aload_n 1, 1) := by decide +kernel
theorem dX2_tryTurn_18 : decode cX2_tryTurn 18 = .ok (.aload_n 1, 1) := by decide +kernel
theorem dX2_tryTurn_19 : decode cX2_tryTurn 19 = .ok (.iload_n 2, 1) := by decide +kernel
theorem dX2_tryTurn_20 : decode cX2_tryTurn 20 = .ok (.iload 5, 2) := by decide +kernel
theorem dX2_tryTurn_22 : decode cX2_tryTurn 22 = .ok (.invokevirtual 99, 3) := by decide +kernel
theorem dX2_tryTurn_25 : decode cX2_tryTurn 25 = .ok (.invokevirtual 71, 3) := by decide +kernel
theorem dX2_tryTurn_28 : decode cX2_tryTurn 28 = .ok (.ifCond .eq 5, 3) := by decide +kernel
theorem dX2_tryTurn_31 : decode cX2_tryTurn 31 = .ok (.iconst 0, 1) := by decide +kernel
theorem dX2_tryTurn_32 : decode cX2_tryTurn 32 = .ok (.ireturn, 1) := by decide +kernel
theorem dX2_tryTurn_33 : decode cX2_tryTurn 33 = .ok (.iinc 5 1, 3) := by decide +kernel
theorem dX2_tryTurn_36 : decode cX2_tryTurn 36 = .ok (.goto (-33), 3) := by decide +kernel
theorem dX2_tryTurn_39 : decode cX2_tryTurn 39 = .ok (.aload_n 0, 1) := by decide +kernel
theorem dX2_tryTurn_40 : decode cX2_tryTurn 40 = .ok (.iconst 0, 1) := by decide +kernel
theorem dX2_tryTurn_41 : decode cX2_tryTurn 41 = .ok (.putfield 95, 3) := by decide +kernel
theorem dX2_tryTurn_44 : decode cX2_tryTurn 44 = .ok (.aload_n 0, 1) := by decide +kernel
theorem dX2_tryTurn_45 : decode cX2_tryTurn 45 = .ok (.getfield 12, 3) := by decide +kernel
theorem dX2_tryTurn_48 : decode cX2_tryTurn 48 = .ok (.aload_n 1, 1) := by decide +kernel
theorem dX2_tryTurn_49 : decode cX2_tryTurn 49 = .ok (.iload_n 2, 1) := by decide +kernel
theorem dX2_tryTurn_50 : decode cX2_tryTurn 50 = .ok (.invokevirtual 119, 3) := by decide +kernel
theorem dX2_tryTurn_53 : decode cX2_tryTurn 53 = .ok (.aload_n 0, 1) := by decide +kernel
theorem dX2_tryTurn_54 : decode cX2_tryTurn 54 = .ok (.getfield 12, 3) := by decide +kernel
theorem dX2_tryTurn_57 : decode cX2_tryTurn 57 = .ok (.iload_n 3, 1) := by decide +kernel
theorem dX2_tryTurn_58 : decode cX2_tryTurn 58 = .ok (.iload 4, 2) := by decide +kernel
theorem dX2_tryTurn_60 : decode cX2_tryTurn 60 = .ok (.invokevirtual 123, 3) := by decide +kernel
theorem dX2_tryTurn_63 : decode cX2_tryTurn 63 = .ok (.aload_n 0, 1) := by decide +kernel
theorem dX2_tryTurn_64 : decode cX2_tryTurn 64 = .ok (.getfield 12, 3) := by decide +kernel
theorem dX2_tryTurn_67 : decode cX2_tryTurn 67 = .ok (.aload_n 1, 1) := by decide +kernel
theorem dX2_tryTurn_68 : decode cX2_tryTurn 68 = .ok (.iconst 0, 1) := by decide +kernel
theorem dX2_tryTurn_69 : decode cX2_tryTurn 69 = .ok (.invokevirtual 127, 3) := by decide +kernel
theorem dX2_tryTurn_72 : decode cX2_tryTurn 72 = .ok (.ireturn, 1) := by decide +kernel
theorem dX2_tryShift_0 : decode cX2_tryShift 0 = .ok (.aload_n 1, 1) := by decide +kernel
theorem dX2_tryShift_1 : decode cX2_tryShift 1 = .ok (.iload_n 2, 1) := by decide +kernel
theorem dX2_tryShift_2 : decode cX2_tryShift 2 = .ok (.invokevirtual 71, 3) := by decide +kernel
theorem dX2_tryShift_5 : decode cX2_tryShift 5 = .ok (.ifCond .eq 5, 3) := by decide +kernel
theorem dX2_tryShift_8 : decode cX2_tryShift 8 = .ok (.iconst 0, 1) := by decide +kernel
theorem dX2_tryShift_9 : decode cX2_tryShift 9 = .ok (.ireturn, 1) := by decide +kernel
theorem dX2_tryShift_10 : decode cX2_tryShift 10 = .ok (.aload_n 1, 1) := by decide +kernel
theorem dX2_tryShift_11 : decode cX2_tryShift 11 = .ok (.iload_n 2, 1) := by decide +kernel
theorem dX2_tryShift_12 : decode cX2_tryShift 12 = .ok (.invokevirtual 68, 3) := by decide +kernel
theorem dX2_tryShift_15 : decode cX2_tryShift 15 = .ok (.istore 5, 2) := by decide +kernel
theorem dX2_tryShift_17 : decode cX2_tryShift 17 = .ok (.aload_n 0, 1) := by decide +kernel
theorem dX2_tryShift_18 : decode cX2_tryShift 18 = .ok (.iload_n 3, 1) := by decide +kernel
theorem dX2_tryShift_19 : decode cX2_tryShift 19 = .ok (.iload 5, 2) := by decide +kernel
theorem dX2_tryShift_21 : decode cX2_tryShift 21 = .ok (.if_icmp .eq 7, 3) := by decide +kernel
theorem dX2_tryShift_24 : decode cX2_tryShift 24 = .ok (.iconst 1, 1) := by decide +kernel
theorem dX2_tryShift_25 : decode cX2_tryShift 25 = .ok (.goto 4, 3) := by decide +kernel
theorem dX2_tryShift_28 : decode cX2_tryShift 28 = .ok (.iconst 0, 1) := by decide +kernel
theorem dX2_tryShift_29 : decode cX2_tryShift 29 = .ok (.putfield 95, 3) := by decide +kernel
theorem dX2_tryShift_32 : decode cX2_tryShift 32 = .ok (.aload_n 0, 1) := by decide +kernel
theorem dX2_tryShift_33 : decode cX2_tryShift 33 = .ok (.getfield 12, 3) := by decide +kernel
theorem dX2_tryShift_36 : decode cX2_tryShift 36 = .ok (.aload_n 1, 1) := by decide +kernel
theorem dX2_tryShift_37 : decode cX2_tryShift 37 = .ok (.iload 5, 2) := by decide +kernel
theorem dX2_tryShift_39 : decode cX2_tryShift 39 = .ok (.invokevirtual 119, 3) := by decide +kernel
theorem dX2_tryShift_42 : decode cX2_tryShift 42 = .ok (.aload_n 0, 1) := by decide +kernel
theorem dX2_tryShift_43 : decode cX2_tryShift 43 = .ok (.getfield 12, 3) := by decide +kernel
theorem dX2_tryShift_46 : decode cX2_tryShift 46 = .ok (.aload_n 1, 1) := by decide +kernel
theorem dX2_tryShift_47 : decode cX2_tryShift 47 = .ok (.iload_n 2, 1) := by decide +kernel
theorem dX2_tryShift_48 : decode cX2_tryShift 48 = .ok (.invokevirtual 75, 3) := by decide +kernel
theorem dX2_tryShift_51 : decode cX2_tryShift 51 = .ok (.invokevirtual 131, 3) := by decide +kernel
theorem dX2_tryShift_54 : decode cX2_tryShift 54 = .ok (.aload_n 0, 1) := by decide +kernel
theorem dX2_tryShift_55 : decode cX2_tryShift 55 = .ok (.getfield 95, 3) := by decide +kernel
theorem dX2_tryShift_58 : decode cX2_tryShift 58 = .ok (.ifCond .ne 23, 3) := by decide +kernel
theorem dX2_tryShift_61 : decode cX2_tryShift 61 = .ok (.aload_n 0, 1) := by decide +kernel
theorem dX2_tryShift_62 : decode cX2_tryShift 62 = .ok (.getfield 12, 3) := by decide +kernel
theorem dX2_tryShift_65 : decode cX2_tryShift 65 = .ok (.iload 4, 2) := by decide +kernel
theorem dX2_tryShift_67 : decode cX2_tryShift 67 = .ok (.iload_n 2, 1) := by decide +kernel
theorem dX2_tryShift_68 : decode cX2_tryShift 68 = .ok (.invokevirtual 135, 3) := by decide +kernel
theorem dX2_tryShift_71 : decode cX2_tryShift 71 = .ok (.aload_n 0, 1) := by decide +kernel
theorem dX2_tryShift_72 : decode cX2_tryShift 72 = .ok (.getfield 12, 3) := by decide +kernel
theorem dX2_tryShift_75 : decode cX2_tryShift 75 = .ok (.aload_n 1, 1) := by decide +kernel
theorem dX2_tryShift_76 : decode cX2_tryShift 76 = .ok (.iconst 0, 1) := by decide +kernel
theorem dX2_tryShift_77 : decode cX2_tryShift 77 = .ok (.invokevirtual 127, 3) := by decide +kernel
theorem dX2_tryShift_80 : decode cX2_tryShift 80 = .ok (.ireturn, 1) := by decide +kernel
theorem dX2_tryShift_81 : decode cX2_tryShift 81 = .ok (.aload_n 0, 1) := by decide +kernel
theorem dX2_tryShift_82 : decode cX2_tryShift 82 = .ok (.getfield 18, 3) := by decide +kernel
theorem dX2_tryShift_85 : decode cX2_tryShift 85 = .ok (.aload_n 1, 1) := by decide +kernel
theorem dX2_tryShift_86 : decode cX2_tryShift 86 = .ok (.iload_n 3, 1) := by decide +kernel
theorem dX2_tryShift_87 : decode cX2_tryShift 87 = .ok (.invokevirtual 119, 3) := by decide +kernel
theorem dX2_tryShift_90 : decode cX2_tryShift 90 = .ok (.aload_n 0, 1) := by decide +kernel
theorem dX2_tryShift_91 : decode cX2_tryShift 91 = .ok (.getfield 18, 3) := by decide +kernel
theorem dX2_tryShift_94 : decode cX2_tryShift 94 = .ok (.iload 4, 2) := by decide +kernel
theorem dX2_tryShift_96 : decode cX2_tryShift 96 = .ok (.iload_n 2, 1) := by decide +kernel
theorem dX2_tryShift_97 : decode cX2_tryShift 97 = .ok (.invokevirtual 135, 3) := by decide +kernel
theorem dX2_tryShift_100 : decode cX2_tryShift 100 = .ok (.aload_n 0, 1) := by decide +kernel
theorem dX2_tryShift_101 : decode cX2_tryShift 101 = .ok (.getfield 12, 3) := by decide +kernel
theorem dX2_tryShift_104 : decode cX2_tryShift 104 = .ok (.aload_n 1, 1) := by decide +kernel
theorem dX2_tryShift_105 : decode cX2_tryShift 105 = .ok (.iconst 0, 1) := by decide +kernel
theorem dX2_tryShift_106 : decode cX2_tryShift 106 = .ok (.invokevirtual 127, 3) := by decide +kernel
theorem dX2_tryShift_109 : decode cX2_tryShift 109 = .ok (.ifCond .eq 19, 3) := by decide +kernel
theorem dX2_tryShift_112 : decode cX2_tryShift 112 = .ok (.aload_n 0, 1) := by decide +kernel
theorem dX2_tryShift_113 : decode cX2_tryShift 113 = .ok (.getfield 18, 3) := by decide +kernel
theorem dX2_tryShift_116 : decode cX2_tryShift 116 = .ok (.aload_n 1, 1) := by decide +kernel
theorem dX2_tryShift_117 : decode cX2_tryShift 117 = .ok (.iconst 0, 1) := by decide +kernel
theorem dX2_tryShift_118 : decode cX2_tryShift 118 = .ok (.invokevirtual 127, 3) := by decide +kernel
theorem dX2_tryShift_121 : decode cX2_tryShift 121 = .ok (.ifCond .eq 7, 3) := by decide +kernel
theorem dX2_tryShift_124 : decode cX2_tryShift 124 = .ok (.iconst 1, 1) := by decide +kernel
theorem dX2_tryShift_125 : decode cX2_tryShift 125 = .ok (.goto 4, 3) := by decide +kernel
theorem dX2_tryShift_128 : decode cX2_tryShift 128 = .ok (.iconst 0, 1) := by decide +kernel
theorem dX2_tryShift_129 : decode cX2_tryShift 129 = .ok (.ireturn, 1) := by decide +kernel
theorem dX2_trySwap_0 : decode cX2_trySwap 0 = .ok (.aload_n 1, 1) := by decide +kernel
theorem dX2_trySwap_1 : decode cX2_trySwap 1 = .ok (.iload_n 2, 1) := by decide +kernel
theorem dX2_trySwap_2 : decode cX2_trySwap 2 = .ok (.invokevirtual 71, 3) := by decide +kernel
theorem dX2_trySwap_5 : decode cX2_trySwap 5 = .ok (.ifCond .ne 11, 3) := by decide +kernel
theorem dX2_trySwap_8 : decode cX2_trySwap 8 = .ok (.aload_n 1, 1) := by decide +kernel
theorem dX2_trySwap_9 : decode cX2_trySwap 9 = .ok (.iload_n 3, 1) := by decide +kernel
theorem dX2_trySwap_10 : decode cX2_trySwap 10 = .ok (.invokevirtual 71, 3) := by decide +kernel
theorem dX2_trySwap_13 : decode cX2_trySwap 13 = .ok (.ifCond .eq 5, 3) := by decide +kernel
theorem dX2_trySwap_16 : decode cX2_trySwap 16 = .ok (.iconst 0, 1) := by decide +kernel
theorem dX2_trySwap_17 : decode cX2_trySwap 17 = .ok (.ireturn, 1) := by decide +kernel
theorem dX2_trySwap_18 : decode cX2_trySwap 18 = .ok (.aload_n 1, 1) := by decide +kernel
theorem dX2_trySwap_19 : decode cX2_trySwap 19 = .ok (.iload_n 2, 1) := by decide +kernel
theorem dX2_trySwap_20 : decode cX2_trySwap 20 = .ok (.invokevirtual 68, 3) := by decide +kernel
theorem dX2_trySwap_23 : decode cX2_trySwap 23 = .ok (.istore 4, 2) := by decide +kernel
theorem dX2_trySwap_25 : decode cX2_trySwap 25 = .ok (.aload_n 0, 1) := by decide +kernel
theorem dX2_trySwap_26 : decode cX2_trySwap 26 = .ok (.iload 4, 2) := by decide +kernel
theorem dX2_trySwap_28 : decode cX2_trySwap 28 = .ok (.aload_n 1, 1) := by decide +kernel
theorem dX2_trySwap_29 : decode cX2_trySwap 29 = .ok (.iload_n 3, 1) := by decide +kernel
theorem dX2_trySwap_30 : decode cX2_trySwap 30 = .ok (.invokevirtual 68, 3) := by decide +kernel
theorem dX2_trySwap_33 : decode cX2_trySwap 33 = .ok (.if_icmp .eq 7, 3) := by decide +kernel
theorem dX2_trySwap_36 : decode cX2_trySwap 36 = .ok (.iconst 1, 1) := by decide +kernel
theorem dX2_trySwap_37 : decode cX2_trySwap 37 = .ok (.goto 4, 3) := by decide +kernel
theorem dX2_trySwap_40 : decode cX2_trySwap 40 = .ok (.iconst 0, 1) := by decide +kernel
theorem dX2_trySwap_41 : decode cX2_trySwap 41 = .ok (.putfield 95, 3) := by decide +kernel
theorem dX2_trySwap_44 : decode cX2_trySwap 44 = .ok (.aload_n 0, 1) := by decide +kernel
theorem dX2_trySwap_45 : decode cX2_trySwap 45 = .ok (.getfield 12, 3) := by decide +kernel
theorem dX2_trySwap_48 : decode cX2_trySwap 48 = .ok (.aload_n 1, 1) := by decide +kernel
theorem dX2_trySwap_49 : decode cX2_trySwap 49 = .ok (.iload 4, 2) := by decide +kernel
theorem dX2_trySwap_51 : decode cX2_trySwap 51 = .ok (.invokevirtual 119, 3) := by decide +kernel
theorem dX2_trySwap_54 : decode cX2_trySwap 54 = .ok (.aload_n 0, 1) := by decide +kernel
theorem dX2_trySwap_55 : decode cX2_trySwap 55 = .ok (.getfield 12, 3) := by decide +kernel
theorem dX2_trySwap_58 : decode cX2_trySwap 58 = .ok (.aload_n 1, 1) := by decide +kernel
theorem dX2_trySwap_59 : decode cX2_trySwap 59 = .ok (.iload_n 2, 1) := by decide +kernel
theorem dX2_trySwap_60 : decode cX2_trySwap 60 = .ok (.invokevirtual 75, 3) := by decide +kernel
theorem dX2_trySwap_63 : decode cX2_trySwap 63 = .ok (.iload_n 3, 1) := by decide +kernel
theorem dX2_trySwap_64 : decode cX2_trySwap 64 = .ok (.invokevirtual 138, 3) := by decide +kernel
theorem dX2_trySwap_67 : decode cX2_trySwap 67 = .ok (.aload_n 0, 1) := by decide +kernel
theorem dX2_trySwap_68 : decode cX2_trySwap 68 = .ok (.getfield 95, 3) := by decide +kernel
theorem dX2_trySwap_71 : decode cX2_trySwap 71 = .ok (.ifCond .ne 26, 3) := by decide +kernel
theorem dX2_trySwap_74 : decode cX2_trySwap 74 = .ok (.aload_n 0, 1) := by decide +kernel
theorem dX2_trySwap_75 : decode cX2_trySwap 75 = .ok (.getfield 12, 3) := by decide +kernel
theorem dX2_trySwap_78 : decode cX2_trySwap 78 = .ok (.aload_n 1, 1) := by decide +kernel
theorem dX2_trySwap_79 : decode cX2_trySwap 79 = .ok (.iload_n 3, 1) := by decide +kernel
theorem dX2_trySwap_80 : decode cX2_trySwap 80 = .ok (.invokevirtual 75, 3) := by decide +kernel
theorem dX2_trySwap_83 : decode cX2_trySwap 83 = .ok (.iload_n 2, 1) := by decide +kernel
theorem dX2_trySwap_84 : decode cX2_trySwap 84 = .ok (.invokevirtual 138, 3) := by decide +kernel
theorem dX2_trySwap_87 : decode cX2_trySwap 87 = .ok (.aload_n 0, 1) := by decide +kernel
theorem dX2_trySwap_88 : decode cX2_trySwap 88 = .ok (.getfield 12, 3) := by decide +kernel
theorem dX2_trySwap_91 : decode cX2_trySwap 91 = .ok (.aload_n 1, 1) := by decide +kernel
theorem dX2_trySwap_92 : decode cX2_trySwap 92 = .ok (.iconst 0, 1) := by decide +kernel
theorem dX2_trySwap_93 : decode cX2_trySwap 93 = .ok (.invokevirtual 127, 3) := by decide +kernel
theorem dX2_trySwap_96 : decode cX2_trySwap 96 = .ok (.ireturn, 1) := by decide +kernel
theorem dX2_trySwap_97 : decode cX2_trySwap 97 = .ok (.aload_n 0, 1) := by decide +kernel
theorem dX2_trySwap_98 : decode cX2_trySwap 98 = .ok (.getfield 18, 3) := by decide +kernel
theorem dX2_trySwap_101 : decode cX2_trySwap 101 = .ok (.aload_n 1, 1) := by decide +kernel
theorem dX2_trySwap_102 : decode cX2_trySwap 102 = .ok (.aload_n 1, 1) := by decide +kernel
theorem dX2_trySwap_103 : decode cX2_trySwap 103 = .ok (.iload_n 3, 1) := by decide +kernel
theorem dX2_trySwap_104 : decode cX2_trySwap 104 = .ok (.invokevirtual 68, 3) := by decide +kernel
theorem dX2_trySwap_107 : decode cX2_trySwap 107 = .ok (.invokevirtual 119, 3) := by decide +kernel
theorem dX2_trySwap_110 : decode cX2_trySwap 110 = .ok (.aload_n 0, 1) := by decide +kernel
theorem dX2_trySwap_111 : decode cX2_trySwap 111 = .ok (.getfield 18, 3) := by decide +kernel
theorem dX2_trySwap_114 : decode cX2_trySwap 114 = .ok (.aload_n 1, 1) := by decide +kernel
theorem dX2_trySwap_115 : decode cX2_trySwap 115 = .ok (.iload_n 3, 1) := by decide +kernel
theorem dX2_trySwap_116 : decode cX2_trySwap 116 = .ok (.invokevirtual 75, 3) := by decide +kernel
theorem dX2_trySwap_119 : decode cX2_trySwap 119 = .ok (.iload_n 2, 1) := by decide +kernel
theorem dX2_trySwap_120 : decode cX2_trySwap 120 = .ok (.invokevirtual 138, 3) := by decide +kernel
theorem dX2_trySwap_123 : decode cX2_trySwap 123 = .ok (.aload_n 0, 1) := by decide +kernel
theorem dX2_trySwap_124 : decode cX2_trySwap 124 = .ok (.getfield 12, 3) := by decide +kernel
theorem dX2_trySwap_127 : decode cX2_trySwap 127 = .ok (.aload_n 1, 1) := by decide +kernel
theorem dX2_trySwap_128 : decode cX2_trySwap 128 = .ok (.iconst 0, 1) := by decide +kernel
theorem dX2_trySwap_129 : decode cX2_trySwap 129 = .ok (.invokevirtual 127, 3) := by decide +kernel
theorem dX2_trySwap_132 : decode cX2_trySwap 132 = .ok (.ifCond .eq 19, 3) := by decide +kernel
theorem dX2_trySwap_135 : decode cX2_trySwap 135 = .ok (.aload_n 0, 1) := by decide +kernel
theorem dX2_trySwap_136 : decode cX2_trySwap 136 = .ok (.getfield 18, 3) := by decide +kernel
theorem dX2_trySwap_139 : decode cX2_trySwap 139 = .ok (.aload_n 1, 1) := by decide +kernel
theorem dX2_trySwap_140 : decode cX2_trySwap 140 = .ok (.iconst 0, 1) := by decide +kernel
theorem dX2_trySwap_141 : decode cX2_trySwap 141 = .ok (.invokevirtual 127, 3) := by decide +kernel
theorem dX2_trySwap_144 : decode cX2_trySwap 144 = .ok (.ifCond .eq 7, 3) := by decide +kernel
theorem dX2_trySwap_147 : decode cX2_trySwap 147 = .ok (.iconst 1, 1) := by decide +kernel
theorem dX2_trySwap_148 : decode cX2_trySwap 148 = .ok (.goto 4, 3) := by decide +kernel
theorem dX2_trySwap_151 : decode cX2_trySwap 151 = .ok (.iconst 0, 1) := by decide +kernel
theorem dX2_trySwap_152 : decode cX2_trySwap 152 = .ok (.ireturn, 1) := by decide +kernel
theorem dX3_init_0 : decode cX3_init 0 = .ok (.aload_n 0, 1) := by decide +kernel
theorem dX3_init_1 : decode cX3_init 1 = .ok (.invokespecial 3, 3) := by decide +kernel
theorem dX3_init_4 : decode cX3_init 4 = .ok (.aload_n 0, 1) := by decide +kernel
theorem dX3_init_5 : decode cX3_init 5 = .ok (.bipush 8, 2) := by decide +kernel
theorem dX3_init_7 : decode cX3_init 7 = .ok (.newarray .int, 2) := by decide +kernel
theorem dX3_init_9 : decode cX3_init 9 = .ok (.putfield 9, 3) := by decide +kernel
theorem dX3_init_12 : decode cX3_init 12 = .ok (.aload_n 0, 1) := by decide +kernel
theorem dX3_init_13 : decode cX3_init 13 = .ok (.bipush 8, 2) := by decide +kernel
theorem dX3_init_15 : decode cX3_init 15 = .ok (.newarray .int, 2) := by decide +kernel
theorem dX3_init_17 : decode cX3_init 17 = .ok (.putfield 15, 3) := by decide +kernel
theorem dX3_init_20 : decode cX3_init 20 = .ok (.return_, 1) := by decide +kernel
theorem dX3_empty_0 : decode cX3_empty 0 = .ok (.aload_n 0, 1) := by decide +kernel
theorem dX3_empty_1 : decode cX3_empty 1 = .ok (.iconst 0, 1) := by decide +kernel
theorem dX3_empty_2 : decode cX3_empty 2 = .ok (.putfield 18, 3) := by decide +kernel
theorem dX3_empty_5 : decode cX3_empty 5 = .ok (.iconst 0, 1) := by decide +kernel
theorem dX3_empty_6 : decode cX3_empty 6 = .ok (.ireturn, 1) := by decide +kernel
theorem dX3_append_0 : decode cX3_append 0 = .ok (.aload_n 0, 1) := by decide +kernel
theorem dX3_append_1 : decode cX3_append 1 = .ok (.getfield 18, 3) := by decide +kernel
theorem dX3_append_4 : decode cX3_append 4 = .ok (.ifCond .lt 42, 3) := by decide +kernel
theorem dX3_append_7 : decode cX3_append 7 = .ok (.aload_n 0, 1) := by decide +kernel
theorem dX3_append_8 : decode cX3_append 8 = .ok (.getfield 18, 3) := by decide +kernel
theorem dX3_append_11 : decode cX3_append 11 = .ok (.bipush 8, 2) := by decide +kernel
theorem dX3_append_13 : decode cX3_append 13 = .ok (.if_icmp .ge 33, 3) := by decide +kernel
theorem dX3_append_16 : decode cX3_append 16 = .ok (.aload_n 0, 1) := by decide +kernel
theorem dX3_append_17 : decode cX3_append 17 = .ok (.getfield 9, 3) := by decide +kernel
theorem dX3_append_20 : decode cX3_append 20 = .ok (.aload_n 0, 1) := by decide +kernel
theorem dX3_append_21 : decode cX3_append 21 = .ok (.getfield 18, 3) := by decide +kernel
theorem dX3_append_24 : decode cX3_append 24 = .ok (.iload_n 1, 1) := by decide +kernel
theorem dX3_append_25 : decode cX3_append 25 = .ok (.iastore, 1) := by decide +kernel
theorem dX3_append_26 : decode cX3_append 26 = .ok (.aload_n 0, 1) := by decide +kernel
theorem dX3_append_27 : decode cX3_append 27 = .ok (.getfield 15, 3) := by decide +kernel
theorem dX3_append_30 : decode cX3_append 30 = .ok (.aload_n 0, 1) := by decide +kernel
theorem dX3_append_31 : decode cX3_append 31 = .ok (.getfield 18, 3) := by decide +kernel
theorem dX3_append_34 : decode cX3_append 34 = .ok (.iload_n 2, 1) := by decide +kernel
theorem dX3_append_35 : decode cX3_append 35 = .ok (.iastore, 1) := by decide +kernel
theorem dX3_append_36 : decode cX3_append 36 = .ok (.aload_n 0, 1) := by decide +kernel
theorem dX3_append_37 : decode cX3_append 37 = .ok (.dup, 1) := by decide +kernel
theorem dX3_append_38 : decode cX3_append 38 = .ok (.getfield 18, 3) := by decide +kernel
theorem dX3_append_41 : decode cX3_append 41 = .ok (.iconst 1, 1) := by decide +kernel
theorem dX3_append_42 : decode cX3_append 42 = .ok (.iadd, 1) := by decide +kernel
theorem dX3_append_43 : decode cX3_append 43 = .ok (.putfield 18, 3) := by decide +kernel
theorem dX3_append_46 : decode cX3_append 46 = .ok (.aload_n 0, 1) := by decide +kernel
theorem dX3_append_47 : decode cX3_append 47 = .ok (.getfield 18, 3) := by decide +kernel
theorem dX3_append_50 : decode cX3_append 50 = .ok (.ireturn, 1) := by decide +kernel
theorem dX3_leftAt_0 : decode cX3_leftAt 0 = .ok (.iload_n 1, 1) := by decide +kernel
theorem dX3_leftAt_1 : decode cX3_leftAt 1 = .ok (.ifCond .lt 21, 3) := by decide +kernel
theorem dX3_leftAt_4 : decode cX3_leftAt 4 = .ok (.iload_n 1, 1) := by decide +kernel
theorem dX3_leftAt_5 : decode cX3_leftAt 5 = .ok (.aload_n 0, 1) := by decide +kernel
theorem dX3_leftAt_6 : decode cX3_leftAt 6 = .ok (.getfield 9, 3) := by decide +kernel
theorem dX3_leftAt_9 : decode cX3_leftAt 9 = .ok (.arraylength, 1) := by decide +kernel
theorem dX3_leftAt_10 : decode cX3_leftAt 10 = .ok (.if_icmp .ge 12, 3) := by decide +kernel
theorem dX3_leftAt_13 : decode cX3_leftAt 13 = .ok (.aload_n 0, 1) := by decide +kernel
theorem dX3_leftAt_14 : decode cX3_leftAt 14 = .ok (.getfield 9, 3) := by decide +kernel
theorem dX3_leftAt_17 : decode cX3_leftAt 17 = .ok (.iload_n 1, 1) := by decide +kernel
theorem dX3_leftAt_18 : decode cX3_leftAt 18 = .ok (.iaload, 1) := by decide +kernel
theorem dX3_leftAt_19 : decode cX3_leftAt 19 = .ok (.goto 5, 3) := by decide +kernel
theorem dX3_leftAt_22 : decode cX3_leftAt 22 = .ok (.bipush (-5), 2) := by decide +kernel
theorem dX3_leftAt_24 : decode cX3_leftAt 24 = .ok (.ireturn, 1) := by decide +kernel
theorem dX3_rightAt_0 : decode cX3_rightAt 0 = .ok (.iload_n 1, 1) := by decide +kernel
theorem dX3_rightAt_1 : decode cX3_rightAt 1 = .ok (.ifCond .lt 21, 3) := by decide +kernel
theorem dX3_rightAt_4 : decode cX3_rightAt 4 = .ok (.iload_n 1, 1) := by decide +kernel
theorem dX3_rightAt_5 : decode cX3_rightAt 5 = .ok (.aload_n 0, 1) := by decide +kernel
theorem dX3_rightAt_6 : decode cX3_rightAt 6 = .ok (.getfield 15, 3) := by decide +kernel
theorem dX3_rightAt_9 : decode cX3_rightAt 9 = .ok (.arraylength, 1) := by decide +kernel
theorem dX3_rightAt_10 : decode cX3_rightAt 10 = .ok (.if_icmp .ge 12, 3) := by decide +kernel
theorem dX3_rightAt_13 : decode cX3_rightAt 13 = .ok (.aload_n 0, 1) := by decide +kernel
theorem dX3_rightAt_14 : decode cX3_rightAt 14 = .ok (.getfield 15, 3) := by decide +kernel
theorem dX3_rightAt_17 : decode cX3_rightAt 17 = .ok (.iload_n 1, 1) := by decide +kernel
theorem dX3_rightAt_18 : decode cX3_rightAt 18 = .ok (.iaload, 1) := by decide +kernel
theorem dX3_rightAt_19 : decode cX3_rightAt 19 = .ok (.goto 5, 3) := by decide +kernel
theorem dX3_rightAt_22 : decode cX3_rightAt 22 = .ok (.bipush (-5), 2) := by decide +kernel
theorem dX3_rightAt_24 : decode cX3_rightAt 24 = .ok (.ireturn, 1) := by decide +kernel
theorem dX3_copyFrom_0 : decode cX3_copyFrom 0 = .ok (.aload_n 1, 1) := by decide +kernel
theorem dX3_copyFrom_1 : decode cX3_copyFrom 1 = .ok (.getfield 9, 3) := by decide +kernel
theorem dX3_copyFrom_4 : decode cX3_copyFrom 4 = .ok (.aload_n 0, 1) := by decide +kernel
theorem dX3_copyFrom_5 : decode cX3_copyFrom 5 = .ok (.getfield 9, 3) := by decide +kernel
theorem dX3_copyFrom_8 : decode cX3_copyFrom 8 = .ok (.invokestatic 22, 3) := by decide +kernel
theorem dX3_copyFrom_11 : decode cX3_copyFrom 11 = .ok (.aload_n 1, 1) := by decide +kernel
theorem dX3_copyFrom_12 : decode cX3_copyFrom 12 = .ok (.getfield 15, 3) := by decide +kernel
theorem dX3_copyFrom_15 : decode cX3_copyFrom 15 = .ok (.aload_n 0, 1) := by decide +kernel
theorem dX3_copyFrom_16 : decode cX3_copyFrom 16 = .ok (.getfield 15, 3) := by decide +kernel
theorem dX3_copyFrom_19 : decode cX3_copyFrom 19 = .ok (.invokestatic 22, 3) := by decide +kernel
theorem dX3_copyFrom_22 : decode cX3_copyFrom 22 = .ok (.aload_n 0, 1) := by decide +kernel
theorem dX3_copyFrom_23 : decode cX3_copyFrom 23 = .ok (.aload_n 1, 1) := by decide +kernel
theorem dX3_copyFrom_24 : decode cX3_copyFrom 24 = .ok (.getfield 18, 3) := by decide +kernel
theorem dX3_copyFrom_27 : decode cX3_copyFrom 27 = .ok (.putfield 18, 3) := by decide +kernel
theorem dX3_copyFrom_30 : decode cX3_copyFrom 30 = .ok (.return_, 1) := by decide +kernel
theorem dX4_init_0 : decode cX4_init 0 = .ok (.aload_n 0, 1) := by decide +kernel
theorem dX4_init_1 : decode cX4_init 1 = .ok (.invokespecial 3, 3) := by decide +kernel
theorem dX4_init_4 : decode cX4_init 4 = .ok (.aload_n 0, 1) := by decide +kernel
theorem dX4_init_5 : decode cX4_init 5 = .ok (.bipush 100, 2) := by decide +kernel
theorem dX4_init_7 : decode cX4_init 7 = .ok (.newarray .int, 2) := by decide +kernel
theorem dX4_init_9 : decode cX4_init 9 = .ok (.putfield 9, 3) := by decide +kernel
theorem dX4_init_12 : decode cX4_init 12 = .ok (.aload_n 0, 1) := by decide +kernel
theorem dX4_init_13 : decode cX4_init 13 = .ok (.bipush 36, 2) := by decide +kernel
theorem dX4_init_15 : decode cX4_init 15 = .ok (.newarray .int, 2) := by decide +kernel
theorem dX4_init_17 : decode cX4_init 17 = .ok (.putfield 15, 3) := by decide +kernel
theorem dX4_init_20 : decode cX4_init 20 = .ok (.return_, 1) := by decide +kernel
theorem dX4_append_0 : decode cX4_append 0 = .ok (.aload_n 0, 1) := by decide +kernel
theorem dX4_append_1 : decode cX4_append 1 = .ok (.getfield 18, 3) := by decide +kernel
theorem dX4_append_4 : decode cX4_append 4 = .ok (.ifCond .lt 32, 3) := by decide +kernel
theorem dX4_append_7 : decode cX4_append 7 = .ok (.aload_n 0, 1) := by decide +kernel
theorem dX4_append_8 : decode cX4_append 8 = .ok (.getfield 18, 3) := by decide +kernel
theorem dX4_append_11 : decode cX4_append 11 = .ok (.bipush 100, 2) := by decide +kernel
theorem dX4_append_13 : decode cX4_append 13 = .ok (.if_icmp .ge 23, 3) := by decide +kernel
theorem dX4_append_16 : decode cX4_append 16 = .ok (.aload_n 0, 1) := by decide +kernel
theorem dX4_append_17 : decode cX4_append 17 = .ok (.getfield 9, 3) := by decide +kernel
theorem dX4_append_20 : decode cX4_append 20 = .ok (.aload_n 0, 1) := by decide +kernel
theorem dX4_append_21 : decode cX4_append 21 = .ok (.getfield 18, 3) := by decide +kernel
theorem dX4_append_24 : decode cX4_append 24 = .ok (.iload_n 1, 1) := by decide +kernel
theorem dX4_append_25 : decode cX4_append 25 = .ok (.iastore, 1) := by decide +kernel
theorem dX4_append_26 : decode cX4_append 26 = .ok (.aload_n 0, 1) := by decide +kernel
theorem dX4_append_27 : decode cX4_append 27 = .ok (.dup, 1) := by decide +kernel
theorem dX4_append_28 : decode cX4_append 28 = .ok (.getfield 18, 3) := by decide +kernel
theorem dX4_append_31 : decode cX4_append 31 = .ok (.iconst 1, 1) := by decide +kernel
theorem dX4_append_32 : decode cX4_append 32 = .ok (.iadd, 1) := by decide +kernel
theorem dX4_append_33 : decode cX4_append 33 = .ok (.putfield 18, 3) := by decide +kernel
theorem dX4_append_36 : decode cX4_append 36 = .ok (.aload_n 0, 1) := by decide +kernel
theorem dX4_append_37 : decode cX4_append 37 = .ok (.getfield 18, 3) := by decide +kernel
theorem dX4_append_40 : decode cX4_append 40 = .ok (.ireturn, 1) := by decide +kernel
theorem dX4_factAt_0 : decode cX4_factAt 0 = .ok (.iload_n 1, 1) := by decide +kernel
theorem dX4_factAt_1 : decode cX4_factAt 1 = .ok (.bipush 6, 2) := by decide +kernel
theorem dX4_factAt_3 : decode cX4_factAt 3 = .ok (.imul, 1) := by decide +kernel
theorem dX4_factAt_4 : decode cX4_factAt 4 = .ok (.iload_n 2, 1) := by decide +kernel
theorem dX4_factAt_5 : decode cX4_factAt 5 = .ok (.iadd, 1) := by decide +kernel
theorem dX4_factAt_6 : decode cX4_factAt 6 = .ok (.istore_n 3, 1) := by decide +kernel
theorem dX4_factAt_7 : decode cX4_factAt 7 = .ok (.iload_n 3, 1) := by decide +kernel
theorem dX4_factAt_8 : decode cX4_factAt 8 = .ok (.ifCond .lt 21, 3) := by decide +kernel
theorem dX4_factAt_11 : decode cX4_factAt 11 = .ok (.iload_n 3, 1) := by decide +kernel
theorem dX4_factAt_12 : decode cX4_factAt 12 = .ok (.aload_n 0, 1) := by decide +kernel
theorem dX4_factAt_13 : decode cX4_factAt 13 = .ok (.getfield 15, 3) := by decide +kernel
theorem dX4_factAt_16 : decode cX4_factAt 16 = .ok (.arraylength, 1) := by decide +kernel
theorem dX4_factAt_17 : decode cX4_factAt 17 = .ok (.if_icmp .ge 12, 3) := by decide +kernel
theorem dX4_factAt_20 : decode cX4_factAt 20 = .ok (.aload_n 0, 1) := by decide +kernel
theorem dX4_factAt_21 : decode cX4_factAt 21 = .ok (.getfield 15, 3) := by decide +kernel
theorem dX4_factAt_24 : decode cX4_factAt 24 = .ok (.iload_n 3, 1) := by decide +kernel
theorem dX4_factAt_25 : decode cX4_factAt 25 = .ok (.iaload, 1) := by decide +kernel
theorem dX4_factAt_26 : decode cX4_factAt 26 = .ok (.goto 4, 3) := by decide +kernel
theorem dX4_factAt_29 : decode cX4_factAt 29 = .ok (.iconst 0, 1) := by decide +kernel
theorem dX4_factAt_30 : decode cX4_factAt 30 = .ok (.ireturn, 1) := by decide +kernel
theorem dX4_parse_0 : decode cX4_parse 0 = .ok (.aload_n 0, 1) := by decide +kernel
theorem dX4_parse_1 : decode cX4_parse 1 = .ok (.iconst 0, 1) := by decide +kernel
theorem dX4_parse_2 : decode cX4_parse 2 = .ok (.putfield 22, 3) := by decide +kernel
theorem dX4_parse_5 : decode cX4_parse 5 = .ok (.aload_n 0, 1) := by decide +kernel
theorem dX4_parse_6 : decode cX4_parse 6 = .ok (.bipush (-5), 2) := by decide +kernel
theorem dX4_parse_8 : decode cX4_parse 8 = .ok (.putfield 25, 3) := by decide +kernel
theorem dX4_parse_11 : decode cX4_parse 11 = .ok (.aload_n 0, 1) := by decide +kernel
theorem dX4_parse_12 : decode cX4_parse 12 = .ok (.iconst 0, 1) := by decide +kernel
theorem dX4_parse_13 : decode cX4_parse 13 = .ok (.putfield 28, 3) := by decide +kernel
theorem dX4_parse_16 : decode cX4_parse 16 = .ok (.iconst 1, 1) := by decide +kernel
theorem dX4_parse_17 : decode cX4_parse 17 = .ok (.istore_n 1, 1) := by decide +kernel
theorem dX4_parse_18 : decode cX4_parse 18 = .ok (.iload_n 1, 1) := by decide +kernel
theorem dX4_parse_19 : decode cX4_parse 19 = .ok (.ifCond .eq 57, 3) := by decide +kernel
theorem dX4_parse_22 : decode cX4_parse 22 = .ok (.aload_n 0, 1) := by decide +kernel
theorem dX4_parse_23 : decode cX4_parse 23 = .ok (.getfield 28, 3) := by decide +kernel
theorem dX4_parse_26 : decode cX4_parse 26 = .ok (.bipush 6, 2) := by decide +kernel
theorem dX4_parse_28 : decode cX4_parse 28 = .ok (.if_icmp .ge 48, 3) := by decide +kernel
theorem dX4_parse_31 : decode cX4_parse 31 = .ok (.aload_n 0, 1) := by decide +kernel
theorem dX4_parse_32 : decode cX4_parse 32 = .ok (.aload_n 0, 1) := by decide +kernel
theorem dX4_parse_33 : decode cX4_parse 33 = .ok (.getfield 28, 3) := by decide +kernel
theorem dX4_parse_36 : decode cX4_parse 36 = .ok (.invokevirtual 31, 3) := by decide +kernel
theorem dX4_parse_39 : decode cX4_parse 39 = .ok (.aload_n 0, 1) := by decide +kernel
theorem dX4_parse_40 : decode cX4_parse 40 = .ok (.dup, 1) := by decide +kernel
theorem dX4_parse_41 : decode cX4_parse 41 = .ok (.getfield 28, 3) := by decide +kernel
theorem dX4_parse_44 : decode cX4_parse 44 = .ok (.iconst 1, 1) := by decide +kernel
theorem dX4_parse_45 : decode cX4_parse 45 = .ok (.iadd, 1) := by decide +kernel
theorem dX4_parse_46 : decode cX4_parse 46 = .ok (.putfield 28, 3) := by decide +kernel
theorem dX4_parse_49 : decode cX4_parse 49 = .ok (.aload_n 0, 1) := by decide +kernel
theorem dX4_parse_50 : decode cX4_parse 50 = .ok (.getfield 28, 3) := by decide +kernel
theorem dX4_parse_53 : decode cX4_parse 53 = .ok (.bipush 6, 2) := by decide +kernel
theorem dX4_parse_55 : decode cX4_parse 55 = .ok (.if_icmp .ge 16, 3) := by decide +kernel
theorem dX4_parse_58 : decode cX4_parse 58 = .ok (.aload_n 0, 1) := by decide +kernel
theorem dX4_parse_59 : decode cX4_parse 59 = .ok (.bipush 59, 2) := by decide +kernel
theorem dX4_parse_61 : decode cX4_parse 61 = .ok (.invokevirtual 35, 3) := by decide +kernel
theorem dX4_parse_64 : decode cX4_parse 64 = .ok (.ifCond .eq 7, 3) := by decide +kernel
theorem dX4_parse_67 : decode cX4_parse 67 = .ok (.iconst 1, 1) := by decide +kernel
theorem dX4_parse_68 : decode cX4_parse 68 = .ok (.goto 4, 3) := by decide +kernel
theorem dX4_parse_71 : decode cX4_parse 71 = .ok (.iconst 0, 1) := by decide +kernel
theorem dX4_parse_72 : decode cX4_parse 72 = .ok (.istore_n 1, 1) := by decide +kernel
theorem dX4_parse_73 : decode cX4_parse 73 = .ok (.goto (-55), 3) := by decide +kernel
theorem dX4_parse_76 : decode cX4_parse 76 = .ok (.aload_n 0, 1) := by decide +kernel
theorem dX4_parse_77 : decode cX4_parse 77 = .ok (.getfield 25, 3) := by decide +kernel
theorem dX4_parse_80 : decode cX4_parse 80 = .ok (.ifCond .ge 22, 3) := by decide +kernel
theorem dX4_parse_83 : decode cX4_parse 83 = .ok (.aload_n 0, 1) := by decide +kernel
theorem dX4_parse_84 : decode cX4_parse 84 = .ok (.getfield 22, 3) := by decide +kernel
theorem dX4_parse_87 : decode cX4_parse 87 = .ok (.aload_n 0, 1) := by decide +kernel
theorem dX4_parse_88 : decode cX4_parse 88 = .ok (.getfield 18, 3) := by decide +kernel
theorem dX4_parse_91 : decode cX4_parse 91 = .ok (.if_icmp .ge 11, 3) := by decide +kernel
theorem dX4_parse_94 : decode cX4_parse 94 = .ok (.aload_n 0, 1) := by decide +kernel
theorem dX4_parse_95 : decode cX4_parse 95 = .ok (.aload_n 0, 1) := by decide +kernel
theorem dX4_parse_96 : decode cX4_parse 96 = .ok (.getfield 22, 3) := by decide +kernel
theorem dX4_parse_99 : decode cX4_parse 99 = .ok (.putfield 25, 3) := by decide +kernel
theorem dX4_parse_102 : decode cX4_parse 102 = .ok (.aload_n 0, 1) := by decide +kernel
theorem dX4_parse_103 : decode cX4_parse 103 = .ok (.getfield 25, 3) := by decide +kernel
theorem dX4_parse_106 : decode cX4_parse 106 = .ok (.ireturn, 1) := by decide +kernel
theorem dX4_parseClause_0 : decode cX4_parseClause 0 = .ok (.aload_n 0, 1) := by decide +kernel
theorem dX4_parseClause_1 : decode cX4_parseClause 1 = .ok (.iload_n 1, 1) := by decide +kernel
theorem dX4_parseClause_2 : decode cX4_parseClause 2 = .ok (.iconst 0, 1) := by decide +kernel
theorem dX4_parseClause_3 : decode cX4_parseClause 3 = .ok (.aload_n 0, 1) := by decide +kernel
theorem dX4_parseClause_4 : decode cX4_parseClause 4 = .ok (.iconst 2, 1) := by decide +kernel
theorem dX4_parseClause_5 : decode cX4_parseClause 5 = .ok (.iconst 0, 1) := by decide +kernel
theorem dX4_parseClause_6 : decode cX4_parseClause 6 = .ok (.bipush 63, 2) := by decide +kernel
theorem dX4_parseClause_8 : decode cX4_parseClause 8 = .ok (.invokevirtual 39, 3) := by decide +kernel
theorem dX4_parseClause_11 : decode cX4_parseClause 11 = .ok (.invokevirtual 43, 3) := by decide +kernel
theorem dX4_parseClause_14 : decode cX4_parseClause 14 = .ok (.aload_n 0, 1) := by decide +kernel
theorem dX4_parseClause_15 : decode cX4_parseClause 15 = .ok (.bipush 44, 2) := by decide +kernel
theorem dX4_parseClause_17 : decode cX4_parseClause 17 = .ok (.invokevirtual 47, 3) := by decide +kernel
theorem dX4_parseClause_20 : decode cX4_parseClause 20 = .ok (.aload_n 0, 1) := by decide +kernel
theorem dX4_parseClause_21 : decode cX4_parseClause 21 = .ok (.iload_n 1, 1) := by decide +kernel
theorem dX4_parseClause_22 : decode cX4_parseClause 22 = .ok (.iconst 1, 1) := by decide +kernel
theorem dX4_parseClause_23 : decode cX4_parseClause 23 = .ok (.aload_n 0, 1) := by decide +kernel
theorem dX4_parseClause_24 : decode cX4_parseClause 24 = .ok (.iconst 2, 1) := by decide +kernel
theorem dX4_parseClause_25 : decode cX4_parseClause 25 = .ok (.iconst 0, 1) := by decide +kernel
theorem dX4_parseClause_26 : decode cX4_parseClause 26 = .ok (.bipush 63, 2) := by decide +kernel
theorem dX4_parseClause_28 : decode cX4_parseClause 28 = .ok (.invokevirtual 39, 3) := by decide +kernel
theorem dX4_parseClause_31 : decode cX4_parseClause 31 = .ok (.invokevirtual 43, 3) := by decide +kernel
theorem dX4_parseClause_34 : decode cX4_parseClause 34 = .ok (.aload_n 0, 1) := by decide +kernel
theorem dX4_parseClause_35 : decode cX4_parseClause 35 = .ok (.iload_n 1, 1) := by decide +kernel
theorem dX4_parseClause_36 : decode cX4_parseClause 36 = .ok (.iconst 2, 1) := by decide +kernel
theorem dX4_parseClause_37 : decode cX4_parseClause 37 = .ok (.aload_n 0, 1) := by decide +kernel
theorem dX4_parseClause_38 : decode cX4_parseClause 38 = .ok (.bipush 42, 2) := by decide +kernel
theorem dX4_parseClause_40 : decode cX4_parseClause 40 = .ok (.invokevirtual 35, 3) := by decide +kernel
theorem dX4_parseClause_43 : decode cX4_parseClause 43 = .ok (.ifCond .eq 19, 3) := by decide +kernel
theorem dX4_parseClause_46 : decode cX4_parseClause 46 = .ok (.aload_n 0, 1) := by decide +kernel
theorem dX4_parseClause_47 : decode cX4_parseClause 47 = .ok (.iconst 2, 1) := by decide +kernel
theorem dX4_parseClause_48 : decode cX4_parseClause 48 = .ok (.iconst 0, 1) := by decide +kernel
theorem dX4_parseClause_49 : decode cX4_parseClause 49 = .ok (.getstatic 50, 3) := by decide +kernel
theorem dX4_parseClause_52 : decode cX4_parseClause 52 = .ok (.iconst 2, 1) := by decide +kernel
theorem dX4_parseClause_53 : decode cX4_parseClause 53 = .ok (.invokestatic 53, 3) := by decide +kernel
theorem dX4_parseClause_56 : decode cX4_parseClause 56 = .ok (.invokevirtual 39, 3) := by decide +kernel
theorem dX4_parseClause_59 : decode cX4_parseClause 59 = .ok (.goto 4, 3) := by decide +kernel
theorem dX4_parseClause_62 : decode cX4_parseClause 62 = .ok (.iconst 1, 1) := by decide +kernel
theorem dX4_parseClause_63 : decode cX4_parseClause 63 = .ok (.invokevirtual 43, 3) := by decide +kernel
theorem dX4_parseClause_66 : decode cX4_parseClause 66 = .ok (.getstatic 50, 3) := by decide +kernel
theorem dX4_parseClause_69 : decode cX4_parseClause 69 = .ok (.iconst 4, 1) := by decide +kernel
theorem dX4_parseClause_70 : decode cX4_parseClause 70 = .ok (.invokestatic 53, 3) := by decide +kernel
theorem dX4_parseClause_73 : decode cX4_parseClause 73 = .ok (.istore_n 2, 1) := by decide +kernel
theorem dX4_parseClause_74 : decode cX4_parseClause 74 = .ok (.aload_n 0, 1) := by decide +kernel
theorem dX4_parseClause_75 : decode cX4_parseClause 75 = .ok (.bipush 64, 2) := by decide +kernel
theorem dX4_parseClause_77 : decode cX4_parseClause 77 = .ok (.invokevirtual 35, 3) := by decide +kernel
theorem dX4_parseClause_80 : decode cX4_parseClause 80 = .ok (.istore_n 3, 1) := by decide +kernel
theorem dX4_parseClause_81 : decode cX4_parseClause 81 = .ok (.iload_n 3, 1) := by decide +kernel
theorem dX4_parseClause_82 : decode cX4_parseClause 82 = .ok (.ifCond .eq 13, 3) := by decide +kernel
theorem dX4_parseClause_85 : decode cX4_parseClause 85 = .ok (.aload_n 0, 1) := by decide +kernel
theorem dX4_parseClause_86 : decode cX4_parseClause 86 = .ok (.iconst 3, 1) := by decide +kernel
theorem dX4_parseClause_87 : decode cX4_parseClause 87 = .ok (.iconst 0, 1) := by decide +kernel
theorem dX4_parseClause_88 : decode cX4_parseClause 88 = .ok (.iload_n 2, 1) := by decide +kernel
theorem dX4_parseClause_89 : decode cX4_parseClause 89 = .ok (.invokevirtual 39, 3) := by decide +kernel
theorem dX4_parseClause_92 : decode cX4_parseClause 92 = .ok (.goto 4, 3) := by decide +kernel
theorem dX4_parseClause_95 : decode cX4_parseClause 95 = .ok (.iconst 0, 1) := by decide +kernel
theorem dX4_parseClause_96 : decode cX4_parseClause 96 = .ok (.istore 4, 2) := by decide +kernel
theorem dX4_parseClause_98 : decode cX4_parseClause 98 = .ok (.aload_n 0, 1) := by decide +kernel
theorem dX4_parseClause_99 : decode cX4_parseClause 99 = .ok (.iload_n 1, 1) := by decide +kernel
theorem dX4_parseClause_100 : decode cX4_parseClause 100 = .ok (.iconst 3, 1) := by decide +kernel
theorem dX4_parseClause_101 : decode cX4_parseClause 101 = .ok (.iload 4, 2) := by decide +kernel
theorem dX4_parseClause_103 : decode cX4_parseClause 103 = .ok (.invokevirtual 43, 3) := by decide +kernel
theorem dX4_parseClause_106 : decode cX4_parseClause 106 = .ok (.iload_n 3, 1) := by decide +kernel
theorem dX4_parseClause_107 : decode cX4_parseClause 107 = .ok (.ifCond .eq 9, 3) := by decide +kernel
theorem dX4_parseClause_110 : decode cX4_parseClause 110 = .ok (.aload_n 0, 1) := by decide +kernel
theorem dX4_parseClause_111 : decode cX4_parseClause 111 = .ok (.bipush 45, 2) := by decide +kernel
theorem dX4_parseClause_113 : decode cX4_parseClause 113 = .ok (.invokevirtual 47, 3) := by decide +kernel
theorem dX4_parseClause_116 : decode cX4_parseClause 116 = .ok (.aload_n 0, 1) := by decide +kernel
theorem dX4_parseClause_117 : decode cX4_parseClause 117 = .ok (.iload_n 1, 1) := by decide +kernel
theorem dX4_parseClause_118 : decode cX4_parseClause 118 = .ok (.iconst 4, 1) := by decide +kernel
theorem dX4_parseClause_119 : decode cX4_parseClause 119 = .ok (.iload_n 3, 1) := by decide +kernel
theorem dX4_parseClause_120 : decode cX4_parseClause 120 = .ok (.ifCond .eq 14, 3) := by decide +kernel
theorem dX4_parseClause_123 : decode cX4_parseClause 123 = .ok (.aload_n 0, 1) := by decide +kernel
theorem dX4_parseClause_124 : decode cX4_parseClause 124 = .ok (.iconst 3, 1) := by decide +kernel
theorem dX4_parseClause_125 : decode cX4_parseClause 125 = .ok (.iload 4, 2) := by decide +kernel
theorem dX4_parseClause_127 : decode cX4_parseClause 127 = .ok (.iload_n 2, 1) := by decide +kernel
theorem dX4_parseClause_128 : decode cX4_parseClause 128 = .ok (.invokevirtual 39, 3) := by decide +kernel
theorem dX4_parseClause_131 : decode cX4_parseClause 131 = .ok (.goto 4, 3) := by decide +kernel
theorem dX4_parseClause_134 : decode cX4_parseClause 134 = .ok (.iload_n 2, 1) := by decide +kernel
theorem dX4_parseClause_135 : decode cX4_parseClause 135 = .ok (.invokevirtual 43, 3) := by decide +kernel
theorem dX4_parseClause_138 : decode cX4_parseClause 138 = .ok (.aload_n 0, 1) := by decide +kernel
theorem dX4_parseClause_139 : decode cX4_parseClause 139 = .ok (.iload_n 1, 1) := by decide +kernel
theorem dX4_parseClause_140 : decode cX4_parseClause 140 = .ok (.iconst 5, 1) := by decide +kernel
theorem dX4_parseClause_141 : decode cX4_parseClause 141 = .ok (.aload_n 0, 1) := by decide +kernel
theorem dX4_parseClause_142 : decode cX4_parseClause 142 = .ok (.bipush 43, 2) := by decide +kernel
theorem dX4_parseClause_144 : decode cX4_parseClause 144 = .ok (.invokevirtual 35, 3) := by decide +kernel
theorem dX4_parseClause_147 : decode cX4_parseClause 147 = .ok (.ifCond .eq 19, 3) := by decide +kernel
theorem dX4_parseClause_150 : decode cX4_parseClause 150 = .ok (.aload_n 0, 1) := by decide +kernel
theorem dX4_parseClause_151 : decode cX4_parseClause 151 = .ok (.iconst 2, 1) := by decide +kernel
theorem dX4_parseClause_152 : decode cX4_parseClause 152 = .ok (.iconst 0, 1) := by decide +kernel
theorem dX4_parseClause_153 : decode cX4_parseClause 153 = .ok (.getstatic 50, 3) := by decide +kernel
theorem dX4_parseClause_156 : decode cX4_parseClause 156 = .ok (.iconst 5, 1) := by decide +kernel
theorem dX4_parseClause_157 : decode cX4_parseClause 157 = .ok (.invokestatic 53, 3) := by decide +kernel
theorem dX4_parseClause_160 : decode cX4_parseClause 160 = .ok (.invokevirtual 39, 3) := by decide +kernel
theorem dX4_parseClause_163 : decode cX4_parseClause 163 = .ok (.goto 4, 3) := by decide +kernel
theorem dX4_parseClause_166 : decode cX4_parseClause 166 = .ok (.iconst 0, 1) := by decide +kernel
theorem dX4_parseClause_167 : decode cX4_parseClause 167 = .ok (.invokevirtual 43, 3) := by decide +kernel
theorem dX4_parseClause_170 : decode cX4_parseClause 170 = .ok (.return_, 1) := by decide +kernel
theorem dX4_keepFact_0 : decode cX4_keepFact 0 = .ok (.iload_n 1, 1) := by decide +kernel
theorem dX4_keepFact_1 : decode cX4_keepFact 1 = .ok (.bipush 6, 2) := by decide +kernel
theorem dX4_keepFact_3 : decode cX4_keepFact 3 = .ok (.imul, 1) := by decide +kernel
theorem dX4_keepFact_4 : decode cX4_keepFact 4 = .ok (.iload_n 2, 1) := by decide +kernel
theorem dX4_keepFact_5 : decode cX4_keepFact 5 = .ok (.iadd, 1) := by decide +kernel
theorem dX4_keepFact_6 : decode cX4_keepFact 6 = .ok (.istore 4, 2) := by decide +kernel
theorem dX4_keepFact_8 : decode cX4_keepFact 8 = .ok (.iload 4, 2) := by decide +kernel
theorem dX4_keepFact_10 : decode cX4_keepFact 10 = .ok (.ifCond .lt 21, 3) := by decide +kernel
theorem dX4_keepFact_13 : decode cX4_keepFact 13 = .ok (.iload 4, 2) := by decide +kernel
theorem dX4_keepFact_15 : decode cX4_keepFact 15 = .ok (.aload_n 0, 1) := by decide +kernel
theorem dX4_keepFact_16 : decode cX4_keepFact 16 = .ok (.getfield 15, 3) := by decide +kernel
theorem dX4_keepFact_19 : decode cX4_keepFact 19 = .ok (.arraylength, 1) := by decide +kernel
theorem dX4_keepFact_20 : decode cX4_keepFact 20 = .ok (.if_icmp .ge 11, 3) := by decide +kernel
theorem dX4_keepFact_23 : decode cX4_keepFact 23 = .ok (.aload_n 0, 1) := by decide +kernel
theorem dX4_keepFact_24 : decode cX4_keepFact 24 = .ok (.getfield 15, 3) := by decide +kernel
theorem dX4_keepFact_27 : decode cX4_keepFact 27 = .ok (.iload 4, 2) := by decide +kernel
theorem dX4_keepFact_29 : decode cX4_keepFact 29 = .ok (.iload_n 3, 1) := by decide +kernel
theorem dX4_keepFact_30 : decode cX4_keepFact 30 = .ok (.iastore, 1) := by decide +kernel
theorem dX4_keepFact_31 : decode cX4_keepFact 31 = .ok (.return_, 1) := by decide +kernel
theorem dX4_nextSign_0 : decode cX4_nextSign 0 = .ok (.aload_n 0, 1) := by decide +kernel
theorem dX4_nextSign_1 : decode cX4_nextSign 1 = .ok (.getfield 22, 3) := by decide +kernel
theorem dX4_nextSign_4 : decode cX4_nextSign 4 = .ok (.ifCond .lt 35, 3) := by decide +kernel
theorem dX4_nextSign_7 : decode cX4_nextSign 7 = .ok (.aload_n 0, 1) := by decide +kernel
theorem dX4_nextSign_8 : decode cX4_nextSign 8 = .ok (.getfield 22, 3) := by decide +kernel
theorem dX4_nextSign_11 : decode cX4_nextSign 11 = .ok (.aload_n 0, 1) := by decide +kernel
theorem dX4_nextSign_12 : decode cX4_nextSign 12 = .ok (.getfield 18, 3) := by decide +kernel
theorem dX4_nextSign_15 : decode cX4_nextSign 15 = .ok (.if_icmp .ge 24, 3) := by decide +kernel
theorem dX4_nextSign_18 : decode cX4_nextSign 18 = .ok (.aload_n 0, 1) := by decide +kernel
theorem dX4_nextSign_19 : decode cX4_nextSign 19 = .ok (.getfield 22, 3) := by decide +kernel
theorem dX4_nextSign_22 : decode cX4_nextSign 22 = .ok (.bipush 100, 2) := by decide +kernel
theorem dX4_nextSign_24 : decode cX4_nextSign 24 = .ok (.if_icmp .ge 15, 3) := by decide +kernel
theorem dX4_nextSign_27 : decode cX4_nextSign 27 = .ok (.aload_n 0, 1) := by decide +kernel
theorem dX4_nextSign_28 : decode cX4_nextSign 28 = .ok (.getfield 9, 3) := by decide +kernel
theorem dX4_nextSign_31 : decode cX4_nextSign 31 = .ok (.aload_n 0, 1) := by decide +kernel
theorem dX4_nextSign_32 : decode cX4_nextSign 32 = .ok (.getfield 22, 3) := by decide +kernel
theorem dX4_nextSign_35 : decode cX4_nextSign 35 = .ok (.iaload, 1) := by decide +kernel
theorem dX4_nextSign_36 : decode cX4_nextSign 36 = .ok (.goto 4, 3) := by decide +kernel
theorem dX4_nextSign_39 : decode cX4_nextSign 39 = .ok (.iconst (-1), 1) := by decide +kernel
theorem dX4_nextSign_40 : decode cX4_nextSign 40 = .ok (.ireturn, 1) := by decide +kernel
theorem dX4_skip_0 : decode cX4_skip 0 = .ok (.aload_n 0, 1) := by decide +kernel
theorem dX4_skip_1 : decode cX4_skip 1 = .ok (.getfield 25, 3) := by decide +kernel
theorem dX4_skip_4 : decode cX4_skip 4 = .ok (.ifCond .ge 11, 3) := by decide +kernel
theorem dX4_skip_7 : decode cX4_skip 7 = .ok (.aload_n 0, 1) := by decide +kernel
theorem dX4_skip_8 : decode cX4_skip 8 = .ok (.invokevirtual 57, 3) := by decide +kernel
theorem dX4_skip_11 : decode cX4_skip 11 = .ok (.iload_n 1, 1) := by decide +kernel
theorem dX4_skip_12 : decode cX4_skip 12 = .ok (.if_icmp .eq 5, 3) := by decide +kernel
theorem dX4_skip_15 : decode cX4_skip 15 = .ok (.iconst 0, 1) := by decide +kernel
theorem dX4_skip_16 : decode cX4_skip 16 = .ok (.ireturn, 1) := by decide +kernel
theorem dX4_skip_17 : decode cX4_skip 17 = .ok (.aload_n 0, 1) := by decide +kernel
theorem dX4_skip_18 : decode cX4_skip 18 = .ok (.dup, 1) := by decide +kernel
theorem dX4_skip_19 : decode cX4_skip 19 = .ok (.getfield 22, 3) := by decide +kernel
theorem dX4_skip_22 : decode cX4_skip 22 = .ok (.iconst 1, 1) := by decide +kernel
theorem dX4_skip_23 : decode cX4_skip 23 = .ok (.iadd, 1) := by decide +kernel
theorem dX4_skip_24 : decode cX4_skip 24 = .ok (.putfield 22, 3) := by decide +kernel
theorem dX4_skip_27 : decode cX4_skip 27 = .ok (.iconst 1, 1) := by decide +kernel
theorem dX4_skip_28 : decode cX4_skip 28 = .ok (.ireturn, 1) := by decide +kernel
theorem dX4_expect_0 : decode cX4_expect 0 = .ok (.aload_n 0, 1) := by decide +kernel
theorem dX4_expect_1 : decode cX4_expect 1 = .ok (.iload_n 1, 1) := by decide +kernel
theorem dX4_expect_2 : decode cX4_expect 2 = .ok (.invokevirtual 35, 3) := by decide +kernel
theorem dX4_expect_5 : decode cX4_expect 5 = .ok (.ifCond .ne 18, 3) := by decide +kernel
theorem dX4_expect_8 : decode cX4_expect 8 = .ok (.aload_n 0, 1) := by decide +kernel
theorem dX4_expect_9 : decode cX4_expect 9 = .ok (.getfield 25, 3) := by decide +kernel
theorem dX4_expect_12 : decode cX4_expect 12 = .ok (.ifCond .ge 11, 3) := by decide +kernel
theorem dX4_expect_15 : decode cX4_expect 15 = .ok (.aload_n 0, 1) := by decide +kernel
theorem dX4_expect_16 : decode cX4_expect 16 = .ok (.aload_n 0, 1) := by decide +kernel
theorem dX4_expect_17 : decode cX4_expect 17 = .ok (.getfield 22, 3) := by decide +kernel
theorem dX4_expect_20 : decode cX4_expect 20 = .ok (.putfield 25, 3) := by decide +kernel
theorem dX4_expect_23 : decode cX4_expect 23 = .ok (.return_, 1) := by decide +kernel
theorem dX4_number_0 : decode cX4_number 0 = .ok (.aload_n 0, 1) := by decide +kernel
theorem dX4_number_1 : decode cX4_number 1 = .ok (.getfield 25, 3) := by decide +kernel
theorem dX4_number_4 : decode cX4_number 4 = .ok (.ifCond .lt 5, 3) := by decide +kernel
theorem dX4_number_7 : decode cX4_number 7 = .ok (.iconst 0, 1) := by decide +kernel
theorem dX4_number_8 : decode cX4_number 8 = .ok (.ireturn, 1) := by decide +kernel
theorem dX4_number_9 : decode cX4_number 9 = .ok (.aload_n 0, 1) := by decide +kernel
theorem dX4_number_10 : decode cX4_number 10 = .ok (.getfield 22, 3) := by decide +kernel
theorem dX4_number_13 : decode cX4_number 13 = .ok (.istore 4, 2) := by decide +kernel
theorem dX4_number_15 : decode cX4_number 15 = .ok (.iconst 0, 1) := by decide +kernel
theorem dX4_number_16 : decode cX4_number 16 = .ok (.istore 5, 2) := by decide +kernel
theorem dX4_number_18 : decode cX4_number 18 = .ok (.iconst 0, 1) := by decide +kernel
theorem dX4_number_19 : decode cX4_number 19 = .ok (.istore 6, 2) := by decide +kernel
theorem dX4_number_21 : decode cX4_number 21 = .ok (.iload 6, 2) := by decide +kernel
theorem dX4_number_23 : decode cX4_number 23 = .ok (.iload_n 1, 1) := by decide +kernel
theorem dX4_number_24 : decode cX4_number 24 = .ok (.if_icmp .ge 52, 3) := by decide +kernel
theorem dX4_number_27 : decode cX4_number 27 = .ok (.aload_n 0, 1) := by decide +kernel
theorem dX4_number_28 : decode cX4_number 28 = .ok (.invokevirtual 57, 3) := by decide +kernel
theorem dX4_number_31 : decode cX4_number 31 = .ok (.bipush 48, 2) := by decide +kernel
theorem dX4_number_33 : decode cX4_number 33 = .ok (.if_icmp .lt 43, 3) := by decide +kernel
theorem dX4_number_36 : decode cX4_number 36 = .ok (.aload_n 0, 1) := by decide +kernel
theorem dX4_number_37 : decode cX4_number 37 = .ok (.invokevirtual 57, 3) := by decide +kernel
theorem dX4_number_40 : decode cX4_number 40 = .ok (.bipush 57, 2) := by decide +kernel
theorem dX4_number_42 : decode cX4_number 42 = .ok (.if_icmp .gt 34, 3) := by decide +kernel
theorem dX4_number_45 : decode cX4_number 45 = .ok (.iload 5, 2) := by decide +kernel
theorem dX4_number_47 : decode cX4_number 47 = .ok (.bipush 10, 2) := by decide +kernel
theorem dX4_number_49 : decode cX4_number 49 = .ok (.imul, 1) := by decide +kernel
theorem dX4_number_50 : decode cX4_number 50 = .ok (.aload_n 0, 1) := by decide +kernel
theorem dX4_number_51 : decode cX4_number 51 = .ok (.invokevirtual 57, 3) := by decide +kernel
theorem dX4_number_54 : decode cX4_number 54 = .ok (.iadd, 1) := by decide +kernel
theorem dX4_number_55 : decode cX4_number 55 = .ok (.bipush 48, 2) := by decide +kernel
theorem dX4_number_57 : decode cX4_number 57 = .ok (.isub, 1) := by decide +kernel
theorem dX4_number_58 : decode cX4_number 58 = .ok (.istore 5, 2) := by decide +kernel
theorem dX4_number_60 : decode cX4_number 60 = .ok (.aload_n 0, 1) := by decide +kernel
theorem dX4_number_61 : decode cX4_number 61 = .ok (.dup, 1) := by decide +kernel
theorem dX4_number_62 : decode cX4_number 62 = .ok (.getfield 22, 3) := by decide +kernel
theorem dX4_number_65 : decode cX4_number 65 = .ok (.iconst 1, 1) := by decide +kernel
theorem dX4_number_66 : decode cX4_number 66 = .ok (.iadd, 1) := by decide +kernel
theorem dX4_number_67 : decode cX4_number 67 = .ok (.putfield 22, 3) := by decide +kernel
theorem dX4_number_70 : decode cX4_number 70 = .ok (.iinc 6 1, 3) := by decide +kernel
theorem dX4_number_73 : decode cX4_number 73 = .ok (.goto (-52), 3) := by decide +kernel
theorem dX4_number_76 : decode cX4_number 76 = .ok (.aload_n 0, 1) := by decide +kernel
theorem dX4_number_77 : decode cX4_number 77 = .ok (.getfield 22, 3) := by decide +kernel
theorem dX4_number_80 : decode cX4_number 80 = .ok (.iload 4, 2) := by decide +kernel
theorem dX4_number_82 : decode cX4_number 82 = .ok (.if_icmp .ne 14, 3) := by decide +kernel
theorem dX4_number_85 : decode cX4_number 85 = .ok (.aload_n 0, 1) := by decide +kernel
theorem dX4_number_86 : decode cX4_number 86 = .ok (.aload_n 0, 1) := by decide +kernel
theorem dX4_number_87 : decode cX4_number 87 = .ok (.getfield 22, 3) := by decide +kernel
theorem dX4_number_90 : decode cX4_number 90 = .ok (.putfield 25, 3) := by decide +kernel
theorem dX4_number_93 : decode cX4_number 93 = .ok (.goto 25, 3) := by decide +kernel
theorem dX4_number_96 : decode cX4_number 96 = .ok (.iload 5, 2) := by decide +kernel
theorem dX4_number_98 : decode cX4_number 98 = .ok (.iload_n 2, 1) := by decide +kernel
theorem dX4_number_99 : decode cX4_number 99 = .ok (.if_icmp .lt 9, 3) := by decide +kernel
theorem dX4_number_102 : decode cX4_number 102 = .ok (.iload 5, 2) := by decide +kernel
theorem dX4_number_104 : decode cX4_number 104 = .ok (.iload_n 3, 1) := by decide +kernel
theorem dX4_number_105 : decode cX4_number 105 = .ok (.if_icmp .le 13, 3) := by decide +kernel
theorem dX4_number_108 : decode cX4_number 108 = .ok (.aload_n 0, 1) := by decide +kernel
theorem dX4_number_109 : decode cX4_number 109 = .ok (.aload_n 0, 1) := by decide +kernel
theorem dX4_number_110 : decode cX4_number 110 = .ok (.getfield 22, 3) := by decide +kernel
theorem dX4_number_113 : decode cX4_number 113 = .ok (.iconst 1, 1) := by decide +kernel
theorem dX4_number_114 : decode cX4_number 114 = .ok (.isub, 1) := by decide +kernel
theorem dX4_number_115 : decode cX4_number 115 = .ok (.putfield 25, 3) := by decide +kernel
theorem dX4_number_118 : decode cX4_number 118 = .ok (.iload 5, 2) := by decide +kernel
theorem dX4_number_120 : decode cX4_number 120 = .ok (.ireturn, 1) := by decide +kernel
theorem dX5_init_0 : decode cX5_init 0 = .ok (.aload_n 0, 1) := by decide +kernel
theorem dX5_init_1 : decode cX5_init 1 = .ok (.invokespecial 3, 3) := by decide +kernel
theorem dX5_init_4 : decode cX5_init 4 = .ok (.aload_n 0, 1) := by decide +kernel
theorem dX5_init_5 : decode cX5_init 5 = .ok (.bipush 6, 2) := by decide +kernel
theorem dX5_init_7 : decode cX5_init 7 = .ok (.newarray .int, 2) := by decide +kernel
theorem dX5_init_9 : decode cX5_init 9 = .ok (.putfield 9, 3) := by decide +kernel
theorem dX5_init_12 : decode cX5_init 12 = .ok (.aload_n 0, 1) := by decide +kernel
theorem dX5_init_13 : decode cX5_init 13 = .ok (.bipush 6, 2) := by decide +kernel
theorem dX5_init_15 : decode cX5_init 15 = .ok (.newarray .int, 2) := by decide +kernel
theorem dX5_init_17 : decode cX5_init 17 = .ok (.putfield 15, 3) := by decide +kernel
theorem dX5_init_20 : decode cX5_init 20 = .ok (.aload_n 0, 1) := by decide +kernel
theorem dX5_init_21 : decode cX5_init 21 = .ok (.sipush 360, 3) := by decide +kernel
theorem dX5_init_24 : decode cX5_init 24 = .ok (.newarray .long, 2) := by decide +kernel
theorem dX5_init_26 : decode cX5_init 26 = .ok (.putfield 18, 3) := by decide +kernel
theorem dX5_init_29 : decode cX5_init 29 = .ok (.iconst 0, 1) := by decide +kernel
theorem dX5_init_30 : decode cX5_init 30 = .ok (.istore_n 1, 1) := by decide +kernel
theorem dX5_init_31 : decode cX5_init 31 = .ok (.iload_n 1, 1) := by decide +kernel
theorem dX5_init_32 : decode cX5_init 32 = .ok (.bipush 6, 2) := by decide +kernel
theorem dX5_init_34 : decode cX5_init 34 = .ok (.if_icmp .ge 16, 3) := by decide +kernel
theorem dX5_init_37 : decode cX5_init 37 = .ok (.aload_n 0, 1) := by decide +kernel
theorem dX5_init_38 : decode cX5_init 38 = .ok (.getfield 9, 3) := by decide +kernel
theorem dX5_init_41 : decode cX5_init 41 = .ok (.iload_n 1, 1) := by decide +kernel
theorem dX5_init_42 : decode cX5_init 42 = .ok (.iconst (-1), 1) := by decide +kernel
theorem dX5_init_43 : decode cX5_init 43 = .ok (.iastore, 1) := by decide +kernel
theorem dX5_init_44 : decode cX5_init 44 = .ok (.iinc 1 1, 3) := by decide +kernel
theorem dX5_init_47 : decode cX5_init 47 = .ok (.goto (-16), 3) := by decide +kernel
theorem dX5_init_50 : decode cX5_init 50 = .ok (.return_, 1) := by decide +kernel
theorem dX5_isTape_0 : decode cX5_isTape 0 = .ok (.iload_n 1, 1) := by decide +kernel
theorem dX5_isTape_1 : decode cX5_isTape 1 = .ok (.ifCond .lt 13, 3) := by decide +kernel
theorem dX5_isTape_4 : decode cX5_isTape 4 = .ok (.iload_n 1, 1) := by decide +kernel
theorem dX5_isTape_5 : decode cX5_isTape 5 = .ok (.bipush 6, 2) := by decide +kernel
theorem dX5_isTape_7 : decode cX5_isTape 7 = .ok (.if_icmp .ge 7, 3) := by decide +kernel
theorem dX5_isTape_10 : decode cX5_isTape 10 = .ok (.iconst 1, 1) := by decide +kernel
theorem dX5_isTape_11 : decode cX5_isTape 11 = .ok (.goto 4, 3) := by decide +kernel
theorem dX5_isTape_14 : decode cX5_isTape 14 = .ok (.iconst 0, 1) := by decide +kernel
theorem dX5_isTape_15 : decode cX5_isTape 15 = .ok (.ireturn, 1) := by decide +kernel
theorem dX5_sortOf_0 : decode cX5_sortOf 0 = .ok (.iload_n 1, 1) := by decide +kernel
theorem dX5_sortOf_1 : decode cX5_sortOf 1 = .ok (.ifCond .lt 21, 3) := by decide +kernel
theorem dX5_sortOf_4 : decode cX5_sortOf 4 = .ok (.iload_n 1, 1) := by decide +kernel
theorem dX5_sortOf_5 : decode cX5_sortOf 5 = .ok (.aload_n 0, 1) := by decide +kernel
theorem dX5_sortOf_6 : decode cX5_sortOf 6 = .ok (.getfield 9, 3) := by decide +kernel
theorem dX5_sortOf_9 : decode cX5_sortOf 9 = .ok (.arraylength, 1) := by decide +kernel
theorem dX5_sortOf_10 : decode cX5_sortOf 10 = .ok (.if_icmp .ge 12, 3) := by decide +kernel
theorem dX5_sortOf_13 : decode cX5_sortOf 13 = .ok (.aload_n 0, 1) := by decide +kernel
theorem dX5_sortOf_14 : decode cX5_sortOf 14 = .ok (.getfield 9, 3) := by decide +kernel
theorem dX5_sortOf_17 : decode cX5_sortOf 17 = .ok (.iload_n 1, 1) := by decide +kernel
theorem dX5_sortOf_18 : decode cX5_sortOf 18 = .ok (.iaload, 1) := by decide +kernel
theorem dX5_sortOf_19 : decode cX5_sortOf 19 = .ok (.goto 4, 3) := by decide +kernel
theorem dX5_sortOf_22 : decode cX5_sortOf 22 = .ok (.iconst (-1), 1) := by decide +kernel
theorem dX5_sortOf_23 : decode cX5_sortOf 23 = .ok (.ireturn, 1) := by decide +kernel
theorem dX5_become_0 : decode cX5_become 0 = .ok (.iload_n 1, 1) := by decide +kernel
theorem dX5_become_1 : decode cX5_become 1 = .ok (.ifCond .lt 19, 3) := by decide +kernel
theorem dX5_become_4 : decode cX5_become 4 = .ok (.iload_n 1, 1) := by decide +kernel
theorem dX5_become_5 : decode cX5_become 5 = .ok (.bipush 6, 2) := by decide +kernel
theorem dX5_become_7 : decode cX5_become 7 = .ok (.if_icmp .ge 13, 3) := by decide +kernel
theorem dX5_become_10 : decode cX5_become 10 = .ok (.iload_n 3, 1) := by decide +kernel
theorem dX5_become_11 : decode cX5_become 11 = .ok (.ifCond .lt 9, 3) := by decide +kernel
theorem dX5_become_14 : decode cX5_become 14 = .ok (.iload_n 3, 1) := by decide +kernel
theorem dX5_become_15 : decode cX5_become 15 = .ok (.bipush 60, 2) := by decide +kernel
theorem dX5_become_17 : decode cX5_become 17 = .ok (.if_icmp .le 4, 3) := by decide +kernel
theorem dX5_become_20 : decode cX5_become 20 = .ok (.return_, 1) := by decide +kernel
theorem dX5_become_21 : decode cX5_become 21 = .ok (.aload_n 0, 1) := by decide +kernel
theorem dX5_become_22 : decode cX5_become 22 = .ok (.getfield 9, 3) := by decide +kernel
theorem dX5_become_25 : decode cX5_become 25 = .ok (.iload_n 1, 1) := by decide +kernel
theorem dX5_become_26 : decode cX5_become 26 = .ok (.iload_n 2, 1) := by decide +kernel
theorem dX5_become_27 : decode cX5_become 27 = .ok (.iastore, 1) := by decide +kernel
theorem dX5_become_28 : decode cX5_become 28 = .ok (.aload_n 0, 1) := by decide +kernel
theorem dX5_become_29 : decode cX5_become 29 = .ok (.getfield 15, 3) := by decide +kernel
theorem dX5_become_32 : decode cX5_become 32 = .ok (.iload_n 1, 1) := by decide +kernel
theorem dX5_become_33 : decode cX5_become 33 = .ok (.iload_n 3, 1) := by decide +kernel
theorem dX5_become_34 : decode cX5_become 34 = .ok (.iastore, 1) := by decide +kernel
theorem dX5_become_35 : decode cX5_become 35 = .ok (.iconst 0, 1) := by decide +kernel
theorem dX5_become_36 : decode cX5_become 36 = .ok (.istore 4, 2) := by decide +kernel
theorem dX5_become_38 : decode cX5_become 38 = .ok (.iload 4, 2) := by decide +kernel
theorem dX5_become_40 : decode cX5_become 40 = .ok (.bipush 60, 2) := by decide +kernel
theorem dX5_become_42 : decode cX5_become 42 = .ok (.if_icmp .ge 22, 3) := by decide +kernel
theorem dX5_become_45 : decode cX5_become 45 = .ok (.aload_n 0, 1) := by decide +kernel
theorem dX5_become_46 : decode cX5_become 46 = .ok (.getfield 18, 3) := by decide +kernel
theorem dX5_become_49 : decode cX5_become 49 = .ok (.iload_n 1, 1) := by decide +kernel
theorem dX5_become_50 : decode cX5_become 50 = .ok (.bipush 60, 2) := by decide +kernel
theorem dX5_become_52 : decode cX5_become 52 = .ok (.imul, 1) := by decide +kernel
theorem dX5_become_53 : decode cX5_become 53 = .ok (.iload 4, 2) := by decide +kernel
theorem dX5_become_55 : decode cX5_become 55 = .ok (.iadd, 1) := by decide +kernel
theorem dX5_become_56 : decode cX5_become 56 = .ok (.lconst 0, 1) := by decide +kernel
theorem dX5_become_57 : decode cX5_become 57 = .ok (.lastore, 1) := by decide +kernel
theorem dX5_become_58 : decode cX5_become 58 = .ok (.iinc 4 1, 3) := by decide +kernel
theorem dX5_become_61 : decode cX5_become 61 = .ok (.goto (-23), 3) := by decide +kernel
theorem dX5_become_64 : decode cX5_become 64 = .ok (.return_, 1) := by decide +kernel
theorem dX5_hasItem_0 : decode cX5_hasItem 0 = .ok (.iload_n 1, 1) := by decide +kernel
theorem dX5_hasItem_1 : decode cX5_hasItem 1 = .ok (.ifCond .lt 27, 3) := by decide +kernel
theorem dX5_hasItem_4 : decode cX5_hasItem 4 = .ok (.iload_n 1, 1) := by decide +kernel
theorem dX5_hasItem_5 : decode cX5_hasItem 5 = .ok (.bipush 6, 2) := by decide +kernel
theorem dX5_hasItem_7 : decode cX5_hasItem 7 = .ok (.if_icmp .ge 21, 3) := by decide +kernel
theorem dX5_hasItem_10 : decode cX5_hasItem 10 = .ok (.iload_n 2, 1) := by decide +kernel
theorem dX5_hasItem_11 : decode cX5_hasItem 11 = .ok (.ifCond .lt 17, 3) := by decide +kernel
theorem dX5_hasItem_14 : decode cX5_hasItem 14 = .ok (.iload_n 2, 1) := by decide +kernel
theorem dX5_hasItem_15 : decode cX5_hasItem 15 = .ok (.aload_n 0, 1) := by decide +kernel
theorem dX5_hasItem_16 : decode cX5_hasItem 16 = .ok (.getfield 15, 3) := by decide +kernel
theorem dX5_hasItem_19 : decode cX5_hasItem 19 = .ok (.iload_n 1, 1) := by decide +kernel
theorem dX5_hasItem_20 : decode cX5_hasItem 20 = .ok (.iaload, 1) := by decide +kernel
theorem dX5_hasItem_21 : decode cX5_hasItem 21 = .ok (.if_icmp .ge 7, 3) := by decide +kernel
theorem dX5_hasItem_24 : decode cX5_hasItem 24 = .ok (.iconst 1, 1) := by decide +kernel
theorem dX5_hasItem_25 : decode cX5_hasItem 25 = .ok (.goto 4, 3) := by decide +kernel
theorem dX5_hasItem_28 : decode cX5_hasItem 28 = .ok (.iconst 0, 1) := by decide +kernel
theorem dX5_hasItem_29 : decode cX5_hasItem 29 = .ok (.ireturn, 1) := by decide +kernel
theorem dX5_itemAt_0 : decode cX5_itemAt 0 = .ok (.iload_n 1, 1) := by decide +kernel
theorem dX5_itemAt_1 : decode cX5_itemAt 1 = .ok (.bipush 60, 2) := by decide +kernel
theorem dX5_itemAt_3 : decode cX5_itemAt 3 = .ok (.imul, 1) := by decide +kernel
theorem dX5_itemAt_4 : decode cX5_itemAt 4 = .ok (.iload_n 2, 1) := by decide +kernel
theorem dX5_itemAt_5 : decode cX5_itemAt 5 = .ok (.iadd, 1) := by decide +kernel
theorem dX5_itemAt_6 : decode cX5_itemAt 6 = .ok (.istore_n 3, 1) := by decide +kernel
theorem dX5_itemAt_7 : decode cX5_itemAt 7 = .ok (.aload_n 0, 1) := by decide +kernel
theorem dX5_itemAt_8 : decode cX5_itemAt 8 = .ok (.iload_n 1, 1) := by decide +kernel
theorem dX5_itemAt_9 : decode cX5_itemAt 9 = .ok (.iload_n 2, 1) := by decide +kernel
theorem dX5_itemAt_10 : decode cX5_itemAt 10 = .ok (.invokevirtual 22, 3) := by decide +kernel
theorem dX5_itemAt_13 : decode cX5_itemAt 13 = .ok (.ifCond .eq 25, 3) := by decide +kernel
theorem dX5_itemAt_16 : decode cX5_itemAt 16 = .ok (.iload_n 3, 1) := by decide +kernel
theorem dX5_itemAt_17 : decode cX5_itemAt 17 = .ok (.ifCond .lt 21, 3) := by decide +kernel
theorem dX5_itemAt_20 : decode cX5_itemAt 20 = .ok (.iload_n 3, 1) := by decide +kernel
theorem dX5_itemAt_21 : decode cX5_itemAt 21 = .ok (.aload_n 0, 1) := by decide +kernel
theorem dX5_itemAt_22 : decode cX5_itemAt 22 = .ok (.getfield 18, 3) := by decide +kernel
theorem dX5_itemAt_25 : decode cX5_itemAt 25 = .ok (.arraylength, 1) := by decide +kernel
theorem dX5_itemAt_26 : decode cX5_itemAt 26 = .ok (.if_icmp .ge 12, 3) := by decide +kernel
theorem dX5_itemAt_29 : decode cX5_itemAt 29 = .ok (.aload_n 0, 1) := by decide +kernel
theorem dX5_itemAt_30 : decode cX5_itemAt 30 = .ok (.getfield 18, 3) := by decide +kernel
theorem dX5_itemAt_33 : decode cX5_itemAt 33 = .ok (.iload_n 3, 1) := by decide +kernel
theorem dX5_itemAt_34 : decode cX5_itemAt 34 = .ok (.laload, 1) := by decide +kernel
theorem dX5_itemAt_35 : decode cX5_itemAt 35 = .ok (.goto 4, 3) := by decide +kernel
theorem dX5_itemAt_38 : decode cX5_itemAt 38 = .ok (.lconst 0, 1) := by decide +kernel
theorem dX5_itemAt_39 : decode cX5_itemAt 39 = .ok (.lreturn, 1) := by decide +kernel
theorem dX5_setItem_0 : decode cX5_setItem 0 = .ok (.iload_n 1, 1) := by decide +kernel
theorem dX5_setItem_1 : decode cX5_setItem 1 = .ok (.bipush 60, 2) := by decide +kernel
theorem dX5_setItem_3 : decode cX5_setItem 3 = .ok (.imul, 1) := by decide +kernel
theorem dX5_setItem_4 : decode cX5_setItem 4 = .ok (.iload_n 2, 1) := by decide +kernel
theorem dX5_setItem_5 : decode cX5_setItem 5 = .ok (.iadd, 1) := by decide +kernel
theorem dX5_setItem_6 : decode cX5_setItem 6 = .ok (.istore 5, 2) := by decide +kernel
theorem dX5_setItem_8 : decode cX5_setItem 8 = .ok (.aload_n 0, 1) := by decide +kernel
theorem dX5_setItem_9 : decode cX5_setItem 9 = .ok (.iload_n 1, 1) := by decide +kernel
theorem dX5_setItem_10 : decode cX5_setItem 10 = .ok (.iload_n 2, 1) := by decide +kernel
theorem dX5_setItem_11 : decode cX5_setItem 11 = .ok (.invokevirtual 22, 3) := by decide +kernel
theorem dX5_setItem_14 : decode cX5_setItem 14 = .ok (.ifCond .eq 34, 3) := by decide +kernel
theorem dX5_setItem_17 : decode cX5_setItem 17 = .ok (.iload 5, 2) := by decide +kernel
theorem dX5_setItem_19 : decode cX5_setItem 19 = .ok (.ifCond .lt 29, 3) := by decide +kernel
theorem dX5_setItem_22 : decode cX5_setItem 22 = .ok (.iload 5, 2) := by decide +kernel
theorem dX5_setItem_24 : decode cX5_setItem 24 = .ok (.aload_n 0, 1) := by decide +kernel
theorem dX5_setItem_25 : decode cX5_setItem 25 = .ok (.getfield 18, 3) := by decide +kernel
theorem dX5_setItem_28 : decode cX5_setItem 28 = .ok (.arraylength, 1) := by decide +kernel
theorem dX5_setItem_29 : decode cX5_setItem 29 = .ok (.if_icmp .ge 19, 3) := by decide +kernel
theorem dX5_setItem_32 : decode cX5_setItem 32 = .ok (.aload_n 0, 1) := by decide +kernel
theorem dX5_setItem_33 : decode cX5_setItem 33 = .ok (.getfield 18, 3) := by decide +kernel
theorem dX5_setItem_36 : decode cX5_setItem 36 = .ok (.iload 5, 2) := by decide +kernel
theorem dX5_setItem_38 : decode cX5_setItem 38 = .ok (.aload_n 0, 1) := by decide +kernel
theorem dX5_setItem_39 : decode cX5_setItem 39 = .ok (.iload_n 1, 1) := by decide +kernel
theorem dX5_setItem_40 : decode cX5_setItem 40 = .ok (.invokevirtual 26, 3) := by decide +kernel
theorem dX5_setItem_43 : decode cX5_setItem 43 = .ok (.lload_n 3, 1) := by decide +kernel
theorem dX5_setItem_44 : decode cX5_setItem 44 = .ok (.invokestatic 30, 3) := by decide +kernel
theorem dX5_setItem_47 : decode cX5_setItem 47 = .ok (.lastore, 1) := by decide +kernel
theorem dX5_setItem_48 : decode cX5_setItem 48 = .ok (.return_, 1) := by decide +kernel
theorem dX5_cutTo_0 : decode cX5_cutTo 0 = .ok (.iload_n 0, 1) := by decide +kernel
theorem dX5_cutTo_1 : decode cX5_cutTo 1 = .ok (.tableswitch 47 0 3 #[31, 36, 41, 45], 31) := by decide +kernel
theorem dX5_cutTo_32 : decode cX5_cutTo 32 = .ok (.lload_n 1, 1) := by decide +kernel
theorem dX5_cutTo_33 : decode cX5_cutTo 33 = .ok (.l2i, 1) := by decide +kernel
theorem dX5_cutTo_34 : decode cX5_cutTo 34 = .ok (.i2b, 1) := by decide +kernel
theorem dX5_cutTo_35 : decode cX5_cutTo 35 = .ok (.i2l, 1) := by decide +kernel
theorem dX5_cutTo_36 : decode cX5_cutTo 36 = .ok (.lreturn, 1) := by decide +kernel
theorem dX5_cutTo_37 : decode cX5_cutTo 37 = .ok (.lload_n 1, 1) := by decide +kernel
theorem dX5_cutTo_38 : decode cX5_cutTo 38 = .ok (.l2i, 1) := by decide +kernel
theorem dX5_cutTo_39 : decode cX5_cutTo 39 = .ok (.i2s, 1) := by decide +kernel
theorem dX5_cutTo_40 : decode cX5_cutTo 40 = .ok (.i2l, 1) := by decide +kernel
theorem dX5_cutTo_41 : decode cX5_cutTo 41 = .ok (.lreturn, 1) := by decide +kernel
theorem dX5_cutTo_42 : decode cX5_cutTo 42 = .ok (.lload_n 1, 1) := by decide +kernel
theorem dX5_cutTo_43 : decode cX5_cutTo 43 = .ok (.l2i, 1) := by decide +kernel
theorem dX5_cutTo_44 : decode cX5_cutTo 44 = .ok (.i2l, 1) := by decide +kernel
theorem dX5_cutTo_45 : decode cX5_cutTo 45 = .ok (.lreturn, 1) := by decide +kernel
theorem dX5_cutTo_46 : decode cX5_cutTo 46 = .ok (.lload_n 1, 1) := by decide +kernel
theorem dX5_cutTo_47 : decode cX5_cutTo 47 = .ok (.lreturn, 1) := by decide +kernel
theorem dX5_cutTo_48 : decode cX5_cutTo 48 = .ok (.lload_n 1, 1) := by decide +kernel
theorem dX5_cutTo_49 : decode cX5_cutTo 49 = .ok (.lconst 0, 1) := by decide +kernel
theorem dX5_cutTo_50 : decode cX5_cutTo 50 = .ok (.lcmp, 1) := by decide +kernel
theorem dX5_cutTo_51 : decode cX5_cutTo 51 = .ok (.ifCond .eq 7, 3) := by decide +kernel
theorem dX5_cutTo_54 : decode cX5_cutTo 54 = .ok (.lconst 1, 1) := by decide +kernel
theorem dX5_cutTo_55 : decode cX5_cutTo 55 = .ok (.goto 4, 3) := by decide +kernel
theorem dX5_cutTo_58 : decode cX5_cutTo 58 = .ok (.lconst 0, 1) := by decide +kernel
theorem dX5_cutTo_59 : decode cX5_cutTo 59 = .ok (.lreturn, 1) := by decide +kernel
theorem dX5_hasPart_0 : decode cX5_hasPart 0 = .ok (.iload_n 1, 1) := by decide +kernel
theorem dX5_hasPart_1 : decode cX5_hasPart 1 = .ok (.ifCond .lt 43, 3) := by decide +kernel
theorem dX5_hasPart_4 : decode cX5_hasPart 4 = .ok (.iload_n 1, 1) := by decide +kernel
theorem dX5_hasPart_5 : decode cX5_hasPart 5 = .ok (.bipush 6, 2) := by decide +kernel
theorem dX5_hasPart_7 : decode cX5_hasPart 7 = .ok (.if_icmp .ge 37, 3) := by decide +kernel
theorem dX5_hasPart_10 : decode cX5_hasPart 10 = .ok (.iload_n 2, 1) := by decide +kernel
theorem dX5_hasPart_11 : decode cX5_hasPart 11 = .ok (.ifCond .lt 33, 3) := by decide +kernel
theorem dX5_hasPart_14 : decode cX5_hasPart 14 = .ok (.iload_n 3, 1) := by decide +kernel
theorem dX5_hasPart_15 : decode cX5_hasPart 15 = .ok (.ifCond .lt 29, 3) := by decide +kernel
theorem dX5_hasPart_18 : decode cX5_hasPart 18 = .ok (.iload_n 3, 1) := by decide +kernel
theorem dX5_hasPart_19 : decode cX5_hasPart 19 = .ok (.aload_n 0, 1) := by decide +kernel
theorem dX5_hasPart_20 : decode cX5_hasPart 20 = .ok (.getfield 15, 3) := by decide +kernel
theorem dX5_hasPart_23 : decode cX5_hasPart 23 = .ok (.iload_n 1, 1) := by decide +kernel
theorem dX5_hasPart_24 : decode cX5_hasPart 24 = .ok (.iaload, 1) := by decide +kernel
theorem dX5_hasPart_25 : decode cX5_hasPart 25 = .ok (.if_icmp .gt 19, 3) := by decide +kernel
theorem dX5_hasPart_28 : decode cX5_hasPart 28 = .ok (.iload_n 2, 1) := by decide +kernel
theorem dX5_hasPart_29 : decode cX5_hasPart 29 = .ok (.aload_n 0, 1) := by decide +kernel
theorem dX5_hasPart_30 : decode cX5_hasPart 30 = .ok (.getfield 15, 3) := by decide +kernel
theorem dX5_hasPart_33 : decode cX5_hasPart 33 = .ok (.iload_n 1, 1) := by decide +kernel
theorem dX5_hasPart_34 : decode cX5_hasPart 34 = .ok (.iaload, 1) := by decide +kernel
theorem dX5_hasPart_35 : decode cX5_hasPart 35 = .ok (.iload_n 3, 1) := by decide +kernel
theorem dX5_hasPart_36 : decode cX5_hasPart 36 = .ok (.isub, 1) := by decide +kernel
theorem dX5_hasPart_37 : decode cX5_hasPart 37 = .ok (.if_icmp .gt 7, 3) := by decide +kernel
theorem dX5_hasPart_40 : decode cX5_hasPart 40 = .ok (.iconst 1, 1) := by decide +kernel
theorem dX5_hasPart_41 : decode cX5_hasPart 41 = .ok (.goto 4, 3) := by decide +kernel
theorem dX5_hasPart_44 : decode cX5_hasPart 44 = .ok (.iconst 0, 1) := by decide +kernel
theorem dX5_hasPart_45 : decode cX5_hasPart 45 = .ok (.ireturn, 1) := by decide +kernel
theorem dX5_copyPart_0 : decode cX5_copyPart 0 = .ok (.aload_n 0, 1) := by decide +kernel
theorem dX5_copyPart_1 : decode cX5_copyPart 1 = .ok (.iload_n 1, 1) := by decide +kernel
theorem dX5_copyPart_2 : decode cX5_copyPart 2 = .ok (.iload_n 2, 1) := by decide +kernel
theorem dX5_copyPart_3 : decode cX5_copyPart 3 = .ok (.iload 5, 2) := by decide +kernel
theorem dX5_copyPart_5 : decode cX5_copyPart 5 = .ok (.invokevirtual 34, 3) := by decide +kernel
theorem dX5_copyPart_8 : decode cX5_copyPart 8 = .ok (.ifCond .eq 41, 3) := by decide +kernel
theorem dX5_copyPart_11 : decode cX5_copyPart 11 = .ok (.aload_n 0, 1) := by decide +kernel
theorem dX5_copyPart_12 : decode cX5_copyPart 12 = .ok (.iload_n 3, 1) := by decide +kernel
theorem dX5_copyPart_13 : decode cX5_copyPart 13 = .ok (.iload 4, 2) := by decide +kernel
theorem dX5_copyPart_15 : decode cX5_copyPart 15 = .ok (.iload 5, 2) := by decide +kernel
theorem dX5_copyPart_17 : decode cX5_copyPart 17 = .ok (.invokevirtual 34, 3) := by decide +kernel
theorem dX5_copyPart_20 : decode cX5_copyPart 20 = .ok (.ifCond .eq 29, 3) := by decide +kernel
theorem dX5_copyPart_23 : decode cX5_copyPart 23 = .ok (.aload_n 0, 1) := by decide +kernel
theorem dX5_copyPart_24 : decode cX5_copyPart 24 = .ok (.getfield 18, 3) := by decide +kernel
theorem dX5_copyPart_27 : decode cX5_copyPart 27 = .ok (.iload_n 1, 1) := by decide +kernel
theorem dX5_copyPart_28 : decode cX5_copyPart 28 = .ok (.bipush 60, 2) := by decide +kernel
theorem dX5_copyPart_30 : decode cX5_copyPart 30 = .ok (.imul, 1) := by decide +kernel
theorem dX5_copyPart_31 : decode cX5_copyPart 31 = .ok (.iload_n 2, 1) := by decide +kernel
theorem dX5_copyPart_32 : decode cX5_copyPart 32 = .ok (.iadd, 1) := by decide +kernel
theorem dX5_copyPart_33 : decode cX5_copyPart 33 = .ok (.aload_n 0, 1) := by decide +kernel
theorem dX5_copyPart_34 : decode cX5_copyPart 34 = .ok (.getfield 18, 3) := by decide +kernel
theorem dX5_copyPart_37 : decode cX5_copyPart 37 = .ok (.iload_n 3, 1) := by decide +kernel
theorem dX5_copyPart_38 : decode cX5_copyPart 38 = .ok (.bipush 60, 2) := by decide +kernel
theorem dX5_copyPart_40 : decode cX5_copyPart 40 = .ok (.imul, 1) := by decide +kernel
theorem dX5_copyPart_41 : decode cX5_copyPart 41 = .ok (.iload 4, 2) := by decide +kernel
theorem dX5_copyPart_43 : decode cX5_copyPart 43 = .ok (.iadd, 1) := by decide +kernel
theorem dX5_copyPart_44 : decode cX5_copyPart 44 = .ok (.iload 5, 2) := by decide +kernel
theorem dX5_copyPart_46 : decode cX5_copyPart 46 = .ok (.invokestatic 38, 3) := by decide +kernel
theorem dX5_copyPart_49 : decode cX5_copyPart 49 = .ok (.return_, 1) := by decide +kernel
theorem dX6_init_0 : decode cX6_init 0 = .ok (.aload_n 0, 1) := by decide +kernel
theorem dX6_init_1 : decode cX6_init 1 = .ok (.invokespecial 3, 3) := by decide +kernel
theorem dX6_init_4 : decode cX6_init 4 = .ok (.aload_n 0, 1) := by decide +kernel
theorem dX6_init_5 : decode cX6_init 5 = .ok (.bipush 102, 2) := by decide +kernel
theorem dX6_init_7 : decode cX6_init 7 = .ok (.newarray .int, 2) := by decide +kernel
theorem dX6_init_9 : decode cX6_init 9 = .ok (.putfield 9, 3) := by decide +kernel
theorem dX6_init_12 : decode cX6_init 12 = .ok (.aload_n 0, 1) := by decide +kernel
theorem dX6_init_13 : decode cX6_init 13 = .ok (.bipush 16, 2) := by decide +kernel
theorem dX6_init_15 : decode cX6_init 15 = .ok (.newarray .int, 2) := by decide +kernel
theorem dX6_init_17 : decode cX6_init 17 = .ok (.putfield 15, 3) := by decide +kernel
theorem dX6_init_20 : decode cX6_init 20 = .ok (.aload_n 0, 1) := by decide +kernel
theorem dX6_init_21 : decode cX6_init 21 = .ok (.bipush 16, 2) := by decide +kernel
theorem dX6_init_23 : decode cX6_init 23 = .ok (.newarray .boolean, 2) := by decide +kernel
theorem dX6_init_25 : decode cX6_init 25 = .ok (.putfield 18, 3) := by decide +kernel
theorem dX6_init_28 : decode cX6_init 28 = .ok (.aload_n 0, 1) := by decide +kernel
theorem dX6_init_29 : decode cX6_init 29 = .ok (.bipush 12, 2) := by decide +kernel
theorem dX6_init_31 : decode cX6_init 31 = .ok (.newarray .int, 2) := by decide +kernel
theorem dX6_init_33 : decode cX6_init 33 = .ok (.putfield 22, 3) := by decide +kernel
theorem dX6_init_36 : decode cX6_init 36 = .ok (.aload_n 0, 1) := by decide +kernel
theorem dX6_init_37 : decode cX6_init 37 = .ok (.iconst 4, 1) := by decide +kernel
theorem dX6_init_38 : decode cX6_init 38 = .ok (.newarray .int, 2) := by decide +kernel
theorem dX6_init_40 : decode cX6_init 40 = .ok (.putfield 25, 3) := by decide +kernel
theorem dX6_init_43 : decode cX6_init 43 = .ok (.aload_n 0, 1) := by decide +kernel
theorem dX6_init_44 : decode cX6_init 44 = .ok (.bipush 64, 2) := by decide +kernel
theorem dX6_init_46 : decode cX6_init 46 = .ok (.newarray .int, 2) := by decide +kernel
theorem dX6_init_48 : decode cX6_init 48 = .ok (.putfield 28, 3) := by decide +kernel
theorem dX6_init_51 : decode cX6_init 51 = .ok (.aload_n 0, 1) := by decide +kernel
theorem dX6_init_52 : decode cX6_init 52 = .ok (.new 31, 3) := by decide +kernel
theorem dX6_init_55 : decode cX6_init 55 = .ok (.dup, 1) := by decide +kernel
theorem dX6_init_56 : decode cX6_init 56 = .ok (.invokespecial 33, 3) := by decide +kernel
theorem dX6_init_59 : decode cX6_init 59 = .ok (.putfield 34, 3) := by decide +kernel
theorem dX6_init_62 : decode cX6_init 62 = .ok (.aload_n 0, 1) := by decide +kernel
theorem dX6_init_63 : decode cX6_init 63 = .ok (.new 31, 3) := by decide +kernel
theorem dX6_init_66 : decode cX6_init 66 = .ok (.dup, 1) := by decide +kernel
theorem dX6_init_67 : decode cX6_init 67 = .ok (.invokespecial 33, 3) := by decide +kernel
theorem dX6_init_70 : decode cX6_init 70 = .ok (.putfield 38, 3) := by decide +kernel
theorem dX6_init_73 : decode cX6_init 73 = .ok (.aload_n 0, 1) := by decide +kernel
theorem dX6_init_74 : decode cX6_init 74 = .ok (.new 31, 3) := by decide +kernel
theorem dX6_init_77 : decode cX6_init 77 = .ok (.dup, 1) := by decide +kernel
theorem dX6_init_78 : decode cX6_init 78 = .ok (.invokespecial 33, 3) := by decide +kernel
theorem dX6_init_81 : decode cX6_init 81 = .ok (.putfield 41, 3) := by decide +kernel
theorem dX6_init_84 : decode cX6_init 84 = .ok (.aload_n 0, 1) := by decide +kernel
theorem dX6_init_85 : decode cX6_init 85 = .ok (.bipush 32, 2) := by decide +kernel
theorem dX6_init_87 : decode cX6_init 87 = .ok (.bipush 32, 2) := by decide +kernel
theorem dX6_init_89 : decode cX6_init 89 = .ok (.invokevirtual 44, 3) := by decide +kernel
theorem dX6_init_92 : decode cX6_init 92 = .ok (.iconst 0, 1) := by decide +kernel
theorem dX6_init_93 : decode cX6_init 93 = .ok (.istore_n 1, 1) := by decide +kernel
theorem dX6_init_94 : decode cX6_init 94 = .ok (.iload_n 1, 1) := by decide +kernel
theorem dX6_init_95 : decode cX6_init 95 = .ok (.iconst 4, 1) := by decide +kernel
theorem dX6_init_96 : decode cX6_init 96 = .ok (.if_icmp .ge 26, 3) := by decide +kernel
theorem dX6_init_99 : decode cX6_init 99 = .ok (.aload_n 0, 1) := by decide +kernel
theorem dX6_init_100 : decode cX6_init 100 = .ok (.iload_n 1, 1) := by decide +kernel
theorem dX6_init_101 : decode cX6_init 101 = .ok (.iconst 0, 1) := by decide +kernel
theorem dX6_init_102 : decode cX6_init 102 = .ok (.bipush 20, 2) := by decide +kernel
theorem dX6_init_104 : decode cX6_init 104 = .ok (.invokevirtual 48, 3) := by decide +kernel
theorem dX6_init_107 : decode cX6_init 107 = .ok (.aload_n 0, 1) := by decide +kernel
theorem dX6_init_108 : decode cX6_init 108 = .ok (.iload_n 1, 1) := by decide +kernel
theorem dX6_init_109 : decode cX6_init 109 = .ok (.iconst 2, 1) := by decide +kernel
theorem dX6_init_110 : decode cX6_init 110 = .ok (.sipush 1999, 3) := by decide +kernel
theorem dX6_init_113 : decode cX6_init 113 = .ok (.invokevirtual 48, 3) := by decide +kernel
theorem dX6_init_116 : decode cX6_init 116 = .ok (.iinc 1 1, 3) := by decide +kernel
theorem dX6_init_119 : decode cX6_init 119 = .ok (.goto (-25), 3) := by decide +kernel
theorem dX6_init_122 : decode cX6_init 122 = .ok (.return_, 1) := by decide +kernel
theorem dX6_copyFrom_0 : decode cX6_copyFrom 0 = .ok (.aload_n 1, 1) := by decide +kernel
theorem dX6_copyFrom_1 : decode cX6_copyFrom 1 = .ok (.getfield 9, 3) := by decide +kernel
theorem dX6_copyFrom_4 : decode cX6_copyFrom 4 = .ok (.aload_n 0, 1) := by decide +kernel
theorem dX6_copyFrom_5 : decode cX6_copyFrom 5 = .ok (.getfield 9, 3) := by decide +kernel
theorem dX6_copyFrom_8 : decode cX6_copyFrom 8 = .ok (.invokestatic 52, 3) := by decide +kernel
theorem dX6_copyFrom_11 : decode cX6_copyFrom 11 = .ok (.aload_n 1, 1) := by decide +kernel
theorem dX6_copyFrom_12 : decode cX6_copyFrom 12 = .ok (.getfield 15, 3) := by decide +kernel
theorem dX6_copyFrom_15 : decode cX6_copyFrom 15 = .ok (.aload_n 0, 1) := by decide +kernel
theorem dX6_copyFrom_16 : decode cX6_copyFrom 16 = .ok (.getfield 15, 3) := by decide +kernel
theorem dX6_copyFrom_19 : decode cX6_copyFrom 19 = .ok (.invokestatic 52, 3) := by decide +kernel
theorem dX6_copyFrom_22 : decode cX6_copyFrom 22 = .ok (.aload_n 1, 1) := by decide +kernel
theorem dX6_copyFrom_23 : decode cX6_copyFrom 23 = .ok (.getfield 22, 3) := by decide +kernel
theorem dX6_copyFrom_26 : decode cX6_copyFrom 26 = .ok (.aload_n 0, 1) := by decide +kernel
theorem dX6_copyFrom_27 : decode cX6_copyFrom 27 = .ok (.getfield 22, 3) := by decide +kernel
theorem dX6_copyFrom_30 : decode cX6_copyFrom 30 = .ok (.invokestatic 52, 3) := by decide +kernel
theorem dX6_copyFrom_33 : decode cX6_copyFrom 33 = .ok (.aload_n 1, 1) := by decide +kernel
theorem dX6_copyFrom_34 : decode cX6_copyFrom 34 = .ok (.getfield 25, 3) := by decide +kernel
theorem dX6_copyFrom_37 : decode cX6_copyFrom 37 = .ok (.aload_n 0, 1) := by decide +kernel
theorem dX6_copyFrom_38 : decode cX6_copyFrom 38 = .ok (.getfield 25, 3) := by decide +kernel
theorem dX6_copyFrom_41 : decode cX6_copyFrom 41 = .ok (.invokestatic 52, 3) := by decide +kernel
theorem dX6_copyFrom_44 : decode cX6_copyFrom 44 = .ok (.aload_n 1, 1) := by decide +kernel
theorem dX6_copyFrom_45 : decode cX6_copyFrom 45 = .ok (.getfield 28, 3) := by decide +kernel
theorem dX6_copyFrom_48 : decode cX6_copyFrom 48 = .ok (.aload_n 0, 1) := by decide +kernel
theorem dX6_copyFrom_49 : decode cX6_copyFrom 49 = .ok (.getfield 28, 3) := by decide +kernel
theorem dX6_copyFrom_52 : decode cX6_copyFrom 52 = .ok (.invokestatic 52, 3) := by decide +kernel
theorem dX6_copyFrom_55 : decode cX6_copyFrom 55 = .ok (.iconst 0, 1) := by decide +kernel
theorem dX6_copyFrom_56 : decode cX6_copyFrom 56 = .ok (.istore_n 2, 1) := by decide +kernel
theorem dX6_copyFrom_57 : decode cX6_copyFrom 57 = .ok (.iload_n 2, 1) := by decide +kernel
theorem dX6_copyFrom_58 : decode cX6_copyFrom 58 = .ok (.bipush 16, 2) := by decide +kernel
theorem dX6_copyFrom_60 : decode cX6_copyFrom 60 = .ok (.if_icmp .ge 21, 3) := by decide +kernel
theorem dX6_copyFrom_63 : decode cX6_copyFrom 63 = .ok (.aload_n 0, 1) := by decide +kernel
theorem dX6_copyFrom_64 : decode cX6_copyFrom 64 = .ok (.getfield 18, 3) := by decide +kernel
theorem dX6_copyFrom_67 : decode cX6_copyFrom 67 = .ok (.iload_n 2, 1) := by decide +kernel
theorem dX6_copyFrom_68 : decode cX6_copyFrom 68 = .ok (.aload_n 1, 1) := by decide +kernel
theorem dX6_copyFrom_69 : decode cX6_copyFrom 69 = .ok (.getfield 18, 3) := by decide +kernel
theorem dX6_copyFrom_72 : decode cX6_copyFrom 72 = .ok (.iload_n 2, 1) := by decide +kernel
theorem dX6_copyFrom_73 : decode cX6_copyFrom 73 = .ok (.baload, 1) := by decide +kernel
theorem dX6_copyFrom_74 : decode cX6_copyFrom 74 = .ok (.bastore, 1) := by decide +kernel
theorem dX6_copyFrom_75 : decode cX6_copyFrom 75 = .ok (.iinc 2 1, 3) := by decide +kernel
theorem dX6_copyFrom_78 : decode cX6_copyFrom 78 = .ok (.goto (-21), 3) := by decide +kernel
theorem dX6_copyFrom_81 : decode cX6_copyFrom 81 = .ok (.aload_n 0, 1) := by decide +kernel
theorem dX6_copyFrom_82 : decode cX6_copyFrom 82 = .ok (.getfield 34, 3) := by decide +kernel
theorem dX6_copyFrom_85 : decode cX6_copyFrom 85 = .ok (.aload_n 1, 1) := by decide +kernel
theorem dX6_copyFrom_86 : decode cX6_copyFrom 86 = .ok (.getfield 34, 3) := by decide +kernel
theorem dX6_copyFrom_89 : decode cX6_copyFrom 89 = .ok (.invokevirtual 56, 3) := by decide +kernel
theorem dX6_copyFrom_92 : decode cX6_copyFrom 92 = .ok (.aload_n 0, 1) := by decide +kernel
theorem dX6_copyFrom_93 : decode cX6_copyFrom 93 = .ok (.getfield 38, 3) := by decide +kernel
theorem dX6_copyFrom_96 : decode cX6_copyFrom 96 = .ok (.aload_n 1, 1) := by decide +kernel
theorem dX6_copyFrom_97 : decode cX6_copyFrom 97 = .ok (.getfield 38, 3) := by decide +kernel
theorem dX6_copyFrom_100 : decode cX6_copyFrom 100 = .ok (.invokevirtual 56, 3) := by decide +kernel
theorem dX6_copyFrom_103 : decode cX6_copyFrom 103 = .ok (.aload_n 0, 1) := by decide +kernel
theorem dX6_copyFrom_104 : decode cX6_copyFrom 104 = .ok (.getfield 41, 3) := by decide +kernel
theorem dX6_copyFrom_107 : decode cX6_copyFrom 107 = .ok (.aload_n 1, 1) := by decide +kernel
theorem dX6_copyFrom_108 : decode cX6_copyFrom 108 = .ok (.getfield 41, 3) := by decide +kernel
theorem dX6_copyFrom_111 : decode cX6_copyFrom 111 = .ok (.invokevirtual 56, 3) := by decide +kernel
theorem dX6_copyFrom_114 : decode cX6_copyFrom 114 = .ok (.aload_n 0, 1) := by decide +kernel
theorem dX6_copyFrom_115 : decode cX6_copyFrom 115 = .ok (.aload_n 1, 1) := by decide +kernel
theorem dX6_copyFrom_116 : decode cX6_copyFrom 116 = .ok (.getfield 60, 3) := by decide +kernel
theorem dX6_copyFrom_119 : decode cX6_copyFrom 119 = .ok (.putfield 60, 3) := by decide +kernel
theorem dX6_copyFrom_122 : decode cX6_copyFrom 122 = .ok (.aload_n 0, 1) := by decide +kernel
theorem dX6_copyFrom_123 : decode cX6_copyFrom 123 = .ok (.aload_n 1, 1) := by decide +kernel
theorem dX6_copyFrom_124 : decode cX6_copyFrom 124 = .ok (.getfield 64, 3) := by decide +kernel
theorem dX6_copyFrom_127 : decode cX6_copyFrom 127 = .ok (.putfield 64, 3) := by decide +kernel
theorem dX6_copyFrom_130 : decode cX6_copyFrom 130 = .ok (.aload_n 0, 1) := by decide +kernel
theorem dX6_copyFrom_131 : decode cX6_copyFrom 131 = .ok (.aload_n 1, 1) := by decide +kernel
theorem dX6_copyFrom_132 : decode cX6_copyFrom 132 = .ok (.getfield 67, 3) := by decide +kernel
theorem dX6_copyFrom_135 : decode cX6_copyFrom 135 = .ok (.putfield 67, 3) := by decide +kernel
theorem dX6_copyFrom_138 : decode cX6_copyFrom 138 = .ok (.return_, 1) := by decide +kernel
theorem dX6_addStop_0 : decode cX6_addStop 0 = .ok (.aload_n 0, 1) := by decide +kernel
theorem dX6_addStop_1 : decode cX6_addStop 1 = .ok (.getfield 60, 3) := by decide +kernel
theorem dX6_addStop_4 : decode cX6_addStop 4 = .ok (.istore 7, 2) := by decide +kernel
theorem dX6_addStop_6 : decode cX6_addStop 6 = .ok (.iload 7, 2) := by decide +kernel
theorem dX6_addStop_8 : decode cX6_addStop 8 = .ok (.ifCond .lt 10, 3) := by decide +kernel
theorem dX6_addStop_11 : decode cX6_addStop 11 = .ok (.iload 7, 2) := by decide +kernel
theorem dX6_addStop_13 : decode cX6_addStop 13 = .ok (.bipush 16, 2) := by decide +kernel
theorem dX6_addStop_15 : decode cX6_addStop 15 = .ok (.if_icmp .lt 6, 3) := by decide +kernel
theorem dX6_addStop_18 : decode cX6_addStop 18 = .ok (.bipush (-4), 2) := by decide +kernel
theorem dX6_addStop_20 : decode cX6_addStop 20 = .ok (.ireturn, 1) := by decide +kernel
theorem dX6_addStop_21 : decode cX6_addStop 21 = .ok (.aload_n 0, 1) := by decide +kernel
theorem dX6_addStop_22 : decode cX6_addStop 22 = .ok (.iload 7, 2) := by decide +kernel
theorem dX6_addStop_24 : decode cX6_addStop 24 = .ok (.iconst 0, 1) := by decide +kernel
theorem dX6_addStop_25 : decode cX6_addStop 25 = .ok (.iload_n 1, 1) := by decide +kernel
theorem dX6_addStop_26 : decode cX6_addStop 26 = .ok (.invokevirtual 70, 3) := by decide +kernel
theorem dX6_addStop_29 : decode cX6_addStop 29 = .ok (.aload_n 0, 1) := by decide +kernel
theorem dX6_addStop_30 : decode cX6_addStop 30 = .ok (.iload 7, 2) := by decide +kernel
theorem dX6_addStop_32 : decode cX6_addStop 32 = .ok (.iconst 1, 1) := by decide +kernel
theorem dX6_addStop_33 : decode cX6_addStop 33 = .ok (.iload_n 2, 1) := by decide +kernel
theorem dX6_addStop_34 : decode cX6_addStop 34 = .ok (.invokevirtual 70, 3) := by decide +kernel
theorem dX6_addStop_37 : decode cX6_addStop 37 = .ok (.aload_n 0, 1) := by decide +kernel
theorem dX6_addStop_38 : decode cX6_addStop 38 = .ok (.iload 7, 2) := by decide +kernel
theorem dX6_addStop_40 : decode cX6_addStop 40 = .ok (.iconst 2, 1) := by decide +kernel
theorem dX6_addStop_41 : decode cX6_addStop 41 = .ok (.iload_n 3, 1) := by decide +kernel
theorem dX6_addStop_42 : decode cX6_addStop 42 = .ok (.invokevirtual 70, 3) := by decide +kernel
theorem dX6_addStop_45 : decode cX6_addStop 45 = .ok (.aload_n 0, 1) := by decide +kernel
theorem dX6_addStop_46 : decode cX6_addStop 46 = .ok (.iload 7, 2) := by decide +kernel
theorem dX6_addStop_48 : decode cX6_addStop 48 = .ok (.iconst 3, 1) := by decide +kernel
theorem dX6_addStop_49 : decode cX6_addStop 49 = .ok (.iload 4, 2) := by decide +kernel
theorem dX6_addStop_51 : decode cX6_addStop 51 = .ok (.invokevirtual 70, 3) := by decide +kernel
theorem dX6_addStop_54 : decode cX6_addStop 54 = .ok (.aload_n 0, 1) := by decide +kernel
theorem dX6_addStop_55 : decode cX6_addStop 55 = .ok (.iload 7, 2) := by decide +kernel
theorem dX6_addStop_57 : decode cX6_addStop 57 = .ok (.iconst 4, 1) := by decide +kernel
theorem dX6_addStop_58 : decode cX6_addStop 58 = .ok (.iload 5, 2) := by decide +kernel
theorem dX6_addStop_60 : decode cX6_addStop 60 = .ok (.invokevirtual 70, 3) := by decide +kernel
theorem dX6_addStop_63 : decode cX6_addStop 63 = .ok (.aload_n 0, 1) := by decide +kernel
theorem dX6_addStop_64 : decode cX6_addStop 64 = .ok (.iload 7, 2) := by decide +kernel
theorem dX6_addStop_66 : decode cX6_addStop 66 = .ok (.iconst 5, 1) := by decide +kernel
theorem dX6_addStop_67 : decode cX6_addStop 67 = .ok (.iload 6, 2) := by decide +kernel
theorem dX6_addStop_69 : decode cX6_addStop 69 = .ok (.invokevirtual 70, 3) := by decide +kernel
theorem dX6_addStop_72 : decode cX6_addStop 72 = .ok (.aload_n 0, 1) := by decide +kernel
theorem dX6_addStop_73 : decode cX6_addStop 73 = .ok (.getfield 15, 3) := by decide +kernel
theorem dX6_addStop_76 : decode cX6_addStop 76 = .ok (.iload 7, 2) := by decide +kernel
theorem dX6_addStop_78 : decode cX6_addStop 78 = .ok (.bipush (-5), 2) := by decide +kernel
theorem dX6_addStop_80 : decode cX6_addStop 80 = .ok (.iastore, 1) := by decide +kernel
theorem dX6_addStop_81 : decode cX6_addStop 81 = .ok (.aload_n 0, 1) := by decide +kernel
theorem dX6_addStop_82 : decode cX6_addStop 82 = .ok (.getfield 18, 3) := by decide +kernel
theorem dX6_addStop_85 : decode cX6_addStop 85 = .ok (.iload 7, 2) := by decide +kernel
theorem dX6_addStop_87 : decode cX6_addStop 87 = .ok (.iconst 0, 1) := by decide +kernel
theorem dX6_addStop_88 : decode cX6_addStop 88 = .ok (.bastore, 1) := by decide +kernel
theorem dX6_addStop_89 : decode cX6_addStop 89 = .ok (.aload_n 0, 1) := by decide +kernel
theorem dX6_addStop_90 : decode cX6_addStop 90 = .ok (.dup, 1) := by decide +kernel
theorem dX6_addStop_91 : decode cX6_addStop 91 = .ok (.getfield 60, 3) := by decide +kernel
theorem dX6_addStop_94 : decode cX6_addStop 94 = .ok (.iconst 1, 1) := by decide +kernel
theorem dX6_addStop_95 : decode cX6_addStop 95 = .ok (.iadd, 1) := by decide +kernel
theorem dX6_addStop_96 : decode cX6_addStop 96 = .ok (.putfield 60, 3) := by decide +kernel
theorem dX6_addStop_99 : decode cX6_addStop 99 = .ok (.iload 7, 2) := by decide +kernel
theorem dX6_addStop_101 : decode cX6_addStop 101 = .ok (.ireturn, 1) := by decide +kernel
theorem dX6_draw_0 : decode cX6_draw 0 = .ok (.iload_n 1, 1) := by decide +kernel
theorem dX6_draw_1 : decode cX6_draw 1 = .ok (.istore_n 3, 1) := by decide +kernel
theorem dX6_draw_2 : decode cX6_draw 2 = .ok (.iconst 0, 1) := by decide +kernel
theorem dX6_draw_3 : decode cX6_draw 3 = .ok (.istore 4, 2) := by decide +kernel
theorem dX6_draw_5 : decode cX6_draw 5 = .ok (.iload 4, 2) := by decide +kernel
theorem dX6_draw_7 : decode cX6_draw 7 = .ok (.iload_n 2, 1) := by decide +kernel
theorem dX6_draw_8 : decode cX6_draw 8 = .ok (.if_icmp .ge 115, 3) := by decide +kernel
theorem dX6_draw_11 : decode cX6_draw 11 = .ok (.aload_n 0, 1) := by decide +kernel
theorem dX6_draw_12 : decode cX6_draw 12 = .ok (.getfield 60, 3) := by decide +kernel
theorem dX6_draw_15 : decode cX6_draw 15 = .ok (.bipush 16, 2) := by decide +kernel
theorem dX6_draw_17 : decode cX6_draw 17 = .ok (.if_icmp .ge 106, 3) := by decide +kernel
theorem dX6_draw_20 : decode cX6_draw 20 = .ok (.aload_n 0, 1) := by decide +kernel
theorem dX6_draw_21 : decode cX6_draw 21 = .ok (.iconst 0, 1) := by decide +kernel
theorem dX6_draw_22 : decode cX6_draw 22 = .ok (.iconst 0, 1) := by decide +kernel
theorem dX6_draw_23 : decode cX6_draw 23 = .ok (.iconst 0, 1) := by decide +kernel
theorem dX6_draw_24 : decode cX6_draw 24 = .ok (.iconst 0, 1) := by decide +kernel
theorem dX6_draw_25 : decode cX6_draw 25 = .ok (.iconst 0, 1) := by decide +kernel
theorem dX6_draw_26 : decode cX6_draw 26 = .ok (.iconst 0, 1) := by decide +kernel
theorem dX6_draw_27 : decode cX6_draw 27 = .ok (.invokevirtual 73, 3) := by decide +kernel
theorem dX6_draw_30 : decode cX6_draw 30 = .ok (.istore 5, 2) := by decide +kernel
theorem dX6_draw_32 : decode cX6_draw 32 = .ok (.iconst 0, 1) := by decide +kernel
theorem dX6_draw_33 : decode cX6_draw 33 = .ok (.istore 6, 2) := by decide +kernel
theorem dX6_draw_35 : decode cX6_draw 35 = .ok (.iload 6, 2) := by decide +kernel
theorem dX6_draw_37 : decode cX6_draw 37 = .ok (.bipush 6, 2) := by decide +kernel
theorem dX6_draw_39 : decode cX6_draw 39 = .ok (.if_icmp .ge 78, 3) := by decide +kernel
theorem dX6_draw_42 : decode cX6_draw 42 = .ok (.iload_n 3, 1) := by decide +kernel
theorem dX6_draw_43 : decode cX6_draw 43 = .ok (.ldc 77, 2) := by decide +kernel
theorem dX6_draw_45 : decode cX6_draw 45 = .ok (.imul, 1) := by decide +kernel
theorem dX6_draw_46 : decode cX6_draw 46 = .ok (.sipush 12345, 3) := by decide +kernel
theorem dX6_draw_49 : decode cX6_draw 49 = .ok (.iadd, 1) := by decide +kernel
theorem dX6_draw_50 : decode cX6_draw 50 = .ok (.istore_n 3, 1) := by decide +kernel
theorem dX6_draw_51 : decode cX6_draw 51 = .ok (.getstatic 78, 3) := by decide +kernel
theorem dX6_draw_54 : decode cX6_draw 54 = .ok (.iload 6, 2) := by decide +kernel
theorem dX6_draw_56 : decode cX6_draw 56 = .ok (.invokestatic 81, 3) := by decide +kernel
theorem dX6_draw_59 : decode cX6_draw 59 = .ok (.istore 7, 2) := by decide +kernel
theorem dX6_draw_61 : decode cX6_draw 61 = .ok (.iload 7, 2) := by decide +kernel
theorem dX6_draw_63 : decode cX6_draw 63 = .ok (.ifCond .le 13, 3) := by decide +kernel
theorem dX6_draw_66 : decode cX6_draw 66 = .ok (.iload_n 3, 1) := by decide +kernel
theorem dX6_draw_67 : decode cX6_draw 67 = .ok (.bipush 9, 2) := by decide +kernel
theorem dX6_draw_69 : decode cX6_draw 69 = .ok (.iushr, 1) := by decide +kernel
theorem dX6_draw_70 : decode cX6_draw 70 = .ok (.iload 7, 2) := by decide +kernel
theorem dX6_draw_72 : decode cX6_draw 72 = .ok (.irem, 1) := by decide +kernel
theorem dX6_draw_73 : decode cX6_draw 73 = .ok (.goto 4, 3) := by decide +kernel
theorem dX6_draw_76 : decode cX6_draw 76 = .ok (.iconst 0, 1) := by decide +kernel
theorem dX6_draw_77 : decode cX6_draw 77 = .ok (.istore 8, 2) := by decide +kernel
theorem dX6_draw_79 : decode cX6_draw 79 = .ok (.aload_n 0, 1) := by decide +kernel
theorem dX6_draw_80 : decode cX6_draw 80 = .ok (.iload 5, 2) := by decide +kernel
theorem dX6_draw_82 : decode cX6_draw 82 = .ok (.iload 6, 2) := by decide +kernel
theorem dX6_draw_84 : decode cX6_draw 84 = .ok (.iload 6, 2) := by decide +kernel
theorem dX6_draw_86 : decode cX6_draw 86 = .ok (.iconst 4, 1) := by decide +kernel
theorem dX6_draw_87 : decode cX6_draw 87 = .ok (.if_icmp .ne 19, 3) := by decide +kernel
theorem dX6_draw_90 : decode cX6_draw 90 = .ok (.aload_n 0, 1) := by decide +kernel
theorem dX6_draw_91 : decode cX6_draw 91 = .ok (.iload 5, 2) := by decide +kernel
theorem dX6_draw_93 : decode cX6_draw 93 = .ok (.iconst 3, 1) := by decide +kernel
theorem dX6_draw_94 : decode cX6_draw 94 = .ok (.invokevirtual 85, 3) := by decide +kernel
theorem dX6_draw_97 : decode cX6_draw 97 = .ok (.bipush 20, 2) := by decide +kernel
theorem dX6_draw_99 : decode cX6_draw 99 = .ok (.iadd, 1) := by decide +kernel
theorem dX6_draw_100 : decode cX6_draw 100 = .ok (.iload 8, 2) := by decide +kernel
theorem dX6_draw_102 : decode cX6_draw 102 = .ok (.iadd, 1) := by decide +kernel
theorem dX6_draw_103 : decode cX6_draw 103 = .ok (.goto 5, 3) := by decide +kernel
theorem dX6_draw_106 : decode cX6_draw 106 = .ok (.iload 8, 2) := by decide +kernel
theorem dX6_draw_108 : decode cX6_draw 108 = .ok (.invokevirtual 70, 3) := by decide +kernel
theorem dX6_draw_111 : decode cX6_draw 111 = .ok (.iinc 6 1, 3) := by decide +kernel
theorem dX6_draw_114 : decode cX6_draw 114 = .ok (.goto (-79), 3) := by decide +kernel
theorem dX6_draw_117 : decode cX6_draw 117 = .ok (.iinc 4 1, 3) := by decide +kernel
theorem dX6_draw_120 : decode cX6_draw 120 = .ok (.goto (-115), 3) := by decide +kernel
theorem dX6_draw_123 : decode cX6_draw 123 = .ok (.return_, 1) := by decide +kernel
theorem dX6_isStop_0 : decode cX6_isStop 0 = .ok (.iload_n 1, 1) := by decide +kernel
theorem dX6_isStop_1 : decode cX6_isStop 1 = .ok (.ifCond .lt 15, 3) := by decide +kernel
theorem dX6_isStop_4 : decode cX6_isStop 4 = .ok (.iload_n 1, 1) := by decide +kernel
theorem dX6_isStop_5 : decode cX6_isStop 5 = .ok (.aload_n 0, 1) := by decide +kernel
theorem dX6_isStop_6 : decode cX6_isStop 6 = .ok (.getfield 60, 3) := by decide +kernel
theorem dX6_isStop_9 : decode cX6_isStop 9 = .ok (.if_icmp .ge 7, 3) := by decide +kernel
theorem dX6_isStop_12 : decode cX6_isStop 12 = .ok (.iconst 1, 1) := by decide +kernel
theorem dX6_isStop_13 : decode cX6_isStop 13 = .ok (.goto 4, 3) := by decide +kernel
theorem dX6_isStop_16 : decode cX6_isStop 16 = .ok (.iconst 0, 1) := by decide +kernel
theorem dX6_isStop_17 : decode cX6_isStop 17 = .ok (.ireturn, 1) := by decide +kernel
theorem dX6_fact_0 : decode cX6_fact 0 = .ok (.iload_n 1, 1) := by decide +kernel
theorem dX6_fact_1 : decode cX6_fact 1 = .ok (.bipush 6, 2) := by decide +kernel
theorem dX6_fact_3 : decode cX6_fact 3 = .ok (.imul, 1) := by decide +kernel
theorem dX6_fact_4 : decode cX6_fact 4 = .ok (.iload_n 2, 1) := by decide +kernel
theorem dX6_fact_5 : decode cX6_fact 5 = .ok (.iadd, 1) := by decide +kernel
theorem dX6_fact_6 : decode cX6_fact 6 = .ok (.istore_n 3, 1) := by decide +kernel
theorem dX6_fact_7 : decode cX6_fact 7 = .ok (.iload_n 3, 1) := by decide +kernel
theorem dX6_fact_8 : decode cX6_fact 8 = .ok (.ifCond .lt 21, 3) := by decide +kernel
theorem dX6_fact_11 : decode cX6_fact 11 = .ok (.iload_n 3, 1) := by decide +kernel
theorem dX6_fact_12 : decode cX6_fact 12 = .ok (.aload_n 0, 1) := by decide +kernel
theorem dX6_fact_13 : decode cX6_fact 13 = .ok (.getfield 9, 3) := by decide +kernel
theorem dX6_fact_16 : decode cX6_fact 16 = .ok (.arraylength, 1) := by decide +kernel
theorem dX6_fact_17 : decode cX6_fact 17 = .ok (.if_icmp .ge 12, 3) := by decide +kernel
theorem dX6_fact_20 : decode cX6_fact 20 = .ok (.aload_n 0, 1) := by decide +kernel
theorem dX6_fact_21 : decode cX6_fact 21 = .ok (.getfield 9, 3) := by decide +kernel
theorem dX6_fact_24 : decode cX6_fact 24 = .ok (.iload_n 3, 1) := by decide +kernel
theorem dX6_fact_25 : decode cX6_fact 25 = .ok (.iaload, 1) := by decide +kernel
theorem dX6_fact_26 : decode cX6_fact 26 = .ok (.goto 4, 3) := by decide +kernel
theorem dX6_fact_29 : decode cX6_fact 29 = .ok (.iconst 0, 1) := by decide +kernel
theorem dX6_fact_30 : decode cX6_fact 30 = .ok (.ireturn, 1) := by decide +kernel
theorem dX6_setFact_0 : decode cX6_setFact 0 = .ok (.iload_n 1, 1) := by decide +kernel
theorem dX6_setFact_1 : decode cX6_setFact 1 = .ok (.bipush 6, 2) := by decide +kernel
theorem dX6_setFact_3 : decode cX6_setFact 3 = .ok (.imul, 1) := by decide +kernel
theorem dX6_setFact_4 : decode cX6_setFact 4 = .ok (.iload_n 2, 1) := by decide +kernel
theorem dX6_setFact_5 : decode cX6_setFact 5 = .ok (.iadd, 1) := by decide +kernel
theorem dX6_setFact_6 : decode cX6_setFact 6 = .ok (.istore 4, 2) := by decide +kernel
theorem dX6_setFact_8 : decode cX6_setFact 8 = .ok (.iload 4, 2) := by decide +kernel
theorem dX6_setFact_10 : decode cX6_setFact 10 = .ok (.ifCond .lt 21, 3) := by decide +kernel
theorem dX6_setFact_13 : decode cX6_setFact 13 = .ok (.iload 4, 2) := by decide +kernel
theorem dX6_setFact_15 : decode cX6_setFact 15 = .ok (.aload_n 0, 1) := by decide +kernel
theorem dX6_setFact_16 : decode cX6_setFact 16 = .ok (.getfield 9, 3) := by decide +kernel
theorem dX6_setFact_19 : decode cX6_setFact 19 = .ok (.arraylength, 1) := by decide +kernel
theorem dX6_setFact_20 : decode cX6_setFact 20 = .ok (.if_icmp .ge 11, 3) := by decide +kernel
theorem dX6_setFact_23 : decode cX6_setFact 23 = .ok (.aload_n 0, 1) := by decide +kernel
theorem dX6_setFact_24 : decode cX6_setFact 24 = .ok (.getfield 9, 3) := by decide +kernel
theorem dX6_setFact_27 : decode cX6_setFact 27 = .ok (.iload 4, 2) := by decide +kernel
theorem dX6_setFact_29 : decode cX6_setFact 29 = .ok (.iload_n 3, 1) := by decide +kernel
theorem dX6_setFact_30 : decode cX6_setFact 30 = .ok (.iastore, 1) := by decide +kernel
theorem dX6_setFact_31 : decode cX6_setFact 31 = .ok (.return_, 1) := by decide +kernel
theorem dX6_mayBe_0 : decode cX6_mayBe 0 = .ok (.iload_n 3, 1) := by decide +kernel
theorem dX6_mayBe_1 : decode cX6_mayBe 1 = .ok (.getstatic 89, 3) := by decide +kernel
theorem dX6_mayBe_4 : decode cX6_mayBe 4 = .ok (.iload_n 2, 1) := by decide +kernel
theorem dX6_mayBe_5 : decode cX6_mayBe 5 = .ok (.invokestatic 81, 3) := by decide +kernel
theorem dX6_mayBe_8 : decode cX6_mayBe 8 = .ok (.invokestatic 92, 3) := by decide +kernel
theorem dX6_mayBe_11 : decode cX6_mayBe 11 = .ok (.ifCond .ne 5, 3) := by decide +kernel
theorem dX6_mayBe_14 : decode cX6_mayBe 14 = .ok (.iconst 0, 1) := by decide +kernel
theorem dX6_mayBe_15 : decode cX6_mayBe 15 = .ok (.ireturn, 1) := by decide +kernel
theorem dX6_mayBe_16 : decode cX6_mayBe 16 = .ok (.iload_n 2, 1) := by decide +kernel
theorem dX6_mayBe_17 : decode cX6_mayBe 17 = .ok (.iconst 3, 1) := by decide +kernel
theorem dX6_mayBe_18 : decode cX6_mayBe 18 = .ok (.if_icmp .ne 19, 3) := by decide +kernel
theorem dX6_mayBe_21 : decode cX6_mayBe 21 = .ok (.iload_n 3, 1) := by decide +kernel
theorem dX6_mayBe_22 : decode cX6_mayBe 22 = .ok (.aload_n 0, 1) := by decide +kernel
theorem dX6_mayBe_23 : decode cX6_mayBe 23 = .ok (.iload_n 1, 1) := by decide +kernel
theorem dX6_mayBe_24 : decode cX6_mayBe 24 = .ok (.iconst 4, 1) := by decide +kernel
theorem dX6_mayBe_25 : decode cX6_mayBe 25 = .ok (.invokevirtual 85, 3) := by decide +kernel
theorem dX6_mayBe_28 : decode cX6_mayBe 28 = .ok (.if_icmp .gt 7, 3) := by decide +kernel
theorem dX6_mayBe_31 : decode cX6_mayBe 31 = .ok (.iconst 1, 1) := by decide +kernel
theorem dX6_mayBe_32 : decode cX6_mayBe 32 = .ok (.goto 4, 3) := by decide +kernel
theorem dX6_mayBe_35 : decode cX6_mayBe 35 = .ok (.iconst 0, 1) := by decide +kernel
theorem dX6_mayBe_36 : decode cX6_mayBe 36 = .ok (.ireturn, 1) := by decide +kernel
theorem dX6_mayBe_37 : decode cX6_mayBe 37 = .ok (.iload_n 2, 1) := by decide +kernel
theorem dX6_mayBe_38 : decode cX6_mayBe 38 = .ok (.iconst 4, 1) := by decide +kernel
theorem dX6_mayBe_39 : decode cX6_mayBe 39 = .ok (.if_icmp .ne 13, 3) := by decide +kernel
theorem dX6_mayBe_42 : decode cX6_mayBe 42 = .ok (.iload_n 3, 1) := by decide +kernel
theorem dX6_mayBe_43 : decode cX6_mayBe 43 = .ok (.aload_n 0, 1) := by decide +kernel
theorem dX6_mayBe_44 : decode cX6_mayBe 44 = .ok (.iload_n 1, 1) := by decide +kernel
theorem dX6_mayBe_45 : decode cX6_mayBe 45 = .ok (.iconst 3, 1) := by decide +kernel
theorem dX6_mayBe_46 : decode cX6_mayBe 46 = .ok (.invokevirtual 85, 3) := by decide +kernel
theorem dX6_mayBe_49 : decode cX6_mayBe 49 = .ok (.if_icmp .lt 7, 3) := by decide +kernel
theorem dX6_mayBe_52 : decode cX6_mayBe 52 = .ok (.iconst 1, 1) := by decide +kernel
theorem dX6_mayBe_53 : decode cX6_mayBe 53 = .ok (.goto 4, 3) := by decide +kernel
theorem dX6_mayBe_56 : decode cX6_mayBe 56 = .ok (.iconst 0, 1) := by decide +kernel
theorem dX6_mayBe_57 : decode cX6_mayBe 57 = .ok (.ireturn, 1) := by decide +kernel
theorem dX6_setDepot_0 : decode cX6_setDepot 0 = .ok (.aload_n 0, 1) := by decide +kernel
theorem dX6_setDepot_1 : decode cX6_setDepot 1 = .ok (.bipush 16, 2) := by decide +kernel
theorem dX6_setDepot_3 : decode cX6_setDepot 3 = .ok (.iconst 0, 1) := by decide +kernel
theorem dX6_setDepot_4 : decode cX6_setDepot 4 = .ok (.iload_n 1, 1) := by decide +kernel
theorem dX6_setDepot_5 : decode cX6_setDepot 5 = .ok (.invokevirtual 70, 3) := by decide +kernel
theorem dX6_setDepot_8 : decode cX6_setDepot 8 = .ok (.aload_n 0, 1) := by decide +kernel
theorem dX6_setDepot_9 : decode cX6_setDepot 9 = .ok (.bipush 16, 2) := by decide +kernel
theorem dX6_setDepot_11 : decode cX6_setDepot 11 = .ok (.iconst 1, 1) := by decide +kernel
theorem dX6_setDepot_12 : decode cX6_setDepot 12 = .ok (.iload_n 2, 1) := by decide +kernel
theorem dX6_setDepot_13 : decode cX6_setDepot 13 = .ok (.invokevirtual 70, 3) := by decide +kernel
theorem dX6_setDepot_16 : decode cX6_setDepot 16 = .ok (.return_, 1) := by decide +kernel
theorem dX6_roundOf_0 : decode cX6_roundOf 0 = .ok (.iload_n 1, 1) := by decide +kernel
theorem dX6_roundOf_1 : decode cX6_roundOf 1 = .ok (.ifCond .lt 21, 3) := by decide +kernel
theorem dX6_roundOf_4 : decode cX6_roundOf 4 = .ok (.iload_n 1, 1) := by decide +kernel
theorem dX6_roundOf_5 : decode cX6_roundOf 5 = .ok (.aload_n 0, 1) := by decide +kernel
theorem dX6_roundOf_6 : decode cX6_roundOf 6 = .ok (.getfield 15, 3) := by decide +kernel
theorem dX6_roundOf_9 : decode cX6_roundOf 9 = .ok (.arraylength, 1) := by decide +kernel
theorem dX6_roundOf_10 : decode cX6_roundOf 10 = .ok (.if_icmp .ge 12, 3) := by decide +kernel
theorem dX6_roundOf_13 : decode cX6_roundOf 13 = .ok (.aload_n 0, 1) := by decide +kernel
theorem dX6_roundOf_14 : decode cX6_roundOf 14 = .ok (.getfield 15, 3) := by decide +kernel
theorem dX6_roundOf_17 : decode cX6_roundOf 17 = .ok (.iload_n 1, 1) := by decide +kernel
theorem dX6_roundOf_18 : decode cX6_roundOf 18 = .ok (.iaload, 1) := by decide +kernel
theorem dX6_roundOf_19 : decode cX6_roundOf 19 = .ok (.goto 5, 3) := by decide +kernel
theorem dX6_roundOf_22 : decode cX6_roundOf 22 = .ok (.bipush (-5), 2) := by decide +kernel
theorem dX6_roundOf_24 : decode cX6_roundOf 24 = .ok (.ireturn, 1) := by decide +kernel
theorem dX6_isLocked_0 : decode cX6_isLocked 0 = .ok (.iload_n 1, 1) := by decide +kernel
theorem dX6_isLocked_1 : decode cX6_isLocked 1 = .ok (.ifCond .lt 25, 3) := by decide +kernel
theorem dX6_isLocked_4 : decode cX6_isLocked 4 = .ok (.iload_n 1, 1) := by decide +kernel
theorem dX6_isLocked_5 : decode cX6_isLocked 5 = .ok (.aload_n 0, 1) := by decide +kernel
theorem dX6_isLocked_6 : decode cX6_isLocked 6 = .ok (.getfield 18, 3) := by decide +kernel
theorem dX6_isLocked_9 : decode cX6_isLocked 9 = .ok (.arraylength, 1) := by decide +kernel
theorem dX6_isLocked_10 : decode cX6_isLocked 10 = .ok (.if_icmp .ge 16, 3) := by decide +kernel
theorem dX6_isLocked_13 : decode cX6_isLocked 13 = .ok (.aload_n 0, 1) := by decide +kernel
theorem dX6_isLocked_14 : decode cX6_isLocked 14 = .ok (.getfield 18, 3) := by decide +kernel
theorem dX6_isLocked_17 : decode cX6_isLocked 17 = .ok (.iload_n 1, 1) := by decide +kernel
theorem dX6_isLocked_18 : decode cX6_isLocked 18 = .ok (.baload, 1) := by decide +kernel
theorem dX6_isLocked_19 : decode cX6_isLocked 19 = .ok (.ifCond .eq 7, 3) := by decide +kernel
theorem dX6_isLocked_22 : decode cX6_isLocked 22 = .ok (.iconst 1, 1) := by decide +kernel
theorem dX6_isLocked_23 : decode cX6_isLocked 23 = .ok (.goto 4, 3) := by decide +kernel
theorem dX6_isLocked_26 : decode cX6_isLocked 26 = .ok (.iconst 0, 1) := by decide +kernel
theorem dX6_isLocked_27 : decode cX6_isLocked 27 = .ok (.ireturn, 1) := by decide +kernel
theorem dX6_setLocked_0 : decode cX6_setLocked 0 = .ok (.iload_n 1, 1) := by decide +kernel
theorem dX6_setLocked_1 : decode cX6_setLocked 1 = .ok (.ifCond .lt 19, 3) := by decide +kernel
theorem dX6_setLocked_4 : decode cX6_setLocked 4 = .ok (.iload_n 1, 1) := by decide +kernel
theorem dX6_setLocked_5 : decode cX6_setLocked 5 = .ok (.aload_n 0, 1) := by decide +kernel
theorem dX6_setLocked_6 : decode cX6_setLocked 6 = .ok (.getfield 18, 3) := by decide +kernel
theorem dX6_setLocked_9 : decode cX6_setLocked 9 = .ok (.arraylength, 1) := by decide +kernel
theorem dX6_setLocked_10 : decode cX6_setLocked 10 = .ok (.if_icmp .ge 10, 3) := by decide +kernel
theorem dX6_setLocked_13 : decode cX6_setLocked 13 = .ok (.aload_n 0, 1) := by decide +kernel
theorem dX6_setLocked_14 : decode cX6_setLocked 14 = .ok (.getfield 18, 3) := by decide +kernel
theorem dX6_setLocked_17 : decode cX6_setLocked 17 = .ok (.iload_n 1, 1) := by decide +kernel
theorem dX6_setLocked_18 : decode cX6_setLocked 18 = .ok (.iload_n 2, 1) := by decide +kernel
theorem dX6_setLocked_19 : decode cX6_setLocked 19 = .ok (.bastore, 1) := by decide +kernel
theorem dX6_setLocked_20 : decode cX6_setLocked 20 = .ok (.return_, 1) := by decide +kernel
theorem dX6_ruleOf_0 : decode cX6_ruleOf 0 = .ok (.iload_n 1, 1) := by decide +kernel
theorem dX6_ruleOf_1 : decode cX6_ruleOf 1 = .ok (.iconst 3, 1) := by decide +kernel
theorem dX6_ruleOf_2 : decode cX6_ruleOf 2 = .ok (.imul, 1) := by decide +kernel
theorem dX6_ruleOf_3 : decode cX6_ruleOf 3 = .ok (.iload_n 2, 1) := by decide +kernel
theorem dX6_ruleOf_4 : decode cX6_ruleOf 4 = .ok (.iadd, 1) := by decide +kernel
theorem dX6_ruleOf_5 : decode cX6_ruleOf 5 = .ok (.istore_n 3, 1) := by decide +kernel
theorem dX6_ruleOf_6 : decode cX6_ruleOf 6 = .ok (.iload_n 3, 1) := by decide +kernel
theorem dX6_ruleOf_7 : decode cX6_ruleOf 7 = .ok (.ifCond .lt 21, 3) := by decide +kernel
theorem dX6_ruleOf_10 : decode cX6_ruleOf 10 = .ok (.iload_n 3, 1) := by decide +kernel
theorem dX6_ruleOf_11 : decode cX6_ruleOf 11 = .ok (.aload_n 0, 1) := by decide +kernel
theorem dX6_ruleOf_12 : decode cX6_ruleOf 12 = .ok (.getfield 22, 3) := by decide +kernel
theorem dX6_ruleOf_15 : decode cX6_ruleOf 15 = .ok (.arraylength, 1) := by decide +kernel
theorem dX6_ruleOf_16 : decode cX6_ruleOf 16 = .ok (.if_icmp .ge 12, 3) := by decide +kernel
theorem dX6_ruleOf_19 : decode cX6_ruleOf 19 = .ok (.aload_n 0, 1) := by decide +kernel
theorem dX6_ruleOf_20 : decode cX6_ruleOf 20 = .ok (.getfield 22, 3) := by decide +kernel
theorem dX6_ruleOf_23 : decode cX6_ruleOf 23 = .ok (.iload_n 3, 1) := by decide +kernel
theorem dX6_ruleOf_24 : decode cX6_ruleOf 24 = .ok (.iaload, 1) := by decide +kernel
theorem dX6_ruleOf_25 : decode cX6_ruleOf 25 = .ok (.goto 4, 3) := by decide +kernel
theorem dX6_ruleOf_28 : decode cX6_ruleOf 28 = .ok (.iconst 0, 1) := by decide +kernel
theorem dX6_ruleOf_29 : decode cX6_ruleOf 29 = .ok (.ireturn, 1) := by decide +kernel
theorem dX6_setRule_0 : decode cX6_setRule 0 = .ok (.iload_n 1, 1) := by decide +kernel
theorem dX6_setRule_1 : decode cX6_setRule 1 = .ok (.iconst 3, 1) := by decide +kernel
theorem dX6_setRule_2 : decode cX6_setRule 2 = .ok (.imul, 1) := by decide +kernel
theorem dX6_setRule_3 : decode cX6_setRule 3 = .ok (.iload_n 2, 1) := by decide +kernel
theorem dX6_setRule_4 : decode cX6_setRule 4 = .ok (.iadd, 1) := by decide +kernel
theorem dX6_setRule_5 : decode cX6_setRule 5 = .ok (.istore 4, 2) := by decide +kernel
theorem dX6_setRule_7 : decode cX6_setRule 7 = .ok (.iload 4, 2) := by decide +kernel
theorem dX6_setRule_9 : decode cX6_setRule 9 = .ok (.ifCond .lt 21, 3) := by decide +kernel
theorem dX6_setRule_12 : decode cX6_setRule 12 = .ok (.iload 4, 2) := by decide +kernel
theorem dX6_setRule_14 : decode cX6_setRule 14 = .ok (.aload_n 0, 1) := by decide +kernel
theorem dX6_setRule_15 : decode cX6_setRule 15 = .ok (.getfield 22, 3) := by decide +kernel
theorem dX6_setRule_18 : decode cX6_setRule 18 = .ok (.arraylength, 1) := by decide +kernel
theorem dX6_setRule_19 : decode cX6_setRule 19 = .ok (.if_icmp .ge 11, 3) := by decide +kernel
theorem dX6_setRule_22 : decode cX6_setRule 22 = .ok (.aload_n 0, 1) := by decide +kernel
theorem dX6_setRule_23 : decode cX6_setRule 23 = .ok (.getfield 22, 3) := by decide +kernel
theorem dX6_setRule_26 : decode cX6_setRule 26 = .ok (.iload 4, 2) := by decide +kernel
theorem dX6_setRule_28 : decode cX6_setRule 28 = .ok (.iload_n 3, 1) := by decide +kernel
theorem dX6_setRule_29 : decode cX6_setRule 29 = .ok (.iastore, 1) := by decide +kernel
theorem dX6_setRule_30 : decode cX6_setRule 30 = .ok (.return_, 1) := by decide +kernel
theorem dX6_sizeOf_0 : decode cX6_sizeOf 0 = .ok (.iload_n 1, 1) := by decide +kernel
theorem dX6_sizeOf_1 : decode cX6_sizeOf 1 = .ok (.ifCond .lt 21, 3) := by decide +kernel
theorem dX6_sizeOf_4 : decode cX6_sizeOf 4 = .ok (.iload_n 1, 1) := by decide +kernel
theorem dX6_sizeOf_5 : decode cX6_sizeOf 5 = .ok (.aload_n 0, 1) := by decide +kernel
theorem dX6_sizeOf_6 : decode cX6_sizeOf 6 = .ok (.getfield 25, 3) := by decide +kernel
theorem dX6_sizeOf_9 : decode cX6_sizeOf 9 = .ok (.arraylength, 1) := by decide +kernel
theorem dX6_sizeOf_10 : decode cX6_sizeOf 10 = .ok (.if_icmp .ge 12, 3) := by decide +kernel
theorem dX6_sizeOf_13 : decode cX6_sizeOf 13 = .ok (.aload_n 0, 1) := by decide +kernel
theorem dX6_sizeOf_14 : decode cX6_sizeOf 14 = .ok (.getfield 25, 3) := by decide +kernel
theorem dX6_sizeOf_17 : decode cX6_sizeOf 17 = .ok (.iload_n 1, 1) := by decide +kernel
theorem dX6_sizeOf_18 : decode cX6_sizeOf 18 = .ok (.iaload, 1) := by decide +kernel
theorem dX6_sizeOf_19 : decode cX6_sizeOf 19 = .ok (.goto 4, 3) := by decide +kernel
theorem dX6_sizeOf_22 : decode cX6_sizeOf 22 = .ok (.iconst 0, 1) := by decide +kernel
theorem dX6_sizeOf_23 : decode cX6_sizeOf 23 = .ok (.ireturn, 1) := by decide +kernel
theorem dX6_rowAt_0 : decode cX6_rowAt 0 = .ok (.iload_n 1, 1) := by decide +kernel
theorem dX6_rowAt_1 : decode cX6_rowAt 1 = .ok (.bipush 16, 2) := by decide +kernel
theorem dX6_rowAt_3 : decode cX6_rowAt 3 = .ok (.imul, 1) := by decide +kernel
theorem dX6_rowAt_4 : decode cX6_rowAt 4 = .ok (.iload_n 2, 1) := by decide +kernel
theorem dX6_rowAt_5 : decode cX6_rowAt 5 = .ok (.iadd, 1) := by decide +kernel
theorem dX6_rowAt_6 : decode cX6_rowAt 6 = .ok (.istore_n 3, 1) := by decide +kernel
theorem dX6_rowAt_7 : decode cX6_rowAt 7 = .ok (.iload_n 2, 1) := by decide +kernel
theorem dX6_rowAt_8 : decode cX6_rowAt 8 = .ok (.ifCond .lt 34, 3) := by decide +kernel
theorem dX6_rowAt_11 : decode cX6_rowAt 11 = .ok (.iload_n 2, 1) := by decide +kernel
theorem dX6_rowAt_12 : decode cX6_rowAt 12 = .ok (.aload_n 0, 1) := by decide +kernel
theorem dX6_rowAt_13 : decode cX6_rowAt 13 = .ok (.iload_n 1, 1) := by decide +kernel
theorem dX6_rowAt_14 : decode cX6_rowAt 14 = .ok (.invokevirtual 96, 3) := by decide +kernel
theorem dX6_rowAt_17 : decode cX6_rowAt 17 = .ok (.if_icmp .ge 25, 3) := by decide +kernel
theorem dX6_rowAt_20 : decode cX6_rowAt 20 = .ok (.iload_n 3, 1) := by decide +kernel
theorem dX6_rowAt_21 : decode cX6_rowAt 21 = .ok (.ifCond .lt 21, 3) := by decide +kernel
theorem dX6_rowAt_24 : decode cX6_rowAt 24 = .ok (.iload_n 3, 1) := by decide +kernel
theorem dX6_rowAt_25 : decode cX6_rowAt 25 = .ok (.aload_n 0, 1) := by decide +kernel
theorem dX6_rowAt_26 : decode cX6_rowAt 26 = .ok (.getfield 28, 3) := by decide +kernel
theorem dX6_rowAt_29 : decode cX6_rowAt 29 = .ok (.arraylength, 1) := by decide +kernel
theorem dX6_rowAt_30 : decode cX6_rowAt 30 = .ok (.if_icmp .ge 12, 3) := by decide +kernel
theorem dX6_rowAt_33 : decode cX6_rowAt 33 = .ok (.aload_n 0, 1) := by decide +kernel
theorem dX6_rowAt_34 : decode cX6_rowAt 34 = .ok (.getfield 28, 3) := by decide +kernel
theorem dX6_rowAt_37 : decode cX6_rowAt 37 = .ok (.iload_n 3, 1) := by decide +kernel
theorem dX6_rowAt_38 : decode cX6_rowAt 38 = .ok (.iaload, 1) := by decide +kernel
theorem dX6_rowAt_39 : decode cX6_rowAt 39 = .ok (.goto 5, 3) := by decide +kernel
theorem dX6_rowAt_42 : decode cX6_rowAt 42 = .ok (.bipush 16, 2) := by decide +kernel
theorem dX6_rowAt_44 : decode cX6_rowAt 44 = .ok (.ireturn, 1) := by decide +kernel
theorem dX6_placeOf_0 : decode cX6_placeOf 0 = .ok (.aload_n 0, 1) := by decide +kernel
theorem dX6_placeOf_1 : decode cX6_placeOf 1 = .ok (.iload_n 1, 1) := by decide +kernel
theorem dX6_placeOf_2 : decode cX6_placeOf 2 = .ok (.invokevirtual 100, 3) := by decide +kernel
theorem dX6_placeOf_5 : decode cX6_placeOf 5 = .ok (.istore_n 2, 1) := by decide +kernel
theorem dX6_placeOf_6 : decode cX6_placeOf 6 = .ok (.iconst 0, 1) := by decide +kernel
theorem dX6_placeOf_7 : decode cX6_placeOf 7 = .ok (.istore_n 3, 1) := by decide +kernel
theorem dX6_placeOf_8 : decode cX6_placeOf 8 = .ok (.iload_n 3, 1) := by decide +kernel
theorem dX6_placeOf_9 : decode cX6_placeOf 9 = .ok (.aload_n 0, 1) := by decide +kernel
theorem dX6_placeOf_10 : decode cX6_placeOf 10 = .ok (.iload_n 2, 1) := by decide +kernel
theorem dX6_placeOf_11 : decode cX6_placeOf 11 = .ok (.invokevirtual 96, 3) := by decide +kernel
theorem dX6_placeOf_14 : decode cX6_placeOf 14 = .ok (.if_icmp .ge 21, 3) := by decide +kernel
theorem dX6_placeOf_17 : decode cX6_placeOf 17 = .ok (.aload_n 0, 1) := by decide +kernel
theorem dX6_placeOf_18 : decode cX6_placeOf 18 = .ok (.iload_n 2, 1) := by decide +kernel
theorem dX6_placeOf_19 : decode cX6_placeOf 19 = .ok (.iload_n 3, 1) := by decide +kernel
theorem dX6_placeOf_20 : decode cX6_placeOf 20 = .ok (.invokevirtual 103, 3) := by decide +kernel
theorem dX6_placeOf_23 : decode cX6_placeOf 23 = .ok (.iload_n 1, 1) := by decide +kernel
theorem dX6_placeOf_24 : decode cX6_placeOf 24 = .ok (.if_icmp .ne 5, 3) := by decide +kernel
theorem dX6_placeOf_27 : decode cX6_placeOf 27 = .ok (.iload_n 3, 1) := by decide +kernel
theorem dX6_placeOf_28 : decode cX6_placeOf 28 = .ok (.ireturn, 1) := by decide +kernel
theorem dX6_placeOf_29 : decode cX6_placeOf 29 = .ok (.iinc 3 1, 3) := by decide +kernel
theorem dX6_placeOf_32 : decode cX6_placeOf 32 = .ok (.goto (-24), 3) := by decide +kernel
theorem dX6_placeOf_35 : decode cX6_placeOf 35 = .ok (.bipush (-5), 2) := by decide +kernel
theorem dX6_placeOf_37 : decode cX6_placeOf 37 = .ok (.ireturn, 1) := by decide +kernel
theorem dX6_emptyRow_0 : decode cX6_emptyRow 0 = .ok (.iconst 0, 1) := by decide +kernel
theorem dX6_emptyRow_1 : decode cX6_emptyRow 1 = .ok (.istore_n 2, 1) := by decide +kernel
theorem dX6_emptyRow_2 : decode cX6_emptyRow 2 = .ok (.iload_n 2, 1) := by decide +kernel
theorem dX6_emptyRow_3 : decode cX6_emptyRow 3 = .ok (.aload_n 0, 1) := by decide +kernel
theorem dX6_emptyRow_4 : decode cX6_emptyRow 4 = .ok (.iload_n 1, 1) := by decide +kernel
theorem dX6_emptyRow_5 : decode cX6_emptyRow 5 = .ok (.invokevirtual 96, 3) := by decide +kernel
theorem dX6_emptyRow_8 : decode cX6_emptyRow 8 = .ok (.if_icmp .ge 47, 3) := by decide +kernel
theorem dX6_emptyRow_11 : decode cX6_emptyRow 11 = .ok (.aload_n 0, 1) := by decide +kernel
theorem dX6_emptyRow_12 : decode cX6_emptyRow 12 = .ok (.iload_n 1, 1) := by decide +kernel
theorem dX6_emptyRow_13 : decode cX6_emptyRow 13 = .ok (.iload_n 2, 1) := by decide +kernel
theorem dX6_emptyRow_14 : decode cX6_emptyRow 14 = .ok (.invokevirtual 103, 3) := by decide +kernel
theorem dX6_emptyRow_17 : decode cX6_emptyRow 17 = .ok (.istore_n 3, 1) := by decide +kernel
theorem dX6_emptyRow_18 : decode cX6_emptyRow 18 = .ok (.iload_n 3, 1) := by decide +kernel
theorem dX6_emptyRow_19 : decode cX6_emptyRow 19 = .ok (.ifCond .lt 30, 3) := by decide +kernel
theorem dX6_emptyRow_22 : decode cX6_emptyRow 22 = .ok (.iload_n 3, 1) := by decide +kernel
theorem dX6_emptyRow_23 : decode cX6_emptyRow 23 = .ok (.aload_n 0, 1) := by decide +kernel
theorem dX6_emptyRow_24 : decode cX6_emptyRow 24 = .ok (.getfield 15, 3) := by decide +kernel
theorem dX6_emptyRow_27 : decode cX6_emptyRow 27 = .ok (.arraylength, 1) := by decide +kernel
theorem dX6_emptyRow_28 : decode cX6_emptyRow 28 = .ok (.if_icmp .ge 21, 3) := by decide +kernel
theorem dX6_emptyRow_31 : decode cX6_emptyRow 31 = .ok (.aload_n 0, 1) := by decide +kernel
theorem dX6_emptyRow_32 : decode cX6_emptyRow 32 = .ok (.getfield 15, 3) := by decide +kernel
theorem dX6_emptyRow_35 : decode cX6_emptyRow 35 = .ok (.iload_n 3, 1) := by decide +kernel
theorem dX6_emptyRow_36 : decode cX6_emptyRow 36 = .ok (.iaload, 1) := by decide +kernel
theorem dX6_emptyRow_37 : decode cX6_emptyRow 37 = .ok (.iload_n 1, 1) := by decide +kernel
theorem dX6_emptyRow_38 : decode cX6_emptyRow 38 = .ok (.if_icmp .ne 11, 3) := by decide +kernel
theorem dX6_emptyRow_41 : decode cX6_emptyRow 41 = .ok (.aload_n 0, 1) := by decide +kernel
theorem dX6_emptyRow_42 : decode cX6_emptyRow 42 = .ok (.getfield 15, 3) := by decide +kernel
theorem dX6_emptyRow_45 : decode cX6_emptyRow 45 = .ok (.iload_n 3, 1) := by decide +kernel
theorem dX6_emptyRow_46 : decode cX6_emptyRow 46 = .ok (.bipush (-5), 2) := by decide +kernel
theorem dX6_emptyRow_48 : decode cX6_emptyRow 48 = .ok (.iastore, 1) := by decide +kernel
theorem dX6_emptyRow_49 : decode cX6_emptyRow 49 = .ok (.iinc 2 1, 3) := by decide +kernel
theorem dX6_emptyRow_52 : decode cX6_emptyRow 52 = .ok (.goto (-50), 3) := by decide +kernel
theorem dX6_emptyRow_55 : decode cX6_emptyRow 55 = .ok (.iload_n 1, 1) := by decide +kernel
theorem dX6_emptyRow_56 : decode cX6_emptyRow 56 = .ok (.ifCond .lt 19, 3) := by decide +kernel
theorem dX6_emptyRow_59 : decode cX6_emptyRow 59 = .ok (.iload_n 1, 1) := by decide +kernel
theorem dX6_emptyRow_60 : decode cX6_emptyRow 60 = .ok (.aload_n 0, 1) := by decide +kernel
theorem dX6_emptyRow_61 : decode cX6_emptyRow 61 = .ok (.getfield 25, 3) := by decide +kernel
theorem dX6_emptyRow_64 : decode cX6_emptyRow 64 = .ok (.arraylength, 1) := by decide +kernel
theorem dX6_emptyRow_65 : decode cX6_emptyRow 65 = .ok (.if_icmp .ge 10, 3) := by decide +kernel
theorem dX6_emptyRow_68 : decode cX6_emptyRow 68 = .ok (.aload_n 0, 1) := by decide +kernel
theorem dX6_emptyRow_69 : decode cX6_emptyRow 69 = .ok (.getfield 25, 3) := by decide +kernel
theorem dX6_emptyRow_72 : decode cX6_emptyRow 72 = .ok (.iload_n 1, 1) := by decide +kernel
theorem dX6_emptyRow_73 : decode cX6_emptyRow 73 = .ok (.iconst 0, 1) := by decide +kernel
theorem dX6_emptyRow_74 : decode cX6_emptyRow 74 = .ok (.iastore, 1) := by decide +kernel
theorem dX6_emptyRow_75 : decode cX6_emptyRow 75 = .ok (.return_, 1) := by decide +kernel
theorem dX6_appendToRow_0 : decode cX6_appendToRow 0 = .ok (.aload_n 0, 1) := by decide +kernel
theorem dX6_appendToRow_1 : decode cX6_appendToRow 1 = .ok (.iload_n 1, 1) := by decide +kernel
theorem dX6_appendToRow_2 : decode cX6_appendToRow 2 = .ok (.invokevirtual 96, 3) := by decide +kernel
theorem dX6_appendToRow_5 : decode cX6_appendToRow 5 = .ok (.istore_n 3, 1) := by decide +kernel
theorem dX6_appendToRow_6 : decode cX6_appendToRow 6 = .ok (.iload_n 1, 1) := by decide +kernel
theorem dX6_appendToRow_7 : decode cX6_appendToRow 7 = .ok (.bipush 16, 2) := by decide +kernel
theorem dX6_appendToRow_9 : decode cX6_appendToRow 9 = .ok (.imul, 1) := by decide +kernel
theorem dX6_appendToRow_10 : decode cX6_appendToRow 10 = .ok (.iload_n 3, 1) := by decide +kernel
theorem dX6_appendToRow_11 : decode cX6_appendToRow 11 = .ok (.iadd, 1) := by decide +kernel
theorem dX6_appendToRow_12 : decode cX6_appendToRow 12 = .ok (.istore 4, 2) := by decide +kernel
theorem dX6_appendToRow_14 : decode cX6_appendToRow 14 = .ok (.iload_n 1, 1) := by decide +kernel
theorem dX6_appendToRow_15 : decode cX6_appendToRow 15 = .ok (.invokestatic 106, 3) := by decide +kernel
theorem dX6_appendToRow_18 : decode cX6_appendToRow 18 = .ok (.ifCond .eq 37, 3) := by decide +kernel
theorem dX6_appendToRow_21 : decode cX6_appendToRow 21 = .ok (.iload_n 2, 1) := by decide +kernel
theorem dX6_appendToRow_22 : decode cX6_appendToRow 22 = .ok (.ifCond .lt 33, 3) := by decide +kernel
theorem dX6_appendToRow_25 : decode cX6_appendToRow 25 = .ok (.iload_n 2, 1) := by decide +kernel
theorem dX6_appendToRow_26 : decode cX6_appendToRow 26 = .ok (.aload_n 0, 1) := by decide +kernel
theorem dX6_appendToRow_27 : decode cX6_appendToRow 27 = .ok (.getfield 15, 3) := by decide +kernel
theorem dX6_appendToRow_30 : decode cX6_appendToRow 30 = .ok (.arraylength, 1) := by decide +kernel
theorem dX6_appendToRow_31 : decode cX6_appendToRow 31 = .ok (.if_icmp .ge 24, 3) := by decide +kernel
theorem dX6_appendToRow_34 : decode cX6_appendToRow 34 = .ok (.iload_n 3, 1) := by decide +kernel
theorem dX6_appendToRow_35 : decode cX6_appendToRow 35 = .ok (.bipush 16, 2) := by decide +kernel
theorem dX6_appendToRow_37 : decode cX6_appendToRow 37 = .ok (.if_icmp .ge 18, 3) := by decide +kernel
theorem dX6_appendToRow_40 : decode cX6_appendToRow 40 = .ok (.iload 4, 2) := by decide +kernel
theorem dX6_appendToRow_42 : decode cX6_appendToRow 42 = .ok (.ifCond .lt 13, 3) := by decide +kernel
theorem dX6_appendToRow_45 : decode cX6_appendToRow 45 = .ok (.iload 4, 2) := by decide +kernel
theorem dX6_appendToRow_47 : decode cX6_appendToRow 47 = .ok (.aload_n 0, 1) := by decide +kernel
theorem dX6_appendToRow_48 : decode cX6_appendToRow 48 = .ok (.getfield 28, 3) := by decide +kernel
theorem dX6_appendToRow_51 : decode cX6_appendToRow 51 = .ok (.arraylength, 1) := by decide +kernel
theorem dX6_appendToRow_52 : decode cX6_appendToRow 52 = .ok (.if_icmp .lt 4, 3) := by decide +kernel
theorem dX6_appendToRow_55 : decode cX6_appendToRow 55 = .ok (.return_, 1) := by decide +kernel
theorem dX6_appendToRow_56 : decode cX6_appendToRow 56 = .ok (.aload_n 0, 1) := by decide +kernel
theorem dX6_appendToRow_57 : decode cX6_appendToRow 57 = .ok (.getfield 28, 3) := by decide +kernel
theorem dX6_appendToRow_60 : decode cX6_appendToRow 60 = .ok (.iload 4, 2) := by decide +kernel
theorem dX6_appendToRow_62 : decode cX6_appendToRow 62 = .ok (.iload_n 2, 1) := by decide +kernel
theorem dX6_appendToRow_63 : decode cX6_appendToRow 63 = .ok (.iastore, 1) := by decide +kernel
theorem dX6_appendToRow_64 : decode cX6_appendToRow 64 = .ok (.aload_n 0, 1) := by decide +kernel
theorem dX6_appendToRow_65 : decode cX6_appendToRow 65 = .ok (.getfield 25, 3) := by decide +kernel
theorem dX6_appendToRow_68 : decode cX6_appendToRow 68 = .ok (.iload_n 1, 1) := by decide +kernel
theorem dX6_appendToRow_69 : decode cX6_appendToRow 69 = .ok (.iload_n 3, 1) := by decide +kernel
theorem dX6_appendToRow_70 : decode cX6_appendToRow 70 = .ok (.iconst 1, 1) := by decide +kernel
theorem dX6_appendToRow_71 : decode cX6_appendToRow 71 = .ok (.iadd, 1) := by decide +kernel
theorem dX6_appendToRow_72 : decode cX6_appendToRow 72 = .ok (.iastore, 1) := by decide +kernel
theorem dX6_appendToRow_73 : decode cX6_appendToRow 73 = .ok (.aload_n 0, 1) := by decide +kernel
theorem dX6_appendToRow_74 : decode cX6_appendToRow 74 = .ok (.getfield 15, 3) := by decide +kernel
theorem dX6_appendToRow_77 : decode cX6_appendToRow 77 = .ok (.iload_n 2, 1) := by decide +kernel
theorem dX6_appendToRow_78 : decode cX6_appendToRow 78 = .ok (.iload_n 1, 1) := by decide +kernel
theorem dX6_appendToRow_79 : decode cX6_appendToRow 79 = .ok (.iastore, 1) := by decide +kernel
theorem dX6_appendToRow_80 : decode cX6_appendToRow 80 = .ok (.return_, 1) := by decide +kernel
theorem dX6_apart_0 : decode cX6_apart 0 = .ok (.iload_n 1, 1) := by decide +kernel
theorem dX6_apart_1 : decode cX6_apart 1 = .ok (.iload_n 3, 1) := by decide +kernel
theorem dX6_apart_2 : decode cX6_apart 2 = .ok (.if_icmp .le 9, 3) := by decide +kernel
theorem dX6_apart_5 : decode cX6_apart 5 = .ok (.iload_n 1, 1) := by decide +kernel
theorem dX6_apart_6 : decode cX6_apart 6 = .ok (.iload_n 3, 1) := by decide +kernel
theorem dX6_apart_7 : decode cX6_apart 7 = .ok (.isub, 1) := by decide +kernel
theorem dX6_apart_8 : decode cX6_apart 8 = .ok (.goto 6, 3) := by decide +kernel
theorem dX6_apart_11 : decode cX6_apart 11 = .ok (.iload_n 3, 1) := by decide +kernel
theorem dX6_apart_12 : decode cX6_apart 12 = .ok (.iload_n 1, 1) := by decide +kernel
theorem dX6_apart_13 : decode cX6_apart 13 = .ok (.isub, 1) := by decide +kernel
theorem dX6_apart_14 : decode cX6_apart 14 = .ok (.istore 5, 2) := by decide +kernel
theorem dX6_apart_16 : decode cX6_apart 16 = .ok (.iload_n 2, 1) := by decide +kernel
theorem dX6_apart_17 : decode cX6_apart 17 = .ok (.iload 4, 2) := by decide +kernel
theorem dX6_apart_19 : decode cX6_apart 19 = .ok (.if_icmp .le 10, 3) := by decide +kernel
theorem dX6_apart_22 : decode cX6_apart 22 = .ok (.iload_n 2, 1) := by decide +kernel
theorem dX6_apart_23 : decode cX6_apart 23 = .ok (.iload 4, 2) := by decide +kernel
theorem dX6_apart_25 : decode cX6_apart 25 = .ok (.isub, 1) := by decide +kernel
theorem dX6_apart_26 : decode cX6_apart 26 = .ok (.goto 7, 3) := by decide +kernel
theorem dX6_apart_29 : decode cX6_apart 29 = .ok (.iload 4, 2) := by decide +kernel
theorem dX6_apart_31 : decode cX6_apart 31 = .ok (.iload_n 2, 1) := by decide +kernel
theorem dX6_apart_32 : decode cX6_apart 32 = .ok (.isub, 1) := by decide +kernel
theorem dX6_apart_33 : decode cX6_apart 33 = .ok (.istore 6, 2) := by decide +kernel
theorem dX6_apart_35 : decode cX6_apart 35 = .ok (.iload 5, 2) := by decide +kernel
theorem dX6_apart_37 : decode cX6_apart 37 = .ok (.iload 6, 2) := by decide +kernel
theorem dX6_apart_39 : decode cX6_apart 39 = .ok (.iadd, 1) := by decide +kernel
theorem dX6_apart_40 : decode cX6_apart 40 = .ok (.istore 7, 2) := by decide +kernel
theorem dX6_apart_42 : decode cX6_apart 42 = .ok (.iload 5, 2) := by decide +kernel
theorem dX6_apart_44 : decode cX6_apart 44 = .ok (.iload 6, 2) := by decide +kernel
theorem dX6_apart_46 : decode cX6_apart 46 = .ok (.if_icmp .le 8, 3) := by decide +kernel
theorem dX6_apart_49 : decode cX6_apart 49 = .ok (.iload 5, 2) := by decide +kernel
theorem dX6_apart_51 : decode cX6_apart 51 = .ok (.goto 5, 3) := by decide +kernel
theorem dX6_apart_54 : decode cX6_apart 54 = .ok (.iload 6, 2) := by decide +kernel
theorem dX6_apart_56 : decode cX6_apart 56 = .ok (.istore 8, 2) := by decide +kernel
theorem dX6_apart_58 : decode cX6_apart 58 = .ok (.aload_n 0, 1) := by decide +kernel
theorem dX6_apart_59 : decode cX6_apart 59 = .ok (.getfield 64, 3) := by decide +kernel
theorem dX6_apart_62 : decode cX6_apart 62 = .ok (.ifCond .ne 6, 3) := by decide +kernel
theorem dX6_apart_65 : decode cX6_apart 65 = .ok (.iload 7, 2) := by decide +kernel
theorem dX6_apart_67 : decode cX6_apart 67 = .ok (.ireturn, 1) := by decide +kernel
theorem dX6_apart_68 : decode cX6_apart 68 = .ok (.aload_n 0, 1) := by decide +kernel
theorem dX6_apart_69 : decode cX6_apart 69 = .ok (.getfield 64, 3) := by decide +kernel
theorem dX6_apart_72 : decode cX6_apart 72 = .ok (.iconst 1, 1) := by decide +kernel
theorem dX6_apart_73 : decode cX6_apart 73 = .ok (.if_icmp .ne 8, 3) := by decide +kernel
theorem dX6_apart_76 : decode cX6_apart 76 = .ok (.iload 8, 2) := by decide +kernel
theorem dX6_apart_78 : decode cX6_apart 78 = .ok (.goto 8, 3) := by decide +kernel
theorem dX6_apart_81 : decode cX6_apart 81 = .ok (.iload 7, 2) := by decide +kernel
theorem dX6_apart_83 : decode cX6_apart 83 = .ok (.iload 8, 2) := by decide +kernel
theorem dX6_apart_85 : decode cX6_apart 85 = .ok (.iadd, 1) := by decide +kernel
theorem dX6_apart_86 : decode cX6_apart 86 = .ok (.ireturn, 1) := by decide +kernel
theorem dX6_way_0 : decode cX6_way 0 = .ok (.aload_n 0, 1) := by decide +kernel
theorem dX6_way_1 : decode cX6_way 1 = .ok (.aload_n 0, 1) := by decide +kernel
theorem dX6_way_2 : decode cX6_way 2 = .ok (.iload_n 1, 1) := by decide +kernel
theorem dX6_way_3 : decode cX6_way 3 = .ok (.iconst 0, 1) := by decide +kernel
theorem dX6_way_4 : decode cX6_way 4 = .ok (.invokevirtual 85, 3) := by decide +kernel
theorem dX6_way_7 : decode cX6_way 7 = .ok (.aload_n 0, 1) := by decide +kernel
theorem dX6_way_8 : decode cX6_way 8 = .ok (.iload_n 1, 1) := by decide +kernel
theorem dX6_way_9 : decode cX6_way 9 = .ok (.iconst 1, 1) := by decide +kernel
theorem dX6_way_10 : decode cX6_way 10 = .ok (.invokevirtual 85, 3) := by decide +kernel
theorem dX6_way_13 : decode cX6_way 13 = .ok (.aload_n 0, 1) := by decide +kernel
theorem dX6_way_14 : decode cX6_way 14 = .ok (.iload_n 2, 1) := by decide +kernel
theorem dX6_way_15 : decode cX6_way 15 = .ok (.iconst 0, 1) := by decide +kernel
theorem dX6_way_16 : decode cX6_way 16 = .ok (.invokevirtual 85, 3) := by decide +kernel
theorem dX6_way_19 : decode cX6_way 19 = .ok (.aload_n 0, 1) := by decide +kernel
theorem dX6_way_20 : decode cX6_way 20 = .ok (.iload_n 2, 1) := by decide +kernel
theorem dX6_way_21 : decode cX6_way 21 = .ok (.iconst 1, 1) := by decide +kernel
theorem dX6_way_22 : decode cX6_way 22 = .ok (.invokevirtual 85, 3) := by decide +kernel
theorem dX6_way_25 : decode cX6_way 25 = .ok (.invokevirtual 110, 3) := by decide +kernel
theorem dX6_way_28 : decode cX6_way 28 = .ok (.ireturn, 1) := by decide +kernel
theorem dX6_detour_0 : decode cX6_detour 0 = .ok (.aload_n 0, 1) := by decide +kernel
theorem dX6_detour_1 : decode cX6_detour 1 = .ok (.iload_n 1, 1) := by decide +kernel
theorem dX6_detour_2 : decode cX6_detour 2 = .ok (.iload_n 2, 1) := by decide +kernel
theorem dX6_detour_3 : decode cX6_detour 3 = .ok (.invokevirtual 114, 3) := by decide +kernel
theorem dX6_detour_6 : decode cX6_detour 6 = .ok (.aload_n 0, 1) := by decide +kernel
theorem dX6_detour_7 : decode cX6_detour 7 = .ok (.iload_n 2, 1) := by decide +kernel
theorem dX6_detour_8 : decode cX6_detour 8 = .ok (.iload_n 3, 1) := by decide +kernel
theorem dX6_detour_9 : decode cX6_detour 9 = .ok (.invokevirtual 114, 3) := by decide +kernel
theorem dX6_detour_12 : decode cX6_detour 12 = .ok (.iadd, 1) := by decide +kernel
theorem dX6_detour_13 : decode cX6_detour 13 = .ok (.aload_n 0, 1) := by decide +kernel
theorem dX6_detour_14 : decode cX6_detour 14 = .ok (.iload_n 1, 1) := by decide +kernel
theorem dX6_detour_15 : decode cX6_detour 15 = .ok (.iload_n 3, 1) := by decide +kernel
theorem dX6_detour_16 : decode cX6_detour 16 = .ok (.invokevirtual 114, 3) := by decide +kernel
theorem dX6_detour_19 : decode cX6_detour 19 = .ok (.isub, 1) := by decide +kernel
theorem dX6_detour_20 : decode cX6_detour 20 = .ok (.ireturn, 1) := by decide +kernel
theorem dX6_addsAt_0 : decode cX6_addsAt 0 = .ok (.aload_n 0, 1) := by decide +kernel
theorem dX6_addsAt_1 : decode cX6_addsAt 1 = .ok (.iload_n 2, 1) := by decide +kernel
theorem dX6_addsAt_2 : decode cX6_addsAt 2 = .ok (.iload_n 3, 1) := by decide +kernel
theorem dX6_addsAt_3 : decode cX6_addsAt 3 = .ok (.iconst 1, 1) := by decide +kernel
theorem dX6_addsAt_4 : decode cX6_addsAt 4 = .ok (.isub, 1) := by decide +kernel
theorem dX6_addsAt_5 : decode cX6_addsAt 5 = .ok (.invokevirtual 103, 3) := by decide +kernel
theorem dX6_addsAt_8 : decode cX6_addsAt 8 = .ok (.istore 4, 2) := by decide +kernel
theorem dX6_addsAt_10 : decode cX6_addsAt 10 = .ok (.aload_n 0, 1) := by decide +kernel
theorem dX6_addsAt_11 : decode cX6_addsAt 11 = .ok (.iload_n 2, 1) := by decide +kernel
theorem dX6_addsAt_12 : decode cX6_addsAt 12 = .ok (.iload_n 3, 1) := by decide +kernel
theorem dX6_addsAt_13 : decode cX6_addsAt 13 = .ok (.invokevirtual 103, 3) := by decide +kernel
theorem dX6_addsAt_16 : decode cX6_addsAt 16 = .ok (.istore 5, 2) := by decide +kernel
theorem dX6_addsAt_18 : decode cX6_addsAt 18 = .ok (.aload_n 0, 1) := by decide +kernel
theorem dX6_addsAt_19 : decode cX6_addsAt 19 = .ok (.iload 4, 2) := by decide +kernel
theorem dX6_addsAt_21 : decode cX6_addsAt 21 = .ok (.iload_n 1, 1) := by decide +kernel
theorem dX6_addsAt_22 : decode cX6_addsAt 22 = .ok (.invokevirtual 114, 3) := by decide +kernel
theorem dX6_addsAt_25 : decode cX6_addsAt 25 = .ok (.aload_n 0, 1) := by decide +kernel
theorem dX6_addsAt_26 : decode cX6_addsAt 26 = .ok (.iload_n 1, 1) := by decide +kernel
theorem dX6_addsAt_27 : decode cX6_addsAt 27 = .ok (.iload 5, 2) := by decide +kernel
theorem dX6_addsAt_29 : decode cX6_addsAt 29 = .ok (.invokevirtual 114, 3) := by decide +kernel
theorem dX6_addsAt_32 : decode cX6_addsAt 32 = .ok (.iadd, 1) := by decide +kernel
theorem dX6_addsAt_33 : decode cX6_addsAt 33 = .ok (.aload_n 0, 1) := by decide +kernel
theorem dX6_addsAt_34 : decode cX6_addsAt 34 = .ok (.iload 4, 2) := by decide +kernel
theorem dX6_addsAt_36 : decode cX6_addsAt 36 = .ok (.iload 5, 2) := by decide +kernel
theorem dX6_addsAt_38 : decode cX6_addsAt 38 = .ok (.invokevirtual 114, 3) := by decide +kernel
theorem dX6_addsAt_41 : decode cX6_addsAt 41 = .ok (.isub, 1) := by decide +kernel
theorem dX6_addsAt_42 : decode cX6_addsAt 42 = .ok (.istore 6, 2) := by decide +kernel
theorem dX6_addsAt_44 : decode cX6_addsAt 44 = .ok (.iload 6, 2) := by decide +kernel
theorem dX6_addsAt_46 : decode cX6_addsAt 46 = .ok (.aload_n 0, 1) := by decide +kernel
theorem dX6_addsAt_47 : decode cX6_addsAt 47 = .ok (.iload_n 2, 1) := by decide +kernel
theorem dX6_addsAt_48 : decode cX6_addsAt 48 = .ok (.invokevirtual 96, 3) := by decide +kernel
theorem dX6_addsAt_51 : decode cX6_addsAt 51 = .ok (.ifCond .ne 10, 3) := by decide +kernel
theorem dX6_addsAt_54 : decode cX6_addsAt 54 = .ok (.aload_n 0, 1) := by decide +kernel
theorem dX6_addsAt_55 : decode cX6_addsAt 55 = .ok (.getfield 67, 3) := by decide +kernel
theorem dX6_addsAt_58 : decode cX6_addsAt 58 = .ok (.goto 4, 3) := by decide +kernel
theorem dX6_addsAt_61 : decode cX6_addsAt 61 = .ok (.iconst 0, 1) := by decide +kernel
theorem dX6_addsAt_62 : decode cX6_addsAt 62 = .ok (.iadd, 1) := by decide +kernel
theorem dX6_addsAt_63 : decode cX6_addsAt 63 = .ok (.ireturn, 1) := by decide +kernel
theorem dX6_milesOf_0 : decode cX6_milesOf 0 = .ok (.iconst 0, 1) := by decide +kernel
theorem dX6_milesOf_1 : decode cX6_milesOf 1 = .ok (.istore_n 2, 1) := by decide +kernel
theorem dX6_milesOf_2 : decode cX6_milesOf 2 = .ok (.iconst 0, 1) := by decide +kernel
theorem dX6_milesOf_3 : decode cX6_milesOf 3 = .ok (.istore_n 3, 1) := by decide +kernel
theorem dX6_milesOf_4 : decode cX6_milesOf 4 = .ok (.iload_n 3, 1) := by decide +kernel
theorem dX6_milesOf_5 : decode cX6_milesOf 5 = .ok (.aload_n 0, 1) := by decide +kernel
theorem dX6_milesOf_6 : decode cX6_milesOf 6 = .ok (.iload_n 1, 1) := by decide +kernel
theorem dX6_milesOf_7 : decode cX6_milesOf 7 = .ok (.invokevirtual 96, 3) := by decide +kernel
theorem dX6_milesOf_10 : decode cX6_milesOf 10 = .ok (.if_icmp .gt 30, 3) := by decide +kernel
theorem dX6_milesOf_13 : decode cX6_milesOf 13 = .ok (.iload_n 2, 1) := by decide +kernel
theorem dX6_milesOf_14 : decode cX6_milesOf 14 = .ok (.aload_n 0, 1) := by decide +kernel
theorem dX6_milesOf_15 : decode cX6_milesOf 15 = .ok (.aload_n 0, 1) := by decide +kernel
theorem dX6_milesOf_16 : decode cX6_milesOf 16 = .ok (.iload_n 1, 1) := by decide +kernel
theorem dX6_milesOf_17 : decode cX6_milesOf 17 = .ok (.iload_n 3, 1) := by decide +kernel
theorem dX6_milesOf_18 : decode cX6_milesOf 18 = .ok (.iconst 1, 1) := by decide +kernel
theorem dX6_milesOf_19 : decode cX6_milesOf 19 = .ok (.isub, 1) := by decide +kernel
theorem dX6_milesOf_20 : decode cX6_milesOf 20 = .ok (.invokevirtual 103, 3) := by decide +kernel
theorem dX6_milesOf_23 : decode cX6_milesOf 23 = .ok (.aload_n 0, 1) := by decide +kernel
theorem dX6_milesOf_24 : decode cX6_milesOf 24 = .ok (.iload_n 1, 1) := by decide +kernel
theorem dX6_milesOf_25 : decode cX6_milesOf 25 = .ok (.iload_n 3, 1) := by decide +kernel
theorem dX6_milesOf_26 : decode cX6_milesOf 26 = .ok (.invokevirtual 103, 3) := by decide +kernel
theorem dX6_milesOf_29 : decode cX6_milesOf 29 = .ok (.invokevirtual 114, 3) := by decide +kernel
theorem dX6_milesOf_32 : decode cX6_milesOf 32 = .ok (.iadd, 1) := by decide +kernel
theorem dX6_milesOf_33 : decode cX6_milesOf 33 = .ok (.istore_n 2, 1) := by decide +kernel
theorem dX6_milesOf_34 : decode cX6_milesOf 34 = .ok (.iinc 3 1, 3) := by decide +kernel
theorem dX6_milesOf_37 : decode cX6_milesOf 37 = .ok (.goto (-33), 3) := by decide +kernel
theorem dX6_milesOf_40 : decode cX6_milesOf 40 = .ok (.iload_n 2, 1) := by decide +kernel
theorem dX6_milesOf_41 : decode cX6_milesOf 41 = .ok (.ireturn, 1) := by decide +kernel
theorem dX6_milesOfAll_0 : decode cX6_milesOfAll 0 = .ok (.iconst 0, 1) := by decide +kernel
theorem dX6_milesOfAll_1 : decode cX6_milesOfAll 1 = .ok (.istore_n 1, 1) := by decide +kernel
theorem dX6_milesOfAll_2 : decode cX6_milesOfAll 2 = .ok (.iconst 0, 1) := by decide +kernel
theorem dX6_milesOfAll_3 : decode cX6_milesOfAll 3 = .ok (.istore_n 2, 1) := by decide +kernel
theorem dX6_milesOfAll_4 : decode cX6_milesOfAll 4 = .ok (.iload_n 2, 1) := by decide +kernel
theorem dX6_milesOfAll_5 : decode cX6_milesOfAll 5 = .ok (.iconst 4, 1) := by decide +kernel
theorem dX6_milesOfAll_6 : decode cX6_milesOfAll 6 = .ok (.if_icmp .ge 17, 3) := by decide +kernel
theorem dX6_milesOfAll_9 : decode cX6_milesOfAll 9 = .ok (.iload_n 1, 1) := by decide +kernel
theorem dX6_milesOfAll_10 : decode cX6_milesOfAll 10 = .ok (.aload_n 0, 1) := by decide +kernel
theorem dX6_milesOfAll_11 : decode cX6_milesOfAll 11 = .ok (.iload_n 2, 1) := by decide +kernel
theorem dX6_milesOfAll_12 : decode cX6_milesOfAll 12 = .ok (.invokevirtual 117, 3) := by decide +kernel
theorem dX6_milesOfAll_15 : decode cX6_milesOfAll 15 = .ok (.iadd, 1) := by decide +kernel
theorem dX6_milesOfAll_16 : decode cX6_milesOfAll 16 = .ok (.istore_n 1, 1) := by decide +kernel
theorem dX6_milesOfAll_17 : decode cX6_milesOfAll 17 = .ok (.iinc 2 1, 3) := by decide +kernel
theorem dX6_milesOfAll_20 : decode cX6_milesOfAll 20 = .ok (.goto (-16), 3) := by decide +kernel
theorem dX6_milesOfAll_23 : decode cX6_milesOfAll 23 = .ok (.iload_n 1, 1) := by decide +kernel
theorem dX6_milesOfAll_24 : decode cX6_milesOfAll 24 = .ok (.ireturn, 1) := by decide +kernel
theorem dX6_usedRounds_0 : decode cX6_usedRounds 0 = .ok (.iconst 0, 1) := by decide +kernel
theorem dX6_usedRounds_1 : decode cX6_usedRounds 1 = .ok (.istore_n 1, 1) := by decide +kernel
theorem dX6_usedRounds_2 : decode cX6_usedRounds 2 = .ok (.iconst 0, 1) := by decide +kernel
theorem dX6_usedRounds_3 : decode cX6_usedRounds 3 = .ok (.istore_n 2, 1) := by decide +kernel
theorem dX6_usedRounds_4 : decode cX6_usedRounds 4 = .ok (.iload_n 2, 1) := by decide +kernel
theorem dX6_usedRounds_5 : decode cX6_usedRounds 5 = .ok (.iconst 4, 1) := by decide +kernel
theorem dX6_usedRounds_6 : decode cX6_usedRounds 6 = .ok (.if_icmp .ge 25, 3) := by decide +kernel
theorem dX6_usedRounds_9 : decode cX6_usedRounds 9 = .ok (.iload_n 1, 1) := by decide +kernel
theorem dX6_usedRounds_10 : decode cX6_usedRounds 10 = .ok (.aload_n 0, 1) := by decide +kernel
theorem dX6_usedRounds_11 : decode cX6_usedRounds 11 = .ok (.iload_n 2, 1) := by decide +kernel
theorem dX6_usedRounds_12 : decode cX6_usedRounds 12 = .ok (.invokevirtual 96, 3) := by decide +kernel
theorem dX6_usedRounds_15 : decode cX6_usedRounds 15 = .ok (.ifCond .le 7, 3) := by decide +kernel
theorem dX6_usedRounds_18 : decode cX6_usedRounds 18 = .ok (.iconst 1, 1) := by decide +kernel
theorem dX6_usedRounds_19 : decode cX6_usedRounds 19 = .ok (.goto 4, 3) := by decide +kernel
theorem dX6_usedRounds_22 : decode cX6_usedRounds 22 = .ok (.iconst 0, 1) := by decide +kernel
theorem dX6_usedRounds_23 : decode cX6_usedRounds 23 = .ok (.iadd, 1) := by decide +kernel
theorem dX6_usedRounds_24 : decode cX6_usedRounds 24 = .ok (.istore_n 1, 1) := by decide +kernel
theorem dX6_usedRounds_25 : decode cX6_usedRounds 25 = .ok (.iinc 2 1, 3) := by decide +kernel
theorem dX6_usedRounds_28 : decode cX6_usedRounds 28 = .ok (.goto (-24), 3) := by decide +kernel
theorem dX6_usedRounds_31 : decode cX6_usedRounds 31 = .ok (.iload_n 1, 1) := by decide +kernel
theorem dX6_usedRounds_32 : decode cX6_usedRounds 32 = .ok (.ireturn, 1) := by decide +kernel
theorem dX6_cost_0 : decode cX6_cost 0 = .ok (.aload_n 0, 1) := by decide +kernel
theorem dX6_cost_1 : decode cX6_cost 1 = .ok (.invokevirtual 120, 3) := by decide +kernel
theorem dX6_cost_4 : decode cX6_cost 4 = .ok (.aload_n 0, 1) := by decide +kernel
theorem dX6_cost_5 : decode cX6_cost 5 = .ok (.getfield 67, 3) := by decide +kernel
theorem dX6_cost_8 : decode cX6_cost 8 = .ok (.aload_n 0, 1) := by decide +kernel
theorem dX6_cost_9 : decode cX6_cost 9 = .ok (.invokevirtual 124, 3) := by decide +kernel
theorem dX6_cost_12 : decode cX6_cost 12 = .ok (.imul, 1) := by decide +kernel
theorem dX6_cost_13 : decode cX6_cost 13 = .ok (.iadd, 1) := by decide +kernel
theorem dX6_cost_14 : decode cX6_cost 14 = .ok (.ireturn, 1) := by decide +kernel
theorem dX6_looseCount_0 : decode cX6_looseCount 0 = .ok (.iconst 0, 1) := by decide +kernel
theorem dX6_looseCount_1 : decode cX6_looseCount 1 = .ok (.istore_n 1, 1) := by decide +kernel
theorem dX6_looseCount_2 : decode cX6_looseCount 2 = .ok (.iconst 0, 1) := by decide +kernel
theorem dX6_looseCount_3 : decode cX6_looseCount 3 = .ok (.istore_n 2, 1) := by decide +kernel
theorem dX6_looseCount_4 : decode cX6_looseCount 4 = .ok (.iload_n 2, 1) := by decide +kernel
theorem dX6_looseCount_5 : decode cX6_looseCount 5 = .ok (.aload_n 0, 1) := by decide +kernel
theorem dX6_looseCount_6 : decode cX6_looseCount 6 = .ok (.getfield 60, 3) := by decide +kernel
theorem dX6_looseCount_9 : decode cX6_looseCount 9 = .ok (.if_icmp .ge 27, 3) := by decide +kernel
theorem dX6_looseCount_12 : decode cX6_looseCount 12 = .ok (.iload_n 1, 1) := by decide +kernel
theorem dX6_looseCount_13 : decode cX6_looseCount 13 = .ok (.aload_n 0, 1) := by decide +kernel
theorem dX6_looseCount_14 : decode cX6_looseCount 14 = .ok (.iload_n 2, 1) := by decide +kernel
theorem dX6_looseCount_15 : decode cX6_looseCount 15 = .ok (.invokevirtual 100, 3) := by decide +kernel
theorem dX6_looseCount_18 : decode cX6_looseCount 18 = .ok (.bipush (-5), 2) := by decide +kernel
theorem dX6_looseCount_20 : decode cX6_looseCount 20 = .ok (.if_icmp .ne 7, 3) := by decide +kernel
theorem dX6_looseCount_23 : decode cX6_looseCount 23 = .ok (.iconst 1, 1) := by decide +kernel
theorem dX6_looseCount_24 : decode cX6_looseCount 24 = .ok (.goto 4, 3) := by decide +kernel
theorem dX6_looseCount_27 : decode cX6_looseCount 27 = .ok (.iconst 0, 1) := by decide +kernel
theorem dX6_looseCount_28 : decode cX6_looseCount 28 = .ok (.iadd, 1) := by decide +kernel
theorem dX6_looseCount_29 : decode cX6_looseCount 29 = .ok (.istore_n 1, 1) := by decide +kernel
theorem dX6_looseCount_30 : decode cX6_looseCount 30 = .ok (.iinc 2 1, 3) := by decide +kernel
theorem dX6_looseCount_33 : decode cX6_looseCount 33 = .ok (.goto (-29), 3) := by decide +kernel
theorem dX6_looseCount_36 : decode cX6_looseCount 36 = .ok (.iload_n 1, 1) := by decide +kernel
theorem dX6_looseCount_37 : decode cX6_looseCount 37 = .ok (.ireturn, 1) := by decide +kernel
theorem dX6_lockedCount_0 : decode cX6_lockedCount 0 = .ok (.iconst 0, 1) := by decide +kernel
theorem dX6_lockedCount_1 : decode cX6_lockedCount 1 = .ok (.istore_n 1, 1) := by decide +kernel
theorem dX6_lockedCount_2 : decode cX6_lockedCount 2 = .ok (.iconst 0, 1) := by decide +kernel
theorem dX6_lockedCount_3 : decode cX6_lockedCount 3 = .ok (.istore_n 2, 1) := by decide +kernel
theorem dX6_lockedCount_4 : decode cX6_lockedCount 4 = .ok (.iload_n 2, 1) := by decide +kernel
theorem dX6_lockedCount_5 : decode cX6_lockedCount 5 = .ok (.aload_n 0, 1) := by decide +kernel
theorem dX6_lockedCount_6 : decode cX6_lockedCount 6 = .ok (.getfield 60, 3) := by decide +kernel
theorem dX6_lockedCount_9 : decode cX6_lockedCount 9 = .ok (.if_icmp .ge 25, 3) := by decide +kernel
theorem dX6_lockedCount_12 : decode cX6_lockedCount 12 = .ok (.iload_n 1, 1) := by decide +kernel
theorem dX6_lockedCount_13 : decode cX6_lockedCount 13 = .ok (.aload_n 0, 1) := by decide +kernel
theorem dX6_lockedCount_14 : decode cX6_lockedCount 14 = .ok (.iload_n 2, 1) := by decide +kernel
theorem dX6_lockedCount_15 : decode cX6_lockedCount 15 = .ok (.invokevirtual 127, 3) := by decide +kernel
theorem dX6_lockedCount_18 : decode cX6_lockedCount 18 = .ok (.ifCond .eq 7, 3) := by decide +kernel
theorem dX6_lockedCount_21 : decode cX6_lockedCount 21 = .ok (.iconst 1, 1) := by decide +kernel
theorem dX6_lockedCount_22 : decode cX6_lockedCount 22 = .ok (.goto 4, 3) := by decide +kernel
theorem dX6_lockedCount_25 : decode cX6_lockedCount 25 = .ok (.iconst 0, 1) := by decide +kernel
theorem dX6_lockedCount_26 : decode cX6_lockedCount 26 = .ok (.iadd, 1) := by decide +kernel
theorem dX6_lockedCount_27 : decode cX6_lockedCount 27 = .ok (.istore_n 1, 1) := by decide +kernel
theorem dX6_lockedCount_28 : decode cX6_lockedCount 28 = .ok (.iinc 2 1, 3) := by decide +kernel
theorem dX6_lockedCount_31 : decode cX6_lockedCount 31 = .ok (.goto (-27), 3) := by decide +kernel
theorem dX6_lockedCount_34 : decode cX6_lockedCount 34 = .ok (.iload_n 1, 1) := by decide +kernel
theorem dX6_lockedCount_35 : decode cX6_lockedCount 35 = .ok (.ireturn, 1) := by decide +kernel
theorem dX6_dueAhead_0 : decode cX6_dueAhead 0 = .ok (.iconst 0, 1) := by decide +kernel
theorem dX6_dueAhead_1 : decode cX6_dueAhead 1 = .ok (.istore_n 2, 1) := by decide +kernel
theorem dX6_dueAhead_2 : decode cX6_dueAhead 2 = .ok (.iconst 0, 1) := by decide +kernel
theorem dX6_dueAhead_3 : decode cX6_dueAhead 3 = .ok (.istore_n 3, 1) := by decide +kernel
theorem dX6_dueAhead_4 : decode cX6_dueAhead 4 = .ok (.iload_n 3, 1) := by decide +kernel
theorem dX6_dueAhead_5 : decode cX6_dueAhead 5 = .ok (.aload_n 0, 1) := by decide +kernel
theorem dX6_dueAhead_6 : decode cX6_dueAhead 6 = .ok (.getfield 60, 3) := by decide +kernel
theorem dX6_dueAhead_9 : decode cX6_dueAhead 9 = .ok (.if_icmp .ge 67, 3) := by decide +kernel
theorem dX6_dueAhead_12 : decode cX6_dueAhead 12 = .ok (.aload_n 0, 1) := by decide +kernel
theorem dX6_dueAhead_13 : decode cX6_dueAhead 13 = .ok (.iload_n 3, 1) := by decide +kernel
theorem dX6_dueAhead_14 : decode cX6_dueAhead 14 = .ok (.iconst 4, 1) := by decide +kernel
theorem dX6_dueAhead_15 : decode cX6_dueAhead 15 = .ok (.invokevirtual 85, 3) := by decide +kernel
theorem dX6_dueAhead_18 : decode cX6_dueAhead 18 = .ok (.aload_n 0, 1) := by decide +kernel
theorem dX6_dueAhead_19 : decode cX6_dueAhead 19 = .ok (.iload_n 1, 1) := by decide +kernel
theorem dX6_dueAhead_20 : decode cX6_dueAhead 20 = .ok (.iconst 4, 1) := by decide +kernel
theorem dX6_dueAhead_21 : decode cX6_dueAhead 21 = .ok (.invokevirtual 85, 3) := by decide +kernel
theorem dX6_dueAhead_24 : decode cX6_dueAhead 24 = .ok (.isub, 1) := by decide +kernel
theorem dX6_dueAhead_25 : decode cX6_dueAhead 25 = .ok (.istore 4, 2) := by decide +kernel
theorem dX6_dueAhead_27 : decode cX6_dueAhead 27 = .ok (.iload 4, 2) := by decide +kernel
theorem dX6_dueAhead_29 : decode cX6_dueAhead 29 = .ok (.ifCond .ne 18, 3) := by decide +kernel
theorem dX6_dueAhead_32 : decode cX6_dueAhead 32 = .ok (.aload_n 0, 1) := by decide +kernel
theorem dX6_dueAhead_33 : decode cX6_dueAhead 33 = .ok (.iload_n 3, 1) := by decide +kernel
theorem dX6_dueAhead_34 : decode cX6_dueAhead 34 = .ok (.iconst 3, 1) := by decide +kernel
theorem dX6_dueAhead_35 : decode cX6_dueAhead 35 = .ok (.invokevirtual 85, 3) := by decide +kernel
theorem dX6_dueAhead_38 : decode cX6_dueAhead 38 = .ok (.aload_n 0, 1) := by decide +kernel
theorem dX6_dueAhead_39 : decode cX6_dueAhead 39 = .ok (.iload_n 1, 1) := by decide +kernel
theorem dX6_dueAhead_40 : decode cX6_dueAhead 40 = .ok (.iconst 3, 1) := by decide +kernel
theorem dX6_dueAhead_41 : decode cX6_dueAhead 41 = .ok (.invokevirtual 85, 3) := by decide +kernel
theorem dX6_dueAhead_44 : decode cX6_dueAhead 44 = .ok (.isub, 1) := by decide +kernel
theorem dX6_dueAhead_45 : decode cX6_dueAhead 45 = .ok (.istore 4, 2) := by decide +kernel
theorem dX6_dueAhead_47 : decode cX6_dueAhead 47 = .ok (.iload 4, 2) := by decide +kernel
theorem dX6_dueAhead_49 : decode cX6_dueAhead 49 = .ok (.ifCond .ne 8, 3) := by decide +kernel
theorem dX6_dueAhead_52 : decode cX6_dueAhead 52 = .ok (.iload_n 3, 1) := by decide +kernel
theorem dX6_dueAhead_53 : decode cX6_dueAhead 53 = .ok (.iload_n 1, 1) := by decide +kernel
theorem dX6_dueAhead_54 : decode cX6_dueAhead 54 = .ok (.isub, 1) := by decide +kernel
theorem dX6_dueAhead_55 : decode cX6_dueAhead 55 = .ok (.istore 4, 2) := by decide +kernel
theorem dX6_dueAhead_57 : decode cX6_dueAhead 57 = .ok (.iload_n 2, 1) := by decide +kernel
theorem dX6_dueAhead_58 : decode cX6_dueAhead 58 = .ok (.iload 4, 2) := by decide +kernel
theorem dX6_dueAhead_60 : decode cX6_dueAhead 60 = .ok (.ifCond .ge 7, 3) := by decide +kernel
theorem dX6_dueAhead_63 : decode cX6_dueAhead 63 = .ok (.iconst 1, 1) := by decide +kernel
theorem dX6_dueAhead_64 : decode cX6_dueAhead 64 = .ok (.goto 4, 3) := by decide +kernel
theorem dX6_dueAhead_67 : decode cX6_dueAhead 67 = .ok (.iconst 0, 1) := by decide +kernel
theorem dX6_dueAhead_68 : decode cX6_dueAhead 68 = .ok (.iadd, 1) := by decide +kernel
theorem dX6_dueAhead_69 : decode cX6_dueAhead 69 = .ok (.istore_n 2, 1) := by decide +kernel
theorem dX6_dueAhead_70 : decode cX6_dueAhead 70 = .ok (.iinc 3 1, 3) := by decide +kernel
theorem dX6_dueAhead_73 : decode cX6_dueAhead 73 = .ok (.goto (-69), 3) := by decide +kernel
theorem dX6_dueAhead_76 : decode cX6_dueAhead 76 = .ok (.iload_n 2, 1) := by decide +kernel
theorem dX6_dueAhead_77 : decode cX6_dueAhead 77 = .ok (.ireturn, 1) := by decide +kernel
theorem dX7_init_0 : decode cX7_init 0 = .ok (.aload_n 0, 1) := by decide +kernel
theorem dX7_init_1 : decode cX7_init 1 = .ok (.invokespecial 5, 3) := by decide +kernel
theorem dX7_init_4 : decode cX7_init 4 = .ok (.aload_n 0, 1) := by decide +kernel
theorem dX7_init_5 : decode cX7_init 5 = .ok (.new 11, 3) := by decide +kernel
theorem dX7_init_8 : decode cX7_init 8 = .ok (.dup, 1) := by decide +kernel
theorem dX7_init_9 : decode cX7_init 9 = .ok (.invokespecial 13, 3) := by decide +kernel
theorem dX7_init_12 : decode cX7_init 12 = .ok (.putfield 14, 3) := by decide +kernel
theorem dX7_init_15 : decode cX7_init 15 = .ok (.aload_n 0, 1) := by decide +kernel
theorem dX7_init_16 : decode cX7_init 16 = .ok (.new 11, 3) := by decide +kernel
theorem dX7_init_19 : decode cX7_init 19 = .ok (.dup, 1) := by decide +kernel
theorem dX7_init_20 : decode cX7_init 20 = .ok (.invokespecial 13, 3) := by decide +kernel
theorem dX7_init_23 : decode cX7_init 23 = .ok (.putfield 18, 3) := by decide +kernel
theorem dX7_init_26 : decode cX7_init 26 = .ok (.aload_n 0, 1) := by decide +kernel
theorem dX7_init_27 : decode cX7_init 27 = .ok (.new 11, 3) := by decide +kernel
theorem dX7_init_30 : decode cX7_init 30 = .ok (.dup, 1) := by decide +kernel
theorem dX7_init_31 : decode cX7_init 31 = .ok (.invokespecial 13, 3) := by decide +kernel
theorem dX7_init_34 : decode cX7_init 34 = .ok (.putfield 21, 3) := by decide +kernel
theorem dX7_init_37 : decode cX7_init 37 = .ok (.aload_n 0, 1) := by decide +kernel
theorem dX7_init_38 : decode cX7_init 38 = .ok (.new 24, 3) := by decide +kernel
theorem dX7_init_41 : decode cX7_init 41 = .ok (.dup, 1) := by decide +kernel
theorem dX7_init_42 : decode cX7_init 42 = .ok (.invokespecial 26, 3) := by decide +kernel
theorem dX7_init_45 : decode cX7_init 45 = .ok (.putfield 27, 3) := by decide +kernel
theorem dX7_init_48 : decode cX7_init 48 = .ok (.aload_n 0, 1) := by decide +kernel
theorem dX7_init_49 : decode cX7_init 49 = .ok (.new 31, 3) := by decide +kernel
theorem dX7_init_52 : decode cX7_init 52 = .ok (.dup, 1) := by decide +kernel
theorem dX7_init_53 : decode cX7_init 53 = .ok (.invokespecial 33, 3) := by decide +kernel
theorem dX7_init_56 : decode cX7_init 56 = .ok (.putfield 34, 3) := by decide +kernel
theorem dX7_init_59 : decode cX7_init 59 = .ok (.aload_n 0, 1) := by decide +kernel
theorem dX7_init_60 : decode cX7_init 60 = .ok (.new 38, 3) := by decide +kernel
theorem dX7_init_63 : decode cX7_init 63 = .ok (.dup, 1) := by decide +kernel
theorem dX7_init_64 : decode cX7_init 64 = .ok (.invokespecial 40, 3) := by decide +kernel
theorem dX7_init_67 : decode cX7_init 67 = .ok (.putfield 41, 3) := by decide +kernel
theorem dX7_init_70 : decode cX7_init 70 = .ok (.aload_n 0, 1) := by decide +kernel
theorem dX7_init_71 : decode cX7_init 71 = .ok (.new 45, 3) := by decide +kernel
theorem dX7_init_74 : decode cX7_init 74 = .ok (.dup, 1) := by decide +kernel
theorem dX7_init_75 : decode cX7_init 75 = .ok (.invokespecial 47, 3) := by decide +kernel
theorem dX7_init_78 : decode cX7_init 78 = .ok (.putfield 48, 3) := by decide +kernel
theorem dX7_init_81 : decode cX7_init 81 = .ok (.aload_n 0, 1) := by decide +kernel
theorem dX7_init_82 : decode cX7_init 82 = .ok (.new 52, 3) := by decide +kernel
theorem dX7_init_85 : decode cX7_init 85 = .ok (.dup, 1) := by decide +kernel
theorem dX7_init_86 : decode cX7_init 86 = .ok (.invokespecial 54, 3) := by decide +kernel
theorem dX7_init_89 : decode cX7_init 89 = .ok (.putfield 55, 3) := by decide +kernel
theorem dX7_init_92 : decode cX7_init 92 = .ok (.aload_n 0, 1) := by decide +kernel
theorem dX7_init_93 : decode cX7_init 93 = .ok (.bipush (-5), 2) := by decide +kernel
theorem dX7_init_95 : decode cX7_init 95 = .ok (.putfield 59, 3) := by decide +kernel
theorem dX7_init_98 : decode cX7_init 98 = .ok (.return_, 1) := by decide +kernel
theorem dX7_stop_0 : decode cX7_stop 0 = .ok (.iload_n 1, 1) := by decide +kernel
theorem dX7_stop_1 : decode cX7_stop 1 = .ok (.bipush 63, 2) := by decide +kernel
theorem dX7_stop_3 : decode cX7_stop 3 = .ok (.invokestatic 63, 3) := by decide +kernel
theorem dX7_stop_6 : decode cX7_stop 6 = .ok (.ifCond .eq 16, 3) := by decide +kernel
theorem dX7_stop_9 : decode cX7_stop 9 = .ok (.iload_n 2, 1) := by decide +kernel
theorem dX7_stop_10 : decode cX7_stop 10 = .ok (.bipush 63, 2) := by decide +kernel
theorem dX7_stop_12 : decode cX7_stop 12 = .ok (.invokestatic 63, 3) := by decide +kernel
theorem dX7_stop_15 : decode cX7_stop 15 = .ok (.ifCond .eq 7, 3) := by decide +kernel
theorem dX7_stop_18 : decode cX7_stop 18 = .ok (.iconst 1, 1) := by decide +kernel
theorem dX7_stop_19 : decode cX7_stop 19 = .ok (.goto 4, 3) := by decide +kernel
theorem dX7_stop_22 : decode cX7_stop 22 = .ok (.iconst 0, 1) := by decide +kernel
theorem dX7_stop_23 : decode cX7_stop 23 = .ok (.istore 7, 2) := by decide +kernel
theorem dX7_stop_25 : decode cX7_stop 25 = .ok (.iload 5, 2) := by decide +kernel
theorem dX7_stop_27 : decode cX7_stop 27 = .ok (.getstatic 67, 3) := by decide +kernel
theorem dX7_stop_30 : decode cX7_stop 30 = .ok (.iconst 4, 1) := by decide +kernel
theorem dX7_stop_31 : decode cX7_stop 31 = .ok (.invokestatic 71, 3) := by decide +kernel
theorem dX7_stop_34 : decode cX7_stop 34 = .ok (.invokestatic 63, 3) := by decide +kernel
theorem dX7_stop_37 : decode cX7_stop 37 = .ok (.ifCond .eq 17, 3) := by decide +kernel
theorem dX7_stop_40 : decode cX7_stop 40 = .ok (.iload 4, 2) := by decide +kernel
theorem dX7_stop_42 : decode cX7_stop 42 = .ok (.iload 5, 2) := by decide +kernel
theorem dX7_stop_44 : decode cX7_stop 44 = .ok (.invokestatic 63, 3) := by decide +kernel
theorem dX7_stop_47 : decode cX7_stop 47 = .ok (.ifCond .eq 7, 3) := by decide +kernel
theorem dX7_stop_50 : decode cX7_stop 50 = .ok (.iconst 1, 1) := by decide +kernel
theorem dX7_stop_51 : decode cX7_stop 51 = .ok (.goto 4, 3) := by decide +kernel
theorem dX7_stop_54 : decode cX7_stop 54 = .ok (.iconst 0, 1) := by decide +kernel
theorem dX7_stop_55 : decode cX7_stop 55 = .ok (.istore 8, 2) := by decide +kernel
theorem dX7_stop_57 : decode cX7_stop 57 = .ok (.iload 7, 2) := by decide +kernel
theorem dX7_stop_59 : decode cX7_stop 59 = .ok (.ifCond .eq 37, 3) := by decide +kernel
theorem dX7_stop_62 : decode cX7_stop 62 = .ok (.iload 8, 2) := by decide +kernel
theorem dX7_stop_64 : decode cX7_stop 64 = .ok (.ifCond .eq 32, 3) := by decide +kernel
theorem dX7_stop_67 : decode cX7_stop 67 = .ok (.iload_n 3, 1) := by decide +kernel
theorem dX7_stop_68 : decode cX7_stop 68 = .ok (.getstatic 67, 3) := by decide +kernel
theorem dX7_stop_71 : decode cX7_stop 71 = .ok (.iconst 2, 1) := by decide +kernel
theorem dX7_stop_72 : decode cX7_stop 72 = .ok (.invokestatic 71, 3) := by decide +kernel
theorem dX7_stop_75 : decode cX7_stop 75 = .ok (.invokestatic 63, 3) := by decide +kernel
theorem dX7_stop_78 : decode cX7_stop 78 = .ok (.ifCond .eq 18, 3) := by decide +kernel
theorem dX7_stop_81 : decode cX7_stop 81 = .ok (.iload 6, 2) := by decide +kernel
theorem dX7_stop_83 : decode cX7_stop 83 = .ok (.getstatic 67, 3) := by decide +kernel
theorem dX7_stop_86 : decode cX7_stop 86 = .ok (.iconst 5, 1) := by decide +kernel
theorem dX7_stop_87 : decode cX7_stop 87 = .ok (.invokestatic 71, 3) := by decide +kernel
theorem dX7_stop_90 : decode cX7_stop 90 = .ok (.invokestatic 63, 3) := by decide +kernel
theorem dX7_stop_93 : decode cX7_stop 93 = .ok (.ifCond .ne 6, 3) := by decide +kernel
theorem dX7_stop_96 : decode cX7_stop 96 = .ok (.bipush (-2), 2) := by decide +kernel
theorem dX7_stop_98 : decode cX7_stop 98 = .ok (.ireturn, 1) := by decide +kernel
theorem dX7_stop_99 : decode cX7_stop 99 = .ok (.aload_n 0, 1) := by decide +kernel
theorem dX7_stop_100 : decode cX7_stop 100 = .ok (.getfield 14, 3) := by decide +kernel
theorem dX7_stop_103 : decode cX7_stop 103 = .ok (.getfield 75, 3) := by decide +kernel
theorem dX7_stop_106 : decode cX7_stop 106 = .ok (.bipush 16, 2) := by decide +kernel
theorem dX7_stop_108 : decode cX7_stop 108 = .ok (.if_icmp .ge 22, 3) := by decide +kernel
theorem dX7_stop_111 : decode cX7_stop 111 = .ok (.aload_n 0, 1) := by decide +kernel
theorem dX7_stop_112 : decode cX7_stop 112 = .ok (.getfield 14, 3) := by decide +kernel
theorem dX7_stop_115 : decode cX7_stop 115 = .ok (.iload_n 1, 1) := by decide +kernel
theorem dX7_stop_116 : decode cX7_stop 116 = .ok (.iload_n 2, 1) := by decide +kernel
theorem dX7_stop_117 : decode cX7_stop 117 = .ok (.iload_n 3, 1) := by decide +kernel
theorem dX7_stop_118 : decode cX7_stop 118 = .ok (.iload 4, 2) := by decide +kernel
theorem dX7_stop_120 : decode cX7_stop 120 = .ok (.iload 5, 2) := by decide +kernel
theorem dX7_stop_122 : decode cX7_stop 122 = .ok (.iload 6, 2) := by decide +kernel
theorem dX7_stop_124 : decode cX7_stop 124 = .ok (.invokevirtual 78, 3) := by decide +kernel
theorem dX7_stop_127 : decode cX7_stop 127 = .ok (.goto 5, 3) := by decide +kernel
theorem dX7_stop_130 : decode cX7_stop 130 = .ok (.bipush (-4), 2) := by decide +kernel
theorem dX7_stop_132 : decode cX7_stop 132 = .ok (.ireturn, 1) := by decide +kernel
theorem dX7_feed_0 : decode cX7_feed 0 = .ok (.iload_n 1, 1) := by decide +kernel
theorem dX7_feed_1 : decode cX7_feed 1 = .ok (.bipush 127, 2) := by decide +kernel
theorem dX7_feed_3 : decode cX7_feed 3 = .ok (.invokestatic 63, 3) := by decide +kernel
theorem dX7_feed_6 : decode cX7_feed 6 = .ok (.ifCond .ne 6, 3) := by decide +kernel
theorem dX7_feed_9 : decode cX7_feed 9 = .ok (.bipush (-2), 2) := by decide +kernel
theorem dX7_feed_11 : decode cX7_feed 11 = .ok (.ireturn, 1) := by decide +kernel
theorem dX7_feed_12 : decode cX7_feed 12 = .ok (.aload_n 0, 1) := by decide +kernel
theorem dX7_feed_13 : decode cX7_feed 13 = .ok (.getfield 48, 3) := by decide +kernel
theorem dX7_feed_16 : decode cX7_feed 16 = .ok (.getfield 82, 3) := by decide +kernel
theorem dX7_feed_19 : decode cX7_feed 19 = .ok (.bipush 100, 2) := by decide +kernel
theorem dX7_feed_21 : decode cX7_feed 21 = .ok (.if_icmp .ge 14, 3) := by decide +kernel
theorem dX7_feed_24 : decode cX7_feed 24 = .ok (.aload_n 0, 1) := by decide +kernel
theorem dX7_feed_25 : decode cX7_feed 25 = .ok (.getfield 48, 3) := by decide +kernel
theorem dX7_feed_28 : decode cX7_feed 28 = .ok (.iload_n 1, 1) := by decide +kernel
theorem dX7_feed_29 : decode cX7_feed 29 = .ok (.invokevirtual 85, 3) := by decide +kernel
theorem dX7_feed_32 : decode cX7_feed 32 = .ok (.goto 5, 3) := by decide +kernel
theorem dX7_feed_35 : decode cX7_feed 35 = .ok (.bipush (-4), 2) := by decide +kernel
theorem dX7_feed_37 : decode cX7_feed 37 = .ok (.ireturn, 1) := by decide +kernel
theorem dX7_read_0 : decode cX7_read 0 = .ok (.aload_n 0, 1) := by decide +kernel
theorem dX7_read_1 : decode cX7_read 1 = .ok (.getfield 48, 3) := by decide +kernel
theorem dX7_read_4 : decode cX7_read 4 = .ok (.invokevirtual 89, 3) := by decide +kernel
theorem dX7_read_7 : decode cX7_read 7 = .ok (.istore_n 1, 1) := by decide +kernel
theorem dX7_read_8 : decode cX7_read 8 = .ok (.aload_n 0, 1) := by decide +kernel
theorem dX7_read_9 : decode cX7_read 9 = .ok (.getfield 48, 3) := by decide +kernel
theorem dX7_read_12 : decode cX7_read 12 = .ok (.iconst 0, 1) := by decide +kernel
theorem dX7_read_13 : decode cX7_read 13 = .ok (.putfield 82, 3) := by decide +kernel
theorem dX7_read_16 : decode cX7_read 16 = .ok (.iload_n 1, 1) := by decide +kernel
theorem dX7_read_17 : decode cX7_read 17 = .ok (.ifCond .lt 8, 3) := by decide +kernel
theorem dX7_read_20 : decode cX7_read 20 = .ok (.bipush (-10), 2) := by decide +kernel
theorem dX7_read_22 : decode cX7_read 22 = .ok (.iload_n 1, 1) := by decide +kernel
theorem dX7_read_23 : decode cX7_read 23 = .ok (.isub, 1) := by decide +kernel
theorem dX7_read_24 : decode cX7_read 24 = .ok (.ireturn, 1) := by decide +kernel
theorem dX7_read_25 : decode cX7_read 25 = .ok (.aload_n 0, 1) := by decide +kernel
theorem dX7_read_26 : decode cX7_read 26 = .ok (.getfield 14, 3) := by decide +kernel
theorem dX7_read_29 : decode cX7_read 29 = .ok (.getfield 75, 3) := by decide +kernel
theorem dX7_read_32 : decode cX7_read 32 = .ok (.istore_n 2, 1) := by decide +kernel
theorem dX7_read_33 : decode cX7_read 33 = .ok (.iconst 0, 1) := by decide +kernel
theorem dX7_read_34 : decode cX7_read 34 = .ok (.istore_n 3, 1) := by decide +kernel
theorem dX7_read_35 : decode cX7_read 35 = .ok (.iload_n 3, 1) := by decide +kernel
theorem dX7_read_36 : decode cX7_read 36 = .ok (.aload_n 0, 1) := by decide +kernel
theorem dX7_read_37 : decode cX7_read 37 = .ok (.getfield 48, 3) := by decide +kernel
theorem dX7_read_40 : decode cX7_read 40 = .ok (.getfield 93, 3) := by decide +kernel
theorem dX7_read_43 : decode cX7_read 43 = .ok (.if_icmp .ge 83, 3) := by decide +kernel
theorem dX7_read_46 : decode cX7_read 46 = .ok (.aload_n 0, 1) := by decide +kernel
theorem dX7_read_47 : decode cX7_read 47 = .ok (.getfield 14, 3) := by decide +kernel
theorem dX7_read_50 : decode cX7_read 50 = .ok (.getfield 75, 3) := by decide +kernel
theorem dX7_read_53 : decode cX7_read 53 = .ok (.bipush 16, 2) := by decide +kernel
theorem dX7_read_55 : decode cX7_read 55 = .ok (.if_icmp .ge 71, 3) := by decide +kernel
theorem dX7_read_58 : decode cX7_read 58 = .ok (.aload_n 0, 1) := by decide +kernel
theorem dX7_read_59 : decode cX7_read 59 = .ok (.getfield 14, 3) := by decide +kernel
theorem dX7_read_62 : decode cX7_read 62 = .ok (.aload_n 0, 1) := by decide +kernel
theorem dX7_read_63 : decode cX7_read 63 = .ok (.getfield 48, 3) := by decide +kernel
theorem dX7_read_66 : decode cX7_read 66 = .ok (.iload_n 3, 1) := by decide +kernel
theorem dX7_read_67 : decode cX7_read 67 = .ok (.iconst 0, 1) := by decide +kernel
theorem dX7_read_68 : decode cX7_read 68 = .ok (.invokevirtual 96, 3) := by decide +kernel
theorem dX7_read_71 : decode cX7_read 71 = .ok (.aload_n 0, 1) := by decide +kernel
theorem dX7_read_72 : decode cX7_read 72 = .ok (.getfield 48, 3) := by decide +kernel
theorem dX7_read_75 : decode cX7_read 75 = .ok (.iload_n 3, 1) := by decide +kernel
theorem dX7_read_76 : decode cX7_read 76 = .ok (.iconst 1, 1) := by decide +kernel
theorem dX7_read_77 : decode cX7_read 77 = .ok (.invokevirtual 96, 3) := by decide +kernel
theorem dX7_read_80 : decode cX7_read 80 = .ok (.aload_n 0, 1) := by decide +kernel
theorem dX7_read_81 : decode cX7_read 81 = .ok (.getfield 48, 3) := by decide +kernel
theorem dX7_read_84 : decode cX7_read 84 = .ok (.iload_n 3, 1) := by decide +kernel
theorem dX7_read_85 : decode cX7_read 85 = .ok (.iconst 2, 1) := by decide +kernel
theorem dX7_read_86 : decode cX7_read 86 = .ok (.invokevirtual 96, 3) := by decide +kernel
theorem dX7_read_89 : decode cX7_read 89 = .ok (.aload_n 0, 1) := by decide +kernel
theorem dX7_read_90 : decode cX7_read 90 = .ok (.getfield 48, 3) := by decide +kernel
theorem dX7_read_93 : decode cX7_read 93 = .ok (.iload_n 3, 1) := by decide +kernel
theorem dX7_read_94 : decode cX7_read 94 = .ok (.iconst 3, 1) := by decide +kernel
theorem dX7_read_95 : decode cX7_read 95 = .ok (.invokevirtual 96, 3) := by decide +kernel
theorem dX7_read_98 : decode cX7_read 98 = .ok (.aload_n 0, 1) := by decide +kernel
theorem dX7_read_99 : decode cX7_read 99 = .ok (.getfield 48, 3) := by decide +kernel
theorem dX7_read_102 : decode cX7_read 102 = .ok (.iload_n 3, 1) := by decide +kernel
theorem dX7_read_103 : decode cX7_read 103 = .ok (.iconst 4, 1) := by decide +kernel
theorem dX7_read_104 : decode cX7_read 104 = .ok (.invokevirtual 96, 3) := by decide +kernel
theorem dX7_read_107 : decode cX7_read 107 = .ok (.aload_n 0, 1) := by decide +kernel
theorem dX7_read_108 : decode cX7_read 108 = .ok (.getfield 48, 3) := by decide +kernel
theorem dX7_read_111 : decode cX7_read 111 = .ok (.iload_n 3, 1) := by decide +kernel
theorem dX7_read_112 : decode cX7_read 112 = .ok (.iconst 5, 1) := by decide +kernel
theorem dX7_read_113 : decode cX7_read 113 = .ok (.invokevirtual 96, 3) := by decide +kernel
theorem dX7_read_116 : decode cX7_read 116 = .ok (.invokevirtual 78, 3) := by decide +kernel
theorem dX7_read_119 : decode cX7_read 119 = .ok (.pop, 1) := by decide +kernel
theorem dX7_read_120 : decode cX7_read 120 = .ok (.iinc 3 1, 3) := by decide +kernel
theorem dX7_read_123 : decode cX7_read 123 = .ok (.goto (-88), 3) := by decide +kernel
theorem dX7_read_126 : decode cX7_read 126 = .ok (.aload_n 0, 1) := by decide +kernel
theorem dX7_read_127 : decode cX7_read 127 = .ok (.getfield 14, 3) := by decide +kernel
theorem dX7_read_130 : decode cX7_read 130 = .ok (.getfield 75, 3) := by decide +kernel
theorem dX7_read_133 : decode cX7_read 133 = .ok (.iload_n 2, 1) := by decide +kernel
theorem dX7_read_134 : decode cX7_read 134 = .ok (.isub, 1) := by decide +kernel
theorem dX7_read_135 : decode cX7_read 135 = .ok (.ireturn, 1) := by decide +kernel
theorem dX7_set_0 : decode cX7_set 0 = .ok (.aload_n 0, 1) := by decide +kernel
theorem dX7_set_1 : decode cX7_set 1 = .ok (.getfield 14, 3) := by decide +kernel
theorem dX7_set_4 : decode cX7_set 4 = .ok (.iload_n 1, 1) := by decide +kernel
theorem dX7_set_5 : decode cX7_set 5 = .ok (.invokevirtual 100, 3) := by decide +kernel
theorem dX7_set_8 : decode cX7_set 8 = .ok (.ifCond .eq 11, 3) := by decide +kernel
theorem dX7_set_11 : decode cX7_set 11 = .ok (.iload_n 2, 1) := by decide +kernel
theorem dX7_set_12 : decode cX7_set 12 = .ok (.iconst 5, 1) := by decide +kernel
theorem dX7_set_13 : decode cX7_set 13 = .ok (.invokestatic 63, 3) := by decide +kernel
theorem dX7_set_16 : decode cX7_set 16 = .ok (.ifCond .ne 5, 3) := by decide +kernel
theorem dX7_set_19 : decode cX7_set 19 = .ok (.iconst (-1), 1) := by decide +kernel
theorem dX7_set_20 : decode cX7_set 20 = .ok (.ireturn, 1) := by decide +kernel
theorem dX7_set_21 : decode cX7_set 21 = .ok (.aload_n 0, 1) := by decide +kernel
theorem dX7_set_22 : decode cX7_set 22 = .ok (.getfield 14, 3) := by decide +kernel
theorem dX7_set_25 : decode cX7_set 25 = .ok (.iload_n 1, 1) := by decide +kernel
theorem dX7_set_26 : decode cX7_set 26 = .ok (.iload_n 2, 1) := by decide +kernel
theorem dX7_set_27 : decode cX7_set 27 = .ok (.iload_n 3, 1) := by decide +kernel
theorem dX7_set_28 : decode cX7_set 28 = .ok (.invokevirtual 104, 3) := by decide +kernel
theorem dX7_set_31 : decode cX7_set 31 = .ok (.ifCond .ne 6, 3) := by decide +kernel
theorem dX7_set_34 : decode cX7_set 34 = .ok (.bipush (-2), 2) := by decide +kernel
theorem dX7_set_36 : decode cX7_set 36 = .ok (.ireturn, 1) := by decide +kernel
theorem dX7_set_37 : decode cX7_set 37 = .ok (.aload_n 0, 1) := by decide +kernel
theorem dX7_set_38 : decode cX7_set 38 = .ok (.getfield 14, 3) := by decide +kernel
theorem dX7_set_41 : decode cX7_set 41 = .ok (.iload_n 1, 1) := by decide +kernel
theorem dX7_set_42 : decode cX7_set 42 = .ok (.iload_n 2, 1) := by decide +kernel
theorem dX7_set_43 : decode cX7_set 43 = .ok (.invokevirtual 108, 3) := by decide +kernel
theorem dX7_set_46 : decode cX7_set 46 = .ok (.istore 4, 2) := by decide +kernel
theorem dX7_set_48 : decode cX7_set 48 = .ok (.aload_n 0, 1) := by decide +kernel
theorem dX7_set_49 : decode cX7_set 49 = .ok (.getfield 14, 3) := by decide +kernel
theorem dX7_set_52 : decode cX7_set 52 = .ok (.iload_n 1, 1) := by decide +kernel
theorem dX7_set_53 : decode cX7_set 53 = .ok (.iload_n 2, 1) := by decide +kernel
theorem dX7_set_54 : decode cX7_set 54 = .ok (.iload_n 3, 1) := by decide +kernel
theorem dX7_set_55 : decode cX7_set 55 = .ok (.invokevirtual 111, 3) := by decide +kernel
theorem dX7_set_58 : decode cX7_set 58 = .ok (.aload_n 0, 1) := by decide +kernel
theorem dX7_set_59 : decode cX7_set 59 = .ok (.aload_n 0, 1) := by decide +kernel
theorem dX7_set_60 : decode cX7_set 60 = .ok (.getfield 14, 3) := by decide +kernel
theorem dX7_set_63 : decode cX7_set 63 = .ok (.iload_n 1, 1) := by decide +kernel
theorem dX7_set_64 : decode cX7_set 64 = .ok (.invokevirtual 115, 3) := by decide +kernel
theorem dX7_set_67 : decode cX7_set 67 = .ok (.invokevirtual 118, 3) := by decide +kernel
theorem dX7_set_70 : decode cX7_set 70 = .ok (.ifCond .ne 17, 3) := by decide +kernel
theorem dX7_set_73 : decode cX7_set 73 = .ok (.aload_n 0, 1) := by decide +kernel
theorem dX7_set_74 : decode cX7_set 74 = .ok (.getfield 14, 3) := by decide +kernel
theorem dX7_set_77 : decode cX7_set 77 = .ok (.iload_n 1, 1) := by decide +kernel
theorem dX7_set_78 : decode cX7_set 78 = .ok (.iload_n 2, 1) := by decide +kernel
theorem dX7_set_79 : decode cX7_set 79 = .ok (.iload 4, 2) := by decide +kernel
theorem dX7_set_81 : decode cX7_set 81 = .ok (.invokevirtual 111, 3) := by decide +kernel
theorem dX7_set_84 : decode cX7_set 84 = .ok (.bipush (-3), 2) := by decide +kernel
theorem dX7_set_86 : decode cX7_set 86 = .ok (.ireturn, 1) := by decide +kernel
theorem dX7_set_87 : decode cX7_set 87 = .ok (.iload 4, 2) := by decide +kernel
theorem dX7_set_89 : decode cX7_set 89 = .ok (.ireturn, 1) := by decide +kernel
theorem dX7_of_0 : decode cX7_of 0 = .ok (.aload_n 0, 1) := by decide +kernel
theorem dX7_of_1 : decode cX7_of 1 = .ok (.getfield 14, 3) := by decide +kernel
theorem dX7_of_4 : decode cX7_of 4 = .ok (.iload_n 1, 1) := by decide +kernel
theorem dX7_of_5 : decode cX7_of 5 = .ok (.invokevirtual 100, 3) := by decide +kernel
theorem dX7_of_8 : decode cX7_of 8 = .ok (.ifCond .eq 12, 3) := by decide +kernel
theorem dX7_of_11 : decode cX7_of 11 = .ok (.iload_n 2, 1) := by decide +kernel
theorem dX7_of_12 : decode cX7_of 12 = .ok (.bipush 11, 2) := by decide +kernel
theorem dX7_of_14 : decode cX7_of 14 = .ok (.invokestatic 63, 3) := by decide +kernel
theorem dX7_of_17 : decode cX7_of 17 = .ok (.ifCond .ne 5, 3) := by decide +kernel
theorem dX7_of_20 : decode cX7_of 20 = .ok (.iconst (-1), 1) := by decide +kernel
theorem dX7_of_21 : decode cX7_of 21 = .ok (.ireturn, 1) := by decide +kernel
theorem dX7_of_22 : decode cX7_of 22 = .ok (.iload_n 2, 1) := by decide +kernel
theorem dX7_of_23 : decode cX7_of 23 = .ok (.iconst 5, 1) := by decide +kernel
theorem dX7_of_24 : decode cX7_of 24 = .ok (.if_icmp .gt 13, 3) := by decide +kernel
theorem dX7_of_27 : decode cX7_of 27 = .ok (.aload_n 0, 1) := by decide +kernel
theorem dX7_of_28 : decode cX7_of 28 = .ok (.getfield 14, 3) := by decide +kernel
theorem dX7_of_31 : decode cX7_of 31 = .ok (.iload_n 1, 1) := by decide +kernel
theorem dX7_of_32 : decode cX7_of 32 = .ok (.iload_n 2, 1) := by decide +kernel
theorem dX7_of_33 : decode cX7_of 33 = .ok (.invokevirtual 108, 3) := by decide +kernel
theorem dX7_of_36 : decode cX7_of 36 = .ok (.ireturn, 1) := by decide +kernel
theorem dX7_of_37 : decode cX7_of 37 = .ok (.aload_n 0, 1) := by decide +kernel
theorem dX7_of_38 : decode cX7_of 38 = .ok (.getfield 14, 3) := by decide +kernel
theorem dX7_of_41 : decode cX7_of 41 = .ok (.iload_n 1, 1) := by decide +kernel
theorem dX7_of_42 : decode cX7_of 42 = .ok (.invokevirtual 115, 3) := by decide +kernel
theorem dX7_of_45 : decode cX7_of 45 = .ok (.istore_n 3, 1) := by decide +kernel
theorem dX7_of_46 : decode cX7_of 46 = .ok (.iload_n 2, 1) := by decide +kernel
theorem dX7_of_47 : decode cX7_of 47 = .ok (.bipush 8, 2) := by decide +kernel
theorem dX7_of_49 : decode cX7_of 49 = .ok (.if_icmp .ne 20, 3) := by decide +kernel
theorem dX7_of_52 : decode cX7_of 52 = .ok (.aload_n 0, 1) := by decide +kernel
theorem dX7_of_53 : decode cX7_of 53 = .ok (.getfield 14, 3) := by decide +kernel
theorem dX7_of_56 : decode cX7_of 56 = .ok (.iload_n 1, 1) := by decide +kernel
theorem dX7_of_57 : decode cX7_of 57 = .ok (.invokevirtual 121, 3) := by decide +kernel
theorem dX7_of_60 : decode cX7_of 60 = .ok (.ifCond .eq 7, 3) := by decide +kernel
theorem dX7_of_63 : decode cX7_of 63 = .ok (.iconst 1, 1) := by decide +kernel
theorem dX7_of_64 : decode cX7_of 64 = .ok (.goto 4, 3) := by decide +kernel
theorem dX7_of_67 : decode cX7_of 67 = .ok (.iconst 0, 1) := by decide +kernel
theorem dX7_of_68 : decode cX7_of 68 = .ok (.ireturn, 1) := by decide +kernel
theorem dX7_of_69 : decode cX7_of 69 = .ok (.iload_n 2, 1) := by decide +kernel
theorem dX7_of_70 : decode cX7_of 70 = .ok (.bipush 6, 2) := by decide +kernel
theorem dX7_of_72 : decode cX7_of 72 = .ok (.if_icmp .eq 9, 3) := by decide +kernel
theorem dX7_of_75 : decode cX7_of 75 = .ok (.iload_n 3, 1) := by decide +kernel
theorem dX7_of_76 : decode cX7_of 76 = .ok (.bipush (-5), 2) := by decide +kernel
theorem dX7_of_78 : decode cX7_of 78 = .ok (.if_icmp .ne 5, 3) := by decide +kernel
theorem dX7_of_81 : decode cX7_of 81 = .ok (.iload_n 3, 1) := by decide +kernel
theorem dX7_of_82 : decode cX7_of 82 = .ok (.ireturn, 1) := by decide +kernel
theorem dX7_of_83 : decode cX7_of 83 = .ok (.aload_n 0, 1) := by decide +kernel
theorem dX7_of_84 : decode cX7_of 84 = .ok (.getfield 14, 3) := by decide +kernel
theorem dX7_of_87 : decode cX7_of 87 = .ok (.iload_n 1, 1) := by decide +kernel
theorem dX7_of_88 : decode cX7_of 88 = .ok (.invokevirtual 124, 3) := by decide +kernel
theorem dX7_of_91 : decode cX7_of 91 = .ok (.istore 4, 2) := by decide +kernel
theorem dX7_of_93 : decode cX7_of 93 = .ok (.iload_n 2, 1) := by decide +kernel
theorem dX7_of_94 : decode cX7_of 94 = .ok (.bipush 7, 2) := by decide +kernel
theorem dX7_of_96 : decode cX7_of 96 = .ok (.if_icmp .ne 8, 3) := by decide +kernel
theorem dX7_of_99 : decode cX7_of 99 = .ok (.iload 4, 2) := by decide +kernel
theorem dX7_of_101 : decode cX7_of 101 = .ok (.goto 11, 3) := by decide +kernel
theorem dX7_of_104 : decode cX7_of 104 = .ok (.aload_n 0, 1) := by decide +kernel
theorem dX7_of_105 : decode cX7_of 105 = .ok (.iload_n 3, 1) := by decide +kernel
theorem dX7_of_106 : decode cX7_of 106 = .ok (.iload 4, 2) := by decide +kernel
theorem dX7_of_108 : decode cX7_of 108 = .ok (.iload_n 2, 1) := by decide +kernel
theorem dX7_of_109 : decode cX7_of 109 = .ok (.invokevirtual 127, 3) := by decide +kernel
theorem dX7_of_112 : decode cX7_of 112 = .ok (.ireturn, 1) := by decide +kernel
theorem dX7_lock_0 : decode cX7_lock 0 = .ok (.aload_n 0, 1) := by decide +kernel
theorem dX7_lock_1 : decode cX7_lock 1 = .ok (.getfield 14, 3) := by decide +kernel
theorem dX7_lock_4 : decode cX7_lock 4 = .ok (.iload_n 1, 1) := by decide +kernel
theorem dX7_lock_5 : decode cX7_lock 5 = .ok (.invokevirtual 100, 3) := by decide +kernel
theorem dX7_lock_8 : decode cX7_lock 8 = .ok (.ifCond .ne 5, 3) := by decide +kernel
theorem dX7_lock_11 : decode cX7_lock 11 = .ok (.iconst (-1), 1) := by decide +kernel
theorem dX7_lock_12 : decode cX7_lock 12 = .ok (.ireturn, 1) := by decide +kernel
theorem dX7_lock_13 : decode cX7_lock 13 = .ok (.aload_n 0, 1) := by decide +kernel
theorem dX7_lock_14 : decode cX7_lock 14 = .ok (.getfield 14, 3) := by decide +kernel
theorem dX7_lock_17 : decode cX7_lock 17 = .ok (.iload_n 1, 1) := by decide +kernel
theorem dX7_lock_18 : decode cX7_lock 18 = .ok (.invokevirtual 115, 3) := by decide +kernel
theorem dX7_lock_21 : decode cX7_lock 21 = .ok (.bipush (-5), 2) := by decide +kernel
theorem dX7_lock_23 : decode cX7_lock 23 = .ok (.if_icmp .ne 6, 3) := by decide +kernel
theorem dX7_lock_26 : decode cX7_lock 26 = .ok (.bipush (-3), 2) := by decide +kernel
theorem dX7_lock_28 : decode cX7_lock 28 = .ok (.ireturn, 1) := by decide +kernel
theorem dX7_lock_29 : decode cX7_lock 29 = .ok (.aload_n 0, 1) := by decide +kernel
theorem dX7_lock_30 : decode cX7_lock 30 = .ok (.getfield 14, 3) := by decide +kernel
theorem dX7_lock_33 : decode cX7_lock 33 = .ok (.iload_n 1, 1) := by decide +kernel
theorem dX7_lock_34 : decode cX7_lock 34 = .ok (.invokevirtual 121, 3) := by decide +kernel
theorem dX7_lock_37 : decode cX7_lock 37 = .ok (.istore_n 3, 1) := by decide +kernel
theorem dX7_lock_38 : decode cX7_lock 38 = .ok (.aload_n 0, 1) := by decide +kernel
theorem dX7_lock_39 : decode cX7_lock 39 = .ok (.getfield 14, 3) := by decide +kernel
theorem dX7_lock_42 : decode cX7_lock 42 = .ok (.iload_n 1, 1) := by decide +kernel
theorem dX7_lock_43 : decode cX7_lock 43 = .ok (.iload_n 2, 1) := by decide +kernel
theorem dX7_lock_44 : decode cX7_lock 44 = .ok (.invokevirtual 131, 3) := by decide +kernel
theorem dX7_lock_47 : decode cX7_lock 47 = .ok (.iload_n 3, 1) := by decide +kernel
theorem dX7_lock_48 : decode cX7_lock 48 = .ok (.ifCond .eq 7, 3) := by decide +kernel
theorem dX7_lock_51 : decode cX7_lock 51 = .ok (.iconst 1, 1) := by decide +kernel
theorem dX7_lock_52 : decode cX7_lock 52 = .ok (.goto 4, 3) := by decide +kernel
theorem dX7_lock_55 : decode cX7_lock 55 = .ok (.iconst 0, 1) := by decide +kernel
theorem dX7_lock_56 : decode cX7_lock 56 = .ok (.ireturn, 1) := by decide +kernel
theorem dX7_depot_0 : decode cX7_depot 0 = .ok (.iload_n 1, 1) := by decide +kernel
theorem dX7_depot_1 : decode cX7_depot 1 = .ok (.bipush 63, 2) := by decide +kernel
theorem dX7_depot_3 : decode cX7_depot 3 = .ok (.invokestatic 63, 3) := by decide +kernel
theorem dX7_depot_6 : decode cX7_depot 6 = .ok (.ifCond .eq 12, 3) := by decide +kernel
theorem dX7_depot_9 : decode cX7_depot 9 = .ok (.iload_n 2, 1) := by decide +kernel
theorem dX7_depot_10 : decode cX7_depot 10 = .ok (.bipush 63, 2) := by decide +kernel
theorem dX7_depot_12 : decode cX7_depot 12 = .ok (.invokestatic 63, 3) := by decide +kernel
theorem dX7_depot_15 : decode cX7_depot 15 = .ok (.ifCond .ne 6, 3) := by decide +kernel
theorem dX7_depot_18 : decode cX7_depot 18 = .ok (.bipush (-2), 2) := by decide +kernel
theorem dX7_depot_20 : decode cX7_depot 20 = .ok (.ireturn, 1) := by decide +kernel
theorem dX7_depot_21 : decode cX7_depot 21 = .ok (.aload_n 0, 1) := by decide +kernel
theorem dX7_depot_22 : decode cX7_depot 22 = .ok (.getfield 14, 3) := by decide +kernel
theorem dX7_depot_25 : decode cX7_depot 25 = .ok (.bipush 16, 2) := by decide +kernel
theorem dX7_depot_27 : decode cX7_depot 27 = .ok (.iconst 0, 1) := by decide +kernel
theorem dX7_depot_28 : decode cX7_depot 28 = .ok (.invokevirtual 108, 3) := by decide +kernel
theorem dX7_depot_31 : decode cX7_depot 31 = .ok (.istore_n 3, 1) := by decide +kernel
theorem dX7_depot_32 : decode cX7_depot 32 = .ok (.aload_n 0, 1) := by decide +kernel
theorem dX7_depot_33 : decode cX7_depot 33 = .ok (.getfield 14, 3) := by decide +kernel
theorem dX7_depot_36 : decode cX7_depot 36 = .ok (.bipush 16, 2) := by decide +kernel
theorem dX7_depot_38 : decode cX7_depot 38 = .ok (.iconst 1, 1) := by decide +kernel
theorem dX7_depot_39 : decode cX7_depot 39 = .ok (.invokevirtual 108, 3) := by decide +kernel
theorem dX7_depot_42 : decode cX7_depot 42 = .ok (.istore 4, 2) := by decide +kernel
theorem dX7_depot_44 : decode cX7_depot 44 = .ok (.aload_n 0, 1) := by decide +kernel
theorem dX7_depot_45 : decode cX7_depot 45 = .ok (.getfield 14, 3) := by decide +kernel
theorem dX7_depot_48 : decode cX7_depot 48 = .ok (.iload_n 1, 1) := by decide +kernel
theorem dX7_depot_49 : decode cX7_depot 49 = .ok (.iload_n 2, 1) := by decide +kernel
theorem dX7_depot_50 : decode cX7_depot 50 = .ok (.invokevirtual 135, 3) := by decide +kernel
theorem dX7_depot_53 : decode cX7_depot 53 = .ok (.aload_n 0, 1) := by decide +kernel
theorem dX7_depot_54 : decode cX7_depot 54 = .ok (.invokevirtual 139, 3) := by decide +kernel
theorem dX7_depot_57 : decode cX7_depot 57 = .ok (.ifCond .ne 16, 3) := by decide +kernel
theorem dX7_depot_60 : decode cX7_depot 60 = .ok (.aload_n 0, 1) := by decide +kernel
theorem dX7_depot_61 : decode cX7_depot 61 = .ok (.getfield 14, 3) := by decide +kernel
theorem dX7_depot_64 : decode cX7_depot 64 = .ok (.iload_n 3, 1) := by decide +kernel
theorem dX7_depot_65 : decode cX7_depot 65 = .ok (.iload 4, 2) := by decide +kernel
theorem dX7_depot_67 : decode cX7_depot 67 = .ok (.invokevirtual 135, 3) := by decide +kernel
theorem dX7_depot_70 : decode cX7_depot 70 = .ok (.bipush (-3), 2) := by decide +kernel
theorem dX7_depot_72 : decode cX7_depot 72 = .ok (.ireturn, 1) := by decide +kernel
theorem dX7_depot_73 : decode cX7_depot 73 = .ok (.aload_n 0, 1) := by decide +kernel
theorem dX7_depot_74 : decode cX7_depot 74 = .ok (.getfield 14, 3) := by decide +kernel
theorem dX7_depot_77 : decode cX7_depot 77 = .ok (.iload_n 3, 1) := by decide +kernel
theorem dX7_depot_78 : decode cX7_depot 78 = .ok (.iload 4, 2) := by decide +kernel
theorem dX7_depot_80 : decode cX7_depot 80 = .ok (.iload_n 1, 1) := by decide +kernel
theorem dX7_depot_81 : decode cX7_depot 81 = .ok (.iload_n 2, 1) := by decide +kernel
theorem dX7_depot_82 : decode cX7_depot 82 = .ok (.invokevirtual 143, 3) := by decide +kernel
theorem dX7_depot_85 : decode cX7_depot 85 = .ok (.ireturn, 1) := by decide +kernel
theorem dX7_rule_0 : decode cX7_rule 0 = .ok (.iload_n 1, 1) := by decide +kernel
theorem dX7_rule_1 : decode cX7_rule 1 = .ok (.invokestatic 147, 3) := by decide +kernel
theorem dX7_rule_4 : decode cX7_rule 4 = .ok (.ifCond .eq 11, 3) := by decide +kernel
theorem dX7_rule_7 : decode cX7_rule 7 = .ok (.iload_n 2, 1) := by decide +kernel
theorem dX7_rule_8 : decode cX7_rule 8 = .ok (.iconst 2, 1) := by decide +kernel
theorem dX7_rule_9 : decode cX7_rule 9 = .ok (.invokestatic 63, 3) := by decide +kernel
theorem dX7_rule_12 : decode cX7_rule 12 = .ok (.ifCond .ne 5, 3) := by decide +kernel
theorem dX7_rule_15 : decode cX7_rule 15 = .ok (.iconst (-1), 1) := by decide +kernel
theorem dX7_rule_16 : decode cX7_rule 16 = .ok (.ireturn, 1) := by decide +kernel
theorem dX7_rule_17 : decode cX7_rule 17 = .ok (.iload_n 3, 1) := by decide +kernel
theorem dX7_rule_18 : decode cX7_rule 18 = .ok (.getstatic 150, 3) := by decide +kernel
theorem dX7_rule_21 : decode cX7_rule 21 = .ok (.iload_n 2, 1) := by decide +kernel
theorem dX7_rule_22 : decode cX7_rule 22 = .ok (.invokestatic 71, 3) := by decide +kernel
theorem dX7_rule_25 : decode cX7_rule 25 = .ok (.invokestatic 63, 3) := by decide +kernel
theorem dX7_rule_28 : decode cX7_rule 28 = .ok (.ifCond .ne 6, 3) := by decide +kernel
theorem dX7_rule_31 : decode cX7_rule 31 = .ok (.bipush (-2), 2) := by decide +kernel
theorem dX7_rule_33 : decode cX7_rule 33 = .ok (.ireturn, 1) := by decide +kernel
theorem dX7_rule_34 : decode cX7_rule 34 = .ok (.aload_n 0, 1) := by decide +kernel
theorem dX7_rule_35 : decode cX7_rule 35 = .ok (.getfield 14, 3) := by decide +kernel
theorem dX7_rule_38 : decode cX7_rule 38 = .ok (.iload_n 1, 1) := by decide +kernel
theorem dX7_rule_39 : decode cX7_rule 39 = .ok (.iload_n 2, 1) := by decide +kernel
theorem dX7_rule_40 : decode cX7_rule 40 = .ok (.invokevirtual 153, 3) := by decide +kernel
theorem dX7_rule_43 : decode cX7_rule 43 = .ok (.istore 4, 2) := by decide +kernel
theorem dX7_rule_45 : decode cX7_rule 45 = .ok (.aload_n 0, 1) := by decide +kernel
theorem dX7_rule_46 : decode cX7_rule 46 = .ok (.getfield 14, 3) := by decide +kernel
theorem dX7_rule_49 : decode cX7_rule 49 = .ok (.iload_n 1, 1) := by decide +kernel
theorem dX7_rule_50 : decode cX7_rule 50 = .ok (.iload_n 2, 1) := by decide +kernel
theorem dX7_rule_51 : decode cX7_rule 51 = .ok (.iload_n 3, 1) := by decide +kernel
theorem dX7_rule_52 : decode cX7_rule 52 = .ok (.invokevirtual 156, 3) := by decide +kernel
theorem dX7_rule_55 : decode cX7_rule 55 = .ok (.aload_n 0, 1) := by decide +kernel
theorem dX7_rule_56 : decode cX7_rule 56 = .ok (.iload_n 1, 1) := by decide +kernel
theorem dX7_rule_57 : decode cX7_rule 57 = .ok (.invokevirtual 118, 3) := by decide +kernel
theorem dX7_rule_60 : decode cX7_rule 60 = .ok (.ifCond .ne 17, 3) := by decide +kernel
theorem dX7_rule_63 : decode cX7_rule 63 = .ok (.aload_n 0, 1) := by decide +kernel
theorem dX7_rule_64 : decode cX7_rule 64 = .ok (.getfield 14, 3) := by decide +kernel
theorem dX7_rule_67 : decode cX7_rule 67 = .ok (.iload_n 1, 1) := by decide +kernel
theorem dX7_rule_68 : decode cX7_rule 68 = .ok (.iload_n 2, 1) := by decide +kernel
theorem dX7_rule_69 : decode cX7_rule 69 = .ok (.iload 4, 2) := by decide +kernel
theorem dX7_rule_71 : decode cX7_rule 71 = .ok (.invokevirtual 156, 3) := by decide +kernel
theorem dX7_rule_74 : decode cX7_rule 74 = .ok (.bipush (-3), 2) := by decide +kernel
theorem dX7_rule_76 : decode cX7_rule 76 = .ok (.ireturn, 1) := by decide +kernel
theorem dX7_rule_77 : decode cX7_rule 77 = .ok (.iload 4, 2) := by decide +kernel
theorem dX7_rule_79 : decode cX7_rule 79 = .ok (.ireturn, 1) := by decide +kernel
theorem dX7_price_0 : decode cX7_price 0 = .ok (.iload_n 1, 1) := by decide +kernel
theorem dX7_price_1 : decode cX7_price 1 = .ok (.iconst 1, 1) := by decide +kernel
theorem dX7_price_2 : decode cX7_price 2 = .ok (.invokestatic 63, 3) := by decide +kernel
theorem dX7_price_5 : decode cX7_price 5 = .ok (.ifCond .ne 5, 3) := by decide +kernel
theorem dX7_price_8 : decode cX7_price 8 = .ok (.iconst (-1), 1) := by decide +kernel
theorem dX7_price_9 : decode cX7_price 9 = .ok (.ireturn, 1) := by decide +kernel
theorem dX7_price_10 : decode cX7_price 10 = .ok (.iload_n 2, 1) := by decide +kernel
theorem dX7_price_11 : decode cX7_price 11 = .ok (.iload_n 1, 1) := by decide +kernel
theorem dX7_price_12 : decode cX7_price 12 = .ok (.ifCond .ne 7, 3) := by decide +kernel
theorem dX7_price_15 : decode cX7_price 15 = .ok (.iconst 2, 1) := by decide +kernel
theorem dX7_price_16 : decode cX7_price 16 = .ok (.goto 5, 3) := by decide +kernel
theorem dX7_price_19 : decode cX7_price 19 = .ok (.bipush 99, 2) := by decide +kernel
theorem dX7_price_21 : decode cX7_price 21 = .ok (.invokestatic 63, 3) := by decide +kernel
theorem dX7_price_24 : decode cX7_price 24 = .ok (.ifCond .ne 6, 3) := by decide +kernel
theorem dX7_price_27 : decode cX7_price 27 = .ok (.bipush (-2), 2) := by decide +kernel
theorem dX7_price_29 : decode cX7_price 29 = .ok (.ireturn, 1) := by decide +kernel
theorem dX7_price_30 : decode cX7_price 30 = .ok (.iload_n 1, 1) := by decide +kernel
theorem dX7_price_31 : decode cX7_price 31 = .ok (.iconst 1, 1) := by decide +kernel
theorem dX7_price_32 : decode cX7_price 32 = .ok (.if_icmp .ne 21, 3) := by decide +kernel
theorem dX7_price_35 : decode cX7_price 35 = .ok (.aload_n 0, 1) := by decide +kernel
theorem dX7_price_36 : decode cX7_price 36 = .ok (.getfield 14, 3) := by decide +kernel
theorem dX7_price_39 : decode cX7_price 39 = .ok (.getfield 159, 3) := by decide +kernel
theorem dX7_price_42 : decode cX7_price 42 = .ok (.istore_n 3, 1) := by decide +kernel
theorem dX7_price_43 : decode cX7_price 43 = .ok (.aload_n 0, 1) := by decide +kernel
theorem dX7_price_44 : decode cX7_price 44 = .ok (.getfield 14, 3) := by decide +kernel
theorem dX7_price_47 : decode cX7_price 47 = .ok (.iload_n 2, 1) := by decide +kernel
theorem dX7_price_48 : decode cX7_price 48 = .ok (.putfield 159, 3) := by decide +kernel
theorem dX7_price_51 : decode cX7_price 51 = .ok (.iload_n 3, 1) := by decide +kernel
theorem dX7_price_52 : decode cX7_price 52 = .ok (.ireturn, 1) := by decide +kernel
theorem dX7_price_53 : decode cX7_price 53 = .ok (.aload_n 0, 1) := by decide +kernel
theorem dX7_price_54 : decode cX7_price 54 = .ok (.getfield 14, 3) := by decide +kernel
theorem dX7_price_57 : decode cX7_price 57 = .ok (.getfield 162, 3) := by decide +kernel
theorem dX7_price_60 : decode cX7_price 60 = .ok (.istore_n 3, 1) := by decide +kernel
theorem dX7_price_61 : decode cX7_price 61 = .ok (.aload_n 0, 1) := by decide +kernel
theorem dX7_price_62 : decode cX7_price 62 = .ok (.getfield 14, 3) := by decide +kernel
theorem dX7_price_65 : decode cX7_price 65 = .ok (.iload_n 2, 1) := by decide +kernel
theorem dX7_price_66 : decode cX7_price 66 = .ok (.putfield 162, 3) := by decide +kernel
theorem dX7_price_69 : decode cX7_price 69 = .ok (.aload_n 0, 1) := by decide +kernel
theorem dX7_price_70 : decode cX7_price 70 = .ok (.invokevirtual 139, 3) := by decide +kernel
theorem dX7_price_73 : decode cX7_price 73 = .ok (.ifCond .ne 14, 3) := by decide +kernel
theorem dX7_price_76 : decode cX7_price 76 = .ok (.aload_n 0, 1) := by decide +kernel
theorem dX7_price_77 : decode cX7_price 77 = .ok (.getfield 14, 3) := by decide +kernel
theorem dX7_price_80 : decode cX7_price 80 = .ok (.iload_n 3, 1) := by decide +kernel
theorem dX7_price_81 : decode cX7_price 81 = .ok (.putfield 162, 3) := by decide +kernel
theorem dX7_price_84 : decode cX7_price 84 = .ok (.bipush (-3), 2) := by decide +kernel
theorem dX7_price_86 : decode cX7_price 86 = .ok (.ireturn, 1) := by decide +kernel
theorem dX7_price_87 : decode cX7_price 87 = .ok (.iload_n 3, 1) := by decide +kernel
theorem dX7_price_88 : decode cX7_price 88 = .ok (.ireturn, 1) := by decide +kernel
theorem dX7_put_0 : decode cX7_put 0 = .ok (.aload_n 0, 1) := by decide +kernel
theorem dX7_put_1 : decode cX7_put 1 = .ok (.iload_n 1, 1) := by decide +kernel
theorem dX7_put_2 : decode cX7_put 2 = .ok (.iload_n 2, 1) := by decide +kernel
theorem dX7_put_3 : decode cX7_put 3 = .ok (.iload_n 3, 1) := by decide +kernel
theorem dX7_put_4 : decode cX7_put 4 = .ok (.invokevirtual 165, 3) := by decide +kernel
theorem dX7_put_7 : decode cX7_put 7 = .ok (.istore 4, 2) := by decide +kernel
theorem dX7_put_9 : decode cX7_put 9 = .ok (.iload 4, 2) := by decide +kernel
theorem dX7_put_11 : decode cX7_put 11 = .ok (.ifCond .eq 6, 3) := by decide +kernel
theorem dX7_put_14 : decode cX7_put 14 = .ok (.iload 4, 2) := by decide +kernel
theorem dX7_put_16 : decode cX7_put 16 = .ok (.ireturn, 1) := by decide +kernel
theorem dX7_put_17 : decode cX7_put 17 = .ok (.aload_n 0, 1) := by decide +kernel
theorem dX7_put_18 : decode cX7_put 18 = .ok (.getfield 27, 3) := by decide +kernel
theorem dX7_put_21 : decode cX7_put 21 = .ok (.aload_n 0, 1) := by decide +kernel
theorem dX7_put_22 : decode cX7_put 22 = .ok (.getfield 14, 3) := by decide +kernel
theorem dX7_put_25 : decode cX7_put 25 = .ok (.iload_n 2, 1) := by decide +kernel
theorem dX7_put_26 : decode cX7_put 26 = .ok (.invokevirtual 168, 3) := by decide +kernel
theorem dX7_put_29 : decode cX7_put 29 = .ok (.aload_n 0, 1) := by decide +kernel
theorem dX7_put_30 : decode cX7_put 30 = .ok (.getfield 27, 3) := by decide +kernel
theorem dX7_put_33 : decode cX7_put 33 = .ok (.iload_n 3, 1) := by decide +kernel
theorem dX7_put_34 : decode cX7_put 34 = .ok (.iload_n 1, 1) := by decide +kernel
theorem dX7_put_35 : decode cX7_put 35 = .ok (.invokevirtual 172, 3) := by decide +kernel
theorem dX7_put_38 : decode cX7_put 38 = .ok (.aload_n 0, 1) := by decide +kernel
theorem dX7_put_39 : decode cX7_put 39 = .ok (.getfield 27, 3) := by decide +kernel
theorem dX7_put_42 : decode cX7_put 42 = .ok (.aload_n 0, 1) := by decide +kernel
theorem dX7_put_43 : decode cX7_put 43 = .ok (.getfield 14, 3) := by decide +kernel
theorem dX7_put_46 : decode cX7_put 46 = .ok (.iconst 0, 1) := by decide +kernel
theorem dX7_put_47 : decode cX7_put 47 = .ok (.invokevirtual 175, 3) := by decide +kernel
theorem dX7_put_50 : decode cX7_put 50 = .ok (.ifCond .ne 6, 3) := by decide +kernel
theorem dX7_put_53 : decode cX7_put 53 = .ok (.bipush (-3), 2) := by decide +kernel
theorem dX7_put_55 : decode cX7_put 55 = .ok (.ireturn, 1) := by decide +kernel
theorem dX7_put_56 : decode cX7_put 56 = .ok (.aload_n 0, 1) := by decide +kernel
theorem dX7_put_57 : decode cX7_put 57 = .ok (.getfield 14, 3) := by decide +kernel
theorem dX7_put_60 : decode cX7_put 60 = .ok (.iload_n 1, 1) := by decide +kernel
theorem dX7_put_61 : decode cX7_put 61 = .ok (.iload_n 2, 1) := by decide +kernel
theorem dX7_put_62 : decode cX7_put 62 = .ok (.iload_n 3, 1) := by decide +kernel
theorem dX7_put_63 : decode cX7_put 63 = .ok (.invokevirtual 179, 3) := by decide +kernel
theorem dX7_put_66 : decode cX7_put 66 = .ok (.istore 5, 2) := by decide +kernel
theorem dX7_put_68 : decode cX7_put 68 = .ok (.aload_n 0, 1) := by decide +kernel
theorem dX7_put_69 : decode cX7_put 69 = .ok (.getfield 27, 3) := by decide +kernel
theorem dX7_put_72 : decode cX7_put 72 = .ok (.aload_n 0, 1) := by decide +kernel
theorem dX7_put_73 : decode cX7_put 73 = .ok (.getfield 14, 3) := by decide +kernel
theorem dX7_put_76 : decode cX7_put 76 = .ok (.invokevirtual 182, 3) := by decide +kernel
theorem dX7_put_79 : decode cX7_put 79 = .ok (.iload 5, 2) := by decide +kernel
theorem dX7_put_81 : decode cX7_put 81 = .ok (.ireturn, 1) := by decide +kernel
theorem dX7_take_0 : decode cX7_take 0 = .ok (.aload_n 0, 1) := by decide +kernel
theorem dX7_take_1 : decode cX7_take 1 = .ok (.getfield 14, 3) := by decide +kernel
theorem dX7_take_4 : decode cX7_take 4 = .ok (.iload_n 1, 1) := by decide +kernel
theorem dX7_take_5 : decode cX7_take 5 = .ok (.invokevirtual 100, 3) := by decide +kernel
theorem dX7_take_8 : decode cX7_take 8 = .ok (.ifCond .ne 5, 3) := by decide +kernel
theorem dX7_take_11 : decode cX7_take 11 = .ok (.iconst (-1), 1) := by decide +kernel
theorem dX7_take_12 : decode cX7_take 12 = .ok (.ireturn, 1) := by decide +kernel
theorem dX7_take_13 : decode cX7_take 13 = .ok (.aload_n 0, 1) := by decide +kernel
theorem dX7_take_14 : decode cX7_take 14 = .ok (.getfield 14, 3) := by decide +kernel
theorem dX7_take_17 : decode cX7_take 17 = .ok (.invokevirtual 186, 3) := by decide +kernel
theorem dX7_take_20 : decode cX7_take 20 = .ok (.istore_n 2, 1) := by decide +kernel
theorem dX7_take_21 : decode cX7_take 21 = .ok (.aload_n 0, 1) := by decide +kernel
theorem dX7_take_22 : decode cX7_take 22 = .ok (.aload_n 0, 1) := by decide +kernel
theorem dX7_take_23 : decode cX7_take 23 = .ok (.getfield 14, 3) := by decide +kernel
theorem dX7_take_26 : decode cX7_take 26 = .ok (.iload_n 1, 1) := by decide +kernel
theorem dX7_take_27 : decode cX7_take 27 = .ok (.invokevirtual 189, 3) := by decide +kernel
theorem dX7_take_30 : decode cX7_take 30 = .ok (.ifCond .eq 15, 3) := by decide +kernel
theorem dX7_take_33 : decode cX7_take 33 = .ok (.iload_n 2, 1) := by decide +kernel
theorem dX7_take_34 : decode cX7_take 34 = .ok (.aload_n 0, 1) := by decide +kernel
theorem dX7_take_35 : decode cX7_take 35 = .ok (.getfield 14, 3) := by decide +kernel
theorem dX7_take_38 : decode cX7_take 38 = .ok (.invokevirtual 186, 3) := by decide +kernel
theorem dX7_take_41 : decode cX7_take 41 = .ok (.isub, 1) := by decide +kernel
theorem dX7_take_42 : decode cX7_take 42 = .ok (.goto 5, 3) := by decide +kernel
theorem dX7_take_45 : decode cX7_take 45 = .ok (.bipush (-3), 2) := by decide +kernel
theorem dX7_take_47 : decode cX7_take 47 = .ok (.ireturn, 1) := by decide +kernel
theorem dX7_clear_0 : decode cX7_clear 0 = .ok (.iload_n 1, 1) := by decide +kernel
theorem dX7_clear_1 : decode cX7_clear 1 = .ok (.invokestatic 147, 3) := by decide +kernel
theorem dX7_clear_4 : decode cX7_clear 4 = .ok (.ifCond .ne 5, 3) := by decide +kernel
theorem dX7_clear_7 : decode cX7_clear 7 = .ok (.iconst (-1), 1) := by decide +kernel
theorem dX7_clear_8 : decode cX7_clear 8 = .ok (.ireturn, 1) := by decide +kernel
theorem dX7_clear_9 : decode cX7_clear 9 = .ok (.aload_n 0, 1) := by decide +kernel
theorem dX7_clear_10 : decode cX7_clear 10 = .ok (.getfield 27, 3) := by decide +kernel
theorem dX7_clear_13 : decode cX7_clear 13 = .ok (.aload_n 0, 1) := by decide +kernel
theorem dX7_clear_14 : decode cX7_clear 14 = .ok (.getfield 14, 3) := by decide +kernel
theorem dX7_clear_17 : decode cX7_clear 17 = .ok (.iload_n 1, 1) := by decide +kernel
theorem dX7_clear_18 : decode cX7_clear 18 = .ok (.invokevirtual 168, 3) := by decide +kernel
theorem dX7_clear_21 : decode cX7_clear 21 = .ok (.aload_n 0, 1) := by decide +kernel
theorem dX7_clear_22 : decode cX7_clear 22 = .ok (.getfield 27, 3) := by decide +kernel
theorem dX7_clear_25 : decode cX7_clear 25 = .ok (.aload_n 0, 1) := by decide +kernel
theorem dX7_clear_26 : decode cX7_clear 26 = .ok (.getfield 14, 3) := by decide +kernel
theorem dX7_clear_29 : decode cX7_clear 29 = .ok (.invokevirtual 192, 3) := by decide +kernel
theorem dX7_clear_32 : decode cX7_clear 32 = .ok (.aload_n 0, 1) := by decide +kernel
theorem dX7_clear_33 : decode cX7_clear 33 = .ok (.getfield 27, 3) := by decide +kernel
theorem dX7_clear_36 : decode cX7_clear 36 = .ok (.aload_n 0, 1) := by decide +kernel
theorem dX7_clear_37 : decode cX7_clear 37 = .ok (.getfield 14, 3) := by decide +kernel
theorem dX7_clear_40 : decode cX7_clear 40 = .ok (.iconst 0, 1) := by decide +kernel
theorem dX7_clear_41 : decode cX7_clear 41 = .ok (.invokevirtual 175, 3) := by decide +kernel
theorem dX7_clear_44 : decode cX7_clear 44 = .ok (.ifCond .ne 6, 3) := by decide +kernel
theorem dX7_clear_47 : decode cX7_clear 47 = .ok (.bipush (-3), 2) := by decide +kernel
theorem dX7_clear_49 : decode cX7_clear 49 = .ok (.ireturn, 1) := by decide +kernel
theorem dX7_clear_50 : decode cX7_clear 50 = .ok (.aload_n 0, 1) := by decide +kernel
theorem dX7_clear_51 : decode cX7_clear 51 = .ok (.getfield 14, 3) := by decide +kernel
theorem dX7_clear_54 : decode cX7_clear 54 = .ok (.iload_n 1, 1) := by decide +kernel
theorem dX7_clear_55 : decode cX7_clear 55 = .ok (.invokevirtual 195, 3) := by decide +kernel
theorem dX7_clear_58 : decode cX7_clear 58 = .ok (.aload_n 0, 1) := by decide +kernel
theorem dX7_clear_59 : decode cX7_clear 59 = .ok (.getfield 27, 3) := by decide +kernel
theorem dX7_clear_62 : decode cX7_clear 62 = .ok (.getfield 198, 3) := by decide +kernel
theorem dX7_clear_65 : decode cX7_clear 65 = .ok (.isub, 1) := by decide +kernel
theorem dX7_clear_66 : decode cX7_clear 66 = .ok (.istore_n 2, 1) := by decide +kernel
theorem dX7_clear_67 : decode cX7_clear 67 = .ok (.aload_n 0, 1) := by decide +kernel
theorem dX7_clear_68 : decode cX7_clear 68 = .ok (.getfield 27, 3) := by decide +kernel
theorem dX7_clear_71 : decode cX7_clear 71 = .ok (.aload_n 0, 1) := by decide +kernel
theorem dX7_clear_72 : decode cX7_clear 72 = .ok (.getfield 14, 3) := by decide +kernel
theorem dX7_clear_75 : decode cX7_clear 75 = .ok (.invokevirtual 182, 3) := by decide +kernel
theorem dX7_clear_78 : decode cX7_clear 78 = .ok (.iload_n 2, 1) := by decide +kernel
theorem dX7_clear_79 : decode cX7_clear 79 = .ok (.ireturn, 1) := by decide +kernel
theorem dX7_fill_0 : decode cX7_fill 0 = .ok (.aload_n 0, 1) := by decide +kernel
theorem dX7_fill_1 : decode cX7_fill 1 = .ok (.iconst 1, 1) := by decide +kernel
theorem dX7_fill_2 : decode cX7_fill 2 = .ok (.invokevirtual 199, 3) := by decide +kernel
theorem dX7_fill_5 : decode cX7_fill 5 = .ok (.ifCond .eq 17, 3) := by decide +kernel
theorem dX7_fill_8 : decode cX7_fill 8 = .ok (.aload_n 0, 1) := by decide +kernel
theorem dX7_fill_9 : decode cX7_fill 9 = .ok (.getfield 34, 3) := by decide +kernel
theorem dX7_fill_12 : decode cX7_fill 12 = .ok (.aload_n 0, 1) := by decide +kernel
theorem dX7_fill_13 : decode cX7_fill 13 = .ok (.getfield 14, 3) := by decide +kernel
theorem dX7_fill_16 : decode cX7_fill 16 = .ok (.invokevirtual 202, 3) := by decide +kernel
theorem dX7_fill_19 : decode cX7_fill 19 = .ok (.goto 5, 3) := by decide +kernel
theorem dX7_fill_22 : decode cX7_fill 22 = .ok (.bipush (-4), 2) := by decide +kernel
theorem dX7_fill_24 : decode cX7_fill 24 = .ok (.ireturn, 1) := by decide +kernel
theorem dX7_improve_0 : decode cX7_improve 0 = .ok (.iload_n 1, 1) := by decide +kernel
theorem dX7_improve_1 : decode cX7_improve 1 = .ok (.iconst 1, 1) := by decide +kernel
theorem dX7_improve_2 : decode cX7_improve 2 = .ok (.if_icmp .lt 9, 3) := by decide +kernel
theorem dX7_improve_5 : decode cX7_improve 5 = .ok (.iload_n 1, 1) := by decide +kernel
theorem dX7_improve_6 : decode cX7_improve 6 = .ok (.bipush 20, 2) := by decide +kernel
theorem dX7_improve_8 : decode cX7_improve 8 = .ok (.if_icmp .le 6, 3) := by decide +kernel
theorem dX7_improve_11 : decode cX7_improve 11 = .ok (.bipush (-2), 2) := by decide +kernel
theorem dX7_improve_13 : decode cX7_improve 13 = .ok (.ireturn, 1) := by decide +kernel
theorem dX7_improve_14 : decode cX7_improve 14 = .ok (.aload_n 0, 1) := by decide +kernel
theorem dX7_improve_15 : decode cX7_improve 15 = .ok (.iload_n 1, 1) := by decide +kernel
theorem dX7_improve_16 : decode cX7_improve 16 = .ok (.invokevirtual 199, 3) := by decide +kernel
theorem dX7_improve_19 : decode cX7_improve 19 = .ok (.ifCond .ne 6, 3) := by decide +kernel
theorem dX7_improve_22 : decode cX7_improve 22 = .ok (.bipush (-4), 2) := by decide +kernel
theorem dX7_improve_24 : decode cX7_improve 24 = .ok (.ireturn, 1) := by decide +kernel
theorem dX7_improve_25 : decode cX7_improve 25 = .ok (.iconst 0, 1) := by decide +kernel
theorem dX7_improve_26 : decode cX7_improve 26 = .ok (.istore_n 2, 1) := by decide +kernel
theorem dX7_improve_27 : decode cX7_improve 27 = .ok (.iconst 0, 1) := by decide +kernel
theorem dX7_improve_28 : decode cX7_improve 28 = .ok (.istore_n 3, 1) := by decide +kernel
theorem dX7_improve_29 : decode cX7_improve 29 = .ok (.iload_n 3, 1) := by decide +kernel
theorem dX7_improve_30 : decode cX7_improve 30 = .ok (.iload_n 1, 1) := by decide +kernel
theorem dX7_improve_31 : decode cX7_improve 31 = .ok (.if_icmp .ge 49, 3) := by decide +kernel
theorem dX7_improve_34 : decode cX7_improve 34 = .ok (.aload_n 0, 1) := by decide +kernel
theorem dX7_improve_35 : decode cX7_improve 35 = .ok (.getfield 41, 3) := by decide +kernel
theorem dX7_improve_38 : decode cX7_improve 38 = .ok (.aload_n 0, 1) := by decide +kernel
theorem dX7_improve_39 : decode cX7_improve 39 = .ok (.getfield 14, 3) := by decide +kernel
theorem dX7_improve_42 : decode cX7_improve 42 = .ok (.invokevirtual 206, 3) := by decide +kernel
theorem dX7_improve_45 : decode cX7_improve 45 = .ok (.aload_n 0, 1) := by decide +kernel
theorem dX7_improve_46 : decode cX7_improve 46 = .ok (.getfield 41, 3) := by decide +kernel
theorem dX7_improve_49 : decode cX7_improve 49 = .ok (.getfield 209, 3) := by decide +kernel
theorem dX7_improve_52 : decode cX7_improve 52 = .ok (.bipush (-5), 2) := by decide +kernel
theorem dX7_improve_54 : decode cX7_improve 54 = .ok (.if_icmp .ne 6, 3) := by decide +kernel
theorem dX7_improve_57 : decode cX7_improve 57 = .ok (.goto 23, 3) := by decide +kernel
theorem dX7_improve_60 : decode cX7_improve 60 = .ok (.aload_n 0, 1) := by decide +kernel
theorem dX7_improve_61 : decode cX7_improve 61 = .ok (.getfield 41, 3) := by decide +kernel
theorem dX7_improve_64 : decode cX7_improve 64 = .ok (.aload_n 0, 1) := by decide +kernel
theorem dX7_improve_65 : decode cX7_improve 65 = .ok (.getfield 14, 3) := by decide +kernel
theorem dX7_improve_68 : decode cX7_improve 68 = .ok (.invokevirtual 212, 3) := by decide +kernel
theorem dX7_improve_71 : decode cX7_improve 71 = .ok (.iinc 2 1, 3) := by decide +kernel
theorem dX7_improve_74 : decode cX7_improve 74 = .ok (.iinc 3 1, 3) := by decide +kernel
theorem dX7_improve_77 : decode cX7_improve 77 = .ok (.goto (-48), 3) := by decide +kernel
theorem dX7_improve_80 : decode cX7_improve 80 = .ok (.iload_n 2, 1) := by decide +kernel
theorem dX7_improve_81 : decode cX7_improve 81 = .ok (.ireturn, 1) := by decide +kernel
theorem dX7_round_0 : decode cX7_round 0 = .ok (.iload_n 1, 1) := by decide +kernel
theorem dX7_round_1 : decode cX7_round 1 = .ok (.invokestatic 147, 3) := by decide +kernel
theorem dX7_round_4 : decode cX7_round 4 = .ok (.ifCond .eq 12, 3) := by decide +kernel
theorem dX7_round_7 : decode cX7_round 7 = .ok (.iload_n 2, 1) := by decide +kernel
theorem dX7_round_8 : decode cX7_round 8 = .ok (.bipush 9, 2) := by decide +kernel
theorem dX7_round_10 : decode cX7_round 10 = .ok (.invokestatic 63, 3) := by decide +kernel
theorem dX7_round_13 : decode cX7_round 13 = .ok (.ifCond .ne 5, 3) := by decide +kernel
theorem dX7_round_16 : decode cX7_round 16 = .ok (.iconst (-1), 1) := by decide +kernel
theorem dX7_round_17 : decode cX7_round 17 = .ok (.ireturn, 1) := by decide +kernel
theorem dX7_round_18 : decode cX7_round 18 = .ok (.iload_n 2, 1) := by decide +kernel
theorem dX7_round_19 : decode cX7_round 19 = .ok (.iconst 2, 1) := by decide +kernel
theorem dX7_round_20 : decode cX7_round 20 = .ok (.if_icmp .gt 13, 3) := by decide +kernel
theorem dX7_round_23 : decode cX7_round 23 = .ok (.aload_n 0, 1) := by decide +kernel
theorem dX7_round_24 : decode cX7_round 24 = .ok (.getfield 14, 3) := by decide +kernel
theorem dX7_round_27 : decode cX7_round 27 = .ok (.iload_n 1, 1) := by decide +kernel
theorem dX7_round_28 : decode cX7_round 28 = .ok (.iload_n 2, 1) := by decide +kernel
theorem dX7_round_29 : decode cX7_round 29 = .ok (.invokevirtual 153, 3) := by decide +kernel
theorem dX7_round_32 : decode cX7_round 32 = .ok (.ireturn, 1) := by decide +kernel
theorem dX7_round_33 : decode cX7_round 33 = .ok (.aload_n 0, 1) := by decide +kernel
theorem dX7_round_34 : decode cX7_round 34 = .ok (.getfield 27, 3) := by decide +kernel
theorem dX7_round_37 : decode cX7_round 37 = .ok (.aload_n 0, 1) := by decide +kernel
theorem dX7_round_38 : decode cX7_round 38 = .ok (.getfield 14, 3) := by decide +kernel
theorem dX7_round_41 : decode cX7_round 41 = .ok (.iload_n 1, 1) := by decide +kernel
theorem dX7_round_42 : decode cX7_round 42 = .ok (.invokevirtual 168, 3) := by decide +kernel
theorem dX7_round_45 : decode cX7_round 45 = .ok (.aload_n 0, 1) := by decide +kernel
theorem dX7_round_46 : decode cX7_round 46 = .ok (.getfield 27, 3) := by decide +kernel
theorem dX7_round_49 : decode cX7_round 49 = .ok (.aload_n 0, 1) := by decide +kernel
theorem dX7_round_50 : decode cX7_round 50 = .ok (.getfield 14, 3) := by decide +kernel
theorem dX7_round_53 : decode cX7_round 53 = .ok (.iconst 0, 1) := by decide +kernel
theorem dX7_round_54 : decode cX7_round 54 = .ok (.invokevirtual 175, 3) := by decide +kernel
theorem dX7_round_57 : decode cX7_round 57 = .ok (.pop, 1) := by decide +kernel
theorem dX7_round_58 : decode cX7_round 58 = .ok (.aload_n 0, 1) := by decide +kernel
theorem dX7_round_59 : decode cX7_round 59 = .ok (.getfield 27, 3) := by decide +kernel
theorem dX7_round_62 : decode cX7_round 62 = .ok (.aload_n 0, 1) := by decide +kernel
theorem dX7_round_63 : decode cX7_round 63 = .ok (.getfield 14, 3) := by decide +kernel
theorem dX7_round_66 : decode cX7_round 66 = .ok (.invokevirtual 215, 3) := by decide +kernel
theorem dX7_round_69 : decode cX7_round 69 = .ok (.iload_n 2, 1) := by decide +kernel
theorem dX7_round_70 : decode cX7_round 70 = .ok (.tableswitch 86 3 8 #[38, 46, 54, 62, 70, 78], 38) := by decide +kernel
theorem dX7_round_108 : decode cX7_round 108 = .ok (.aload_n 0, 1) := by decide +kernel
theorem dX7_round_109 : decode cX7_round 109 = .ok (.getfield 27, 3) := by decide +kernel
theorem dX7_round_112 : decode cX7_round 112 = .ok (.getfield 198, 3) := by decide +kernel
theorem dX7_round_115 : decode cX7_round 115 = .ok (.ireturn, 1) := by decide +kernel
theorem dX7_round_116 : decode cX7_round 116 = .ok (.aload_n 0, 1) := by decide +kernel
theorem dX7_round_117 : decode cX7_round 117 = .ok (.getfield 27, 3) := by decide +kernel
theorem dX7_round_120 : decode cX7_round 120 = .ok (.getfield 218, 3) := by decide +kernel
theorem dX7_round_123 : decode cX7_round 123 = .ok (.ireturn, 1) := by decide +kernel
theorem dX7_round_124 : decode cX7_round 124 = .ok (.aload_n 0, 1) := by decide +kernel
theorem dX7_round_125 : decode cX7_round 125 = .ok (.getfield 27, 3) := by decide +kernel
theorem dX7_round_128 : decode cX7_round 128 = .ok (.getfield 221, 3) := by decide +kernel
theorem dX7_round_131 : decode cX7_round 131 = .ok (.ireturn, 1) := by decide +kernel
theorem dX7_round_132 : decode cX7_round 132 = .ok (.aload_n 0, 1) := by decide +kernel
theorem dX7_round_133 : decode cX7_round 133 = .ok (.getfield 27, 3) := by decide +kernel
theorem dX7_round_136 : decode cX7_round 136 = .ok (.getfield 224, 3) := by decide +kernel
theorem dX7_round_139 : decode cX7_round 139 = .ok (.ireturn, 1) := by decide +kernel
theorem dX7_round_140 : decode cX7_round 140 = .ok (.aload_n 0, 1) := by decide +kernel
theorem dX7_round_141 : decode cX7_round 141 = .ok (.getfield 27, 3) := by decide +kernel
theorem dX7_round_144 : decode cX7_round 144 = .ok (.getfield 227, 3) := by decide +kernel
theorem dX7_round_147 : decode cX7_round 147 = .ok (.ireturn, 1) := by decide +kernel
theorem dX7_round_148 : decode cX7_round 148 = .ok (.aload_n 0, 1) := by decide +kernel
theorem dX7_round_149 : decode cX7_round 149 = .ok (.getfield 27, 3) := by decide +kernel
theorem dX7_round_152 : decode cX7_round 152 = .ok (.invokevirtual 230, 3) := by decide +kernel
theorem dX7_round_155 : decode cX7_round 155 = .ok (.ireturn, 1) := by decide +kernel
theorem dX7_round_156 : decode cX7_round 156 = .ok (.aload_n 0, 1) := by decide +kernel
theorem dX7_round_157 : decode cX7_round 157 = .ok (.getfield 27, 3) := by decide +kernel
theorem dX7_round_160 : decode cX7_round 160 = .ok (.invokevirtual 233, 3) := by decide +kernel
theorem dX7_round_163 : decode cX7_round 163 = .ok (.ireturn, 1) := by decide +kernel
theorem dX7_at_0 : decode cX7_at 0 = .ok (.iload_n 1, 1) := by decide +kernel
theorem dX7_at_1 : decode cX7_at 1 = .ok (.invokestatic 147, 3) := by decide +kernel
theorem dX7_at_4 : decode cX7_at 4 = .ok (.ifCond .ne 5, 3) := by decide +kernel
theorem dX7_at_7 : decode cX7_at 7 = .ok (.iconst (-1), 1) := by decide +kernel
theorem dX7_at_8 : decode cX7_at 8 = .ok (.ireturn, 1) := by decide +kernel
theorem dX7_at_9 : decode cX7_at 9 = .ok (.iload_n 2, 1) := by decide +kernel
theorem dX7_at_10 : decode cX7_at 10 = .ok (.ifCond .lt 27, 3) := by decide +kernel
theorem dX7_at_13 : decode cX7_at 13 = .ok (.iload_n 2, 1) := by decide +kernel
theorem dX7_at_14 : decode cX7_at 14 = .ok (.aload_n 0, 1) := by decide +kernel
theorem dX7_at_15 : decode cX7_at 15 = .ok (.getfield 14, 3) := by decide +kernel
theorem dX7_at_18 : decode cX7_at 18 = .ok (.iload_n 1, 1) := by decide +kernel
theorem dX7_at_19 : decode cX7_at 19 = .ok (.invokevirtual 195, 3) := by decide +kernel
theorem dX7_at_22 : decode cX7_at 22 = .ok (.if_icmp .ge 15, 3) := by decide +kernel
theorem dX7_at_25 : decode cX7_at 25 = .ok (.aload_n 0, 1) := by decide +kernel
theorem dX7_at_26 : decode cX7_at 26 = .ok (.getfield 14, 3) := by decide +kernel
theorem dX7_at_29 : decode cX7_at 29 = .ok (.iload_n 1, 1) := by decide +kernel
theorem dX7_at_30 : decode cX7_at 30 = .ok (.iload_n 2, 1) := by decide +kernel
theorem dX7_at_31 : decode cX7_at 31 = .ok (.invokevirtual 236, 3) := by decide +kernel
theorem dX7_at_34 : decode cX7_at 34 = .ok (.goto 5, 3) := by decide +kernel
theorem dX7_at_37 : decode cX7_at 37 = .ok (.bipush (-2), 2) := by decide +kernel
theorem dX7_at_39 : decode cX7_at 39 = .ok (.ireturn, 1) := by decide +kernel
theorem dX7_told_0 : decode cX7_told 0 = .ok (.iload_n 1, 1) := by decide +kernel
theorem dX7_told_1 : decode cX7_told 1 = .ok (.tableswitch 84 0 5 #[39, 47, 55, 63, 71, 79], 39) := by decide +kernel
theorem dX7_told_40 : decode cX7_told 40 = .ok (.aload_n 0, 1) := by decide +kernel
theorem dX7_told_41 : decode cX7_told 41 = .ok (.getfield 14, 3) := by decide +kernel
theorem dX7_told_44 : decode cX7_told 44 = .ok (.invokevirtual 186, 3) := by decide +kernel
theorem dX7_told_47 : decode cX7_told 47 = .ok (.ireturn, 1) := by decide +kernel
theorem dX7_told_48 : decode cX7_told 48 = .ok (.aload_n 0, 1) := by decide +kernel
theorem dX7_told_49 : decode cX7_told 49 = .ok (.getfield 14, 3) := by decide +kernel
theorem dX7_told_52 : decode cX7_told 52 = .ok (.invokevirtual 239, 3) := by decide +kernel
theorem dX7_told_55 : decode cX7_told 55 = .ok (.ireturn, 1) := by decide +kernel
theorem dX7_told_56 : decode cX7_told 56 = .ok (.aload_n 0, 1) := by decide +kernel
theorem dX7_told_57 : decode cX7_told 57 = .ok (.getfield 14, 3) := by decide +kernel
theorem dX7_told_60 : decode cX7_told 60 = .ok (.invokevirtual 242, 3) := by decide +kernel
theorem dX7_told_63 : decode cX7_told 63 = .ok (.ireturn, 1) := by decide +kernel
theorem dX7_told_64 : decode cX7_told 64 = .ok (.aload_n 0, 1) := by decide +kernel
theorem dX7_told_65 : decode cX7_told 65 = .ok (.getfield 14, 3) := by decide +kernel
theorem dX7_told_68 : decode cX7_told 68 = .ok (.invokevirtual 245, 3) := by decide +kernel
theorem dX7_told_71 : decode cX7_told 71 = .ok (.ireturn, 1) := by decide +kernel
theorem dX7_told_72 : decode cX7_told 72 = .ok (.aload_n 0, 1) := by decide +kernel
theorem dX7_told_73 : decode cX7_told 73 = .ok (.getfield 14, 3) := by decide +kernel
theorem dX7_told_76 : decode cX7_told 76 = .ok (.invokevirtual 248, 3) := by decide +kernel
theorem dX7_told_79 : decode cX7_told 79 = .ok (.ireturn, 1) := by decide +kernel
theorem dX7_told_80 : decode cX7_told 80 = .ok (.aload_n 0, 1) := by decide +kernel
theorem dX7_told_81 : decode cX7_told 81 = .ok (.invokevirtual 251, 3) := by decide +kernel
theorem dX7_told_84 : decode cX7_told 84 = .ok (.ireturn, 1) := by decide +kernel
theorem dX7_told_85 : decode cX7_told 85 = .ok (.iconst (-1), 1) := by decide +kernel
theorem dX7_told_86 : decode cX7_told 86 = .ok (.ireturn, 1) := by decide +kernel
theorem dX7_far_0 : decode cX7_far 0 = .ok (.iload_n 1, 1) := by decide +kernel
theorem dX7_far_1 : decode cX7_far 1 = .ok (.bipush 63, 2) := by decide +kernel
theorem dX7_far_3 : decode cX7_far 3 = .ok (.invokestatic 63, 3) := by decide +kernel
theorem dX7_far_6 : decode cX7_far 6 = .ok (.ifCond .eq 31, 3) := by decide +kernel
theorem dX7_far_9 : decode cX7_far 9 = .ok (.iload_n 2, 1) := by decide +kernel
theorem dX7_far_10 : decode cX7_far 10 = .ok (.bipush 63, 2) := by decide +kernel
theorem dX7_far_12 : decode cX7_far 12 = .ok (.invokestatic 63, 3) := by decide +kernel
theorem dX7_far_15 : decode cX7_far 15 = .ok (.ifCond .eq 22, 3) := by decide +kernel
theorem dX7_far_18 : decode cX7_far 18 = .ok (.iload_n 3, 1) := by decide +kernel
theorem dX7_far_19 : decode cX7_far 19 = .ok (.bipush 63, 2) := by decide +kernel
theorem dX7_far_21 : decode cX7_far 21 = .ok (.invokestatic 63, 3) := by decide +kernel
theorem dX7_far_24 : decode cX7_far 24 = .ok (.ifCond .eq 13, 3) := by decide +kernel
theorem dX7_far_27 : decode cX7_far 27 = .ok (.iload 4, 2) := by decide +kernel
theorem dX7_far_29 : decode cX7_far 29 = .ok (.bipush 63, 2) := by decide +kernel
theorem dX7_far_31 : decode cX7_far 31 = .ok (.invokestatic 63, 3) := by decide +kernel
theorem dX7_far_34 : decode cX7_far 34 = .ok (.ifCond .ne 6, 3) := by decide +kernel
theorem dX7_far_37 : decode cX7_far 37 = .ok (.bipush (-2), 2) := by decide +kernel
theorem dX7_far_39 : decode cX7_far 39 = .ok (.ireturn, 1) := by decide +kernel
theorem dX7_far_40 : decode cX7_far 40 = .ok (.aload_n 0, 1) := by decide +kernel
theorem dX7_far_41 : decode cX7_far 41 = .ok (.getfield 14, 3) := by decide +kernel
theorem dX7_far_44 : decode cX7_far 44 = .ok (.iload_n 1, 1) := by decide +kernel
theorem dX7_far_45 : decode cX7_far 45 = .ok (.iload_n 2, 1) := by decide +kernel
theorem dX7_far_46 : decode cX7_far 46 = .ok (.iload_n 3, 1) := by decide +kernel
theorem dX7_far_47 : decode cX7_far 47 = .ok (.iload 4, 2) := by decide +kernel
theorem dX7_far_49 : decode cX7_far 49 = .ok (.invokevirtual 143, 3) := by decide +kernel
theorem dX7_far_52 : decode cX7_far 52 = .ok (.ireturn, 1) := by decide +kernel
theorem dX7_adds_0 : decode cX7_adds 0 = .ok (.aload_n 0, 1) := by decide +kernel
theorem dX7_adds_1 : decode cX7_adds 1 = .ok (.iload_n 1, 1) := by decide +kernel
theorem dX7_adds_2 : decode cX7_adds 2 = .ok (.iload_n 2, 1) := by decide +kernel
theorem dX7_adds_3 : decode cX7_adds 3 = .ok (.iload_n 3, 1) := by decide +kernel
theorem dX7_adds_4 : decode cX7_adds 4 = .ok (.invokevirtual 165, 3) := by decide +kernel
theorem dX7_adds_7 : decode cX7_adds 7 = .ok (.istore 4, 2) := by decide +kernel
theorem dX7_adds_9 : decode cX7_adds 9 = .ok (.iload 4, 2) := by decide +kernel
theorem dX7_adds_11 : decode cX7_adds 11 = .ok (.ifCond .eq 6, 3) := by decide +kernel
theorem dX7_adds_14 : decode cX7_adds 14 = .ok (.iload 4, 2) := by decide +kernel
theorem dX7_adds_16 : decode cX7_adds 16 = .ok (.ireturn, 1) := by decide +kernel
theorem dX7_adds_17 : decode cX7_adds 17 = .ok (.aload_n 0, 1) := by decide +kernel
theorem dX7_adds_18 : decode cX7_adds 18 = .ok (.getfield 27, 3) := by decide +kernel
theorem dX7_adds_21 : decode cX7_adds 21 = .ok (.aload_n 0, 1) := by decide +kernel
theorem dX7_adds_22 : decode cX7_adds 22 = .ok (.getfield 14, 3) := by decide +kernel
theorem dX7_adds_25 : decode cX7_adds 25 = .ok (.iload_n 2, 1) := by decide +kernel
theorem dX7_adds_26 : decode cX7_adds 26 = .ok (.invokevirtual 168, 3) := by decide +kernel
theorem dX7_adds_29 : decode cX7_adds 29 = .ok (.aload_n 0, 1) := by decide +kernel
theorem dX7_adds_30 : decode cX7_adds 30 = .ok (.getfield 27, 3) := by decide +kernel
theorem dX7_adds_33 : decode cX7_adds 33 = .ok (.iload_n 3, 1) := by decide +kernel
theorem dX7_adds_34 : decode cX7_adds 34 = .ok (.iload_n 1, 1) := by decide +kernel
theorem dX7_adds_35 : decode cX7_adds 35 = .ok (.invokevirtual 172, 3) := by decide +kernel
theorem dX7_adds_38 : decode cX7_adds 38 = .ok (.aload_n 0, 1) := by decide +kernel
theorem dX7_adds_39 : decode cX7_adds 39 = .ok (.getfield 27, 3) := by decide +kernel
theorem dX7_adds_42 : decode cX7_adds 42 = .ok (.aload_n 0, 1) := by decide +kernel
theorem dX7_adds_43 : decode cX7_adds 43 = .ok (.getfield 14, 3) := by decide +kernel
theorem dX7_adds_46 : decode cX7_adds 46 = .ok (.iconst 0, 1) := by decide +kernel
theorem dX7_adds_47 : decode cX7_adds 47 = .ok (.invokevirtual 175, 3) := by decide +kernel
theorem dX7_adds_50 : decode cX7_adds 50 = .ok (.ifCond .eq 16, 3) := by decide +kernel
theorem dX7_adds_53 : decode cX7_adds 53 = .ok (.aload_n 0, 1) := by decide +kernel
theorem dX7_adds_54 : decode cX7_adds 54 = .ok (.getfield 14, 3) := by decide +kernel
theorem dX7_adds_57 : decode cX7_adds 57 = .ok (.iload_n 1, 1) := by decide +kernel
theorem dX7_adds_58 : decode cX7_adds 58 = .ok (.iload_n 2, 1) := by decide +kernel
theorem dX7_adds_59 : decode cX7_adds 59 = .ok (.iload_n 3, 1) := by decide +kernel
theorem dX7_adds_60 : decode cX7_adds 60 = .ok (.invokevirtual 179, 3) := by decide +kernel
theorem dX7_adds_63 : decode cX7_adds 63 = .ok (.goto 5, 3) := by decide +kernel
theorem dX7_adds_66 : decode cX7_adds 66 = .ok (.bipush (-5), 2) := by decide +kernel
theorem dX7_adds_68 : decode cX7_adds 68 = .ok (.ireturn, 1) := by decide +kernel
theorem dX7_cheapest_0 : decode cX7_cheapest 0 = .ok (.iload_n 2, 1) := by decide +kernel
theorem dX7_cheapest_1 : decode cX7_cheapest 1 = .ok (.iconst (-1), 1) := by decide +kernel
theorem dX7_cheapest_2 : decode cX7_cheapest 2 = .ok (.if_icmp .ne 7, 3) := by decide +kernel
theorem dX7_cheapest_5 : decode cX7_cheapest 5 = .ok (.iconst 1, 1) := by decide +kernel
theorem dX7_cheapest_6 : decode cX7_cheapest 6 = .ok (.goto 4, 3) := by decide +kernel
theorem dX7_cheapest_9 : decode cX7_cheapest 9 = .ok (.iconst 0, 1) := by decide +kernel
theorem dX7_cheapest_10 : decode cX7_cheapest 10 = .ok (.istore 4, 2) := by decide +kernel
theorem dX7_cheapest_12 : decode cX7_cheapest 12 = .ok (.aload_n 0, 1) := by decide +kernel
theorem dX7_cheapest_13 : decode cX7_cheapest 13 = .ok (.getfield 14, 3) := by decide +kernel
theorem dX7_cheapest_16 : decode cX7_cheapest 16 = .ok (.iload_n 1, 1) := by decide +kernel
theorem dX7_cheapest_17 : decode cX7_cheapest 17 = .ok (.invokevirtual 100, 3) := by decide +kernel
theorem dX7_cheapest_20 : decode cX7_cheapest 20 = .ok (.ifCond .eq 32, 3) := by decide +kernel
theorem dX7_cheapest_23 : decode cX7_cheapest 23 = .ok (.iload 4, 2) := by decide +kernel
theorem dX7_cheapest_25 : decode cX7_cheapest 25 = .ok (.ifCond .ne 10, 3) := by decide +kernel
theorem dX7_cheapest_28 : decode cX7_cheapest 28 = .ok (.iload_n 2, 1) := by decide +kernel
theorem dX7_cheapest_29 : decode cX7_cheapest 29 = .ok (.invokestatic 147, 3) := by decide +kernel
theorem dX7_cheapest_32 : decode cX7_cheapest 32 = .ok (.ifCond .eq 20, 3) := by decide +kernel
theorem dX7_cheapest_35 : decode cX7_cheapest 35 = .ok (.iload_n 3, 1) := by decide +kernel
theorem dX7_cheapest_36 : decode cX7_cheapest 36 = .ok (.iload 4, 2) := by decide +kernel
theorem dX7_cheapest_38 : decode cX7_cheapest 38 = .ok (.ifCond .eq 7, 3) := by decide +kernel
theorem dX7_cheapest_41 : decode cX7_cheapest 41 = .ok (.iconst 3, 1) := by decide +kernel
theorem dX7_cheapest_42 : decode cX7_cheapest 42 = .ok (.goto 4, 3) := by decide +kernel
theorem dX7_cheapest_45 : decode cX7_cheapest 45 = .ok (.iconst 2, 1) := by decide +kernel
theorem dX7_cheapest_46 : decode cX7_cheapest 46 = .ok (.invokestatic 63, 3) := by decide +kernel
theorem dX7_cheapest_49 : decode cX7_cheapest 49 = .ok (.ifCond .ne 5, 3) := by decide +kernel
theorem dX7_cheapest_52 : decode cX7_cheapest 52 = .ok (.iconst (-1), 1) := by decide +kernel
theorem dX7_cheapest_53 : decode cX7_cheapest 53 = .ok (.ireturn, 1) := by decide +kernel
theorem dX7_cheapest_54 : decode cX7_cheapest 54 = .ok (.aload_n 0, 1) := by decide +kernel
theorem dX7_cheapest_55 : decode cX7_cheapest 55 = .ok (.getfield 14, 3) := by decide +kernel
theorem dX7_cheapest_58 : decode cX7_cheapest 58 = .ok (.iload_n 1, 1) := by decide +kernel
theorem dX7_cheapest_59 : decode cX7_cheapest 59 = .ok (.invokevirtual 115, 3) := by decide +kernel
theorem dX7_cheapest_62 : decode cX7_cheapest 62 = .ok (.bipush (-5), 2) := by decide +kernel
theorem dX7_cheapest_64 : decode cX7_cheapest 64 = .ok (.if_icmp .eq 6, 3) := by decide +kernel
theorem dX7_cheapest_67 : decode cX7_cheapest 67 = .ok (.bipush (-3), 2) := by decide +kernel
theorem dX7_cheapest_69 : decode cX7_cheapest 69 = .ok (.ireturn, 1) := by decide +kernel
theorem dX7_cheapest_70 : decode cX7_cheapest 70 = .ok (.aload_n 0, 1) := by decide +kernel
theorem dX7_cheapest_71 : decode cX7_cheapest 71 = .ok (.getfield 34, 3) := by decide +kernel
theorem dX7_cheapest_74 : decode cX7_cheapest 74 = .ok (.aload_n 0, 1) := by decide +kernel
theorem dX7_cheapest_75 : decode cX7_cheapest 75 = .ok (.getfield 14, 3) := by decide +kernel
theorem dX7_cheapest_78 : decode cX7_cheapest 78 = .ok (.iload_n 1, 1) := by decide +kernel
theorem dX7_cheapest_79 : decode cX7_cheapest 79 = .ok (.iload 4, 2) := by decide +kernel
theorem dX7_cheapest_81 : decode cX7_cheapest 81 = .ok (.ifCond .eq 7, 3) := by decide +kernel
theorem dX7_cheapest_84 : decode cX7_cheapest 84 = .ok (.iconst 0, 1) := by decide +kernel
theorem dX7_cheapest_85 : decode cX7_cheapest 85 = .ok (.goto 4, 3) := by decide +kernel
theorem dX7_cheapest_88 : decode cX7_cheapest 88 = .ok (.iload_n 2, 1) := by decide +kernel
theorem dX7_cheapest_89 : decode cX7_cheapest 89 = .ok (.iload 4, 2) := by decide +kernel
theorem dX7_cheapest_91 : decode cX7_cheapest 91 = .ok (.ifCond .eq 7, 3) := by decide +kernel
theorem dX7_cheapest_94 : decode cX7_cheapest 94 = .ok (.iconst 3, 1) := by decide +kernel
theorem dX7_cheapest_95 : decode cX7_cheapest 95 = .ok (.goto 4, 3) := by decide +kernel
theorem dX7_cheapest_98 : decode cX7_cheapest 98 = .ok (.iload_n 2, 1) := by decide +kernel
theorem dX7_cheapest_99 : decode cX7_cheapest 99 = .ok (.invokevirtual 254, 3) := by decide +kernel
theorem dX7_cheapest_102 : decode cX7_cheapest 102 = .ok (.aload_n 0, 1) := by decide +kernel
theorem dX7_cheapest_103 : decode cX7_cheapest 103 = .ok (.getfield 34, 3) := by decide +kernel
theorem dX7_cheapest_106 : decode cX7_cheapest 106 = .ok (.getfield 258, 3) := by decide +kernel
theorem dX7_cheapest_109 : decode cX7_cheapest 109 = .ok (.bipush (-5), 2) := by decide +kernel
theorem dX7_cheapest_111 : decode cX7_cheapest 111 = .ok (.if_icmp .ne 6, 3) := by decide +kernel
theorem dX7_cheapest_114 : decode cX7_cheapest 114 = .ok (.bipush (-5), 2) := by decide +kernel
theorem dX7_cheapest_116 : decode cX7_cheapest 116 = .ok (.ireturn, 1) := by decide +kernel
theorem dX7_cheapest_117 : decode cX7_cheapest 117 = .ok (.iload_n 3, 1) := by decide +kernel
theorem dX7_cheapest_118 : decode cX7_cheapest 118 = .ok (.tableswitch 50 0 2 #[26, 34, 42], 26) := by decide +kernel
theorem dX7_cheapest_144 : decode cX7_cheapest 144 = .ok (.aload_n 0, 1) := by decide +kernel
theorem dX7_cheapest_145 : decode cX7_cheapest 145 = .ok (.getfield 34, 3) := by decide +kernel
theorem dX7_cheapest_148 : decode cX7_cheapest 148 = .ok (.getfield 258, 3) := by decide +kernel
theorem dX7_cheapest_151 : decode cX7_cheapest 151 = .ok (.ireturn, 1) := by decide +kernel
theorem dX7_cheapest_152 : decode cX7_cheapest 152 = .ok (.aload_n 0, 1) := by decide +kernel
theorem dX7_cheapest_153 : decode cX7_cheapest 153 = .ok (.getfield 34, 3) := by decide +kernel
theorem dX7_cheapest_156 : decode cX7_cheapest 156 = .ok (.getfield 261, 3) := by decide +kernel
theorem dX7_cheapest_159 : decode cX7_cheapest 159 = .ok (.ireturn, 1) := by decide +kernel
theorem dX7_cheapest_160 : decode cX7_cheapest 160 = .ok (.aload_n 0, 1) := by decide +kernel
theorem dX7_cheapest_161 : decode cX7_cheapest 161 = .ok (.getfield 34, 3) := by decide +kernel
theorem dX7_cheapest_164 : decode cX7_cheapest 164 = .ok (.getfield 264, 3) := by decide +kernel
theorem dX7_cheapest_167 : decode cX7_cheapest 167 = .ok (.ireturn, 1) := by decide +kernel
theorem dX7_cheapest_168 : decode cX7_cheapest 168 = .ok (.aload_n 0, 1) := by decide +kernel
theorem dX7_cheapest_169 : decode cX7_cheapest 169 = .ok (.getfield 34, 3) := by decide +kernel
theorem dX7_cheapest_172 : decode cX7_cheapest 172 = .ok (.getfield 267, 3) := by decide +kernel
theorem dX7_cheapest_175 : decode cX7_cheapest 175 = .ok (.ireturn, 1) := by decide +kernel
theorem dX7_best_0 : decode cX7_best 0 = .ok (.iload_n 1, 1) := by decide +kernel
theorem dX7_best_1 : decode cX7_best 1 = .ok (.iconst 4, 1) := by decide +kernel
theorem dX7_best_2 : decode cX7_best 2 = .ok (.invokestatic 63, 3) := by decide +kernel
theorem dX7_best_5 : decode cX7_best 5 = .ok (.ifCond .ne 5, 3) := by decide +kernel
theorem dX7_best_8 : decode cX7_best 8 = .ok (.iconst (-1), 1) := by decide +kernel
theorem dX7_best_9 : decode cX7_best 9 = .ok (.ireturn, 1) := by decide +kernel
theorem dX7_best_10 : decode cX7_best 10 = .ok (.aload_n 0, 1) := by decide +kernel
theorem dX7_best_11 : decode cX7_best 11 = .ok (.iconst 1, 1) := by decide +kernel
theorem dX7_best_12 : decode cX7_best 12 = .ok (.invokevirtual 199, 3) := by decide +kernel
theorem dX7_best_15 : decode cX7_best 15 = .ok (.ifCond .ne 6, 3) := by decide +kernel
theorem dX7_best_18 : decode cX7_best 18 = .ok (.bipush (-4), 2) := by decide +kernel
theorem dX7_best_20 : decode cX7_best 20 = .ok (.ireturn, 1) := by decide +kernel
theorem dX7_best_21 : decode cX7_best 21 = .ok (.aload_n 0, 1) := by decide +kernel
theorem dX7_best_22 : decode cX7_best 22 = .ok (.getfield 41, 3) := by decide +kernel
theorem dX7_best_25 : decode cX7_best 25 = .ok (.aload_n 0, 1) := by decide +kernel
theorem dX7_best_26 : decode cX7_best 26 = .ok (.getfield 14, 3) := by decide +kernel
theorem dX7_best_29 : decode cX7_best 29 = .ok (.invokevirtual 206, 3) := by decide +kernel
theorem dX7_best_32 : decode cX7_best 32 = .ok (.aload_n 0, 1) := by decide +kernel
theorem dX7_best_33 : decode cX7_best 33 = .ok (.aload_n 0, 1) := by decide +kernel
theorem dX7_best_34 : decode cX7_best 34 = .ok (.getfield 41, 3) := by decide +kernel
theorem dX7_best_37 : decode cX7_best 37 = .ok (.getfield 209, 3) := by decide +kernel
theorem dX7_best_40 : decode cX7_best 40 = .ok (.putfield 59, 3) := by decide +kernel
theorem dX7_best_43 : decode cX7_best 43 = .ok (.aload_n 0, 1) := by decide +kernel
theorem dX7_best_44 : decode cX7_best 44 = .ok (.getfield 41, 3) := by decide +kernel
theorem dX7_best_47 : decode cX7_best 47 = .ok (.iload_n 1, 1) := by decide +kernel
theorem dX7_best_48 : decode cX7_best 48 = .ok (.invokevirtual 270, 3) := by decide +kernel
theorem dX7_best_51 : decode cX7_best 51 = .ok (.ireturn, 1) := by decide +kernel
theorem dX7_turn_0 : decode cX7_turn 0 = .ok (.iload_n 1, 1) := by decide +kernel
theorem dX7_turn_1 : decode cX7_turn 1 = .ok (.invokestatic 147, 3) := by decide +kernel
theorem dX7_turn_4 : decode cX7_turn 4 = .ok (.ifCond .ne 5, 3) := by decide +kernel
theorem dX7_turn_7 : decode cX7_turn 7 = .ok (.iconst (-1), 1) := by decide +kernel
theorem dX7_turn_8 : decode cX7_turn 8 = .ok (.ireturn, 1) := by decide +kernel
theorem dX7_turn_9 : decode cX7_turn 9 = .ok (.iload_n 2, 1) := by decide +kernel
theorem dX7_turn_10 : decode cX7_turn 10 = .ok (.ifCond .lt 20, 3) := by decide +kernel
theorem dX7_turn_13 : decode cX7_turn 13 = .ok (.iload_n 3, 1) := by decide +kernel
theorem dX7_turn_14 : decode cX7_turn 14 = .ok (.iload_n 2, 1) := by decide +kernel
theorem dX7_turn_15 : decode cX7_turn 15 = .ok (.if_icmp .le 15, 3) := by decide +kernel
theorem dX7_turn_18 : decode cX7_turn 18 = .ok (.iload_n 3, 1) := by decide +kernel
theorem dX7_turn_19 : decode cX7_turn 19 = .ok (.aload_n 0, 1) := by decide +kernel
theorem dX7_turn_20 : decode cX7_turn 20 = .ok (.getfield 14, 3) := by decide +kernel
theorem dX7_turn_23 : decode cX7_turn 23 = .ok (.iload_n 1, 1) := by decide +kernel
theorem dX7_turn_24 : decode cX7_turn 24 = .ok (.invokevirtual 195, 3) := by decide +kernel
theorem dX7_turn_27 : decode cX7_turn 27 = .ok (.if_icmp .lt 6, 3) := by decide +kernel
theorem dX7_turn_30 : decode cX7_turn 30 = .ok (.bipush (-2), 2) := by decide +kernel
theorem dX7_turn_32 : decode cX7_turn 32 = .ok (.ireturn, 1) := by decide +kernel
theorem dX7_turn_33 : decode cX7_turn 33 = .ok (.aload_n 0, 1) := by decide +kernel
theorem dX7_turn_34 : decode cX7_turn 34 = .ok (.getfield 41, 3) := by decide +kernel
theorem dX7_turn_37 : decode cX7_turn 37 = .ok (.aload_n 0, 1) := by decide +kernel
theorem dX7_turn_38 : decode cX7_turn 38 = .ok (.getfield 14, 3) := by decide +kernel
theorem dX7_turn_41 : decode cX7_turn 41 = .ok (.iload_n 1, 1) := by decide +kernel
theorem dX7_turn_42 : decode cX7_turn 42 = .ok (.iload_n 2, 1) := by decide +kernel
theorem dX7_turn_43 : decode cX7_turn 43 = .ok (.iload_n 3, 1) := by decide +kernel
theorem dX7_turn_44 : decode cX7_turn 44 = .ok (.invokevirtual 273, 3) := by decide +kernel
theorem dX7_turn_47 : decode cX7_turn 47 = .ok (.ifCond .eq 20, 3) := by decide +kernel
theorem dX7_turn_50 : decode cX7_turn 50 = .ok (.aload_n 0, 1) := by decide +kernel
theorem dX7_turn_51 : decode cX7_turn 51 = .ok (.getfield 41, 3) := by decide +kernel
theorem dX7_turn_54 : decode cX7_turn 54 = .ok (.aload_n 0, 1) := by decide +kernel
theorem dX7_turn_55 : decode cX7_turn 55 = .ok (.getfield 14, 3) := by decide +kernel
theorem dX7_turn_58 : decode cX7_turn 58 = .ok (.iload_n 1, 1) := by decide +kernel
theorem dX7_turn_59 : decode cX7_turn 59 = .ok (.iload_n 2, 1) := by decide +kernel
theorem dX7_turn_60 : decode cX7_turn 60 = .ok (.iload_n 3, 1) := by decide +kernel
theorem dX7_turn_61 : decode cX7_turn 61 = .ok (.invokevirtual 277, 3) := by decide +kernel
theorem dX7_turn_64 : decode cX7_turn 64 = .ok (.goto 6, 3) := by decide +kernel
theorem dX7_turn_67 : decode cX7_turn 67 = .ok (.ldc_w 281, 3) := by decide +kernel
theorem dX7_turn_70 : decode cX7_turn 70 = .ok (.ireturn, 1) := by decide +kernel
theorem dX7_shift_0 : decode cX7_shift 0 = .ok (.aload_n 0, 1) := by decide +kernel
theorem dX7_shift_1 : decode cX7_shift 1 = .ok (.getfield 14, 3) := by decide +kernel
theorem dX7_shift_4 : decode cX7_shift 4 = .ok (.iload_n 1, 1) := by decide +kernel
theorem dX7_shift_5 : decode cX7_shift 5 = .ok (.invokevirtual 100, 3) := by decide +kernel
theorem dX7_shift_8 : decode cX7_shift 8 = .ok (.ifCond .eq 10, 3) := by decide +kernel
theorem dX7_shift_11 : decode cX7_shift 11 = .ok (.iload_n 2, 1) := by decide +kernel
theorem dX7_shift_12 : decode cX7_shift 12 = .ok (.invokestatic 147, 3) := by decide +kernel
theorem dX7_shift_15 : decode cX7_shift 15 = .ok (.ifCond .ne 5, 3) := by decide +kernel
theorem dX7_shift_18 : decode cX7_shift 18 = .ok (.iconst (-1), 1) := by decide +kernel
theorem dX7_shift_19 : decode cX7_shift 19 = .ok (.ireturn, 1) := by decide +kernel
theorem dX7_shift_20 : decode cX7_shift 20 = .ok (.aload_n 0, 1) := by decide +kernel
theorem dX7_shift_21 : decode cX7_shift 21 = .ok (.getfield 14, 3) := by decide +kernel
theorem dX7_shift_24 : decode cX7_shift 24 = .ok (.iload_n 1, 1) := by decide +kernel
theorem dX7_shift_25 : decode cX7_shift 25 = .ok (.invokevirtual 115, 3) := by decide +kernel
theorem dX7_shift_28 : decode cX7_shift 28 = .ok (.istore 4, 2) := by decide +kernel
theorem dX7_shift_30 : decode cX7_shift 30 = .ok (.iload 4, 2) := by decide +kernel
theorem dX7_shift_32 : decode cX7_shift 32 = .ok (.bipush (-5), 2) := by decide +kernel
theorem dX7_shift_34 : decode cX7_shift 34 = .ok (.if_icmp .ne 6, 3) := by decide +kernel
theorem dX7_shift_37 : decode cX7_shift 37 = .ok (.bipush (-3), 2) := by decide +kernel
theorem dX7_shift_39 : decode cX7_shift 39 = .ok (.ireturn, 1) := by decide +kernel
theorem dX7_shift_40 : decode cX7_shift 40 = .ok (.iload 4, 2) := by decide +kernel
theorem dX7_shift_42 : decode cX7_shift 42 = .ok (.iload_n 2, 1) := by decide +kernel
theorem dX7_shift_43 : decode cX7_shift 43 = .ok (.if_icmp .ne 16, 3) := by decide +kernel
theorem dX7_shift_46 : decode cX7_shift 46 = .ok (.aload_n 0, 1) := by decide +kernel
theorem dX7_shift_47 : decode cX7_shift 47 = .ok (.getfield 14, 3) := by decide +kernel
theorem dX7_shift_50 : decode cX7_shift 50 = .ok (.iload_n 2, 1) := by decide +kernel
theorem dX7_shift_51 : decode cX7_shift 51 = .ok (.invokevirtual 195, 3) := by decide +kernel
theorem dX7_shift_54 : decode cX7_shift 54 = .ok (.iconst 1, 1) := by decide +kernel
theorem dX7_shift_55 : decode cX7_shift 55 = .ok (.isub, 1) := by decide +kernel
theorem dX7_shift_56 : decode cX7_shift 56 = .ok (.goto 11, 3) := by decide +kernel
theorem dX7_shift_59 : decode cX7_shift 59 = .ok (.aload_n 0, 1) := by decide +kernel
theorem dX7_shift_60 : decode cX7_shift 60 = .ok (.getfield 14, 3) := by decide +kernel
theorem dX7_shift_63 : decode cX7_shift 63 = .ok (.iload_n 2, 1) := by decide +kernel
theorem dX7_shift_64 : decode cX7_shift 64 = .ok (.invokevirtual 195, 3) := by decide +kernel
theorem dX7_shift_67 : decode cX7_shift 67 = .ok (.istore 5, 2) := by decide +kernel
theorem dX7_shift_69 : decode cX7_shift 69 = .ok (.iload_n 3, 1) := by decide +kernel
theorem dX7_shift_70 : decode cX7_shift 70 = .ok (.iload 5, 2) := by decide +kernel
theorem dX7_shift_72 : decode cX7_shift 72 = .ok (.invokestatic 63, 3) := by decide +kernel
theorem dX7_shift_75 : decode cX7_shift 75 = .ok (.ifCond .eq 21, 3) := by decide +kernel
theorem dX7_shift_78 : decode cX7_shift 78 = .ok (.iload 4, 2) := by decide +kernel
theorem dX7_shift_80 : decode cX7_shift 80 = .ok (.iload_n 2, 1) := by decide +kernel
theorem dX7_shift_81 : decode cX7_shift 81 = .ok (.if_icmp .ne 18, 3) := by decide +kernel
theorem dX7_shift_84 : decode cX7_shift 84 = .ok (.iload_n 3, 1) := by decide +kernel
theorem dX7_shift_85 : decode cX7_shift 85 = .ok (.aload_n 0, 1) := by decide +kernel
theorem dX7_shift_86 : decode cX7_shift 86 = .ok (.getfield 14, 3) := by decide +kernel
theorem dX7_shift_89 : decode cX7_shift 89 = .ok (.iload_n 1, 1) := by decide +kernel
theorem dX7_shift_90 : decode cX7_shift 90 = .ok (.invokevirtual 124, 3) := by decide +kernel
theorem dX7_shift_93 : decode cX7_shift 93 = .ok (.if_icmp .ne 6, 3) := by decide +kernel
theorem dX7_shift_96 : decode cX7_shift 96 = .ok (.bipush (-2), 2) := by decide +kernel
theorem dX7_shift_98 : decode cX7_shift 98 = .ok (.ireturn, 1) := by decide +kernel
theorem dX7_shift_99 : decode cX7_shift 99 = .ok (.aload_n 0, 1) := by decide +kernel
theorem dX7_shift_100 : decode cX7_shift 100 = .ok (.getfield 41, 3) := by decide +kernel
theorem dX7_shift_103 : decode cX7_shift 103 = .ok (.aload_n 0, 1) := by decide +kernel
theorem dX7_shift_104 : decode cX7_shift 104 = .ok (.getfield 14, 3) := by decide +kernel
theorem dX7_shift_107 : decode cX7_shift 107 = .ok (.iload_n 1, 1) := by decide +kernel
theorem dX7_shift_108 : decode cX7_shift 108 = .ok (.iload_n 2, 1) := by decide +kernel
theorem dX7_shift_109 : decode cX7_shift 109 = .ok (.iload_n 3, 1) := by decide +kernel
theorem dX7_shift_110 : decode cX7_shift 110 = .ok (.invokevirtual 282, 3) := by decide +kernel
theorem dX7_shift_113 : decode cX7_shift 113 = .ok (.ifCond .eq 20, 3) := by decide +kernel
theorem dX7_shift_116 : decode cX7_shift 116 = .ok (.aload_n 0, 1) := by decide +kernel
theorem dX7_shift_117 : decode cX7_shift 117 = .ok (.getfield 41, 3) := by decide +kernel
theorem dX7_shift_120 : decode cX7_shift 120 = .ok (.aload_n 0, 1) := by decide +kernel
theorem dX7_shift_121 : decode cX7_shift 121 = .ok (.getfield 14, 3) := by decide +kernel
theorem dX7_shift_124 : decode cX7_shift 124 = .ok (.iload_n 1, 1) := by decide +kernel
theorem dX7_shift_125 : decode cX7_shift 125 = .ok (.iload_n 2, 1) := by decide +kernel
theorem dX7_shift_126 : decode cX7_shift 126 = .ok (.iload_n 3, 1) := by decide +kernel
theorem dX7_shift_127 : decode cX7_shift 127 = .ok (.invokevirtual 285, 3) := by decide +kernel
theorem dX7_shift_130 : decode cX7_shift 130 = .ok (.goto 6, 3) := by decide +kernel
theorem dX7_shift_133 : decode cX7_shift 133 = .ok (.ldc_w 281, 3) := by decide +kernel
theorem dX7_shift_136 : decode cX7_shift 136 = .ok (.ireturn, 1) := by decide +kernel
theorem dX7_swap_0 : decode cX7_swap 0 = .ok (.aload_n 0, 1) := by decide +kernel
theorem dX7_swap_1 : decode cX7_swap 1 = .ok (.getfield 14, 3) := by decide +kernel
theorem dX7_swap_4 : decode cX7_swap 4 = .ok (.iload_n 1, 1) := by decide +kernel
theorem dX7_swap_5 : decode cX7_swap 5 = .ok (.invokevirtual 100, 3) := by decide +kernel
theorem dX7_swap_8 : decode cX7_swap 8 = .ok (.ifCond .eq 19, 3) := by decide +kernel
theorem dX7_swap_11 : decode cX7_swap 11 = .ok (.aload_n 0, 1) := by decide +kernel
theorem dX7_swap_12 : decode cX7_swap 12 = .ok (.getfield 14, 3) := by decide +kernel
theorem dX7_swap_15 : decode cX7_swap 15 = .ok (.iload_n 2, 1) := by decide +kernel
theorem dX7_swap_16 : decode cX7_swap 16 = .ok (.invokevirtual 100, 3) := by decide +kernel
theorem dX7_swap_19 : decode cX7_swap 19 = .ok (.ifCond .eq 8, 3) := by decide +kernel
theorem dX7_swap_22 : decode cX7_swap 22 = .ok (.iload_n 1, 1) := by decide +kernel
theorem dX7_swap_23 : decode cX7_swap 23 = .ok (.iload_n 2, 1) := by decide +kernel
theorem dX7_swap_24 : decode cX7_swap 24 = .ok (.if_icmp .ne 5, 3) := by decide +kernel
theorem dX7_swap_27 : decode cX7_swap 27 = .ok (.iconst (-1), 1) := by decide +kernel
theorem dX7_swap_28 : decode cX7_swap 28 = .ok (.ireturn, 1) := by decide +kernel
theorem dX7_swap_29 : decode cX7_swap 29 = .ok (.aload_n 0, 1) := by decide +kernel
theorem dX7_swap_30 : decode cX7_swap 30 = .ok (.getfield 14, 3) := by decide +kernel
theorem dX7_swap_33 : decode cX7_swap 33 = .ok (.iload_n 1, 1) := by decide +kernel
theorem dX7_swap_34 : decode cX7_swap 34 = .ok (.invokevirtual 115, 3) := by decide +kernel
theorem dX7_swap_37 : decode cX7_swap 37 = .ok (.bipush (-5), 2) := by decide +kernel
theorem dX7_swap_39 : decode cX7_swap 39 = .ok (.if_icmp .eq 16, 3) := by decide +kernel
theorem dX7_swap_42 : decode cX7_swap 42 = .ok (.aload_n 0, 1) := by decide +kernel
theorem dX7_swap_43 : decode cX7_swap 43 = .ok (.getfield 14, 3) := by decide +kernel
theorem dX7_swap_46 : decode cX7_swap 46 = .ok (.iload_n 2, 1) := by decide +kernel
theorem dX7_swap_47 : decode cX7_swap 47 = .ok (.invokevirtual 115, 3) := by decide +kernel
theorem dX7_swap_50 : decode cX7_swap 50 = .ok (.bipush (-5), 2) := by decide +kernel
theorem dX7_swap_52 : decode cX7_swap 52 = .ok (.if_icmp .ne 6, 3) := by decide +kernel
theorem dX7_swap_55 : decode cX7_swap 55 = .ok (.bipush (-3), 2) := by decide +kernel
theorem dX7_swap_57 : decode cX7_swap 57 = .ok (.ireturn, 1) := by decide +kernel
theorem dX7_swap_58 : decode cX7_swap 58 = .ok (.aload_n 0, 1) := by decide +kernel
theorem dX7_swap_59 : decode cX7_swap 59 = .ok (.getfield 41, 3) := by decide +kernel
theorem dX7_swap_62 : decode cX7_swap 62 = .ok (.aload_n 0, 1) := by decide +kernel
theorem dX7_swap_63 : decode cX7_swap 63 = .ok (.getfield 14, 3) := by decide +kernel
theorem dX7_swap_66 : decode cX7_swap 66 = .ok (.iload_n 1, 1) := by decide +kernel
theorem dX7_swap_67 : decode cX7_swap 67 = .ok (.iload_n 2, 1) := by decide +kernel
theorem dX7_swap_68 : decode cX7_swap 68 = .ok (.invokevirtual 288, 3) := by decide +kernel
theorem dX7_swap_71 : decode cX7_swap 71 = .ok (.ifCond .eq 19, 3) := by decide +kernel
theorem dX7_swap_74 : decode cX7_swap 74 = .ok (.aload_n 0, 1) := by decide +kernel
theorem dX7_swap_75 : decode cX7_swap 75 = .ok (.getfield 41, 3) := by decide +kernel
theorem dX7_swap_78 : decode cX7_swap 78 = .ok (.aload_n 0, 1) := by decide +kernel
theorem dX7_swap_79 : decode cX7_swap 79 = .ok (.getfield 14, 3) := by decide +kernel
theorem dX7_swap_82 : decode cX7_swap 82 = .ok (.iload_n 1, 1) := by decide +kernel
theorem dX7_swap_83 : decode cX7_swap 83 = .ok (.iload_n 2, 1) := by decide +kernel
theorem dX7_swap_84 : decode cX7_swap 84 = .ok (.invokevirtual 292, 3) := by decide +kernel
theorem dX7_swap_87 : decode cX7_swap 87 = .ok (.goto 6, 3) := by decide +kernel
theorem dX7_swap_90 : decode cX7_swap 90 = .ok (.ldc_w 281, 3) := by decide +kernel
theorem dX7_swap_93 : decode cX7_swap 93 = .ok (.ireturn, 1) := by decide +kernel
theorem dX7_late_0 : decode cX7_late 0 = .ok (.iload_n 1, 1) := by decide +kernel
theorem dX7_late_1 : decode cX7_late 1 = .ok (.invokestatic 147, 3) := by decide +kernel
theorem dX7_late_4 : decode cX7_late 4 = .ok (.ifCond .ne 5, 3) := by decide +kernel
theorem dX7_late_7 : decode cX7_late 7 = .ok (.iconst (-1), 1) := by decide +kernel
theorem dX7_late_8 : decode cX7_late 8 = .ok (.ireturn, 1) := by decide +kernel
theorem dX7_late_9 : decode cX7_late 9 = .ok (.iload_n 2, 1) := by decide +kernel
theorem dX7_late_10 : decode cX7_late 10 = .ok (.sipush 1999, 3) := by decide +kernel
theorem dX7_late_13 : decode cX7_late 13 = .ok (.invokestatic 63, 3) := by decide +kernel
theorem dX7_late_16 : decode cX7_late 16 = .ok (.ifCond .ne 6, 3) := by decide +kernel
theorem dX7_late_19 : decode cX7_late 19 = .ok (.bipush (-2), 2) := by decide +kernel
theorem dX7_late_21 : decode cX7_late 21 = .ok (.ireturn, 1) := by decide +kernel
theorem dX7_late_22 : decode cX7_late 22 = .ok (.aload_n 0, 1) := by decide +kernel
theorem dX7_late_23 : decode cX7_late 23 = .ok (.getfield 27, 3) := by decide +kernel
theorem dX7_late_26 : decode cX7_late 26 = .ok (.aload_n 0, 1) := by decide +kernel
theorem dX7_late_27 : decode cX7_late 27 = .ok (.getfield 14, 3) := by decide +kernel
theorem dX7_late_30 : decode cX7_late 30 = .ok (.iload_n 1, 1) := by decide +kernel
theorem dX7_late_31 : decode cX7_late 31 = .ok (.invokevirtual 168, 3) := by decide +kernel
theorem dX7_late_34 : decode cX7_late 34 = .ok (.aload_n 0, 1) := by decide +kernel
theorem dX7_late_35 : decode cX7_late 35 = .ok (.getfield 27, 3) := by decide +kernel
theorem dX7_late_38 : decode cX7_late 38 = .ok (.aload_n 0, 1) := by decide +kernel
theorem dX7_late_39 : decode cX7_late 39 = .ok (.getfield 14, 3) := by decide +kernel
theorem dX7_late_42 : decode cX7_late 42 = .ok (.iload_n 2, 1) := by decide +kernel
theorem dX7_late_43 : decode cX7_late 43 = .ok (.invokevirtual 175, 3) := by decide +kernel
theorem dX7_late_46 : decode cX7_late 46 = .ok (.pop, 1) := by decide +kernel
theorem dX7_late_47 : decode cX7_late 47 = .ok (.aload_n 0, 1) := by decide +kernel
theorem dX7_late_48 : decode cX7_late 48 = .ok (.getfield 27, 3) := by decide +kernel
theorem dX7_late_51 : decode cX7_late 51 = .ok (.getfield 296, 3) := by decide +kernel
theorem dX7_late_54 : decode cX7_late 54 = .ok (.ireturn, 1) := by decide +kernel
theorem dX7_due_0 : decode cX7_due 0 = .ok (.iconst 0, 1) := by decide +kernel
theorem dX7_due_1 : decode cX7_due 1 = .ok (.istore_n 2, 1) := by decide +kernel
theorem dX7_due_2 : decode cX7_due 2 = .ok (.iload_n 2, 1) := by decide +kernel
theorem dX7_due_3 : decode cX7_due 3 = .ok (.aload_n 0, 1) := by decide +kernel
theorem dX7_due_4 : decode cX7_due 4 = .ok (.getfield 14, 3) := by decide +kernel
theorem dX7_due_7 : decode cX7_due 7 = .ok (.getfield 75, 3) := by decide +kernel
theorem dX7_due_10 : decode cX7_due 10 = .ok (.if_icmp .ge 23, 3) := by decide +kernel
theorem dX7_due_13 : decode cX7_due 13 = .ok (.aload_n 0, 1) := by decide +kernel
theorem dX7_due_14 : decode cX7_due 14 = .ok (.getfield 14, 3) := by decide +kernel
theorem dX7_due_17 : decode cX7_due 17 = .ok (.iload_n 2, 1) := by decide +kernel
theorem dX7_due_18 : decode cX7_due 18 = .ok (.invokevirtual 299, 3) := by decide +kernel
theorem dX7_due_21 : decode cX7_due 21 = .ok (.iload_n 1, 1) := by decide +kernel
theorem dX7_due_22 : decode cX7_due 22 = .ok (.if_icmp .ne 5, 3) := by decide +kernel
theorem dX7_due_25 : decode cX7_due 25 = .ok (.iload_n 2, 1) := by decide +kernel
theorem dX7_due_26 : decode cX7_due 26 = .ok (.ireturn, 1) := by decide +kernel
theorem dX7_due_27 : decode cX7_due 27 = .ok (.iinc 2 1, 3) := by decide +kernel
theorem dX7_due_30 : decode cX7_due 30 = .ok (.goto (-28), 3) := by decide +kernel
theorem dX7_due_33 : decode cX7_due 33 = .ok (.bipush (-2), 2) := by decide +kernel
theorem dX7_due_35 : decode cX7_due 35 = .ok (.ireturn, 1) := by decide +kernel
theorem dX7_see_0 : decode cX7_see 0 = .ok (.iload_n 1, 1) := by decide +kernel
theorem dX7_see_1 : decode cX7_see 1 = .ok (.iconst (-1), 1) := by decide +kernel
theorem dX7_see_2 : decode cX7_see 2 = .ok (.if_icmp .ne 14, 3) := by decide +kernel
theorem dX7_see_5 : decode cX7_see 5 = .ok (.aload_n 0, 1) := by decide +kernel
theorem dX7_see_6 : decode cX7_see 6 = .ok (.getfield 14, 3) := by decide +kernel
theorem dX7_see_9 : decode cX7_see 9 = .ok (.getfield 302, 3) := by decide +kernel
theorem dX7_see_12 : decode cX7_see 12 = .ok (.invokevirtual 306, 3) := by decide +kernel
theorem dX7_see_15 : decode cX7_see 15 = .ok (.ireturn, 1) := by decide +kernel
theorem dX7_see_16 : decode cX7_see 16 = .ok (.aload_n 0, 1) := by decide +kernel
theorem dX7_see_17 : decode cX7_see 17 = .ok (.getfield 14, 3) := by decide +kernel
theorem dX7_see_20 : decode cX7_see 20 = .ok (.iload_n 1, 1) := by decide +kernel
theorem dX7_see_21 : decode cX7_see 21 = .ok (.invokevirtual 100, 3) := by decide +kernel
theorem dX7_see_24 : decode cX7_see 24 = .ok (.ifCond .ne 5, 3) := by decide +kernel
theorem dX7_see_27 : decode cX7_see 27 = .ok (.iconst (-1), 1) := by decide +kernel
theorem dX7_see_28 : decode cX7_see 28 = .ok (.ireturn, 1) := by decide +kernel
theorem dX7_see_29 : decode cX7_see 29 = .ok (.iload_n 2, 1) := by decide +kernel
theorem dX7_see_30 : decode cX7_see 30 = .ok (.sipush 1999, 3) := by decide +kernel
theorem dX7_see_33 : decode cX7_see 33 = .ok (.invokestatic 63, 3) := by decide +kernel
theorem dX7_see_36 : decode cX7_see 36 = .ok (.ifCond .ne 6, 3) := by decide +kernel
theorem dX7_see_39 : decode cX7_see 39 = .ok (.bipush (-2), 2) := by decide +kernel
theorem dX7_see_41 : decode cX7_see 41 = .ok (.ireturn, 1) := by decide +kernel
theorem dX7_see_42 : decode cX7_see 42 = .ok (.aload_n 0, 1) := by decide +kernel
theorem dX7_see_43 : decode cX7_see 43 = .ok (.getfield 14, 3) := by decide +kernel
theorem dX7_see_46 : decode cX7_see 46 = .ok (.getfield 302, 3) := by decide +kernel
theorem dX7_see_49 : decode cX7_see 49 = .ok (.getfield 311, 3) := by decide +kernel
theorem dX7_see_52 : decode cX7_see 52 = .ok (.iconst 5, 1) := by decide +kernel
theorem dX7_see_53 : decode cX7_see 53 = .ok (.if_icmp .ge 18, 3) := by decide +kernel
theorem dX7_see_56 : decode cX7_see 56 = .ok (.aload_n 0, 1) := by decide +kernel
theorem dX7_see_57 : decode cX7_see 57 = .ok (.getfield 14, 3) := by decide +kernel
theorem dX7_see_60 : decode cX7_see 60 = .ok (.getfield 302, 3) := by decide +kernel
theorem dX7_see_63 : decode cX7_see 63 = .ok (.iload_n 1, 1) := by decide +kernel
theorem dX7_see_64 : decode cX7_see 64 = .ok (.iload_n 2, 1) := by decide +kernel
theorem dX7_see_65 : decode cX7_see 65 = .ok (.invokevirtual 312, 3) := by decide +kernel
theorem dX7_see_68 : decode cX7_see 68 = .ok (.goto 5, 3) := by decide +kernel
theorem dX7_see_71 : decode cX7_see 71 = .ok (.bipush (-4), 2) := by decide +kernel
theorem dX7_see_73 : decode cX7_see 73 = .ok (.ireturn, 1) := by decide +kernel
theorem dX7_fits_0 : decode cX7_fits 0 = .ok (.iload_n 1, 1) := by decide +kernel
theorem dX7_fits_1 : decode cX7_fits 1 = .ok (.invokestatic 147, 3) := by decide +kernel
theorem dX7_fits_4 : decode cX7_fits 4 = .ok (.ifCond .eq 11, 3) := by decide +kernel
theorem dX7_fits_7 : decode cX7_fits 7 = .ok (.iload_n 2, 1) := by decide +kernel
theorem dX7_fits_8 : decode cX7_fits 8 = .ok (.iconst 1, 1) := by decide +kernel
theorem dX7_fits_9 : decode cX7_fits 9 = .ok (.invokestatic 63, 3) := by decide +kernel
theorem dX7_fits_12 : decode cX7_fits 12 = .ok (.ifCond .ne 5, 3) := by decide +kernel
theorem dX7_fits_15 : decode cX7_fits 15 = .ok (.iconst (-1), 1) := by decide +kernel
theorem dX7_fits_16 : decode cX7_fits 16 = .ok (.ireturn, 1) := by decide +kernel
theorem dX7_fits_17 : decode cX7_fits 17 = .ok (.iconst 0, 1) := by decide +kernel
theorem dX7_fits_18 : decode cX7_fits 18 = .ok (.istore_n 3, 1) := by decide +kernel
theorem dX7_fits_19 : decode cX7_fits 19 = .ok (.bipush (-5), 2) := by decide +kernel
theorem dX7_fits_21 : decode cX7_fits 21 = .ok (.istore 4, 2) := by decide +kernel
theorem dX7_fits_23 : decode cX7_fits 23 = .ok (.aload_n 0, 1) := by decide +kernel
theorem dX7_fits_24 : decode cX7_fits 24 = .ok (.getfield 14, 3) := by decide +kernel
theorem dX7_fits_27 : decode cX7_fits 27 = .ok (.iload_n 1, 1) := by decide +kernel
theorem dX7_fits_28 : decode cX7_fits 28 = .ok (.iconst 1, 1) := by decide +kernel
theorem dX7_fits_29 : decode cX7_fits 29 = .ok (.invokevirtual 153, 3) := by decide +kernel
theorem dX7_fits_32 : decode cX7_fits 32 = .ok (.istore 5, 2) := by decide +kernel
theorem dX7_fits_34 : decode cX7_fits 34 = .ok (.aload_n 0, 1) := by decide +kernel
theorem dX7_fits_35 : decode cX7_fits 35 = .ok (.getfield 27, 3) := by decide +kernel
theorem dX7_fits_38 : decode cX7_fits 38 = .ok (.aload_n 0, 1) := by decide +kernel
theorem dX7_fits_39 : decode cX7_fits 39 = .ok (.getfield 14, 3) := by decide +kernel
theorem dX7_fits_42 : decode cX7_fits 42 = .ok (.iload_n 1, 1) := by decide +kernel
theorem dX7_fits_43 : decode cX7_fits 43 = .ok (.invokevirtual 168, 3) := by decide +kernel
theorem dX7_fits_46 : decode cX7_fits 46 = .ok (.iconst 0, 1) := by decide +kernel
theorem dX7_fits_47 : decode cX7_fits 47 = .ok (.istore 6, 2) := by decide +kernel
theorem dX7_fits_49 : decode cX7_fits 49 = .ok (.iload 6, 2) := by decide +kernel
theorem dX7_fits_51 : decode cX7_fits 51 = .ok (.bipush 100, 2) := by decide +kernel
theorem dX7_fits_53 : decode cX7_fits 53 = .ok (.if_icmp .ge 61, 3) := by decide +kernel
theorem dX7_fits_56 : decode cX7_fits 56 = .ok (.aload_n 0, 1) := by decide +kernel
theorem dX7_fits_57 : decode cX7_fits 57 = .ok (.getfield 27, 3) := by decide +kernel
theorem dX7_fits_60 : decode cX7_fits 60 = .ok (.aload_n 0, 1) := by decide +kernel
theorem dX7_fits_61 : decode cX7_fits 61 = .ok (.getfield 14, 3) := by decide +kernel
theorem dX7_fits_64 : decode cX7_fits 64 = .ok (.iload 6, 2) := by decide +kernel
theorem dX7_fits_66 : decode cX7_fits 66 = .ok (.iload 5, 2) := by decide +kernel
theorem dX7_fits_68 : decode cX7_fits 68 = .ok (.isub, 1) := by decide +kernel
theorem dX7_fits_69 : decode cX7_fits 69 = .ok (.invokevirtual 175, 3) := by decide +kernel
theorem dX7_fits_72 : decode cX7_fits 72 = .ok (.ifCond .eq 36, 3) := by decide +kernel
theorem dX7_fits_75 : decode cX7_fits 75 = .ok (.aload_n 0, 1) := by decide +kernel
theorem dX7_fits_76 : decode cX7_fits 76 = .ok (.getfield 27, 3) := by decide +kernel
theorem dX7_fits_79 : decode cX7_fits 79 = .ok (.aload_n 0, 1) := by decide +kernel
theorem dX7_fits_80 : decode cX7_fits 80 = .ok (.getfield 14, 3) := by decide +kernel
theorem dX7_fits_83 : decode cX7_fits 83 = .ok (.getfield 302, 3) := by decide +kernel
theorem dX7_fits_86 : decode cX7_fits 86 = .ok (.invokevirtual 314, 3) := by decide +kernel
theorem dX7_fits_89 : decode cX7_fits 89 = .ok (.ifCond .eq 19, 3) := by decide +kernel
theorem dX7_fits_92 : decode cX7_fits 92 = .ok (.iload_n 3, 1) := by decide +kernel
theorem dX7_fits_93 : decode cX7_fits 93 = .ok (.ifCond .ne 8, 3) := by decide +kernel
theorem dX7_fits_96 : decode cX7_fits 96 = .ok (.iload 6, 2) := by decide +kernel
theorem dX7_fits_98 : decode cX7_fits 98 = .ok (.goto 5, 3) := by decide +kernel
theorem dX7_fits_101 : decode cX7_fits 101 = .ok (.iload 4, 2) := by decide +kernel
theorem dX7_fits_103 : decode cX7_fits 103 = .ok (.istore 4, 2) := by decide +kernel
theorem dX7_fits_105 : decode cX7_fits 105 = .ok (.iinc 3 1, 3) := by decide +kernel
theorem dX7_fits_108 : decode cX7_fits 108 = .ok (.iinc 6 1, 3) := by decide +kernel
theorem dX7_fits_111 : decode cX7_fits 111 = .ok (.goto (-62), 3) := by decide +kernel
theorem dX7_fits_114 : decode cX7_fits 114 = .ok (.iload_n 2, 1) := by decide +kernel
theorem dX7_fits_115 : decode cX7_fits 115 = .ok (.ifCond .ne 7, 3) := by decide +kernel
theorem dX7_fits_118 : decode cX7_fits 118 = .ok (.iload_n 3, 1) := by decide +kernel
theorem dX7_fits_119 : decode cX7_fits 119 = .ok (.goto 5, 3) := by decide +kernel
theorem dX7_fits_122 : decode cX7_fits 122 = .ok (.iload 4, 2) := by decide +kernel
theorem dX7_fits_124 : decode cX7_fits 124 = .ok (.ireturn, 1) := by decide +kernel
theorem dX7_odds_0 : decode cX7_odds 0 = .ok (.aload_n 0, 1) := by decide +kernel
theorem dX7_odds_1 : decode cX7_odds 1 = .ok (.getfield 14, 3) := by decide +kernel
theorem dX7_odds_4 : decode cX7_odds 4 = .ok (.invokevirtual 242, 3) := by decide +kernel
theorem dX7_odds_7 : decode cX7_odds 7 = .ok (.istore_n 2, 1) := by decide +kernel
theorem dX7_odds_8 : decode cX7_odds 8 = .ok (.iload_n 1, 1) := by decide +kernel
theorem dX7_odds_9 : decode cX7_odds 9 = .ok (.iconst 1, 1) := by decide +kernel
theorem dX7_odds_10 : decode cX7_odds 10 = .ok (.invokestatic 63, 3) := by decide +kernel
theorem dX7_odds_13 : decode cX7_odds 13 = .ok (.ifCond .eq 7, 3) := by decide +kernel
theorem dX7_odds_16 : decode cX7_odds 16 = .ok (.iload_n 2, 1) := by decide +kernel
theorem dX7_odds_17 : decode cX7_odds 17 = .ok (.ifCond .ne 7, 3) := by decide +kernel
theorem dX7_odds_20 : decode cX7_odds 20 = .ok (.ldc2_w 318, 3) := by decide +kernel
theorem dX7_odds_23 : decode cX7_odds 23 = .ok (.lreturn, 1) := by decide +kernel
theorem dX7_odds_24 : decode cX7_odds 24 = .ok (.iconst 0, 1) := by decide +kernel
theorem dX7_odds_25 : decode cX7_odds 25 = .ok (.istore_n 3, 1) := by decide +kernel
theorem dX7_odds_26 : decode cX7_odds 26 = .ok (.iconst 0, 1) := by decide +kernel
theorem dX7_odds_27 : decode cX7_odds 27 = .ok (.istore 4, 2) := by decide +kernel
theorem dX7_odds_29 : decode cX7_odds 29 = .ok (.iload 4, 2) := by decide +kernel
theorem dX7_odds_31 : decode cX7_odds 31 = .ok (.aload_n 0, 1) := by decide +kernel
theorem dX7_odds_32 : decode cX7_odds 32 = .ok (.getfield 14, 3) := by decide +kernel
theorem dX7_odds_35 : decode cX7_odds 35 = .ok (.getfield 75, 3) := by decide +kernel
theorem dX7_odds_38 : decode cX7_odds 38 = .ok (.if_icmp .ge 58, 3) := by decide +kernel
theorem dX7_odds_41 : decode cX7_odds 41 = .ok (.aload_n 0, 1) := by decide +kernel
theorem dX7_odds_42 : decode cX7_odds 42 = .ok (.getfield 14, 3) := by decide +kernel
theorem dX7_odds_45 : decode cX7_odds 45 = .ok (.iload 4, 2) := by decide +kernel
theorem dX7_odds_47 : decode cX7_odds 47 = .ok (.invokevirtual 115, 3) := by decide +kernel
theorem dX7_odds_50 : decode cX7_odds 50 = .ok (.bipush (-5), 2) := by decide +kernel
theorem dX7_odds_52 : decode cX7_odds 52 = .ok (.if_icmp .ne 38, 3) := by decide +kernel
theorem dX7_odds_55 : decode cX7_odds 55 = .ok (.aload_n 0, 1) := by decide +kernel
theorem dX7_odds_56 : decode cX7_odds 56 = .ok (.getfield 34, 3) := by decide +kernel
theorem dX7_odds_59 : decode cX7_odds 59 = .ok (.aload_n 0, 1) := by decide +kernel
theorem dX7_odds_60 : decode cX7_odds 60 = .ok (.getfield 14, 3) := by decide +kernel
theorem dX7_odds_63 : decode cX7_odds 63 = .ok (.iload 4, 2) := by decide +kernel
theorem dX7_odds_65 : decode cX7_odds 65 = .ok (.iconst 0, 1) := by decide +kernel
theorem dX7_odds_66 : decode cX7_odds 66 = .ok (.iconst 3, 1) := by decide +kernel
theorem dX7_odds_67 : decode cX7_odds 67 = .ok (.invokevirtual 254, 3) := by decide +kernel
theorem dX7_odds_70 : decode cX7_odds 70 = .ok (.iload_n 3, 1) := by decide +kernel
theorem dX7_odds_71 : decode cX7_odds 71 = .ok (.aload_n 0, 1) := by decide +kernel
theorem dX7_odds_72 : decode cX7_odds 72 = .ok (.getfield 34, 3) := by decide +kernel
theorem dX7_odds_75 : decode cX7_odds 75 = .ok (.getfield 258, 3) := by decide +kernel
theorem dX7_odds_78 : decode cX7_odds 78 = .ok (.bipush (-5), 2) := by decide +kernel
theorem dX7_odds_80 : decode cX7_odds 80 = .ok (.if_icmp .ne 7, 3) := by decide +kernel
theorem dX7_odds_83 : decode cX7_odds 83 = .ok (.iconst 0, 1) := by decide +kernel
theorem dX7_odds_84 : decode cX7_odds 84 = .ok (.goto 4, 3) := by decide +kernel
theorem dX7_odds_87 : decode cX7_odds 87 = .ok (.iconst 1, 1) := by decide +kernel
theorem dX7_odds_88 : decode cX7_odds 88 = .ok (.iadd, 1) := by decide +kernel
theorem dX7_odds_89 : decode cX7_odds 89 = .ok (.istore_n 3, 1) := by decide +kernel
theorem dX7_odds_90 : decode cX7_odds 90 = .ok (.iinc 4 1, 3) := by decide +kernel
theorem dX7_odds_93 : decode cX7_odds 93 = .ok (.goto (-64), 3) := by decide +kernel
theorem dX7_odds_96 : decode cX7_odds 96 = .ok (.iload_n 3, 1) := by decide +kernel
theorem dX7_odds_97 : decode cX7_odds 97 = .ok (.iload_n 2, 1) := by decide +kernel
theorem dX7_odds_98 : decode cX7_odds 98 = .ok (.iload_n 1, 1) := by decide +kernel
theorem dX7_odds_99 : decode cX7_odds 99 = .ok (.invokestatic 320, 3) := by decide +kernel
theorem dX7_odds_102 : decode cX7_odds 102 = .ok (.i2l, 1) := by decide +kernel
theorem dX7_odds_103 : decode cX7_odds 103 = .ok (.lreturn, 1) := by decide +kernel
theorem dX7_mean_0 : decode cX7_mean 0 = .ok (.aload_n 0, 1) := by decide +kernel
theorem dX7_mean_1 : decode cX7_mean 1 = .ok (.getfield 14, 3) := by decide +kernel
theorem dX7_mean_4 : decode cX7_mean 4 = .ok (.getfield 75, 3) := by decide +kernel
theorem dX7_mean_7 : decode cX7_mean 7 = .ok (.aload_n 0, 1) := by decide +kernel
theorem dX7_mean_8 : decode cX7_mean 8 = .ok (.getfield 14, 3) := by decide +kernel
theorem dX7_mean_11 : decode cX7_mean 11 = .ok (.invokevirtual 242, 3) := by decide +kernel
theorem dX7_mean_14 : decode cX7_mean 14 = .ok (.isub, 1) := by decide +kernel
theorem dX7_mean_15 : decode cX7_mean 15 = .ok (.istore_n 2, 1) := by decide +kernel
theorem dX7_mean_16 : decode cX7_mean 16 = .ok (.iload_n 1, 1) := by decide +kernel
theorem dX7_mean_17 : decode cX7_mean 17 = .ok (.iconst 1, 1) := by decide +kernel
theorem dX7_mean_18 : decode cX7_mean 18 = .ok (.invokestatic 63, 3) := by decide +kernel
theorem dX7_mean_21 : decode cX7_mean 21 = .ok (.ifCond .eq 7, 3) := by decide +kernel
theorem dX7_mean_24 : decode cX7_mean 24 = .ok (.iload_n 2, 1) := by decide +kernel
theorem dX7_mean_25 : decode cX7_mean 25 = .ok (.ifCond .ne 7, 3) := by decide +kernel
theorem dX7_mean_28 : decode cX7_mean 28 = .ok (.ldc2_w 318, 3) := by decide +kernel
theorem dX7_mean_31 : decode cX7_mean 31 = .ok (.lreturn, 1) := by decide +kernel
theorem dX7_mean_32 : decode cX7_mean 32 = .ok (.aload_n 0, 1) := by decide +kernel
theorem dX7_mean_33 : decode cX7_mean 33 = .ok (.invokevirtual 251, 3) := by decide +kernel
theorem dX7_mean_36 : decode cX7_mean 36 = .ok (.iload_n 2, 1) := by decide +kernel
theorem dX7_mean_37 : decode cX7_mean 37 = .ok (.iload_n 1, 1) := by decide +kernel
theorem dX7_mean_38 : decode cX7_mean 38 = .ok (.invokestatic 320, 3) := by decide +kernel
theorem dX7_mean_41 : decode cX7_mean 41 = .ok (.i2l, 1) := by decide +kernel
theorem dX7_mean_42 : decode cX7_mean 42 = .ok (.lreturn, 1) := by decide +kernel
theorem dX7_drawn_0 : decode cX7_drawn 0 = .ok (.iload_n 2, 1) := by decide +kernel
theorem dX7_drawn_1 : decode cX7_drawn 1 = .ok (.bipush 8, 2) := by decide +kernel
theorem dX7_drawn_3 : decode cX7_drawn 3 = .ok (.invokestatic 63, 3) := by decide +kernel
theorem dX7_drawn_6 : decode cX7_drawn 6 = .ok (.ifCond .ne 6, 3) := by decide +kernel
theorem dX7_drawn_9 : decode cX7_drawn 9 = .ok (.bipush (-2), 2) := by decide +kernel
theorem dX7_drawn_11 : decode cX7_drawn 11 = .ok (.ireturn, 1) := by decide +kernel
theorem dX7_drawn_12 : decode cX7_drawn 12 = .ok (.aload_n 0, 1) := by decide +kernel
theorem dX7_drawn_13 : decode cX7_drawn 13 = .ok (.iconst 1, 1) := by decide +kernel
theorem dX7_drawn_14 : decode cX7_drawn 14 = .ok (.invokevirtual 199, 3) := by decide +kernel
theorem dX7_drawn_17 : decode cX7_drawn 17 = .ok (.ifCond .eq 12, 3) := by decide +kernel
theorem dX7_drawn_20 : decode cX7_drawn 20 = .ok (.aload_n 0, 1) := by decide +kernel
theorem dX7_drawn_21 : decode cX7_drawn 21 = .ok (.iload_n 1, 1) := by decide +kernel
theorem dX7_drawn_22 : decode cX7_drawn 22 = .ok (.iload_n 2, 1) := by decide +kernel
theorem dX7_drawn_23 : decode cX7_drawn 23 = .ok (.invokevirtual 323, 3) := by decide +kernel
theorem dX7_drawn_26 : decode cX7_drawn 26 = .ok (.goto 5, 3) := by decide +kernel
theorem dX7_drawn_29 : decode cX7_drawn 29 = .ok (.bipush (-4), 2) := by decide +kernel
theorem dX7_drawn_31 : decode cX7_drawn 31 = .ok (.ireturn, 1) := by decide +kernel
theorem dX7_chance_0 : decode cX7_chance 0 = .ok (.iload_n 2, 1) := by decide +kernel
theorem dX7_chance_1 : decode cX7_chance 1 = .ok (.bipush 8, 2) := by decide +kernel
theorem dX7_chance_3 : decode cX7_chance 3 = .ok (.invokestatic 63, 3) := by decide +kernel
theorem dX7_chance_6 : decode cX7_chance 6 = .ok (.ifCond .eq 22, 3) := by decide +kernel
theorem dX7_chance_9 : decode cX7_chance 9 = .ok (.iload_n 3, 1) := by decide +kernel
theorem dX7_chance_10 : decode cX7_chance 10 = .ok (.iconst 1, 1) := by decide +kernel
theorem dX7_chance_11 : decode cX7_chance 11 = .ok (.if_icmp .lt 17, 3) := by decide +kernel
theorem dX7_chance_14 : decode cX7_chance 14 = .ok (.iload_n 3, 1) := by decide +kernel
theorem dX7_chance_15 : decode cX7_chance 15 = .ok (.iconst 4, 1) := by decide +kernel
theorem dX7_chance_16 : decode cX7_chance 16 = .ok (.if_icmp .gt 12, 3) := by decide +kernel
theorem dX7_chance_19 : decode cX7_chance 19 = .ok (.iload 4, 2) := by decide +kernel
theorem dX7_chance_21 : decode cX7_chance 21 = .ok (.iconst 1, 1) := by decide +kernel
theorem dX7_chance_22 : decode cX7_chance 22 = .ok (.invokestatic 63, 3) := by decide +kernel
theorem dX7_chance_25 : decode cX7_chance 25 = .ok (.ifCond .ne 6, 3) := by decide +kernel
theorem dX7_chance_28 : decode cX7_chance 28 = .ok (.bipush (-2), 2) := by decide +kernel
theorem dX7_chance_30 : decode cX7_chance 30 = .ok (.ireturn, 1) := by decide +kernel
theorem dX7_chance_31 : decode cX7_chance 31 = .ok (.aload_n 0, 1) := by decide +kernel
theorem dX7_chance_32 : decode cX7_chance 32 = .ok (.iload_n 3, 1) := by decide +kernel
theorem dX7_chance_33 : decode cX7_chance 33 = .ok (.invokevirtual 199, 3) := by decide +kernel
theorem dX7_chance_36 : decode cX7_chance 36 = .ok (.ifCond .ne 6, 3) := by decide +kernel
theorem dX7_chance_39 : decode cX7_chance 39 = .ok (.bipush (-4), 2) := by decide +kernel
theorem dX7_chance_41 : decode cX7_chance 41 = .ok (.ireturn, 1) := by decide +kernel
theorem dX7_chance_42 : decode cX7_chance 42 = .ok (.iconst 0, 1) := by decide +kernel
theorem dX7_chance_43 : decode cX7_chance 43 = .ok (.istore 5, 2) := by decide +kernel
theorem dX7_chance_45 : decode cX7_chance 45 = .ok (.iconst 0, 1) := by decide +kernel
theorem dX7_chance_46 : decode cX7_chance 46 = .ok (.istore 6, 2) := by decide +kernel
theorem dX7_chance_48 : decode cX7_chance 48 = .ok (.iload 6, 2) := by decide +kernel
theorem dX7_chance_50 : decode cX7_chance 50 = .ok (.iload_n 3, 1) := by decide +kernel
theorem dX7_chance_51 : decode cX7_chance 51 = .ok (.if_icmp .ge 31, 3) := by decide +kernel
theorem dX7_chance_54 : decode cX7_chance 54 = .ok (.iload 5, 2) := by decide +kernel
theorem dX7_chance_56 : decode cX7_chance 56 = .ok (.aload_n 0, 1) := by decide +kernel
theorem dX7_chance_57 : decode cX7_chance 57 = .ok (.iload_n 1, 1) := by decide +kernel
theorem dX7_chance_58 : decode cX7_chance 58 = .ok (.iload 6, 2) := by decide +kernel
theorem dX7_chance_60 : decode cX7_chance 60 = .ok (.iadd, 1) := by decide +kernel
theorem dX7_chance_61 : decode cX7_chance 61 = .ok (.iload_n 2, 1) := by decide +kernel
theorem dX7_chance_62 : decode cX7_chance 62 = .ok (.invokevirtual 323, 3) := by decide +kernel
theorem dX7_chance_65 : decode cX7_chance 65 = .ok (.ifCond .ne 7, 3) := by decide +kernel
theorem dX7_chance_68 : decode cX7_chance 68 = .ok (.iconst 1, 1) := by decide +kernel
theorem dX7_chance_69 : decode cX7_chance 69 = .ok (.goto 4, 3) := by decide +kernel
theorem dX7_chance_72 : decode cX7_chance 72 = .ok (.iconst 0, 1) := by decide +kernel
theorem dX7_chance_73 : decode cX7_chance 73 = .ok (.iadd, 1) := by decide +kernel
theorem dX7_chance_74 : decode cX7_chance 74 = .ok (.istore 5, 2) := by decide +kernel
theorem dX7_chance_76 : decode cX7_chance 76 = .ok (.iinc 6 1, 3) := by decide +kernel
theorem dX7_chance_79 : decode cX7_chance 79 = .ok (.goto (-31), 3) := by decide +kernel
theorem dX7_chance_82 : decode cX7_chance 82 = .ok (.iload 5, 2) := by decide +kernel
theorem dX7_chance_84 : decode cX7_chance 84 = .ok (.iload_n 3, 1) := by decide +kernel
theorem dX7_chance_85 : decode cX7_chance 85 = .ok (.iload 4, 2) := by decide +kernel
theorem dX7_chance_87 : decode cX7_chance 87 = .ok (.invokestatic 320, 3) := by decide +kernel
theorem dX7_chance_90 : decode cX7_chance 90 = .ok (.ireturn, 1) := by decide +kernel
theorem dX7_plan_0 : decode cX7_plan 0 = .ok (.iload_n 1, 1) := by decide +kernel
theorem dX7_plan_1 : decode cX7_plan 1 = .ok (.iconst (-1), 1) := by decide +kernel
theorem dX7_plan_2 : decode cX7_plan 2 = .ok (.if_icmp .ne 14, 3) := by decide +kernel
theorem dX7_plan_5 : decode cX7_plan 5 = .ok (.aload_n 0, 1) := by decide +kernel
theorem dX7_plan_6 : decode cX7_plan 6 = .ok (.getfield 14, 3) := by decide +kernel
theorem dX7_plan_9 : decode cX7_plan 9 = .ok (.getfield 326, 3) := by decide +kernel
theorem dX7_plan_12 : decode cX7_plan 12 = .ok (.invokevirtual 306, 3) := by decide +kernel
theorem dX7_plan_15 : decode cX7_plan 15 = .ok (.ireturn, 1) := by decide +kernel
theorem dX7_plan_16 : decode cX7_plan 16 = .ok (.iload_n 1, 1) := by decide +kernel
theorem dX7_plan_17 : decode cX7_plan 17 = .ok (.iconst 3, 1) := by decide +kernel
theorem dX7_plan_18 : decode cX7_plan 18 = .ok (.invokestatic 63, 3) := by decide +kernel
theorem dX7_plan_21 : decode cX7_plan 21 = .ok (.ifCond .eq 19, 3) := by decide +kernel
theorem dX7_plan_24 : decode cX7_plan 24 = .ok (.iload_n 1, 1) := by decide +kernel
theorem dX7_plan_25 : decode cX7_plan 25 = .ok (.iconst 2, 1) := by decide +kernel
theorem dX7_plan_26 : decode cX7_plan 26 = .ok (.if_icmp .ne 16, 3) := by decide +kernel
theorem dX7_plan_29 : decode cX7_plan 29 = .ok (.aload_n 0, 1) := by decide +kernel
theorem dX7_plan_30 : decode cX7_plan 30 = .ok (.getfield 14, 3) := by decide +kernel
theorem dX7_plan_33 : decode cX7_plan 33 = .ok (.iload_n 2, 1) := by decide +kernel
theorem dX7_plan_34 : decode cX7_plan 34 = .ok (.invokevirtual 100, 3) := by decide +kernel
theorem dX7_plan_37 : decode cX7_plan 37 = .ok (.ifCond .ne 5, 3) := by decide +kernel
theorem dX7_plan_40 : decode cX7_plan 40 = .ok (.iconst (-1), 1) := by decide +kernel
theorem dX7_plan_41 : decode cX7_plan 41 = .ok (.ireturn, 1) := by decide +kernel
theorem dX7_plan_42 : decode cX7_plan 42 = .ok (.iload_n 1, 1) := by decide +kernel
theorem dX7_plan_43 : decode cX7_plan 43 = .ok (.iconst 3, 1) := by decide +kernel
theorem dX7_plan_44 : decode cX7_plan 44 = .ok (.if_icmp .ne 15, 3) := by decide +kernel
theorem dX7_plan_47 : decode cX7_plan 47 = .ok (.iload_n 2, 1) := by decide +kernel
theorem dX7_plan_48 : decode cX7_plan 48 = .ok (.bipush 99, 2) := by decide +kernel
theorem dX7_plan_50 : decode cX7_plan 50 = .ok (.invokestatic 63, 3) := by decide +kernel
theorem dX7_plan_53 : decode cX7_plan 53 = .ok (.ifCond .ne 6, 3) := by decide +kernel
theorem dX7_plan_56 : decode cX7_plan 56 = .ok (.bipush (-2), 2) := by decide +kernel
theorem dX7_plan_58 : decode cX7_plan 58 = .ok (.ireturn, 1) := by decide +kernel
theorem dX7_plan_59 : decode cX7_plan 59 = .ok (.aload_n 0, 1) := by decide +kernel
theorem dX7_plan_60 : decode cX7_plan 60 = .ok (.getfield 14, 3) := by decide +kernel
theorem dX7_plan_63 : decode cX7_plan 63 = .ok (.getfield 326, 3) := by decide +kernel
theorem dX7_plan_66 : decode cX7_plan 66 = .ok (.getfield 311, 3) := by decide +kernel
theorem dX7_plan_69 : decode cX7_plan 69 = .ok (.bipush 8, 2) := by decide +kernel
theorem dX7_plan_71 : decode cX7_plan 71 = .ok (.if_icmp .ge 18, 3) := by decide +kernel
theorem dX7_plan_74 : decode cX7_plan 74 = .ok (.aload_n 0, 1) := by decide +kernel
theorem dX7_plan_75 : decode cX7_plan 75 = .ok (.getfield 14, 3) := by decide +kernel
theorem dX7_plan_78 : decode cX7_plan 78 = .ok (.getfield 326, 3) := by decide +kernel
theorem dX7_plan_81 : decode cX7_plan 81 = .ok (.iload_n 1, 1) := by decide +kernel
theorem dX7_plan_82 : decode cX7_plan 82 = .ok (.iload_n 2, 1) := by decide +kernel
theorem dX7_plan_83 : decode cX7_plan 83 = .ok (.invokevirtual 312, 3) := by decide +kernel
theorem dX7_plan_86 : decode cX7_plan 86 = .ok (.goto 5, 3) := by decide +kernel
theorem dX7_plan_89 : decode cX7_plan 89 = .ok (.bipush (-4), 2) := by decide +kernel
theorem dX7_plan_91 : decode cX7_plan 91 = .ok (.ireturn, 1) := by decide +kernel
theorem dX7_ends_0 : decode cX7_ends 0 = .ok (.iload_n 1, 1) := by decide +kernel
theorem dX7_ends_1 : decode cX7_ends 1 = .ok (.iconst 1, 1) := by decide +kernel
theorem dX7_ends_2 : decode cX7_ends 2 = .ok (.invokestatic 63, 3) := by decide +kernel
theorem dX7_ends_5 : decode cX7_ends 5 = .ok (.ifCond .ne 5, 3) := by decide +kernel
theorem dX7_ends_8 : decode cX7_ends 8 = .ok (.iconst (-1), 1) := by decide +kernel
theorem dX7_ends_9 : decode cX7_ends 9 = .ok (.ireturn, 1) := by decide +kernel
theorem dX7_ends_10 : decode cX7_ends 10 = .ok (.aload_n 0, 1) := by decide +kernel
theorem dX7_ends_11 : decode cX7_ends 11 = .ok (.getfield 14, 3) := by decide +kernel
theorem dX7_ends_14 : decode cX7_ends 14 = .ok (.getfield 326, 3) := by decide +kernel
theorem dX7_ends_17 : decode cX7_ends 17 = .ok (.getfield 311, 3) := by decide +kernel
theorem dX7_ends_20 : decode cX7_ends 20 = .ok (.istore_n 2, 1) := by decide +kernel
theorem dX7_ends_21 : decode cX7_ends 21 = .ok (.aload_n 0, 1) := by decide +kernel
theorem dX7_ends_22 : decode cX7_ends 22 = .ok (.iload_n 2, 1) := by decide +kernel
theorem dX7_ends_23 : decode cX7_ends 23 = .ok (.invokevirtual 199, 3) := by decide +kernel
theorem dX7_ends_26 : decode cX7_ends 26 = .ok (.ifCond .ne 6, 3) := by decide +kernel
theorem dX7_ends_29 : decode cX7_ends 29 = .ok (.bipush (-4), 2) := by decide +kernel
theorem dX7_ends_31 : decode cX7_ends 31 = .ok (.ireturn, 1) := by decide +kernel
theorem dX7_ends_32 : decode cX7_ends 32 = .ok (.aload_n 0, 1) := by decide +kernel
theorem dX7_ends_33 : decode cX7_ends 33 = .ok (.getfield 21, 3) := by decide +kernel
theorem dX7_ends_36 : decode cX7_ends 36 = .ok (.aload_n 0, 1) := by decide +kernel
theorem dX7_ends_37 : decode cX7_ends 37 = .ok (.getfield 14, 3) := by decide +kernel
theorem dX7_ends_40 : decode cX7_ends 40 = .ok (.invokevirtual 329, 3) := by decide +kernel
theorem dX7_ends_43 : decode cX7_ends 43 = .ok (.iconst 0, 1) := by decide +kernel
theorem dX7_ends_44 : decode cX7_ends 44 = .ok (.istore_n 3, 1) := by decide +kernel
theorem dX7_ends_45 : decode cX7_ends 45 = .ok (.iload_n 3, 1) := by decide +kernel
theorem dX7_ends_46 : decode cX7_ends 46 = .ok (.iload_n 2, 1) := by decide +kernel
theorem dX7_ends_47 : decode cX7_ends 47 = .ok (.if_icmp .ge 122, 3) := by decide +kernel
theorem dX7_ends_50 : decode cX7_ends 50 = .ok (.aload_n 0, 1) := by decide +kernel
theorem dX7_ends_51 : decode cX7_ends 51 = .ok (.getfield 14, 3) := by decide +kernel
theorem dX7_ends_54 : decode cX7_ends 54 = .ok (.getfield 326, 3) := by decide +kernel
theorem dX7_ends_57 : decode cX7_ends 57 = .ok (.iload_n 3, 1) := by decide +kernel
theorem dX7_ends_58 : decode cX7_ends 58 = .ok (.invokevirtual 332, 3) := by decide +kernel
theorem dX7_ends_61 : decode cX7_ends 61 = .ok (.istore 4, 2) := by decide +kernel
theorem dX7_ends_63 : decode cX7_ends 63 = .ok (.aload_n 0, 1) := by decide +kernel
theorem dX7_ends_64 : decode cX7_ends 64 = .ok (.getfield 14, 3) := by decide +kernel
theorem dX7_ends_67 : decode cX7_ends 67 = .ok (.getfield 326, 3) := by decide +kernel
theorem dX7_ends_70 : decode cX7_ends 70 = .ok (.iload_n 3, 1) := by decide +kernel
theorem dX7_ends_71 : decode cX7_ends 71 = .ok (.invokevirtual 335, 3) := by decide +kernel
theorem dX7_ends_74 : decode cX7_ends 74 = .ok (.tableswitch 80 0 2 #[26, 41, 66], 26) := by decide +kernel
theorem dX7_ends_100 : decode cX7_ends 100 = .ok (.aload_n 0, 1) := by decide +kernel
theorem dX7_ends_101 : decode cX7_ends 101 = .ok (.getfield 34, 3) := by decide +kernel
theorem dX7_ends_104 : decode cX7_ends 104 = .ok (.aload_n 0, 1) := by decide +kernel
theorem dX7_ends_105 : decode cX7_ends 105 = .ok (.getfield 21, 3) := by decide +kernel
theorem dX7_ends_108 : decode cX7_ends 108 = .ok (.invokevirtual 202, 3) := by decide +kernel
theorem dX7_ends_111 : decode cX7_ends 111 = .ok (.pop, 1) := by decide +kernel
theorem dX7_ends_112 : decode cX7_ends 112 = .ok (.goto 51, 3) := by decide +kernel
theorem dX7_ends_115 : decode cX7_ends 115 = .ok (.aload_n 0, 1) := by decide +kernel
theorem dX7_ends_116 : decode cX7_ends 116 = .ok (.getfield 41, 3) := by decide +kernel
theorem dX7_ends_119 : decode cX7_ends 119 = .ok (.aload_n 0, 1) := by decide +kernel
theorem dX7_ends_120 : decode cX7_ends 120 = .ok (.getfield 21, 3) := by decide +kernel
theorem dX7_ends_123 : decode cX7_ends 123 = .ok (.invokevirtual 206, 3) := by decide +kernel
theorem dX7_ends_126 : decode cX7_ends 126 = .ok (.aload_n 0, 1) := by decide +kernel
theorem dX7_ends_127 : decode cX7_ends 127 = .ok (.getfield 41, 3) := by decide +kernel
theorem dX7_ends_130 : decode cX7_ends 130 = .ok (.aload_n 0, 1) := by decide +kernel
theorem dX7_ends_131 : decode cX7_ends 131 = .ok (.getfield 21, 3) := by decide +kernel
theorem dX7_ends_134 : decode cX7_ends 134 = .ok (.invokevirtual 212, 3) := by decide +kernel
theorem dX7_ends_137 : decode cX7_ends 137 = .ok (.goto 26, 3) := by decide +kernel
theorem dX7_ends_140 : decode cX7_ends 140 = .ok (.aload_n 0, 1) := by decide +kernel
theorem dX7_ends_141 : decode cX7_ends 141 = .ok (.aload_n 0, 1) := by decide +kernel
theorem dX7_ends_142 : decode cX7_ends 142 = .ok (.getfield 21, 3) := by decide +kernel
theorem dX7_ends_145 : decode cX7_ends 145 = .ok (.iload 4, 2) := by decide +kernel
theorem dX7_ends_147 : decode cX7_ends 147 = .ok (.invokevirtual 189, 3) := by decide +kernel
theorem dX7_ends_150 : decode cX7_ends 150 = .ok (.pop, 1) := by decide +kernel
theorem dX7_ends_151 : decode cX7_ends 151 = .ok (.goto 12, 3) := by decide +kernel
theorem dX7_ends_154 : decode cX7_ends 154 = .ok (.aload_n 0, 1) := by decide +kernel
theorem dX7_ends_155 : decode cX7_ends 155 = .ok (.getfield 21, 3) := by decide +kernel
theorem dX7_ends_158 : decode cX7_ends 158 = .ok (.iload 4, 2) := by decide +kernel
theorem dX7_ends_160 : decode cX7_ends 160 = .ok (.putfield 159, 3) := by decide +kernel
theorem dX7_ends_163 : decode cX7_ends 163 = .ok (.iinc 3 1, 3) := by decide +kernel
theorem dX7_ends_166 : decode cX7_ends 166 = .ok (.goto (-121), 3) := by decide +kernel
theorem dX7_ends_169 : decode cX7_ends 169 = .ok (.iload_n 1, 1) := by decide +kernel
theorem dX7_ends_170 : decode cX7_ends 170 = .ok (.ifCond .ne 13, 3) := by decide +kernel
theorem dX7_ends_173 : decode cX7_ends 173 = .ok (.aload_n 0, 1) := by decide +kernel
theorem dX7_ends_174 : decode cX7_ends 174 = .ok (.getfield 21, 3) := by decide +kernel
theorem dX7_ends_177 : decode cX7_ends 177 = .ok (.invokevirtual 186, 3) := by decide +kernel
theorem dX7_ends_180 : decode cX7_ends 180 = .ok (.goto 10, 3) := by decide +kernel
theorem dX7_ends_183 : decode cX7_ends 183 = .ok (.aload_n 0, 1) := by decide +kernel
theorem dX7_ends_184 : decode cX7_ends 184 = .ok (.getfield 21, 3) := by decide +kernel
theorem dX7_ends_187 : decode cX7_ends 187 = .ok (.invokevirtual 242, 3) := by decide +kernel
theorem dX7_ends_190 : decode cX7_ends 190 = .ok (.ireturn, 1) := by decide +kernel
theorem dX7_book_0 : decode cX7_book 0 = .ok (.iload_n 1, 1) := by decide +kernel
theorem dX7_book_1 : decode cX7_book 1 = .ok (.iconst (-1), 1) := by decide +kernel
theorem dX7_book_2 : decode cX7_book 2 = .ok (.if_icmp .ne 14, 3) := by decide +kernel
theorem dX7_book_5 : decode cX7_book 5 = .ok (.aload_n 0, 1) := by decide +kernel
theorem dX7_book_6 : decode cX7_book 6 = .ok (.getfield 14, 3) := by decide +kernel
theorem dX7_book_9 : decode cX7_book 9 = .ok (.getfield 338, 3) := by decide +kernel
theorem dX7_book_12 : decode cX7_book 12 = .ok (.invokevirtual 306, 3) := by decide +kernel
theorem dX7_book_15 : decode cX7_book 15 = .ok (.ireturn, 1) := by decide +kernel
theorem dX7_book_16 : decode cX7_book 16 = .ok (.iload_n 1, 1) := by decide +kernel
theorem dX7_book_17 : decode cX7_book 17 = .ok (.invokestatic 147, 3) := by decide +kernel
theorem dX7_book_20 : decode cX7_book 20 = .ok (.ifCond .ne 5, 3) := by decide +kernel
theorem dX7_book_23 : decode cX7_book 23 = .ok (.iconst (-1), 1) := by decide +kernel
theorem dX7_book_24 : decode cX7_book 24 = .ok (.ireturn, 1) := by decide +kernel
theorem dX7_book_25 : decode cX7_book 25 = .ok (.iload_n 2, 1) := by decide +kernel
theorem dX7_book_26 : decode cX7_book 26 = .ok (.bipush 16, 2) := by decide +kernel
theorem dX7_book_28 : decode cX7_book 28 = .ok (.invokestatic 63, 3) := by decide +kernel
theorem dX7_book_31 : decode cX7_book 31 = .ok (.ifCond .ne 6, 3) := by decide +kernel
theorem dX7_book_34 : decode cX7_book 34 = .ok (.bipush (-2), 2) := by decide +kernel
theorem dX7_book_36 : decode cX7_book 36 = .ok (.ireturn, 1) := by decide +kernel
theorem dX7_book_37 : decode cX7_book 37 = .ok (.aload_n 0, 1) := by decide +kernel
theorem dX7_book_38 : decode cX7_book 38 = .ok (.getfield 14, 3) := by decide +kernel
theorem dX7_book_41 : decode cX7_book 41 = .ok (.getfield 338, 3) := by decide +kernel
theorem dX7_book_44 : decode cX7_book 44 = .ok (.getfield 311, 3) := by decide +kernel
theorem dX7_book_47 : decode cX7_book 47 = .ok (.bipush 8, 2) := by decide +kernel
theorem dX7_book_49 : decode cX7_book 49 = .ok (.if_icmp .ge 18, 3) := by decide +kernel
theorem dX7_book_52 : decode cX7_book 52 = .ok (.aload_n 0, 1) := by decide +kernel
theorem dX7_book_53 : decode cX7_book 53 = .ok (.getfield 14, 3) := by decide +kernel
theorem dX7_book_56 : decode cX7_book 56 = .ok (.getfield 338, 3) := by decide +kernel
theorem dX7_book_59 : decode cX7_book 59 = .ok (.iload_n 1, 1) := by decide +kernel
theorem dX7_book_60 : decode cX7_book 60 = .ok (.iload_n 2, 1) := by decide +kernel
theorem dX7_book_61 : decode cX7_book 61 = .ok (.invokevirtual 312, 3) := by decide +kernel
theorem dX7_book_64 : decode cX7_book 64 = .ok (.goto 5, 3) := by decide +kernel
theorem dX7_book_67 : decode cX7_book 67 = .ok (.bipush (-4), 2) := by decide +kernel
theorem dX7_book_69 : decode cX7_book 69 = .ok (.ireturn, 1) := by decide +kernel
theorem dX7_looked_0 : decode cX7_looked 0 = .ok (.iconst 0, 1) := by decide +kernel
theorem dX7_looked_1 : decode cX7_looked 1 = .ok (.istore_n 1, 1) := by decide +kernel
theorem dX7_looked_2 : decode cX7_looked 2 = .ok (.iload_n 1, 1) := by decide +kernel
theorem dX7_looked_3 : decode cX7_looked 3 = .ok (.aload_n 0, 1) := by decide +kernel
theorem dX7_looked_4 : decode cX7_looked 4 = .ok (.getfield 14, 3) := by decide +kernel
theorem dX7_looked_7 : decode cX7_looked 7 = .ok (.getfield 338, 3) := by decide +kernel
theorem dX7_looked_10 : decode cX7_looked 10 = .ok (.getfield 311, 3) := by decide +kernel
theorem dX7_looked_13 : decode cX7_looked 13 = .ok (.if_icmp .ge 43, 3) := by decide +kernel
theorem dX7_looked_16 : decode cX7_looked 16 = .ok (.aload_n 0, 1) := by decide +kernel
theorem dX7_looked_17 : decode cX7_looked 17 = .ok (.getfield 14, 3) := by decide +kernel
theorem dX7_looked_20 : decode cX7_looked 20 = .ok (.aload_n 0, 1) := by decide +kernel
theorem dX7_looked_21 : decode cX7_looked 21 = .ok (.getfield 14, 3) := by decide +kernel
theorem dX7_looked_24 : decode cX7_looked 24 = .ok (.getfield 338, 3) := by decide +kernel
theorem dX7_looked_27 : decode cX7_looked 27 = .ok (.iload_n 1, 1) := by decide +kernel
theorem dX7_looked_28 : decode cX7_looked 28 = .ok (.invokevirtual 335, 3) := by decide +kernel
theorem dX7_looked_31 : decode cX7_looked 31 = .ok (.invokevirtual 195, 3) := by decide +kernel
theorem dX7_looked_34 : decode cX7_looked 34 = .ok (.aload_n 0, 1) := by decide +kernel
theorem dX7_looked_35 : decode cX7_looked 35 = .ok (.getfield 14, 3) := by decide +kernel
theorem dX7_looked_38 : decode cX7_looked 38 = .ok (.getfield 338, 3) := by decide +kernel
theorem dX7_looked_41 : decode cX7_looked 41 = .ok (.iload_n 1, 1) := by decide +kernel
theorem dX7_looked_42 : decode cX7_looked 42 = .ok (.invokevirtual 332, 3) := by decide +kernel
theorem dX7_looked_45 : decode cX7_looked 45 = .ok (.if_icmp .eq 5, 3) := by decide +kernel
theorem dX7_looked_48 : decode cX7_looked 48 = .ok (.iload_n 1, 1) := by decide +kernel
theorem dX7_looked_49 : decode cX7_looked 49 = .ok (.ireturn, 1) := by decide +kernel
theorem dX7_looked_50 : decode cX7_looked 50 = .ok (.iinc 1 1, 3) := by decide +kernel
theorem dX7_looked_53 : decode cX7_looked 53 = .ok (.goto (-51), 3) := by decide +kernel
theorem dX7_looked_56 : decode cX7_looked 56 = .ok (.bipush (-5), 2) := by decide +kernel
theorem dX7_looked_58 : decode cX7_looked 58 = .ok (.ireturn, 1) := by decide +kernel
theorem dX7_judge_0 : decode cX7_judge 0 = .ok (.iload_n 1, 1) := by decide +kernel
theorem dX7_judge_1 : decode cX7_judge 1 = .ok (.invokestatic 147, 3) := by decide +kernel
theorem dX7_judge_4 : decode cX7_judge 4 = .ok (.ifCond .eq 14, 3) := by decide +kernel
theorem dX7_judge_7 : decode cX7_judge 7 = .ok (.aload_n 0, 1) := by decide +kernel
theorem dX7_judge_8 : decode cX7_judge 8 = .ok (.getfield 55, 3) := by decide +kernel
theorem dX7_judge_11 : decode cX7_judge 11 = .ok (.iload_n 2, 1) := by decide +kernel
theorem dX7_judge_12 : decode cX7_judge 12 = .ok (.invokevirtual 341, 3) := by decide +kernel
theorem dX7_judge_15 : decode cX7_judge 15 = .ok (.ifCond .ne 5, 3) := by decide +kernel
theorem dX7_judge_18 : decode cX7_judge 18 = .ok (.iconst (-1), 1) := by decide +kernel
theorem dX7_judge_19 : decode cX7_judge 19 = .ok (.ireturn, 1) := by decide +kernel
theorem dX7_judge_20 : decode cX7_judge 20 = .ok (.aload_n 0, 1) := by decide +kernel
theorem dX7_judge_21 : decode cX7_judge 21 = .ok (.getfield 55, 3) := by decide +kernel
theorem dX7_judge_24 : decode cX7_judge 24 = .ok (.iload_n 2, 1) := by decide +kernel
theorem dX7_judge_25 : decode cX7_judge 25 = .ok (.invokevirtual 344, 3) := by decide +kernel
theorem dX7_judge_28 : decode cX7_judge 28 = .ok (.istore 4, 2) := by decide +kernel
theorem dX7_judge_30 : decode cX7_judge 30 = .ok (.iload 4, 2) := by decide +kernel
theorem dX7_judge_32 : decode cX7_judge 32 = .ok (.ifCond .eq 12, 3) := by decide +kernel
theorem dX7_judge_35 : decode cX7_judge 35 = .ok (.iload 4, 2) := by decide +kernel
theorem dX7_judge_37 : decode cX7_judge 37 = .ok (.iconst (-1), 1) := by decide +kernel
theorem dX7_judge_38 : decode cX7_judge 38 = .ok (.if_icmp .eq 6, 3) := by decide +kernel
theorem dX7_judge_41 : decode cX7_judge 41 = .ok (.bipush (-12), 2) := by decide +kernel
theorem dX7_judge_43 : decode cX7_judge 43 = .ok (.ireturn, 1) := by decide +kernel
theorem dX7_judge_44 : decode cX7_judge 44 = .ok (.iconst 0, 1) := by decide +kernel
theorem dX7_judge_45 : decode cX7_judge 45 = .ok (.istore 5, 2) := by decide +kernel
theorem dX7_judge_47 : decode cX7_judge 47 = .ok (.iload 5, 2) := by decide +kernel
theorem dX7_judge_49 : decode cX7_judge 49 = .ok (.aload_n 0, 1) := by decide +kernel
theorem dX7_judge_50 : decode cX7_judge 50 = .ok (.getfield 14, 3) := by decide +kernel
theorem dX7_judge_53 : decode cX7_judge 53 = .ok (.iload_n 1, 1) := by decide +kernel
theorem dX7_judge_54 : decode cX7_judge 54 = .ok (.invokevirtual 195, 3) := by decide +kernel
theorem dX7_judge_57 : decode cX7_judge 57 = .ok (.if_icmp .ge 60, 3) := by decide +kernel
theorem dX7_judge_60 : decode cX7_judge 60 = .ok (.aload_n 0, 1) := by decide +kernel
theorem dX7_judge_61 : decode cX7_judge 61 = .ok (.getfield 55, 3) := by decide +kernel
theorem dX7_judge_64 : decode cX7_judge 64 = .ok (.iload_n 2, 1) := by decide +kernel
theorem dX7_judge_65 : decode cX7_judge 65 = .ok (.iload_n 3, 1) := by decide +kernel
theorem dX7_judge_66 : decode cX7_judge 66 = .ok (.iload 5, 2) := by decide +kernel
theorem dX7_judge_68 : decode cX7_judge 68 = .ok (.iadd, 1) := by decide +kernel
theorem dX7_judge_69 : decode cX7_judge 69 = .ok (.invokevirtual 347, 3) := by decide +kernel
theorem dX7_judge_72 : decode cX7_judge 72 = .ok (.ifCond .ne 9, 3) := by decide +kernel
theorem dX7_judge_75 : decode cX7_judge 75 = .ok (.bipush 100, 2) := by decide +kernel
theorem dX7_judge_77 : decode cX7_judge 77 = .ok (.iload 5, 2) := by decide +kernel
theorem dX7_judge_79 : decode cX7_judge 79 = .ok (.iadd, 1) := by decide +kernel
theorem dX7_judge_80 : decode cX7_judge 80 = .ok (.ireturn, 1) := by decide +kernel
theorem dX7_judge_81 : decode cX7_judge 81 = .ok (.aload_n 0, 1) := by decide +kernel
theorem dX7_judge_82 : decode cX7_judge 82 = .ok (.getfield 55, 3) := by decide +kernel
theorem dX7_judge_85 : decode cX7_judge 85 = .ok (.iload_n 2, 1) := by decide +kernel
theorem dX7_judge_86 : decode cX7_judge 86 = .ok (.iload_n 3, 1) := by decide +kernel
theorem dX7_judge_87 : decode cX7_judge 87 = .ok (.iload 5, 2) := by decide +kernel
theorem dX7_judge_89 : decode cX7_judge 89 = .ok (.iadd, 1) := by decide +kernel
theorem dX7_judge_90 : decode cX7_judge 90 = .ok (.invokevirtual 350, 3) := by decide +kernel
theorem dX7_judge_93 : decode cX7_judge 93 = .ok (.aload_n 0, 1) := by decide +kernel
theorem dX7_judge_94 : decode cX7_judge 94 = .ok (.getfield 14, 3) := by decide +kernel
theorem dX7_judge_97 : decode cX7_judge 97 = .ok (.iload_n 1, 1) := by decide +kernel
theorem dX7_judge_98 : decode cX7_judge 98 = .ok (.iload 5, 2) := by decide +kernel
theorem dX7_judge_100 : decode cX7_judge 100 = .ok (.invokevirtual 236, 3) := by decide +kernel
theorem dX7_judge_103 : decode cX7_judge 103 = .ok (.i2l, 1) := by decide +kernel
theorem dX7_judge_104 : decode cX7_judge 104 = .ok (.lcmp, 1) := by decide +kernel
theorem dX7_judge_105 : decode cX7_judge 105 = .ok (.ifCond .eq 6, 3) := by decide +kernel
theorem dX7_judge_108 : decode cX7_judge 108 = .ok (.iload 5, 2) := by decide +kernel
theorem dX7_judge_110 : decode cX7_judge 110 = .ok (.ireturn, 1) := by decide +kernel
theorem dX7_judge_111 : decode cX7_judge 111 = .ok (.iinc 5 1, 3) := by decide +kernel
theorem dX7_judge_114 : decode cX7_judge 114 = .ok (.goto (-67), 3) := by decide +kernel
theorem dX7_judge_117 : decode cX7_judge 117 = .ok (.bipush (-5), 2) := by decide +kernel
theorem dX7_judge_119 : decode cX7_judge 119 = .ok (.ireturn, 1) := by decide +kernel
theorem dX7_taken_0 : decode cX7_taken 0 = .ok (.iload_n 1, 1) := by decide +kernel
theorem dX7_taken_1 : decode cX7_taken 1 = .ok (.iconst 4, 1) := by decide +kernel
theorem dX7_taken_2 : decode cX7_taken 2 = .ok (.invokestatic 63, 3) := by decide +kernel
theorem dX7_taken_5 : decode cX7_taken 5 = .ok (.ifCond .ne 6, 3) := by decide +kernel
theorem dX7_taken_8 : decode cX7_taken 8 = .ok (.bipush (-2), 2) := by decide +kernel
theorem dX7_taken_10 : decode cX7_taken 10 = .ok (.ireturn, 1) := by decide +kernel
theorem dX7_taken_11 : decode cX7_taken 11 = .ok (.aload_n 0, 1) := by decide +kernel
theorem dX7_taken_12 : decode cX7_taken 12 = .ok (.getfield 59, 3) := by decide +kernel
theorem dX7_taken_15 : decode cX7_taken 15 = .ok (.bipush (-5), 2) := by decide +kernel
theorem dX7_taken_17 : decode cX7_taken 17 = .ok (.if_icmp .ne 6, 3) := by decide +kernel
theorem dX7_taken_20 : decode cX7_taken 20 = .ok (.bipush (-11), 2) := by decide +kernel
theorem dX7_taken_22 : decode cX7_taken 22 = .ok (.ireturn, 1) := by decide +kernel
theorem dX7_taken_23 : decode cX7_taken 23 = .ok (.iload_n 1, 1) := by decide +kernel
theorem dX7_taken_24 : decode cX7_taken 24 = .ok (.ifCond .eq 24, 3) := by decide +kernel
theorem dX7_taken_27 : decode cX7_taken 27 = .ok (.iload_n 1, 1) := by decide +kernel
theorem dX7_taken_28 : decode cX7_taken 28 = .ok (.aload_n 0, 1) := by decide +kernel
theorem dX7_taken_29 : decode cX7_taken 29 = .ok (.getfield 59, 3) := by decide +kernel
theorem dX7_taken_32 : decode cX7_taken 32 = .ok (.if_icmp .eq 16, 3) := by decide +kernel
theorem dX7_taken_35 : decode cX7_taken 35 = .ok (.iload_n 1, 1) := by decide +kernel
theorem dX7_taken_36 : decode cX7_taken 36 = .ok (.iconst 4, 1) := by decide +kernel
theorem dX7_taken_37 : decode cX7_taken 37 = .ok (.if_icmp .ne 15, 3) := by decide +kernel
theorem dX7_taken_40 : decode cX7_taken 40 = .ok (.aload_n 0, 1) := by decide +kernel
theorem dX7_taken_41 : decode cX7_taken 41 = .ok (.getfield 59, 3) := by decide +kernel
theorem dX7_taken_44 : decode cX7_taken 44 = .ok (.iconst 1, 1) := by decide +kernel
theorem dX7_taken_45 : decode cX7_taken 45 = .ok (.if_icmp .eq 7, 3) := by decide +kernel
theorem dX7_taken_48 : decode cX7_taken 48 = .ok (.iconst 1, 1) := by decide +kernel
theorem dX7_taken_49 : decode cX7_taken 49 = .ok (.goto 4, 3) := by decide +kernel
theorem dX7_taken_52 : decode cX7_taken 52 = .ok (.iconst 0, 1) := by decide +kernel
theorem dX7_taken_53 : decode cX7_taken 53 = .ok (.istore_n 2, 1) := by decide +kernel
theorem dX7_taken_54 : decode cX7_taken 54 = .ok (.iload_n 2, 1) := by decide +kernel
theorem dX7_taken_55 : decode cX7_taken 55 = .ok (.ifCond .eq 10, 3) := by decide +kernel
theorem dX7_taken_58 : decode cX7_taken 58 = .ok (.aload_n 0, 1) := by decide +kernel
theorem dX7_taken_59 : decode cX7_taken 59 = .ok (.getfield 59, 3) := by decide +kernel
theorem dX7_taken_62 : decode cX7_taken 62 = .ok (.goto 5, 3) := by decide +kernel
theorem dX7_taken_65 : decode cX7_taken 65 = .ok (.bipush (-12), 2) := by decide +kernel
theorem dX7_taken_67 : decode cX7_taken 67 = .ok (.ireturn, 1) := by decide +kernel
theorem dX7_image_0 : decode cX7_image 0 = .ok (.aload_n 0, 1) := by decide +kernel
theorem dX7_image_1 : decode cX7_image 1 = .ok (.getfield 18, 3) := by decide +kernel
theorem dX7_image_4 : decode cX7_image 4 = .ok (.aload_n 0, 1) := by decide +kernel
theorem dX7_image_5 : decode cX7_image 5 = .ok (.getfield 14, 3) := by decide +kernel
theorem dX7_image_8 : decode cX7_image 8 = .ok (.invokevirtual 329, 3) := by decide +kernel
theorem dX7_image_11 : decode cX7_image 11 = .ok (.aload_n 0, 1) := by decide +kernel
theorem dX7_image_12 : decode cX7_image 12 = .ok (.iconst 1, 1) := by decide +kernel
theorem dX7_image_13 : decode cX7_image 13 = .ok (.putfield 354, 3) := by decide +kernel
theorem dX7_image_16 : decode cX7_image 16 = .ok (.aload_n 0, 1) := by decide +kernel
theorem dX7_image_17 : decode cX7_image 17 = .ok (.getfield 14, 3) := by decide +kernel
theorem dX7_image_20 : decode cX7_image 20 = .ok (.getfield 75, 3) := by decide +kernel
theorem dX7_image_23 : decode cX7_image 23 = .ok (.ireturn, 1) := by decide +kernel
theorem dX7_undo_0 : decode cX7_undo 0 = .ok (.aload_n 0, 1) := by decide +kernel
theorem dX7_undo_1 : decode cX7_undo 1 = .ok (.getfield 354, 3) := by decide +kernel
theorem dX7_undo_4 : decode cX7_undo 4 = .ok (.ifCond .ne 6, 3) := by decide +kernel
theorem dX7_undo_7 : decode cX7_undo 7 = .ok (.bipush (-3), 2) := by decide +kernel
theorem dX7_undo_9 : decode cX7_undo 9 = .ok (.ireturn, 1) := by decide +kernel
theorem dX7_undo_10 : decode cX7_undo 10 = .ok (.aload_n 0, 1) := by decide +kernel
theorem dX7_undo_11 : decode cX7_undo 11 = .ok (.getfield 14, 3) := by decide +kernel
theorem dX7_undo_14 : decode cX7_undo 14 = .ok (.aload_n 0, 1) := by decide +kernel
theorem dX7_undo_15 : decode cX7_undo 15 = .ok (.getfield 18, 3) := by decide +kernel
theorem dX7_undo_18 : decode cX7_undo 18 = .ok (.invokevirtual 329, 3) := by decide +kernel
theorem dX7_undo_21 : decode cX7_undo 21 = .ok (.aload_n 0, 1) := by decide +kernel
theorem dX7_undo_22 : decode cX7_undo 22 = .ok (.getfield 14, 3) := by decide +kernel
theorem dX7_undo_25 : decode cX7_undo 25 = .ok (.getfield 75, 3) := by decide +kernel
theorem dX7_undo_28 : decode cX7_undo 28 = .ok (.ireturn, 1) := by decide +kernel
theorem dX7_count_0 : decode cX7_count 0 = .ok (.iload_n 1, 1) := by decide +kernel
theorem dX7_count_1 : decode cX7_count 1 = .ok (.tableswitch 93 0 5 #[39, 47, 58, 69, 80, 88], 39) := by decide +kernel
theorem dX7_count_40 : decode cX7_count 40 = .ok (.aload_n 0, 1) := by decide +kernel
theorem dX7_count_41 : decode cX7_count 41 = .ok (.getfield 14, 3) := by decide +kernel
theorem dX7_count_44 : decode cX7_count 44 = .ok (.getfield 75, 3) := by decide +kernel
theorem dX7_count_47 : decode cX7_count 47 = .ok (.ireturn, 1) := by decide +kernel
theorem dX7_count_48 : decode cX7_count 48 = .ok (.aload_n 0, 1) := by decide +kernel
theorem dX7_count_49 : decode cX7_count 49 = .ok (.getfield 14, 3) := by decide +kernel
theorem dX7_count_52 : decode cX7_count 52 = .ok (.getfield 302, 3) := by decide +kernel
theorem dX7_count_55 : decode cX7_count 55 = .ok (.getfield 311, 3) := by decide +kernel
theorem dX7_count_58 : decode cX7_count 58 = .ok (.ireturn, 1) := by decide +kernel
theorem dX7_count_59 : decode cX7_count 59 = .ok (.aload_n 0, 1) := by decide +kernel
theorem dX7_count_60 : decode cX7_count 60 = .ok (.getfield 14, 3) := by decide +kernel
theorem dX7_count_63 : decode cX7_count 63 = .ok (.getfield 326, 3) := by decide +kernel
theorem dX7_count_66 : decode cX7_count 66 = .ok (.getfield 311, 3) := by decide +kernel
theorem dX7_count_69 : decode cX7_count 69 = .ok (.ireturn, 1) := by decide +kernel
theorem dX7_count_70 : decode cX7_count 70 = .ok (.aload_n 0, 1) := by decide +kernel
theorem dX7_count_71 : decode cX7_count 71 = .ok (.getfield 14, 3) := by decide +kernel
theorem dX7_count_74 : decode cX7_count 74 = .ok (.getfield 338, 3) := by decide +kernel
theorem dX7_count_77 : decode cX7_count 77 = .ok (.getfield 311, 3) := by decide +kernel
theorem dX7_count_80 : decode cX7_count 80 = .ok (.ireturn, 1) := by decide +kernel
theorem dX7_count_81 : decode cX7_count 81 = .ok (.aload_n 0, 1) := by decide +kernel
theorem dX7_count_82 : decode cX7_count 82 = .ok (.getfield 48, 3) := by decide +kernel
theorem dX7_count_85 : decode cX7_count 85 = .ok (.getfield 82, 3) := by decide +kernel
theorem dX7_count_88 : decode cX7_count 88 = .ok (.ireturn, 1) := by decide +kernel
theorem dX7_count_89 : decode cX7_count 89 = .ok (.aload_n 0, 1) := by decide +kernel
theorem dX7_count_90 : decode cX7_count 90 = .ok (.getfield 358, 3) := by decide +kernel
theorem dX7_count_93 : decode cX7_count 93 = .ok (.ireturn, 1) := by decide +kernel
theorem dX7_count_94 : decode cX7_count 94 = .ok (.bipush (-2), 2) := by decide +kernel
theorem dX7_count_96 : decode cX7_count 96 = .ok (.ireturn, 1) := by decide +kernel
theorem dX7_tape_0 : decode cX7_tape 0 = .ok (.aload_n 0, 1) := by decide +kernel
theorem dX7_tape_1 : decode cX7_tape 1 = .ok (.getfield 55, 3) := by decide +kernel
theorem dX7_tape_4 : decode cX7_tape 4 = .ok (.iload_n 1, 1) := by decide +kernel
theorem dX7_tape_5 : decode cX7_tape 5 = .ok (.invokevirtual 341, 3) := by decide +kernel
theorem dX7_tape_8 : decode cX7_tape 8 = .ok (.ifCond .ne 5, 3) := by decide +kernel
theorem dX7_tape_11 : decode cX7_tape 11 = .ok (.iconst (-1), 1) := by decide +kernel
theorem dX7_tape_12 : decode cX7_tape 12 = .ok (.ireturn, 1) := by decide +kernel
theorem dX7_tape_13 : decode cX7_tape 13 = .ok (.iload_n 2, 1) := by decide +kernel
theorem dX7_tape_14 : decode cX7_tape 14 = .ok (.iconst (-1), 1) := by decide +kernel
theorem dX7_tape_15 : decode cX7_tape 15 = .ok (.if_icmp .ne 15, 3) := by decide +kernel
theorem dX7_tape_18 : decode cX7_tape 18 = .ok (.aload_n 0, 1) := by decide +kernel
theorem dX7_tape_19 : decode cX7_tape 19 = .ok (.getfield 55, 3) := by decide +kernel
theorem dX7_tape_22 : decode cX7_tape 22 = .ok (.iload_n 1, 1) := by decide +kernel
theorem dX7_tape_23 : decode cX7_tape 23 = .ok (.iconst (-1), 1) := by decide +kernel
theorem dX7_tape_24 : decode cX7_tape 24 = .ok (.iconst 0, 1) := by decide +kernel
theorem dX7_tape_25 : decode cX7_tape 25 = .ok (.invokevirtual 361, 3) := by decide +kernel
theorem dX7_tape_28 : decode cX7_tape 28 = .ok (.iconst 1, 1) := by decide +kernel
theorem dX7_tape_29 : decode cX7_tape 29 = .ok (.ireturn, 1) := by decide +kernel
theorem dX7_tape_30 : decode cX7_tape 30 = .ok (.iload_n 2, 1) := by decide +kernel
theorem dX7_tape_31 : decode cX7_tape 31 = .ok (.iconst 4, 1) := by decide +kernel
theorem dX7_tape_32 : decode cX7_tape 32 = .ok (.invokestatic 63, 3) := by decide +kernel
theorem dX7_tape_35 : decode cX7_tape 35 = .ok (.ifCond .eq 9, 3) := by decide +kernel
theorem dX7_tape_38 : decode cX7_tape 38 = .ok (.iload_n 3, 1) := by decide +kernel
theorem dX7_tape_39 : decode cX7_tape 39 = .ok (.bipush 60, 2) := by decide +kernel
theorem dX7_tape_41 : decode cX7_tape 41 = .ok (.if_icmp .le 6, 3) := by decide +kernel
theorem dX7_tape_44 : decode cX7_tape 44 = .ok (.bipush (-2), 2) := by decide +kernel
theorem dX7_tape_46 : decode cX7_tape 46 = .ok (.ireturn, 1) := by decide +kernel
theorem dX7_tape_47 : decode cX7_tape 47 = .ok (.iload_n 3, 1) := by decide +kernel
theorem dX7_tape_48 : decode cX7_tape 48 = .ok (.ifCond .ge 6, 3) := by decide +kernel
theorem dX7_tape_51 : decode cX7_tape 51 = .ok (.bipush (-14), 2) := by decide +kernel
theorem dX7_tape_53 : decode cX7_tape 53 = .ok (.ireturn, 1) := by decide +kernel
theorem dX7_tape_54 : decode cX7_tape 54 = .ok (.aload_n 0, 1) := by decide +kernel
theorem dX7_tape_55 : decode cX7_tape 55 = .ok (.getfield 55, 3) := by decide +kernel
theorem dX7_tape_58 : decode cX7_tape 58 = .ok (.iload_n 1, 1) := by decide +kernel
theorem dX7_tape_59 : decode cX7_tape 59 = .ok (.iload_n 2, 1) := by decide +kernel
theorem dX7_tape_60 : decode cX7_tape 60 = .ok (.iload_n 3, 1) := by decide +kernel
theorem dX7_tape_61 : decode cX7_tape 61 = .ok (.invokevirtual 361, 3) := by decide +kernel
theorem dX7_tape_64 : decode cX7_tape 64 = .ok (.iconst 1, 1) := by decide +kernel
theorem dX7_tape_65 : decode cX7_tape 65 = .ok (.ireturn, 1) := by decide +kernel
theorem dX7_item_0 : decode cX7_item 0 = .ok (.aload_n 0, 1) := by decide +kernel
theorem dX7_item_1 : decode cX7_item 1 = .ok (.getfield 55, 3) := by decide +kernel
theorem dX7_item_4 : decode cX7_item 4 = .ok (.iload_n 1, 1) := by decide +kernel
theorem dX7_item_5 : decode cX7_item 5 = .ok (.invokevirtual 341, 3) := by decide +kernel
theorem dX7_item_8 : decode cX7_item 8 = .ok (.ifCond .ne 5, 3) := by decide +kernel
theorem dX7_item_11 : decode cX7_item 11 = .ok (.iconst (-1), 1) := by decide +kernel
theorem dX7_item_12 : decode cX7_item 12 = .ok (.ireturn, 1) := by decide +kernel
theorem dX7_item_13 : decode cX7_item 13 = .ok (.aload_n 0, 1) := by decide +kernel
theorem dX7_item_14 : decode cX7_item 14 = .ok (.getfield 55, 3) := by decide +kernel
theorem dX7_item_17 : decode cX7_item 17 = .ok (.iload_n 1, 1) := by decide +kernel
theorem dX7_item_18 : decode cX7_item 18 = .ok (.invokevirtual 344, 3) := by decide +kernel
theorem dX7_item_21 : decode cX7_item 21 = .ok (.iconst (-1), 1) := by decide +kernel
theorem dX7_item_22 : decode cX7_item 22 = .ok (.if_icmp .ne 6, 3) := by decide +kernel
theorem dX7_item_25 : decode cX7_item 25 = .ok (.bipush (-11), 2) := by decide +kernel
theorem dX7_item_27 : decode cX7_item 27 = .ok (.ireturn, 1) := by decide +kernel
theorem dX7_item_28 : decode cX7_item 28 = .ok (.aload_n 0, 1) := by decide +kernel
theorem dX7_item_29 : decode cX7_item 29 = .ok (.getfield 55, 3) := by decide +kernel
theorem dX7_item_32 : decode cX7_item 32 = .ok (.iload_n 1, 1) := by decide +kernel
theorem dX7_item_33 : decode cX7_item 33 = .ok (.iload_n 2, 1) := by decide +kernel
theorem dX7_item_34 : decode cX7_item 34 = .ok (.invokevirtual 347, 3) := by decide +kernel
theorem dX7_item_37 : decode cX7_item 37 = .ok (.ifCond .ne 6, 3) := by decide +kernel
theorem dX7_item_40 : decode cX7_item 40 = .ok (.bipush (-13), 2) := by decide +kernel
theorem dX7_item_42 : decode cX7_item 42 = .ok (.ireturn, 1) := by decide +kernel
theorem dX7_item_43 : decode cX7_item 43 = .ok (.aload_n 0, 1) := by decide +kernel
theorem dX7_item_44 : decode cX7_item 44 = .ok (.getfield 55, 3) := by decide +kernel
theorem dX7_item_47 : decode cX7_item 47 = .ok (.iload_n 1, 1) := by decide +kernel
theorem dX7_item_48 : decode cX7_item 48 = .ok (.iload_n 2, 1) := by decide +kernel
theorem dX7_item_49 : decode cX7_item 49 = .ok (.lload_n 3, 1) := by decide +kernel
theorem dX7_item_50 : decode cX7_item 50 = .ok (.invokevirtual 364, 3) := by decide +kernel
theorem dX7_item_53 : decode cX7_item 53 = .ok (.iconst 1, 1) := by decide +kernel
theorem dX7_item_54 : decode cX7_item 54 = .ok (.ireturn, 1) := by decide +kernel
theorem dX7_peek_0 : decode cX7_peek 0 = .ok (.aload_n 0, 1) := by decide +kernel
theorem dX7_peek_1 : decode cX7_peek 1 = .ok (.getfield 55, 3) := by decide +kernel
theorem dX7_peek_4 : decode cX7_peek 4 = .ok (.iload_n 1, 1) := by decide +kernel
theorem dX7_peek_5 : decode cX7_peek 5 = .ok (.iload_n 2, 1) := by decide +kernel
theorem dX7_peek_6 : decode cX7_peek 6 = .ok (.invokevirtual 347, 3) := by decide +kernel
theorem dX7_peek_9 : decode cX7_peek 9 = .ok (.ifCond .eq 15, 3) := by decide +kernel
theorem dX7_peek_12 : decode cX7_peek 12 = .ok (.aload_n 0, 1) := by decide +kernel
theorem dX7_peek_13 : decode cX7_peek 13 = .ok (.getfield 55, 3) := by decide +kernel
theorem dX7_peek_16 : decode cX7_peek 16 = .ok (.iload_n 1, 1) := by decide +kernel
theorem dX7_peek_17 : decode cX7_peek 17 = .ok (.iload_n 2, 1) := by decide +kernel
theorem dX7_peek_18 : decode cX7_peek 18 = .ok (.invokevirtual 350, 3) := by decide +kernel
theorem dX7_peek_21 : decode cX7_peek 21 = .ok (.goto 6, 3) := by decide +kernel
theorem dX7_peek_24 : decode cX7_peek 24 = .ok (.ldc2_w 318, 3) := by decide +kernel
theorem dX7_peek_27 : decode cX7_peek 27 = .ok (.lreturn, 1) := by decide +kernel
theorem dX7_slide_0 : decode cX7_slide 0 = .ok (.aload_n 0, 1) := by decide +kernel
theorem dX7_slide_1 : decode cX7_slide 1 = .ok (.getfield 55, 3) := by decide +kernel
theorem dX7_slide_4 : decode cX7_slide 4 = .ok (.iload_n 1, 1) := by decide +kernel
theorem dX7_slide_5 : decode cX7_slide 5 = .ok (.invokevirtual 341, 3) := by decide +kernel
theorem dX7_slide_8 : decode cX7_slide 8 = .ok (.ifCond .eq 14, 3) := by decide +kernel
theorem dX7_slide_11 : decode cX7_slide 11 = .ok (.aload_n 0, 1) := by decide +kernel
theorem dX7_slide_12 : decode cX7_slide 12 = .ok (.getfield 55, 3) := by decide +kernel
theorem dX7_slide_15 : decode cX7_slide 15 = .ok (.iload_n 3, 1) := by decide +kernel
theorem dX7_slide_16 : decode cX7_slide 16 = .ok (.invokevirtual 341, 3) := by decide +kernel
theorem dX7_slide_19 : decode cX7_slide 19 = .ok (.ifCond .ne 5, 3) := by decide +kernel
theorem dX7_slide_22 : decode cX7_slide 22 = .ok (.iconst (-1), 1) := by decide +kernel
theorem dX7_slide_23 : decode cX7_slide 23 = .ok (.ireturn, 1) := by decide +kernel
theorem dX7_slide_24 : decode cX7_slide 24 = .ok (.aload_n 0, 1) := by decide +kernel
theorem dX7_slide_25 : decode cX7_slide 25 = .ok (.getfield 55, 3) := by decide +kernel
theorem dX7_slide_28 : decode cX7_slide 28 = .ok (.iload_n 1, 1) := by decide +kernel
theorem dX7_slide_29 : decode cX7_slide 29 = .ok (.invokevirtual 344, 3) := by decide +kernel
theorem dX7_slide_32 : decode cX7_slide 32 = .ok (.iconst (-1), 1) := by decide +kernel
theorem dX7_slide_33 : decode cX7_slide 33 = .ok (.if_icmp .eq 15, 3) := by decide +kernel
theorem dX7_slide_36 : decode cX7_slide 36 = .ok (.aload_n 0, 1) := by decide +kernel
theorem dX7_slide_37 : decode cX7_slide 37 = .ok (.getfield 55, 3) := by decide +kernel
theorem dX7_slide_40 : decode cX7_slide 40 = .ok (.iload_n 3, 1) := by decide +kernel
theorem dX7_slide_41 : decode cX7_slide 41 = .ok (.invokevirtual 344, 3) := by decide +kernel
theorem dX7_slide_44 : decode cX7_slide 44 = .ok (.iconst (-1), 1) := by decide +kernel
theorem dX7_slide_45 : decode cX7_slide 45 = .ok (.if_icmp .ne 6, 3) := by decide +kernel
theorem dX7_slide_48 : decode cX7_slide 48 = .ok (.bipush (-11), 2) := by decide +kernel
theorem dX7_slide_50 : decode cX7_slide 50 = .ok (.ireturn, 1) := by decide +kernel
theorem dX7_slide_51 : decode cX7_slide 51 = .ok (.aload_n 0, 1) := by decide +kernel
theorem dX7_slide_52 : decode cX7_slide 52 = .ok (.getfield 55, 3) := by decide +kernel
theorem dX7_slide_55 : decode cX7_slide 55 = .ok (.iload_n 1, 1) := by decide +kernel
theorem dX7_slide_56 : decode cX7_slide 56 = .ok (.invokevirtual 344, 3) := by decide +kernel
theorem dX7_slide_59 : decode cX7_slide 59 = .ok (.aload_n 0, 1) := by decide +kernel
theorem dX7_slide_60 : decode cX7_slide 60 = .ok (.getfield 55, 3) := by decide +kernel
theorem dX7_slide_63 : decode cX7_slide 63 = .ok (.iload_n 3, 1) := by decide +kernel
theorem dX7_slide_64 : decode cX7_slide 64 = .ok (.invokevirtual 344, 3) := by decide +kernel
theorem dX7_slide_67 : decode cX7_slide 67 = .ok (.if_icmp .eq 6, 3) := by decide +kernel
theorem dX7_slide_70 : decode cX7_slide 70 = .ok (.bipush (-12), 2) := by decide +kernel
theorem dX7_slide_72 : decode cX7_slide 72 = .ok (.ireturn, 1) := by decide +kernel
theorem dX7_slide_73 : decode cX7_slide 73 = .ok (.aload_n 0, 1) := by decide +kernel
theorem dX7_slide_74 : decode cX7_slide 74 = .ok (.getfield 55, 3) := by decide +kernel
theorem dX7_slide_77 : decode cX7_slide 77 = .ok (.iload_n 1, 1) := by decide +kernel
theorem dX7_slide_78 : decode cX7_slide 78 = .ok (.iload_n 2, 1) := by decide +kernel
theorem dX7_slide_79 : decode cX7_slide 79 = .ok (.iload 5, 2) := by decide +kernel
theorem dX7_slide_81 : decode cX7_slide 81 = .ok (.invokevirtual 368, 3) := by decide +kernel
theorem dX7_slide_84 : decode cX7_slide 84 = .ok (.ifCond .eq 18, 3) := by decide +kernel
theorem dX7_slide_87 : decode cX7_slide 87 = .ok (.aload_n 0, 1) := by decide +kernel
theorem dX7_slide_88 : decode cX7_slide 88 = .ok (.getfield 55, 3) := by decide +kernel
theorem dX7_slide_91 : decode cX7_slide 91 = .ok (.iload_n 3, 1) := by decide +kernel
theorem dX7_slide_92 : decode cX7_slide 92 = .ok (.iload 4, 2) := by decide +kernel
theorem dX7_slide_94 : decode cX7_slide 94 = .ok (.iload 5, 2) := by decide +kernel
theorem dX7_slide_96 : decode cX7_slide 96 = .ok (.invokevirtual 368, 3) := by decide +kernel
theorem dX7_slide_99 : decode cX7_slide 99 = .ok (.ifCond .ne 6, 3) := by decide +kernel
theorem dX7_slide_102 : decode cX7_slide 102 = .ok (.bipush (-13), 2) := by decide +kernel
theorem dX7_slide_104 : decode cX7_slide 104 = .ok (.ireturn, 1) := by decide +kernel
theorem dX7_slide_105 : decode cX7_slide 105 = .ok (.aload_n 0, 1) := by decide +kernel
theorem dX7_slide_106 : decode cX7_slide 106 = .ok (.getfield 55, 3) := by decide +kernel
theorem dX7_slide_109 : decode cX7_slide 109 = .ok (.iload_n 1, 1) := by decide +kernel
theorem dX7_slide_110 : decode cX7_slide 110 = .ok (.iload_n 2, 1) := by decide +kernel
theorem dX7_slide_111 : decode cX7_slide 111 = .ok (.iload_n 3, 1) := by decide +kernel
theorem dX7_slide_112 : decode cX7_slide 112 = .ok (.iload 4, 2) := by decide +kernel
theorem dX7_slide_114 : decode cX7_slide 114 = .ok (.iload 5, 2) := by decide +kernel
theorem dX7_slide_116 : decode cX7_slide 116 = .ok (.invokevirtual 371, 3) := by decide +kernel
theorem dX7_slide_119 : decode cX7_slide 119 = .ok (.iload 5, 2) := by decide +kernel
theorem dX7_slide_121 : decode cX7_slide 121 = .ok (.ireturn, 1) := by decide +kernel
theorem dX7_isUpTo_0 : decode cX7_isUpTo 0 = .ok (.iload_n 0, 1) := by decide +kernel
theorem dX7_isUpTo_1 : decode cX7_isUpTo 1 = .ok (.ifCond .lt 12, 3) := by decide +kernel
theorem dX7_isUpTo_4 : decode cX7_isUpTo 4 = .ok (.iload_n 0, 1) := by decide +kernel
theorem dX7_isUpTo_5 : decode cX7_isUpTo 5 = .ok (.iload_n 1, 1) := by decide +kernel
theorem dX7_isUpTo_6 : decode cX7_isUpTo 6 = .ok (.if_icmp .gt 7, 3) := by decide +kernel
theorem dX7_isUpTo_9 : decode cX7_isUpTo 9 = .ok (.iconst 1, 1) := by decide +kernel
theorem dX7_isUpTo_10 : decode cX7_isUpTo 10 = .ok (.goto 4, 3) := by decide +kernel
theorem dX7_isUpTo_13 : decode cX7_isUpTo 13 = .ok (.iconst 0, 1) := by decide +kernel
theorem dX7_isUpTo_14 : decode cX7_isUpTo 14 = .ok (.ireturn, 1) := by decide +kernel
theorem dX7_isRound_0 : decode cX7_isRound 0 = .ok (.iload_n 0, 1) := by decide +kernel
theorem dX7_isRound_1 : decode cX7_isRound 1 = .ok (.iconst 3, 1) := by decide +kernel
theorem dX7_isRound_2 : decode cX7_isRound 2 = .ok (.invokestatic 63, 3) := by decide +kernel
theorem dX7_isRound_5 : decode cX7_isRound 5 = .ok (.ireturn, 1) := by decide +kernel
theorem dX7_topOf_0 : decode cX7_topOf 0 = .ok (.iload_n 1, 1) := by decide +kernel
theorem dX7_topOf_1 : decode cX7_topOf 1 = .ok (.ifCond .lt 15, 3) := by decide +kernel
theorem dX7_topOf_4 : decode cX7_topOf 4 = .ok (.iload_n 1, 1) := by decide +kernel
theorem dX7_topOf_5 : decode cX7_topOf 5 = .ok (.aload_n 0, 1) := by decide +kernel
theorem dX7_topOf_6 : decode cX7_topOf 6 = .ok (.arraylength, 1) := by decide +kernel
theorem dX7_topOf_7 : decode cX7_topOf 7 = .ok (.if_icmp .ge 9, 3) := by decide +kernel
theorem dX7_topOf_10 : decode cX7_topOf 10 = .ok (.aload_n 0, 1) := by decide +kernel
theorem dX7_topOf_11 : decode cX7_topOf 11 = .ok (.iload_n 1, 1) := by decide +kernel
theorem dX7_topOf_12 : decode cX7_topOf 12 = .ok (.iaload, 1) := by decide +kernel
theorem dX7_topOf_13 : decode cX7_topOf 13 = .ok (.goto 4, 3) := by decide +kernel
theorem dX7_topOf_16 : decode cX7_topOf 16 = .ok (.iconst (-1), 1) := by decide +kernel
theorem dX7_topOf_17 : decode cX7_topOf 17 = .ok (.ireturn, 1) := by decide +kernel
theorem dX7_copyRow_0 : decode cX7_copyRow 0 = .ok (.iconst 0, 1) := by decide +kernel
theorem dX7_copyRow_1 : decode cX7_copyRow 1 = .ok (.istore_n 2, 1) := by decide +kernel
theorem dX7_copyRow_2 : decode cX7_copyRow 2 = .ok (.iload_n 2, 1) := by decide +kernel
theorem dX7_copyRow_3 : decode cX7_copyRow 3 = .ok (.aload_n 0, 1) := by decide +kernel
theorem dX7_copyRow_4 : decode cX7_copyRow 4 = .ok (.arraylength, 1) := by decide +kernel
theorem dX7_copyRow_5 : decode cX7_copyRow 5 = .ok (.if_icmp .ge 21, 3) := by decide +kernel
theorem dX7_copyRow_8 : decode cX7_copyRow 8 = .ok (.iload_n 2, 1) := by decide +kernel
theorem dX7_copyRow_9 : decode cX7_copyRow 9 = .ok (.aload_n 1, 1) := by decide +kernel
theorem dX7_copyRow_10 : decode cX7_copyRow 10 = .ok (.arraylength, 1) := by decide +kernel
theorem dX7_copyRow_11 : decode cX7_copyRow 11 = .ok (.if_icmp .ge 15, 3) := by decide +kernel
theorem dX7_copyRow_14 : decode cX7_copyRow 14 = .ok (.aload_n 1, 1) := by decide +kernel
theorem dX7_copyRow_15 : decode cX7_copyRow 15 = .ok (.iload_n 2, 1) := by decide +kernel
theorem dX7_copyRow_16 : decode cX7_copyRow 16 = .ok (.aload_n 0, 1) := by decide +kernel
theorem dX7_copyRow_17 : decode cX7_copyRow 17 = .ok (.iload_n 2, 1) := by decide +kernel
theorem dX7_copyRow_18 : decode cX7_copyRow 18 = .ok (.iaload, 1) := by decide +kernel
theorem dX7_copyRow_19 : decode cX7_copyRow 19 = .ok (.iastore, 1) := by decide +kernel
theorem dX7_copyRow_20 : decode cX7_copyRow 20 = .ok (.iinc 2 1, 3) := by decide +kernel
theorem dX7_copyRow_23 : decode cX7_copyRow 23 = .ok (.goto (-21), 3) := by decide +kernel
theorem dX7_copyRow_26 : decode cX7_copyRow 26 = .ok (.return_, 1) := by decide +kernel
theorem dX7_lowest_0 : decode cX7_lowest 0 = .ok (.iload_n 1, 1) := by decide +kernel
theorem dX7_lowest_1 : decode cX7_lowest 1 = .ok (.istore_n 3, 1) := by decide +kernel
theorem dX7_lowest_2 : decode cX7_lowest 2 = .ok (.iload_n 0, 1) := by decide +kernel
theorem dX7_lowest_3 : decode cX7_lowest 3 = .ok (.istore 4, 2) := by decide +kernel
theorem dX7_lowest_5 : decode cX7_lowest 5 = .ok (.iconst 0, 1) := by decide +kernel
theorem dX7_lowest_6 : decode cX7_lowest 6 = .ok (.istore 5, 2) := by decide +kernel
theorem dX7_lowest_8 : decode cX7_lowest 8 = .ok (.iload 5, 2) := by decide +kernel
theorem dX7_lowest_10 : decode cX7_lowest 10 = .ok (.bipush 64, 2) := by decide +kernel
theorem dX7_lowest_12 : decode cX7_lowest 12 = .ok (.if_icmp .ge 27, 3) := by decide +kernel
theorem dX7_lowest_15 : decode cX7_lowest 15 = .ok (.iload 4, 2) := by decide +kernel
theorem dX7_lowest_17 : decode cX7_lowest 17 = .ok (.ifCond .le 22, 3) := by decide +kernel
theorem dX7_lowest_20 : decode cX7_lowest 20 = .ok (.iload_n 3, 1) := by decide +kernel
theorem dX7_lowest_21 : decode cX7_lowest 21 = .ok (.iload 4, 2) := by decide +kernel
theorem dX7_lowest_23 : decode cX7_lowest 23 = .ok (.irem, 1) := by decide +kernel
theorem dX7_lowest_24 : decode cX7_lowest 24 = .ok (.istore 6, 2) := by decide +kernel
theorem dX7_lowest_26 : decode cX7_lowest 26 = .ok (.iload 4, 2) := by decide +kernel
theorem dX7_lowest_28 : decode cX7_lowest 28 = .ok (.istore_n 3, 1) := by decide +kernel
theorem dX7_lowest_29 : decode cX7_lowest 29 = .ok (.iload 6, 2) := by decide +kernel
theorem dX7_lowest_31 : decode cX7_lowest 31 = .ok (.istore 4, 2) := by decide +kernel
theorem dX7_lowest_33 : decode cX7_lowest 33 = .ok (.iinc 5 1, 3) := by decide +kernel
theorem dX7_lowest_36 : decode cX7_lowest 36 = .ok (.goto (-28), 3) := by decide +kernel
theorem dX7_lowest_39 : decode cX7_lowest 39 = .ok (.iload_n 2, 1) := by decide +kernel
theorem dX7_lowest_40 : decode cX7_lowest 40 = .ok (.ifCond .ne 7, 3) := by decide +kernel
theorem dX7_lowest_43 : decode cX7_lowest 43 = .ok (.iload_n 0, 1) := by decide +kernel
theorem dX7_lowest_44 : decode cX7_lowest 44 = .ok (.goto 4, 3) := by decide +kernel
theorem dX7_lowest_47 : decode cX7_lowest 47 = .ok (.iload_n 1, 1) := by decide +kernel
theorem dX7_lowest_48 : decode cX7_lowest 48 = .ok (.istore 5, 2) := by decide +kernel
theorem dX7_lowest_50 : decode cX7_lowest 50 = .ok (.iload_n 3, 1) := by decide +kernel
theorem dX7_lowest_51 : decode cX7_lowest 51 = .ok (.ifCond .le 10, 3) := by decide +kernel
theorem dX7_lowest_54 : decode cX7_lowest 54 = .ok (.iload 5, 2) := by decide +kernel
theorem dX7_lowest_56 : decode cX7_lowest 56 = .ok (.iload_n 3, 1) := by decide +kernel
theorem dX7_lowest_57 : decode cX7_lowest 57 = .ok (.idiv, 1) := by decide +kernel
theorem dX7_lowest_58 : decode cX7_lowest 58 = .ok (.goto 5, 3) := by decide +kernel
theorem dX7_lowest_61 : decode cX7_lowest 61 = .ok (.iload 5, 2) := by decide +kernel
theorem dX7_lowest_63 : decode cX7_lowest 63 = .ok (.ireturn, 1) := by decide +kernel
theorem dX7_spend_0 : decode cX7_spend 0 = .ok (.iload_n 1, 1) := by decide +kernel
theorem dX7_spend_1 : decode cX7_spend 1 = .ok (.sipush 1500, 3) := by decide +kernel
theorem dX7_spend_4 : decode cX7_spend 4 = .ok (.aload_n 0, 1) := by decide +kernel
theorem dX7_spend_5 : decode cX7_spend 5 = .ok (.getfield 358, 3) := by decide +kernel
theorem dX7_spend_8 : decode cX7_spend 8 = .ok (.isub, 1) := by decide +kernel
theorem dX7_spend_9 : decode cX7_spend 9 = .ok (.if_icmp .le 5, 3) := by decide +kernel
theorem dX7_spend_12 : decode cX7_spend 12 = .ok (.iconst 0, 1) := by decide +kernel
theorem dX7_spend_13 : decode cX7_spend 13 = .ok (.ireturn, 1) := by decide +kernel
theorem dX7_spend_14 : decode cX7_spend 14 = .ok (.aload_n 0, 1) := by decide +kernel
theorem dX7_spend_15 : decode cX7_spend 15 = .ok (.dup, 1) := by decide +kernel
theorem dX7_spend_16 : decode cX7_spend 16 = .ok (.getfield 358, 3) := by decide +kernel
theorem dX7_spend_19 : decode cX7_spend 19 = .ok (.iload_n 1, 1) := by decide +kernel
theorem dX7_spend_20 : decode cX7_spend 20 = .ok (.iadd, 1) := by decide +kernel
theorem dX7_spend_21 : decode cX7_spend 21 = .ok (.putfield 358, 3) := by decide +kernel
theorem dX7_spend_24 : decode cX7_spend 24 = .ok (.iconst 1, 1) := by decide +kernel
theorem dX7_spend_25 : decode cX7_spend 25 = .ok (.ireturn, 1) := by decide +kernel
theorem dX7_holds_0 : decode cX7_holds 0 = .ok (.iload_n 1, 1) := by decide +kernel
theorem dX7_holds_1 : decode cX7_holds 1 = .ok (.invokestatic 147, 3) := by decide +kernel
theorem dX7_holds_4 : decode cX7_holds 4 = .ok (.ifCond .ne 5, 3) := by decide +kernel
theorem dX7_holds_7 : decode cX7_holds 7 = .ok (.iconst 1, 1) := by decide +kernel
theorem dX7_holds_8 : decode cX7_holds 8 = .ok (.ireturn, 1) := by decide +kernel
theorem dX7_holds_9 : decode cX7_holds 9 = .ok (.aload_n 0, 1) := by decide +kernel
theorem dX7_holds_10 : decode cX7_holds 10 = .ok (.getfield 27, 3) := by decide +kernel
theorem dX7_holds_13 : decode cX7_holds 13 = .ok (.aload_n 0, 1) := by decide +kernel
theorem dX7_holds_14 : decode cX7_holds 14 = .ok (.getfield 14, 3) := by decide +kernel
theorem dX7_holds_17 : decode cX7_holds 17 = .ok (.iload_n 1, 1) := by decide +kernel
theorem dX7_holds_18 : decode cX7_holds 18 = .ok (.invokevirtual 168, 3) := by decide +kernel
theorem dX7_holds_21 : decode cX7_holds 21 = .ok (.aload_n 0, 1) := by decide +kernel
theorem dX7_holds_22 : decode cX7_holds 22 = .ok (.getfield 27, 3) := by decide +kernel
theorem dX7_holds_25 : decode cX7_holds 25 = .ok (.aload_n 0, 1) := by decide +kernel
theorem dX7_holds_26 : decode cX7_holds 26 = .ok (.getfield 14, 3) := by decide +kernel
theorem dX7_holds_29 : decode cX7_holds 29 = .ok (.iconst 0, 1) := by decide +kernel
theorem dX7_holds_30 : decode cX7_holds 30 = .ok (.invokevirtual 175, 3) := by decide +kernel
theorem dX7_holds_33 : decode cX7_holds 33 = .ok (.ireturn, 1) := by decide +kernel
theorem dX7_allHold_0 : decode cX7_allHold 0 = .ok (.iconst 0, 1) := by decide +kernel
theorem dX7_allHold_1 : decode cX7_allHold 1 = .ok (.istore_n 1, 1) := by decide +kernel
theorem dX7_allHold_2 : decode cX7_allHold 2 = .ok (.iload_n 1, 1) := by decide +kernel
theorem dX7_allHold_3 : decode cX7_allHold 3 = .ok (.iconst 4, 1) := by decide +kernel
theorem dX7_allHold_4 : decode cX7_allHold 4 = .ok (.if_icmp .ge 19, 3) := by decide +kernel
theorem dX7_allHold_7 : decode cX7_allHold 7 = .ok (.aload_n 0, 1) := by decide +kernel
theorem dX7_allHold_8 : decode cX7_allHold 8 = .ok (.iload_n 1, 1) := by decide +kernel
theorem dX7_allHold_9 : decode cX7_allHold 9 = .ok (.invokevirtual 118, 3) := by decide +kernel
theorem dX7_allHold_12 : decode cX7_allHold 12 = .ok (.ifCond .ne 5, 3) := by decide +kernel
theorem dX7_allHold_15 : decode cX7_allHold 15 = .ok (.iconst 0, 1) := by decide +kernel
theorem dX7_allHold_16 : decode cX7_allHold 16 = .ok (.ireturn, 1) := by decide +kernel
theorem dX7_allHold_17 : decode cX7_allHold 17 = .ok (.iinc 1 1, 3) := by decide +kernel
theorem dX7_allHold_20 : decode cX7_allHold 20 = .ok (.goto (-18), 3) := by decide +kernel
theorem dX7_allHold_23 : decode cX7_allHold 23 = .ok (.iconst 1, 1) := by decide +kernel
theorem dX7_allHold_24 : decode cX7_allHold 24 = .ok (.ireturn, 1) := by decide +kernel
theorem dX7_refusalAt_0 : decode cX7_refusalAt 0 = .ok (.aload_n 0, 1) := by decide +kernel
theorem dX7_refusalAt_1 : decode cX7_refusalAt 1 = .ok (.getfield 14, 3) := by decide +kernel
theorem dX7_refusalAt_4 : decode cX7_refusalAt 4 = .ok (.iload_n 1, 1) := by decide +kernel
theorem dX7_refusalAt_5 : decode cX7_refusalAt 5 = .ok (.invokevirtual 100, 3) := by decide +kernel
theorem dX7_refusalAt_8 : decode cX7_refusalAt 8 = .ok (.ifCond .eq 10, 3) := by decide +kernel
theorem dX7_refusalAt_11 : decode cX7_refusalAt 11 = .ok (.iload_n 2, 1) := by decide +kernel
theorem dX7_refusalAt_12 : decode cX7_refusalAt 12 = .ok (.invokestatic 147, 3) := by decide +kernel
theorem dX7_refusalAt_15 : decode cX7_refusalAt 15 = .ok (.ifCond .ne 5, 3) := by decide +kernel
theorem dX7_refusalAt_18 : decode cX7_refusalAt 18 = .ok (.iconst (-1), 1) := by decide +kernel
theorem dX7_refusalAt_19 : decode cX7_refusalAt 19 = .ok (.ireturn, 1) := by decide +kernel
theorem dX7_refusalAt_20 : decode cX7_refusalAt 20 = .ok (.aload_n 0, 1) := by decide +kernel
theorem dX7_refusalAt_21 : decode cX7_refusalAt 21 = .ok (.getfield 14, 3) := by decide +kernel
theorem dX7_refusalAt_24 : decode cX7_refusalAt 24 = .ok (.iload_n 1, 1) := by decide +kernel
theorem dX7_refusalAt_25 : decode cX7_refusalAt 25 = .ok (.invokevirtual 115, 3) := by decide +kernel
theorem dX7_refusalAt_28 : decode cX7_refusalAt 28 = .ok (.bipush (-5), 2) := by decide +kernel
theorem dX7_refusalAt_30 : decode cX7_refusalAt 30 = .ok (.if_icmp .eq 6, 3) := by decide +kernel
theorem dX7_refusalAt_33 : decode cX7_refusalAt 33 = .ok (.bipush (-3), 2) := by decide +kernel
theorem dX7_refusalAt_35 : decode cX7_refusalAt 35 = .ok (.ireturn, 1) := by decide +kernel
theorem dX7_refusalAt_36 : decode cX7_refusalAt 36 = .ok (.iload_n 3, 1) := by decide +kernel
theorem dX7_refusalAt_37 : decode cX7_refusalAt 37 = .ok (.aload_n 0, 1) := by decide +kernel
theorem dX7_refusalAt_38 : decode cX7_refusalAt 38 = .ok (.getfield 14, 3) := by decide +kernel
theorem dX7_refusalAt_41 : decode cX7_refusalAt 41 = .ok (.iload_n 2, 1) := by decide +kernel
theorem dX7_refusalAt_42 : decode cX7_refusalAt 42 = .ok (.invokevirtual 195, 3) := by decide +kernel
theorem dX7_refusalAt_45 : decode cX7_refusalAt 45 = .ok (.invokestatic 63, 3) := by decide +kernel
theorem dX7_refusalAt_48 : decode cX7_refusalAt 48 = .ok (.ifCond .eq 7, 3) := by decide +kernel
theorem dX7_refusalAt_51 : decode cX7_refusalAt 51 = .ok (.iconst 0, 1) := by decide +kernel
theorem dX7_refusalAt_52 : decode cX7_refusalAt 52 = .ok (.goto 5, 3) := by decide +kernel
theorem dX7_refusalAt_55 : decode cX7_refusalAt 55 = .ok (.bipush (-2), 2) := by decide +kernel
theorem dX7_refusalAt_57 : decode cX7_refusalAt 57 = .ok (.ireturn, 1) := by decide +kernel
theorem dX7_takeOut_0 : decode cX7_takeOut 0 = .ok (.aload_n 1, 1) := by decide +kernel
theorem dX7_takeOut_1 : decode cX7_takeOut 1 = .ok (.iload_n 2, 1) := by decide +kernel
theorem dX7_takeOut_2 : decode cX7_takeOut 2 = .ok (.invokevirtual 115, 3) := by decide +kernel
theorem dX7_takeOut_5 : decode cX7_takeOut 5 = .ok (.istore_n 3, 1) := by decide +kernel
theorem dX7_takeOut_6 : decode cX7_takeOut 6 = .ok (.iload_n 3, 1) := by decide +kernel
theorem dX7_takeOut_7 : decode cX7_takeOut 7 = .ok (.bipush (-5), 2) := by decide +kernel
theorem dX7_takeOut_9 : decode cX7_takeOut 9 = .ok (.if_icmp .eq 11, 3) := by decide +kernel
theorem dX7_takeOut_12 : decode cX7_takeOut 12 = .ok (.aload_n 1, 1) := by decide +kernel
theorem dX7_takeOut_13 : decode cX7_takeOut 13 = .ok (.iload_n 2, 1) := by decide +kernel
theorem dX7_takeOut_14 : decode cX7_takeOut 14 = .ok (.invokevirtual 121, 3) := by decide +kernel
theorem dX7_takeOut_17 : decode cX7_takeOut 17 = .ok (.ifCond .eq 5, 3) := by decide +kernel
theorem dX7_takeOut_20 : decode cX7_takeOut 20 = .ok (.iconst 0, 1) := by decide +kernel
theorem dX7_takeOut_21 : decode cX7_takeOut 21 = .ok (.ireturn, 1) := by decide +kernel
theorem dX7_takeOut_22 : decode cX7_takeOut 22 = .ok (.aload_n 0, 1) := by decide +kernel
theorem dX7_takeOut_23 : decode cX7_takeOut 23 = .ok (.getfield 27, 3) := by decide +kernel
theorem dX7_takeOut_26 : decode cX7_takeOut 26 = .ok (.aload_n 1, 1) := by decide +kernel
theorem dX7_takeOut_27 : decode cX7_takeOut 27 = .ok (.iload_n 3, 1) := by decide +kernel
theorem dX7_takeOut_28 : decode cX7_takeOut 28 = .ok (.invokevirtual 168, 3) := by decide +kernel
theorem dX7_takeOut_31 : decode cX7_takeOut 31 = .ok (.aload_n 0, 1) := by decide +kernel
theorem dX7_takeOut_32 : decode cX7_takeOut 32 = .ok (.getfield 27, 3) := by decide +kernel
theorem dX7_takeOut_35 : decode cX7_takeOut 35 = .ok (.aload_n 1, 1) := by decide +kernel
theorem dX7_takeOut_36 : decode cX7_takeOut 36 = .ok (.iload_n 2, 1) := by decide +kernel
theorem dX7_takeOut_37 : decode cX7_takeOut 37 = .ok (.invokevirtual 124, 3) := by decide +kernel
theorem dX7_takeOut_40 : decode cX7_takeOut 40 = .ok (.invokevirtual 375, 3) := by decide +kernel
theorem dX7_takeOut_43 : decode cX7_takeOut 43 = .ok (.aload_n 0, 1) := by decide +kernel
theorem dX7_takeOut_44 : decode cX7_takeOut 44 = .ok (.getfield 27, 3) := by decide +kernel
theorem dX7_takeOut_47 : decode cX7_takeOut 47 = .ok (.aload_n 1, 1) := by decide +kernel
theorem dX7_takeOut_48 : decode cX7_takeOut 48 = .ok (.iconst 0, 1) := by decide +kernel
theorem dX7_takeOut_49 : decode cX7_takeOut 49 = .ok (.invokevirtual 175, 3) := by decide +kernel
theorem dX7_takeOut_52 : decode cX7_takeOut 52 = .ok (.ifCond .ne 5, 3) := by decide +kernel
theorem dX7_takeOut_55 : decode cX7_takeOut 55 = .ok (.iconst 0, 1) := by decide +kernel
theorem dX7_takeOut_56 : decode cX7_takeOut 56 = .ok (.ireturn, 1) := by decide +kernel
theorem dX7_takeOut_57 : decode cX7_takeOut 57 = .ok (.aload_n 0, 1) := by decide +kernel
theorem dX7_takeOut_58 : decode cX7_takeOut 58 = .ok (.getfield 27, 3) := by decide +kernel
theorem dX7_takeOut_61 : decode cX7_takeOut 61 = .ok (.aload_n 1, 1) := by decide +kernel
theorem dX7_takeOut_62 : decode cX7_takeOut 62 = .ok (.invokevirtual 182, 3) := by decide +kernel
theorem dX7_takeOut_65 : decode cX7_takeOut 65 = .ok (.iconst 1, 1) := by decide +kernel
theorem dX7_takeOut_66 : decode cX7_takeOut 66 = .ok (.ireturn, 1) := by decide +kernel
theorem dX7_timeAt_0 : decode cX7_timeAt 0 = .ok (.aload_n 0, 1) := by decide +kernel
theorem dX7_timeAt_1 : decode cX7_timeAt 1 = .ok (.getfield 27, 3) := by decide +kernel
theorem dX7_timeAt_4 : decode cX7_timeAt 4 = .ok (.aload_n 0, 1) := by decide +kernel
theorem dX7_timeAt_5 : decode cX7_timeAt 5 = .ok (.getfield 14, 3) := by decide +kernel
theorem dX7_timeAt_8 : decode cX7_timeAt 8 = .ok (.iload_n 1, 1) := by decide +kernel
theorem dX7_timeAt_9 : decode cX7_timeAt 9 = .ok (.invokevirtual 168, 3) := by decide +kernel
theorem dX7_timeAt_12 : decode cX7_timeAt 12 = .ok (.aload_n 0, 1) := by decide +kernel
theorem dX7_timeAt_13 : decode cX7_timeAt 13 = .ok (.getfield 27, 3) := by decide +kernel
theorem dX7_timeAt_16 : decode cX7_timeAt 16 = .ok (.aload_n 0, 1) := by decide +kernel
theorem dX7_timeAt_17 : decode cX7_timeAt 17 = .ok (.getfield 14, 3) := by decide +kernel
theorem dX7_timeAt_20 : decode cX7_timeAt 20 = .ok (.iconst 0, 1) := by decide +kernel
theorem dX7_timeAt_21 : decode cX7_timeAt 21 = .ok (.invokevirtual 175, 3) := by decide +kernel
theorem dX7_timeAt_24 : decode cX7_timeAt 24 = .ok (.pop, 1) := by decide +kernel
theorem dX7_timeAt_25 : decode cX7_timeAt 25 = .ok (.aload_n 0, 1) := by decide +kernel
theorem dX7_timeAt_26 : decode cX7_timeAt 26 = .ok (.getfield 27, 3) := by decide +kernel
theorem dX7_timeAt_29 : decode cX7_timeAt 29 = .ok (.aload_n 0, 1) := by decide +kernel
theorem dX7_timeAt_30 : decode cX7_timeAt 30 = .ok (.getfield 14, 3) := by decide +kernel
theorem dX7_timeAt_33 : decode cX7_timeAt 33 = .ok (.invokevirtual 215, 3) := by decide +kernel
theorem dX7_timeAt_36 : decode cX7_timeAt 36 = .ok (.iload_n 3, 1) := by decide +kernel
theorem dX7_timeAt_37 : decode cX7_timeAt 37 = .ok (.bipush 9, 2) := by decide +kernel
theorem dX7_timeAt_39 : decode cX7_timeAt 39 = .ok (.if_icmp .ne 12, 3) := by decide +kernel
theorem dX7_timeAt_42 : decode cX7_timeAt 42 = .ok (.aload_n 0, 1) := by decide +kernel
theorem dX7_timeAt_43 : decode cX7_timeAt 43 = .ok (.getfield 27, 3) := by decide +kernel
theorem dX7_timeAt_46 : decode cX7_timeAt 46 = .ok (.iload_n 2, 1) := by decide +kernel
theorem dX7_timeAt_47 : decode cX7_timeAt 47 = .ok (.invokevirtual 379, 3) := by decide +kernel
theorem dX7_timeAt_50 : decode cX7_timeAt 50 = .ok (.ireturn, 1) := by decide +kernel
theorem dX7_timeAt_51 : decode cX7_timeAt 51 = .ok (.iload_n 3, 1) := by decide +kernel
theorem dX7_timeAt_52 : decode cX7_timeAt 52 = .ok (.bipush 10, 2) := by decide +kernel
theorem dX7_timeAt_54 : decode cX7_timeAt 54 = .ok (.if_icmp .ne 14, 3) := by decide +kernel
theorem dX7_timeAt_57 : decode cX7_timeAt 57 = .ok (.aload_n 0, 1) := by decide +kernel
theorem dX7_timeAt_58 : decode cX7_timeAt 58 = .ok (.getfield 27, 3) := by decide +kernel
theorem dX7_timeAt_61 : decode cX7_timeAt 61 = .ok (.iload_n 2, 1) := by decide +kernel
theorem dX7_timeAt_62 : decode cX7_timeAt 62 = .ok (.invokevirtual 382, 3) := by decide +kernel
theorem dX7_timeAt_65 : decode cX7_timeAt 65 = .ok (.goto 11, 3) := by decide +kernel
theorem dX7_timeAt_68 : decode cX7_timeAt 68 = .ok (.aload_n 0, 1) := by decide +kernel
theorem dX7_timeAt_69 : decode cX7_timeAt 69 = .ok (.getfield 27, 3) := by decide +kernel
theorem dX7_timeAt_72 : decode cX7_timeAt 72 = .ok (.iload_n 2, 1) := by decide +kernel
theorem dX7_timeAt_73 : decode cX7_timeAt 73 = .ok (.invokevirtual 385, 3) := by decide +kernel
theorem dX7_timeAt_76 : decode cX7_timeAt 76 = .ok (.ireturn, 1) := by decide +kernel
theorem dX7_waitsOfAll_0 : decode cX7_waitsOfAll 0 = .ok (.iconst 0, 1) := by decide +kernel
theorem dX7_waitsOfAll_1 : decode cX7_waitsOfAll 1 = .ok (.istore_n 1, 1) := by decide +kernel
theorem dX7_waitsOfAll_2 : decode cX7_waitsOfAll 2 = .ok (.iconst 0, 1) := by decide +kernel
theorem dX7_waitsOfAll_3 : decode cX7_waitsOfAll 3 = .ok (.istore_n 2, 1) := by decide +kernel
theorem dX7_waitsOfAll_4 : decode cX7_waitsOfAll 4 = .ok (.iload_n 2, 1) := by decide +kernel
theorem dX7_waitsOfAll_5 : decode cX7_waitsOfAll 5 = .ok (.iconst 4, 1) := by decide +kernel
theorem dX7_waitsOfAll_6 : decode cX7_waitsOfAll 6 = .ok (.if_icmp .ge 44, 3) := by decide +kernel
theorem dX7_waitsOfAll_9 : decode cX7_waitsOfAll 9 = .ok (.aload_n 0, 1) := by decide +kernel
theorem dX7_waitsOfAll_10 : decode cX7_waitsOfAll 10 = .ok (.getfield 27, 3) := by decide +kernel
theorem dX7_waitsOfAll_13 : decode cX7_waitsOfAll 13 = .ok (.aload_n 0, 1) := by decide +kernel
theorem dX7_waitsOfAll_14 : decode cX7_waitsOfAll 14 = .ok (.getfield 14, 3) := by decide +kernel
theorem dX7_waitsOfAll_17 : decode cX7_waitsOfAll 17 = .ok (.iload_n 2, 1) := by decide +kernel
theorem dX7_waitsOfAll_18 : decode cX7_waitsOfAll 18 = .ok (.invokevirtual 168, 3) := by decide +kernel
theorem dX7_waitsOfAll_21 : decode cX7_waitsOfAll 21 = .ok (.aload_n 0, 1) := by decide +kernel
theorem dX7_waitsOfAll_22 : decode cX7_waitsOfAll 22 = .ok (.getfield 27, 3) := by decide +kernel
theorem dX7_waitsOfAll_25 : decode cX7_waitsOfAll 25 = .ok (.aload_n 0, 1) := by decide +kernel
theorem dX7_waitsOfAll_26 : decode cX7_waitsOfAll 26 = .ok (.getfield 14, 3) := by decide +kernel
theorem dX7_waitsOfAll_29 : decode cX7_waitsOfAll 29 = .ok (.iconst 0, 1) := by decide +kernel
theorem dX7_waitsOfAll_30 : decode cX7_waitsOfAll 30 = .ok (.invokevirtual 175, 3) := by decide +kernel
theorem dX7_waitsOfAll_33 : decode cX7_waitsOfAll 33 = .ok (.pop, 1) := by decide +kernel
theorem dX7_waitsOfAll_34 : decode cX7_waitsOfAll 34 = .ok (.iload_n 1, 1) := by decide +kernel
theorem dX7_waitsOfAll_35 : decode cX7_waitsOfAll 35 = .ok (.aload_n 0, 1) := by decide +kernel
theorem dX7_waitsOfAll_36 : decode cX7_waitsOfAll 36 = .ok (.getfield 27, 3) := by decide +kernel
theorem dX7_waitsOfAll_39 : decode cX7_waitsOfAll 39 = .ok (.getfield 227, 3) := by decide +kernel
theorem dX7_waitsOfAll_42 : decode cX7_waitsOfAll 42 = .ok (.iadd, 1) := by decide +kernel
theorem dX7_waitsOfAll_43 : decode cX7_waitsOfAll 43 = .ok (.istore_n 1, 1) := by decide +kernel
theorem dX7_waitsOfAll_44 : decode cX7_waitsOfAll 44 = .ok (.iinc 2 1, 3) := by decide +kernel
theorem dX7_waitsOfAll_47 : decode cX7_waitsOfAll 47 = .ok (.goto (-43), 3) := by decide +kernel
theorem dX7_waitsOfAll_50 : decode cX7_waitsOfAll 50 = .ok (.iload_n 1, 1) := by decide +kernel
theorem dX7_waitsOfAll_51 : decode cX7_waitsOfAll 51 = .ok (.ireturn, 1) := by decide +kernel
theorem dX7_leftOver_0 : decode cX7_leftOver 0 = .ok (.aload_n 0, 1) := by decide +kernel
theorem dX7_leftOver_1 : decode cX7_leftOver 1 = .ok (.getfield 21, 3) := by decide +kernel
theorem dX7_leftOver_4 : decode cX7_leftOver 4 = .ok (.aload_n 0, 1) := by decide +kernel
theorem dX7_leftOver_5 : decode cX7_leftOver 5 = .ok (.getfield 14, 3) := by decide +kernel
theorem dX7_leftOver_8 : decode cX7_leftOver 8 = .ok (.invokevirtual 329, 3) := by decide +kernel
theorem dX7_leftOver_11 : decode cX7_leftOver 11 = .ok (.aload_n 0, 1) := by decide +kernel
theorem dX7_leftOver_12 : decode cX7_leftOver 12 = .ok (.getfield 21, 3) := by decide +kernel
theorem dX7_leftOver_15 : decode cX7_leftOver 15 = .ok (.iload_n 1, 1) := by decide +kernel
theorem dX7_leftOver_16 : decode cX7_leftOver 16 = .ok (.iload_n 2, 1) := by decide +kernel
theorem dX7_leftOver_17 : decode cX7_leftOver 17 = .ok (.invokevirtual 388, 3) := by decide +kernel
theorem dX7_leftOver_20 : decode cX7_leftOver 20 = .ok (.aload_n 0, 1) := by decide +kernel
theorem dX7_leftOver_21 : decode cX7_leftOver 21 = .ok (.getfield 34, 3) := by decide +kernel
theorem dX7_leftOver_24 : decode cX7_leftOver 24 = .ok (.aload_n 0, 1) := by decide +kernel
theorem dX7_leftOver_25 : decode cX7_leftOver 25 = .ok (.getfield 21, 3) := by decide +kernel
theorem dX7_leftOver_28 : decode cX7_leftOver 28 = .ok (.invokevirtual 202, 3) := by decide +kernel
theorem dX7_leftOver_31 : decode cX7_leftOver 31 = .ok (.pop, 1) := by decide +kernel
theorem dX7_leftOver_32 : decode cX7_leftOver 32 = .ok (.aload_n 0, 1) := by decide +kernel
theorem dX7_leftOver_33 : decode cX7_leftOver 33 = .ok (.getfield 21, 3) := by decide +kernel
theorem dX7_leftOver_36 : decode cX7_leftOver 36 = .ok (.invokevirtual 242, 3) := by decide +kernel
theorem dX7_leftOver_39 : decode cX7_leftOver 39 = .ok (.ireturn, 1) := by decide +kernel
theorem dJ9_abs_0f7a4_0 : decode cJ9_abs_0f7a4 0 = .ok (.iload_n 0, 1) := by decide +kernel
theorem dJ9_abs_0f7a4_1 : decode cJ9_abs_0f7a4 1 = .ok (.ifCond .ge 8, 3) := by decide +kernel
theorem dJ9_abs_0f7a4_4 : decode cJ9_abs_0f7a4 4 = .ok (.iload_n 0, 1) := by decide +kernel
theorem dJ9_abs_0f7a4_5 : decode cJ9_abs_0f7a4 5 = .ok (.ineg, 1) := by decide +kernel
theorem dJ9_abs_0f7a4_6 : decode cJ9_abs_0f7a4 6 = .ok (.goto 4, 3) := by decide +kernel
theorem dJ9_abs_0f7a4_9 : decode cJ9_abs_0f7a4 9 = .ok (.iload_n 0, 1) := by decide +kernel
theorem dJ9_abs_0f7a4_10 : decode cJ9_abs_0f7a4 10 = .ok (.ireturn, 1) := by decide +kernel
theorem dJ9_max_7cf53_0 : decode cJ9_max_7cf53 0 = .ok (.iload_n 0, 1) := by decide +kernel
theorem dJ9_max_7cf53_1 : decode cJ9_max_7cf53 1 = .ok (.iload_n 1, 1) := by decide +kernel
theorem dJ9_max_7cf53_2 : decode cJ9_max_7cf53 2 = .ok (.if_icmp .lt 7, 3) := by decide +kernel
theorem dJ9_max_7cf53_5 : decode cJ9_max_7cf53 5 = .ok (.iload_n 0, 1) := by decide +kernel
theorem dJ9_max_7cf53_6 : decode cJ9_max_7cf53 6 = .ok (.goto 4, 3) := by decide +kernel
theorem dJ9_max_7cf53_9 : decode cJ9_max_7cf53 9 = .ok (.iload_n 1, 1) := by decide +kernel
theorem dJ9_max_7cf53_10 : decode cJ9_max_7cf53 10 = .ok (.ireturn, 1) := by decide +kernel
theorem dJ9_min_7cf53_0 : decode cJ9_min_7cf53 0 = .ok (.iload_n 0, 1) := by decide +kernel
theorem dJ9_min_7cf53_1 : decode cJ9_min_7cf53 1 = .ok (.iload_n 1, 1) := by decide +kernel
theorem dJ9_min_7cf53_2 : decode cJ9_min_7cf53 2 = .ok (.if_icmp .gt 7, 3) := by decide +kernel
theorem dJ9_min_7cf53_5 : decode cJ9_min_7cf53 5 = .ok (.iload_n 0, 1) := by decide +kernel
theorem dJ9_min_7cf53_6 : decode cJ9_min_7cf53 6 = .ok (.goto 4, 3) := by decide +kernel
theorem dJ9_min_7cf53_9 : decode cJ9_min_7cf53 9 = .ok (.iload_n 1, 1) := by decide +kernel
theorem dJ9_min_7cf53_10 : decode cJ9_min_7cf53 10 = .ok (.ireturn, 1) := by decide +kernel
