theorem dX0_init_0 : decode cX0_init 0 = .ok (.aload_n 0, 1) := by decide +kernel
theorem dX0_init_1 : decode cX0_init 1 = .ok (.invokespecial 3, 3) := by decide +kernel
theorem dX0_init_4 : decode cX0_init 4 = .ok (.aload_n 0, 1) := by decide +kernel
theorem dX0_init_5 : decode cX0_init 5 = .ok (.bipush 30, 2) := by decide +kernel
theorem dX0_init_7 : decode cX0_init 7 = .ok (.newarray .int, 2) := by decide +kernel
theorem dX0_init_9 : decode cX0_init 9 = .ok (.putfield 9, 3) := by decide +kernel
theorem dX0_init_12 : decode cX0_init 12 = .ok (.aload_n 0, 1) := by decide +kernel
theorem dX0_init_13 : decode cX0_init 13 = .ok (.bipush 30, 2) := by decide +kernel
theorem dX0_init_15 : decode cX0_init 15 = .ok (.newarray .int, 2) := by decide +kernel
theorem dX0_init_17 : decode cX0_init 17 = .ok (.putfield 15, 3) := by decide +kernel
theorem dX0_init_20 : decode cX0_init 20 = .ok (.aload_n 0, 1) := by decide +kernel
theorem dX0_init_21 : decode cX0_init 21 = .ok (.bipush 30, 2) := by decide +kernel
theorem dX0_init_23 : decode cX0_init 23 = .ok (.newarray .int, 2) := by decide +kernel
theorem dX0_init_25 : decode cX0_init 25 = .ok (.putfield 18, 3) := by decide +kernel
theorem dX0_init_28 : decode cX0_init 28 = .ok (.aload_n 0, 1) := by decide +kernel
theorem dX0_init_29 : decode cX0_init 29 = .ok (.bipush 30, 2) := by decide +kernel
theorem dX0_init_31 : decode cX0_init 31 = .ok (.newarray .int, 2) := by decide +kernel
theorem dX0_init_33 : decode cX0_init 33 = .ok (.putfield 21, 3) := by decide +kernel
theorem dX0_init_36 : decode cX0_init 36 = .ok (.return_, 1) := by decide +kernel
theorem dX0_size_0 : decode cX0_size 0 = .ok (.aload_n 0, 1) := by decide +kernel
theorem dX0_size_1 : decode cX0_size 1 = .ok (.getfield 24, 3) := by decide +kernel
theorem dX0_size_4 : decode cX0_size 4 = .ok (.ireturn, 1) := by decide +kernel
theorem dX0_clear_0 : decode cX0_clear 0 = .ok (.aload_n 0, 1) := by decide +kernel
theorem dX0_clear_1 : decode cX0_clear 1 = .ok (.iconst 0, 1) := by decide +kernel
theorem dX0_clear_2 : decode cX0_clear 2 = .ok (.putfield 24, 3) := by decide +kernel
theorem dX0_clear_5 : decode cX0_clear 5 = .ok (.return_, 1) := by decide +kernel
theorem dX0_add_0 : decode cX0_add 0 = .ok (.aload_n 0, 1) := by decide +kernel
theorem dX0_add_1 : decode cX0_add 1 = .ok (.getfield 24, 3) := by decide +kernel
theorem dX0_add_4 : decode cX0_add 4 = .ok (.ifCond .lt 12, 3) := by decide +kernel
theorem dX0_add_7 : decode cX0_add 7 = .ok (.aload_n 0, 1) := by decide +kernel
theorem dX0_add_8 : decode cX0_add 8 = .ok (.getfield 24, 3) := by decide +kernel
theorem dX0_add_11 : decode cX0_add 11 = .ok (.bipush 30, 2) := by decide +kernel
theorem dX0_add_13 : decode cX0_add 13 = .ok (.if_icmp .lt 5, 3) := by decide +kernel
theorem dX0_add_16 : decode cX0_add 16 = .ok (.iconst 0, 1) := by decide +kernel
theorem dX0_add_17 : decode cX0_add 17 = .ok (.ireturn, 1) := by decide +kernel
theorem dX0_add_18 : decode cX0_add 18 = .ok (.aload_n 0, 1) := by decide +kernel
theorem dX0_add_19 : decode cX0_add 19 = .ok (.getfield 9, 3) := by decide +kernel
theorem dX0_add_22 : decode cX0_add 22 = .ok (.aload_n 0, 1) := by decide +kernel
theorem dX0_add_23 : decode cX0_add 23 = .ok (.getfield 24, 3) := by decide +kernel
theorem dX0_add_26 : decode cX0_add 26 = .ok (.iload_n 1, 1) := by decide +kernel
theorem dX0_add_27 : decode cX0_add 27 = .ok (.iastore, 1) := by decide +kernel
theorem dX0_add_28 : decode cX0_add 28 = .ok (.aload_n 0, 1) := by decide +kernel
theorem dX0_add_29 : decode cX0_add 29 = .ok (.getfield 15, 3) := by decide +kernel
theorem dX0_add_32 : decode cX0_add 32 = .ok (.aload_n 0, 1) := by decide +kernel
theorem dX0_add_33 : decode cX0_add 33 = .ok (.getfield 24, 3) := by decide +kernel
theorem dX0_add_36 : decode cX0_add 36 = .ok (.iload_n 2, 1) := by decide +kernel
theorem dX0_add_37 : decode cX0_add 37 = .ok (.iastore, 1) := by decide +kernel
theorem dX0_add_38 : decode cX0_add 38 = .ok (.aload_n 0, 1) := by decide +kernel
theorem dX0_add_39 : decode cX0_add 39 = .ok (.getfield 18, 3) := by decide +kernel
theorem dX0_add_42 : decode cX0_add 42 = .ok (.aload_n 0, 1) := by decide +kernel
theorem dX0_add_43 : decode cX0_add 43 = .ok (.getfield 24, 3) := by decide +kernel
theorem dX0_add_46 : decode cX0_add 46 = .ok (.iload_n 3, 1) := by decide +kernel
theorem dX0_add_47 : decode cX0_add 47 = .ok (.iastore, 1) := by decide +kernel
theorem dX0_add_48 : decode cX0_add 48 = .ok (.aload_n 0, 1) := by decide +kernel
theorem dX0_add_49 : decode cX0_add 49 = .ok (.getfield 21, 3) := by decide +kernel
theorem dX0_add_52 : decode cX0_add 52 = .ok (.aload_n 0, 1) := by decide +kernel
theorem dX0_add_53 : decode cX0_add 53 = .ok (.getfield 24, 3) := by decide +kernel
theorem dX0_add_56 : decode cX0_add 56 = .ok (.iload 4, 2) := by decide +kernel
theorem dX0_add_58 : decode cX0_add 58 = .ok (.iastore, 1) := by decide +kernel
theorem dX0_add_59 : decode cX0_add 59 = .ok (.aload_n 0, 1) := by decide +kernel
theorem dX0_add_60 : decode cX0_add 60 = .ok (.dup, 1) := by decide +kernel
theorem dX0_add_61 : decode cX0_add 61 = .ok (.getfield 24, 3) := by decide +kernel
theorem dX0_add_64 : decode cX0_add 64 = .ok (.iconst 1, 1) := by decide +kernel
theorem dX0_add_65 : decode cX0_add 65 = .ok (.iadd, 1) := by decide +kernel
theorem dX0_add_66 : decode cX0_add 66 = .ok (.putfield 24, 3) := by decide +kernel
theorem dX0_add_69 : decode cX0_add 69 = .ok (.iconst 1, 1) := by decide +kernel
theorem dX0_add_70 : decode cX0_add 70 = .ok (.ireturn, 1) := by decide +kernel
theorem dX0_dropLast_0 : decode cX0_dropLast 0 = .ok (.aload_n 0, 1) := by decide +kernel
theorem dX0_dropLast_1 : decode cX0_dropLast 1 = .ok (.iconst 0, 1) := by decide +kernel
theorem dX0_dropLast_2 : decode cX0_dropLast 2 = .ok (.aload_n 0, 1) := by decide +kernel
theorem dX0_dropLast_3 : decode cX0_dropLast 3 = .ok (.getfield 24, 3) := by decide +kernel
theorem dX0_dropLast_6 : decode cX0_dropLast 6 = .ok (.iconst 1, 1) := by decide +kernel
theorem dX0_dropLast_7 : decode cX0_dropLast 7 = .ok (.isub, 1) := by decide +kernel
theorem dX0_dropLast_8 : decode cX0_dropLast 8 = .ok (.invokestatic 28, 3) := by decide +kernel
theorem dX0_dropLast_11 : decode cX0_dropLast 11 = .ok (.putfield 24, 3) := by decide +kernel
theorem dX0_dropLast_14 : decode cX0_dropLast 14 = .ok (.return_, 1) := by decide +kernel
theorem dX0_copyFrom_0 : decode cX0_copyFrom 0 = .ok (.iconst 0, 1) := by decide +kernel
theorem dX0_copyFrom_1 : decode cX0_copyFrom 1 = .ok (.istore_n 2, 1) := by decide +kernel
theorem dX0_copyFrom_2 : decode cX0_copyFrom 2 = .ok (.iload_n 2, 1) := by decide +kernel
theorem dX0_copyFrom_3 : decode cX0_copyFrom 3 = .ok (.bipush 30, 2) := by decide +kernel
theorem dX0_copyFrom_5 : decode cX0_copyFrom 5 = .ok (.if_icmp .ge 57, 3) := by decide +kernel
theorem dX0_copyFrom_8 : decode cX0_copyFrom 8 = .ok (.aload_n 0, 1) := by decide +kernel
theorem dX0_copyFrom_9 : decode cX0_copyFrom 9 = .ok (.getfield 9, 3) := by decide +kernel
theorem dX0_copyFrom_12 : decode cX0_copyFrom 12 = .ok (.iload_n 2, 1) := by decide +kernel
theorem dX0_copyFrom_13 : decode cX0_copyFrom 13 = .ok (.aload_n 1, 1) := by decide +kernel
theorem dX0_copyFrom_14 : decode cX0_copyFrom 14 = .ok (.getfield 9, 3) := by decide +kernel
theorem dX0_copyFrom_17 : decode cX0_copyFrom 17 = .ok (.iload_n 2, 1) := by decide +kernel
theorem dX0_copyFrom_18 : decode cX0_copyFrom 18 = .ok (.iaload, 1) := by decide +kernel
theorem dX0_copyFrom_19 : decode cX0_copyFrom 19 = .ok (.iastore, 1) := by decide +kernel
theorem dX0_copyFrom_20 : decode cX0_copyFrom 20 = .ok (.aload_n 0, 1) := by decide +kernel
theorem dX0_copyFrom_21 : decode cX0_copyFrom 21 = .ok (.getfield 15, 3) := by decide +kernel
theorem dX0_copyFrom_24 : decode cX0_copyFrom 24 = .ok (.iload_n 2, 1) := by decide +kernel
theorem dX0_copyFrom_25 : decode cX0_copyFrom 25 = .ok (.aload_n 1, 1) := by decide +kernel
theorem dX0_copyFrom_26 : decode cX0_copyFrom 26 = .ok (.getfield 15, 3) := by decide +kernel
theorem dX0_copyFrom_29 : decode cX0_copyFrom 29 = .ok (.iload_n 2, 1) := by decide +kernel
theorem dX0_copyFrom_30 : decode cX0_copyFrom 30 = .ok (.iaload, 1) := by decide +kernel
theorem dX0_copyFrom_31 : decode cX0_copyFrom 31 = .ok (.iastore, 1) := by decide +kernel
theorem dX0_copyFrom_32 : decode cX0_copyFrom 32 = .ok (.aload_n 0, 1) := by decide +kernel
theorem dX0_copyFrom_33 : decode cX0_copyFrom 33 = .ok (.getfield 18, 3) := by decide +kernel
theorem dX0_copyFrom_36 : decode cX0_copyFrom 36 = .ok (.iload_n 2, 1) := by decide +kernel
theorem dX0_copyFrom_37 : decode cX0_copyFrom 37 = .ok (.aload_n 1, 1) := by decide +kernel
theorem dX0_copyFrom_38 : decode cX0_copyFrom 38 = .ok (.getfield 18, 3) := by decide +kernel
theorem dX0_copyFrom_41 : decode cX0_copyFrom 41 = .ok (.iload_n 2, 1) := by decide +kernel
theorem dX0_copyFrom_42 : decode cX0_copyFrom 42 = .ok (.iaload, 1) := by decide +kernel
theorem dX0_copyFrom_43 : decode cX0_copyFrom 43 = .ok (.iastore, 1) := by decide +kernel
theorem dX0_copyFrom_44 : decode cX0_copyFrom 44 = .ok (.aload_n 0, 1) := by decide +kernel
theorem dX0_copyFrom_45 : decode cX0_copyFrom 45 = .ok (.getfield 21, 3) := by decide +kernel
theorem dX0_copyFrom_48 : decode cX0_copyFrom 48 = .ok (.iload_n 2, 1) := by decide +kernel
theorem dX0_copyFrom_49 : decode cX0_copyFrom 49 = .ok (.aload_n 1, 1) := by decide +kernel
theorem dX0_copyFrom_50 : decode cX0_copyFrom 50 = .ok (.getfield 21, 3) := by decide +kernel
theorem dX0_copyFrom_53 : decode cX0_copyFrom 53 = .ok (.iload_n 2, 1) := by decide +kernel
theorem dX0_copyFrom_54 : decode cX0_copyFrom 54 = .ok (.iaload, 1) := by decide +kernel
theorem dX0_copyFrom_55 : decode cX0_copyFrom 55 = .ok (.iastore, 1) := by decide +kernel
theorem dX0_copyFrom_56 : decode cX0_copyFrom 56 = .ok (.iinc 2 1, 3) := by decide +kernel
theorem dX0_copyFrom_59 : decode cX0_copyFrom 59 = .ok (.goto (-57), 3) := by decide +kernel
theorem dX0_copyFrom_62 : decode cX0_copyFrom 62 = .ok (.aload_n 0, 1) := by decide +kernel
theorem dX0_copyFrom_63 : decode cX0_copyFrom 63 = .ok (.aload_n 1, 1) := by decide +kernel
theorem dX0_copyFrom_64 : decode cX0_copyFrom 64 = .ok (.getfield 24, 3) := by decide +kernel
theorem dX0_copyFrom_67 : decode cX0_copyFrom 67 = .ok (.putfield 24, 3) := by decide +kernel
theorem dX0_copyFrom_70 : decode cX0_copyFrom 70 = .ok (.return_, 1) := by decide +kernel
theorem dX0_doAllBut_0 : decode cX0_doAllBut 0 = .ok (.aload_n 2, 1) := by decide +kernel
theorem dX0_doAllBut_1 : decode cX0_doAllBut 1 = .ok (.invokevirtual 34, 3) := by decide +kernel
theorem dX0_doAllBut_4 : decode cX0_doAllBut 4 = .ok (.iconst 0, 1) := by decide +kernel
theorem dX0_doAllBut_5 : decode cX0_doAllBut 5 = .ok (.istore_n 3, 1) := by decide +kernel
theorem dX0_doAllBut_6 : decode cX0_doAllBut 6 = .ok (.iload_n 3, 1) := by decide +kernel
theorem dX0_doAllBut_7 : decode cX0_doAllBut 7 = .ok (.aload_n 0, 1) := by decide +kernel
theorem dX0_doAllBut_8 : decode cX0_doAllBut 8 = .ok (.getfield 24, 3) := by decide +kernel
theorem dX0_doAllBut_11 : decode cX0_doAllBut 11 = .ok (.if_icmp .ge 48, 3) := by decide +kernel
theorem dX0_doAllBut_14 : decode cX0_doAllBut 14 = .ok (.iload_n 3, 1) := by decide +kernel
theorem dX0_doAllBut_15 : decode cX0_doAllBut 15 = .ok (.bipush 30, 2) := by decide +kernel
theorem dX0_doAllBut_17 : decode cX0_doAllBut 17 = .ok (.if_icmp .ge 42, 3) := by decide +kernel
theorem dX0_doAllBut_20 : decode cX0_doAllBut 20 = .ok (.iload_n 3, 1) := by decide +kernel
theorem dX0_doAllBut_21 : decode cX0_doAllBut 21 = .ok (.iload_n 1, 1) := by decide +kernel
theorem dX0_doAllBut_22 : decode cX0_doAllBut 22 = .ok (.if_icmp .eq 31, 3) := by decide +kernel
theorem dX0_doAllBut_25 : decode cX0_doAllBut 25 = .ok (.aload_n 0, 1) := by decide +kernel
theorem dX0_doAllBut_26 : decode cX0_doAllBut 26 = .ok (.getfield 9, 3) := by decide +kernel
theorem dX0_doAllBut_29 : decode cX0_doAllBut 29 = .ok (.iload_n 3, 1) := by decide +kernel
theorem dX0_doAllBut_30 : decode cX0_doAllBut 30 = .ok (.iaload, 1) := by decide +kernel
theorem dX0_doAllBut_31 : decode cX0_doAllBut 31 = .ok (.aload_n 0, 1) := by decide +kernel
theorem dX0_doAllBut_32 : decode cX0_doAllBut 32 = .ok (.getfield 15, 3) := by decide +kernel
theorem dX0_doAllBut_35 : decode cX0_doAllBut 35 = .ok (.iload_n 3, 1) := by decide +kernel
theorem dX0_doAllBut_36 : decode cX0_doAllBut 36 = .ok (.iaload, 1) := by decide +kernel
theorem dX0_doAllBut_37 : decode cX0_doAllBut 37 = .ok (.aload_n 0, 1) := by decide +kernel
theorem dX0_doAllBut_38 : decode cX0_doAllBut 38 = .ok (.getfield 18, 3) := by decide +kernel
theorem dX0_doAllBut_41 : decode cX0_doAllBut 41 = .ok (.iload_n 3, 1) := by decide +kernel
theorem dX0_doAllBut_42 : decode cX0_doAllBut 42 = .ok (.iaload, 1) := by decide +kernel
theorem dX0_doAllBut_43 : decode cX0_doAllBut 43 = .ok (.aload_n 0, 1) := by decide +kernel
theorem dX0_doAllBut_44 : decode cX0_doAllBut 44 = .ok (.getfield 21, 3) := by decide +kernel
theorem dX0_doAllBut_47 : decode cX0_doAllBut 47 = .ok (.iload_n 3, 1) := by decide +kernel
theorem dX0_doAllBut_48 : decode cX0_doAllBut 48 = .ok (.iaload, 1) := by decide +kernel
theorem dX0_doAllBut_49 : decode cX0_doAllBut 49 = .ok (.aload_n 2, 1) := by decide +kernel
theorem dX0_doAllBut_50 : decode cX0_doAllBut 50 = .ok (.invokestatic 39, 3) := by decide +kernel
theorem dX0_doAllBut_53 : decode cX0_doAllBut 53 = .ok (.iinc 3 1, 3) := by decide +kernel
theorem dX0_doAllBut_56 : decode cX0_doAllBut 56 = .ok (.goto (-50), 3) := by decide +kernel
theorem dX0_doAllBut_59 : decode cX0_doAllBut 59 = .ok (.return_, 1) := by decide +kernel
theorem dX0_doOne_0 : decode cX0_doOne 0 = .ok (.iload_n 0, 1) := by decide +kernel
theorem dX0_doOne_1 : decode cX0_doOne 1 = .ok (.ifCond .ne 24, 3) := by decide +kernel
theorem dX0_doOne_4 : decode cX0_doOne 4 = .ok (.aload 4, 2) := by decide +kernel
theorem dX0_doOne_6 : decode cX0_doOne 6 = .ok (.iload_n 1, 1) := by decide +kernel
theorem dX0_doOne_7 : decode cX0_doOne 7 = .ok (.iload_n 3, 1) := by decide +kernel
theorem dX0_doOne_8 : decode cX0_doOne 8 = .ok (.invokevirtual 43, 3) := by decide +kernel
theorem dX0_doOne_11 : decode cX0_doOne 11 = .ok (.ifCond .eq 14, 3) := by decide +kernel
theorem dX0_doOne_14 : decode cX0_doOne 14 = .ok (.aload 4, 2) := by decide +kernel
theorem dX0_doOne_16 : decode cX0_doOne 16 = .ok (.iload_n 1, 1) := by decide +kernel
theorem dX0_doOne_17 : decode cX0_doOne 17 = .ok (.iload_n 2, 1) := by decide +kernel
theorem dX0_doOne_18 : decode cX0_doOne 18 = .ok (.iload_n 3, 1) := by decide +kernel
theorem dX0_doOne_19 : decode cX0_doOne 19 = .ok (.invokevirtual 47, 3) := by decide +kernel
theorem dX0_doOne_22 : decode cX0_doOne 22 = .ok (.goto 49, 3) := by decide +kernel
theorem dX0_doOne_25 : decode cX0_doOne 25 = .ok (.iload_n 0, 1) := by decide +kernel
theorem dX0_doOne_26 : decode cX0_doOne 26 = .ok (.iconst 1, 1) := by decide +kernel
theorem dX0_doOne_27 : decode cX0_doOne 27 = .ok (.if_icmp .ne 23, 3) := by decide +kernel
theorem dX0_doOne_30 : decode cX0_doOne 30 = .ok (.aload 4, 2) := by decide +kernel
theorem dX0_doOne_32 : decode cX0_doOne 32 = .ok (.iload_n 1, 1) := by decide +kernel
theorem dX0_doOne_33 : decode cX0_doOne 33 = .ok (.iload_n 3, 1) := by decide +kernel
theorem dX0_doOne_34 : decode cX0_doOne 34 = .ok (.invokevirtual 51, 3) := by decide +kernel
theorem dX0_doOne_37 : decode cX0_doOne 37 = .ok (.ifCond .eq 13, 3) := by decide +kernel
theorem dX0_doOne_40 : decode cX0_doOne 40 = .ok (.aload 4, 2) := by decide +kernel
theorem dX0_doOne_42 : decode cX0_doOne 42 = .ok (.iload_n 1, 1) := by decide +kernel
theorem dX0_doOne_43 : decode cX0_doOne 43 = .ok (.iload_n 3, 1) := by decide +kernel
theorem dX0_doOne_44 : decode cX0_doOne 44 = .ok (.invokevirtual 54, 3) := by decide +kernel
theorem dX0_doOne_47 : decode cX0_doOne 47 = .ok (.goto 24, 3) := by decide +kernel
theorem dX0_doOne_50 : decode cX0_doOne 50 = .ok (.iload_n 0, 1) := by decide +kernel
theorem dX0_doOne_51 : decode cX0_doOne 51 = .ok (.iconst 2, 1) := by decide +kernel
theorem dX0_doOne_52 : decode cX0_doOne 52 = .ok (.if_icmp .ne 19, 3) := by decide +kernel
theorem dX0_doOne_55 : decode cX0_doOne 55 = .ok (.aload 4, 2) := by decide +kernel
theorem dX0_doOne_57 : decode cX0_doOne 57 = .ok (.iload_n 3, 1) := by decide +kernel
theorem dX0_doOne_58 : decode cX0_doOne 58 = .ok (.invokevirtual 58, 3) := by decide +kernel
theorem dX0_doOne_61 : decode cX0_doOne 61 = .ok (.ifCond .eq 10, 3) := by decide +kernel
theorem dX0_doOne_64 : decode cX0_doOne 64 = .ok (.aload 4, 2) := by decide +kernel
theorem dX0_doOne_66 : decode cX0_doOne 66 = .ok (.iload_n 3, 1) := by decide +kernel
theorem dX0_doOne_67 : decode cX0_doOne 67 = .ok (.iconst 0, 1) := by decide +kernel
theorem dX0_doOne_68 : decode cX0_doOne 68 = .ok (.invokevirtual 62, 3) := by decide +kernel
theorem dX0_doOne_71 : decode cX0_doOne 71 = .ok (.return_, 1) := by decide +kernel
theorem dX1_init_0 : decode cX1_init 0 = .ok (.aload_n 0, 1) := by decide +kernel
theorem dX1_init_1 : decode cX1_init 1 = .ok (.invokespecial 3, 3) := by decide +kernel
theorem dX1_init_4 : decode cX1_init 4 = .ok (.aload_n 0, 1) := by decide +kernel
theorem dX1_init_5 : decode cX1_init 5 = .ok (.iconst 4, 1) := by decide +kernel
theorem dX1_init_6 : decode cX1_init 6 = .ok (.newarray .int, 2) := by decide +kernel
theorem dX1_init_8 : decode cX1_init 8 = .ok (.putfield 9, 3) := by decide +kernel
theorem dX1_init_11 : decode cX1_init 11 = .ok (.aload_n 0, 1) := by decide +kernel
theorem dX1_init_12 : decode cX1_init 12 = .ok (.iconst 4, 1) := by decide +kernel
theorem dX1_init_13 : decode cX1_init 13 = .ok (.newarray .int, 2) := by decide +kernel
theorem dX1_init_15 : decode cX1_init 15 = .ok (.putfield 15, 3) := by decide +kernel
theorem dX1_init_18 : decode cX1_init 18 = .ok (.aload_n 0, 1) := by decide +kernel
theorem dX1_init_19 : decode cX1_init 19 = .ok (.iconst 4, 1) := by decide +kernel
theorem dX1_init_20 : decode cX1_init 20 = .ok (.newarray .int, 2) := by decide +kernel
theorem dX1_init_22 : decode cX1_init 22 = .ok (.putfield 18, 3) := by decide +kernel
theorem dX1_init_25 : decode cX1_init 25 = .ok (.aload_n 0, 1) := by decide +kernel
theorem dX1_init_26 : decode cX1_init 26 = .ok (.iconst 4, 1) := by decide +kernel
theorem dX1_init_27 : decode cX1_init 27 = .ok (.newarray .int, 2) := by decide +kernel
theorem dX1_init_29 : decode cX1_init 29 = .ok (.putfield 21, 3) := by decide +kernel
theorem dX1_init_32 : decode cX1_init 32 = .ok (.aload_n 0, 1) := by decide +kernel
theorem dX1_init_33 : decode cX1_init 33 = .ok (.iconst 4, 1) := by decide +kernel
theorem dX1_init_34 : decode cX1_init 34 = .ok (.newarray .int, 2) := by decide +kernel
theorem dX1_init_36 : decode cX1_init 36 = .ok (.putfield 24, 3) := by decide +kernel
theorem dX1_init_39 : decode cX1_init 39 = .ok (.aload_n 0, 1) := by decide +kernel
theorem dX1_init_40 : decode cX1_init 40 = .ok (.bipush 101, 2) := by decide +kernel
theorem dX1_init_42 : decode cX1_init 42 = .ok (.newarray .int, 2) := by decide +kernel
theorem dX1_init_44 : decode cX1_init 44 = .ok (.putfield 27, 3) := by decide +kernel
theorem dX1_init_47 : decode cX1_init 47 = .ok (.return_, 1) := by decide +kernel
theorem dX1_clear_0 : decode cX1_clear 0 = .ok (.aload_n 0, 1) := by decide +kernel
theorem dX1_clear_1 : decode cX1_clear 1 = .ok (.iconst 0, 1) := by decide +kernel
theorem dX1_clear_2 : decode cX1_clear 2 = .ok (.putfield 30, 3) := by decide +kernel
theorem dX1_clear_5 : decode cX1_clear 5 = .ok (.aload_n 0, 1) := by decide +kernel
theorem dX1_clear_6 : decode cX1_clear 6 = .ok (.iconst 0, 1) := by decide +kernel
theorem dX1_clear_7 : decode cX1_clear 7 = .ok (.putfield 34, 3) := by decide +kernel
theorem dX1_clear_10 : decode cX1_clear 10 = .ok (.return_, 1) := by decide +kernel
theorem dX1_addFlow_0 : decode cX1_addFlow 0 = .ok (.aload_n 0, 1) := by decide +kernel
theorem dX1_addFlow_1 : decode cX1_addFlow 1 = .ok (.getfield 30, 3) := by decide +kernel
theorem dX1_addFlow_4 : decode cX1_addFlow 4 = .ok (.ifCond .lt 17, 3) := by decide +kernel
theorem dX1_addFlow_7 : decode cX1_addFlow 7 = .ok (.aload_n 0, 1) := by decide +kernel
theorem dX1_addFlow_8 : decode cX1_addFlow 8 = .ok (.getfield 30, 3) := by decide +kernel
theorem dX1_addFlow_11 : decode cX1_addFlow 11 = .ok (.iconst 4, 1) := by decide +kernel
theorem dX1_addFlow_12 : decode cX1_addFlow 12 = .ok (.if_icmp .ge 9, 3) := by decide +kernel
theorem dX1_addFlow_15 : decode cX1_addFlow 15 = .ok (.iload_n 2, 1) := by decide +kernel
theorem dX1_addFlow_16 : decode cX1_addFlow 16 = .ok (.bipush 60, 2) := by decide +kernel
theorem dX1_addFlow_18 : decode cX1_addFlow 18 = .ok (.if_icmp .le 5, 3) := by decide +kernel
theorem dX1_addFlow_21 : decode cX1_addFlow 21 = .ok (.iconst 0, 1) := by decide +kernel
theorem dX1_addFlow_22 : decode cX1_addFlow 22 = .ok (.ireturn, 1) := by decide +kernel
theorem dX1_addFlow_23 : decode cX1_addFlow 23 = .ok (.aload_n 0, 1) := by decide +kernel
theorem dX1_addFlow_24 : decode cX1_addFlow 24 = .ok (.getfield 9, 3) := by decide +kernel
theorem dX1_addFlow_27 : decode cX1_addFlow 27 = .ok (.aload_n 0, 1) := by decide +kernel
theorem dX1_addFlow_28 : decode cX1_addFlow 28 = .ok (.getfield 30, 3) := by decide +kernel
theorem dX1_addFlow_31 : decode cX1_addFlow 31 = .ok (.iload_n 1, 1) := by decide +kernel
theorem dX1_addFlow_32 : decode cX1_addFlow 32 = .ok (.iastore, 1) := by decide +kernel
theorem dX1_addFlow_33 : decode cX1_addFlow 33 = .ok (.aload_n 0, 1) := by decide +kernel
theorem dX1_addFlow_34 : decode cX1_addFlow 34 = .ok (.getfield 15, 3) := by decide +kernel
theorem dX1_addFlow_37 : decode cX1_addFlow 37 = .ok (.aload_n 0, 1) := by decide +kernel
theorem dX1_addFlow_38 : decode cX1_addFlow 38 = .ok (.getfield 30, 3) := by decide +kernel
theorem dX1_addFlow_41 : decode cX1_addFlow 41 = .ok (.iload_n 2, 1) := by decide +kernel
theorem dX1_addFlow_42 : decode cX1_addFlow 42 = .ok (.iastore, 1) := by decide +kernel
theorem dX1_addFlow_43 : decode cX1_addFlow 43 = .ok (.aload_n 0, 1) := by decide +kernel
theorem dX1_addFlow_44 : decode cX1_addFlow 44 = .ok (.dup, 1) := by decide +kernel
theorem dX1_addFlow_45 : decode cX1_addFlow 45 = .ok (.getfield 30, 3) := by decide +kernel
theorem dX1_addFlow_48 : decode cX1_addFlow 48 = .ok (.iconst 1, 1) := by decide +kernel
theorem dX1_addFlow_49 : decode cX1_addFlow 49 = .ok (.iadd, 1) := by decide +kernel
theorem dX1_addFlow_50 : decode cX1_addFlow 50 = .ok (.putfield 30, 3) := by decide +kernel
theorem dX1_addFlow_53 : decode cX1_addFlow 53 = .ok (.iconst 1, 1) := by decide +kernel
theorem dX1_addFlow_54 : decode cX1_addFlow 54 = .ok (.ireturn, 1) := by decide +kernel
theorem dX1_addRain_0 : decode cX1_addRain 0 = .ok (.aload_n 0, 1) := by decide +kernel
theorem dX1_addRain_1 : decode cX1_addRain 1 = .ok (.getfield 34, 3) := by decide +kernel
theorem dX1_addRain_4 : decode cX1_addRain 4 = .ok (.ifCond .lt 22, 3) := by decide +kernel
theorem dX1_addRain_7 : decode cX1_addRain 7 = .ok (.aload_n 0, 1) := by decide +kernel
theorem dX1_addRain_8 : decode cX1_addRain 8 = .ok (.getfield 34, 3) := by decide +kernel
theorem dX1_addRain_11 : decode cX1_addRain 11 = .ok (.iconst 4, 1) := by decide +kernel
theorem dX1_addRain_12 : decode cX1_addRain 12 = .ok (.if_icmp .ge 14, 3) := by decide +kernel
theorem dX1_addRain_15 : decode cX1_addRain 15 = .ok (.iload_n 1, 1) := by decide +kernel
theorem dX1_addRain_16 : decode cX1_addRain 16 = .ok (.iload_n 2, 1) := by decide +kernel
theorem dX1_addRain_17 : decode cX1_addRain 17 = .ok (.if_icmp .gt 9, 3) := by decide +kernel
theorem dX1_addRain_20 : decode cX1_addRain 20 = .ok (.iload_n 3, 1) := by decide +kernel
theorem dX1_addRain_21 : decode cX1_addRain 21 = .ok (.bipush 30, 2) := by decide +kernel
theorem dX1_addRain_23 : decode cX1_addRain 23 = .ok (.if_icmp .le 5, 3) := by decide +kernel
theorem dX1_addRain_26 : decode cX1_addRain 26 = .ok (.iconst 0, 1) := by decide +kernel
theorem dX1_addRain_27 : decode cX1_addRain 27 = .ok (.ireturn, 1) := by decide +kernel
theorem dX1_addRain_28 : decode cX1_addRain 28 = .ok (.aload_n 0, 1) := by decide +kernel
theorem dX1_addRain_29 : decode cX1_addRain 29 = .ok (.getfield 18, 3) := by decide +kernel
theorem dX1_addRain_32 : decode cX1_addRain 32 = .ok (.aload_n 0, 1) := by decide +kernel
theorem dX1_addRain_33 : decode cX1_addRain 33 = .ok (.getfield 34, 3) := by decide +kernel
theorem dX1_addRain_36 : decode cX1_addRain 36 = .ok (.iload_n 1, 1) := by decide +kernel
theorem dX1_addRain_37 : decode cX1_addRain 37 = .ok (.iastore, 1) := by decide +kernel
theorem dX1_addRain_38 : decode cX1_addRain 38 = .ok (.aload_n 0, 1) := by decide +kernel
theorem dX1_addRain_39 : decode cX1_addRain 39 = .ok (.getfield 21, 3) := by decide +kernel
theorem dX1_addRain_42 : decode cX1_addRain 42 = .ok (.aload_n 0, 1) := by decide +kernel
theorem dX1_addRain_43 : decode cX1_addRain 43 = .ok (.getfield 34, 3) := by decide +kernel
theorem dX1_addRain_46 : decode cX1_addRain 46 = .ok (.iload_n 2, 1) := by decide +kernel
theorem dX1_addRain_47 : decode cX1_addRain 47 = .ok (.iastore, 1) := by decide +kernel
theorem dX1_addRain_48 : decode cX1_addRain 48 = .ok (.aload_n 0, 1) := by decide +kernel
theorem dX1_addRain_49 : decode cX1_addRain 49 = .ok (.getfield 24, 3) := by decide +kernel
theorem dX1_addRain_52 : decode cX1_addRain 52 = .ok (.aload_n 0, 1) := by decide +kernel
theorem dX1_addRain_53 : decode cX1_addRain 53 = .ok (.getfield 34, 3) := by decide +kernel
theorem dX1_addRain_56 : decode cX1_addRain 56 = .ok (.iload_n 3, 1) := by decide +kernel
theorem dX1_addRain_57 : decode cX1_addRain 57 = .ok (.iastore, 1) := by decide +kernel
theorem dX1_addRain_58 : decode cX1_addRain 58 = .ok (.aload_n 0, 1) := by decide +kernel
theorem dX1_addRain_59 : decode cX1_addRain 59 = .ok (.dup, 1) := by decide +kernel
theorem dX1_addRain_60 : decode cX1_addRain 60 = .ok (.getfield 34, 3) := by decide +kernel
theorem dX1_addRain_63 : decode cX1_addRain 63 = .ok (.iconst 1, 1) := by decide +kernel
theorem dX1_addRain_64 : decode cX1_addRain 64 = .ok (.iadd, 1) := by decide +kernel
theorem dX1_addRain_65 : decode cX1_addRain 65 = .ok (.putfield 34, 3) := by decide +kernel
theorem dX1_addRain_68 : decode cX1_addRain 68 = .ok (.iconst 1, 1) := by decide +kernel
theorem dX1_addRain_69 : decode cX1_addRain 69 = .ok (.ireturn, 1) := by decide +kernel
theorem dX1_settle_0 : decode cX1_settle 0 = .ok (.iconst 0, 1) := by decide +kernel
theorem dX1_settle_1 : decode cX1_settle 1 = .ok (.istore_n 1, 1) := by decide +kernel
theorem dX1_settle_2 : decode cX1_settle 2 = .ok (.iload_n 1, 1) := by decide +kernel
theorem dX1_settle_3 : decode cX1_settle 3 = .ok (.bipush 100, 2) := by decide +kernel
theorem dX1_settle_5 : decode cX1_settle 5 = .ok (.if_icmp .gt 26, 3) := by decide +kernel
theorem dX1_settle_8 : decode cX1_settle 8 = .ok (.aload_n 0, 1) := by decide +kernel
theorem dX1_settle_9 : decode cX1_settle 9 = .ok (.getfield 27, 3) := by decide +kernel
theorem dX1_settle_12 : decode cX1_settle 12 = .ok (.iload_n 1, 1) := by decide +kernel
theorem dX1_settle_13 : decode cX1_settle 13 = .ok (.aload_n 0, 1) := by decide +kernel
theorem dX1_settle_14 : decode cX1_settle 14 = .ok (.iload_n 1, 1) := by decide +kernel
theorem dX1_settle_15 : decode cX1_settle 15 = .ok (.invokevirtual 37, 3) := by decide +kernel
theorem dX1_settle_18 : decode cX1_settle 18 = .ok (.aload_n 0, 1) := by decide +kernel
theorem dX1_settle_19 : decode cX1_settle 19 = .ok (.iload_n 1, 1) := by decide +kernel
theorem dX1_settle_20 : decode cX1_settle 20 = .ok (.invokevirtual 41, 3) := by decide +kernel
theorem dX1_settle_23 : decode cX1_settle 23 = .ok (.iadd, 1) := by decide +kernel
theorem dX1_settle_24 : decode cX1_settle 24 = .ok (.iastore, 1) := by decide +kernel
theorem dX1_settle_25 : decode cX1_settle 25 = .ok (.iinc 1 1, 3) := by decide +kernel
theorem dX1_settle_28 : decode cX1_settle 28 = .ok (.goto (-26), 3) := by decide +kernel
theorem dX1_settle_31 : decode cX1_settle 31 = .ok (.return_, 1) := by decide +kernel
theorem dX1_flowIn_0 : decode cX1_flowIn 0 = .ok (.bipush (-4), 2) := by decide +kernel
theorem dX1_flowIn_2 : decode cX1_flowIn 2 = .ok (.istore_n 2, 1) := by decide +kernel
theorem dX1_flowIn_3 : decode cX1_flowIn 3 = .ok (.iconst 0, 1) := by decide +kernel
theorem dX1_flowIn_4 : decode cX1_flowIn 4 = .ok (.istore_n 3, 1) := by decide +kernel
theorem dX1_flowIn_5 : decode cX1_flowIn 5 = .ok (.iconst 0, 1) := by decide +kernel
theorem dX1_flowIn_6 : decode cX1_flowIn 6 = .ok (.istore 4, 2) := by decide +kernel
theorem dX1_flowIn_8 : decode cX1_flowIn 8 = .ok (.iload 4, 2) := by decide +kernel
theorem dX1_flowIn_10 : decode cX1_flowIn 10 = .ok (.aload_n 0, 1) := by decide +kernel
theorem dX1_flowIn_11 : decode cX1_flowIn 11 = .ok (.getfield 30, 3) := by decide +kernel
theorem dX1_flowIn_14 : decode cX1_flowIn 14 = .ok (.if_icmp .ge 53, 3) := by decide +kernel
theorem dX1_flowIn_17 : decode cX1_flowIn 17 = .ok (.iload 4, 2) := by decide +kernel
theorem dX1_flowIn_19 : decode cX1_flowIn 19 = .ok (.iconst 4, 1) := by decide +kernel
theorem dX1_flowIn_20 : decode cX1_flowIn 20 = .ok (.if_icmp .ge 47, 3) := by decide +kernel
theorem dX1_flowIn_23 : decode cX1_flowIn 23 = .ok (.aload_n 0, 1) := by decide +kernel
theorem dX1_flowIn_24 : decode cX1_flowIn 24 = .ok (.getfield 9, 3) := by decide +kernel
theorem dX1_flowIn_27 : decode cX1_flowIn 27 = .ok (.iload 4, 2) := by decide +kernel
theorem dX1_flowIn_29 : decode cX1_flowIn 29 = .ok (.iaload, 1) := by decide +kernel
theorem dX1_flowIn_30 : decode cX1_flowIn 30 = .ok (.iload_n 1, 1) := by decide +kernel
theorem dX1_flowIn_31 : decode cX1_flowIn 31 = .ok (.if_icmp .gt 30, 3) := by decide +kernel
theorem dX1_flowIn_34 : decode cX1_flowIn 34 = .ok (.aload_n 0, 1) := by decide +kernel
theorem dX1_flowIn_35 : decode cX1_flowIn 35 = .ok (.getfield 9, 3) := by decide +kernel
theorem dX1_flowIn_38 : decode cX1_flowIn 38 = .ok (.iload 4, 2) := by decide +kernel
theorem dX1_flowIn_40 : decode cX1_flowIn 40 = .ok (.iaload, 1) := by decide +kernel
theorem dX1_flowIn_41 : decode cX1_flowIn 41 = .ok (.iload_n 2, 1) := by decide +kernel
theorem dX1_flowIn_42 : decode cX1_flowIn 42 = .ok (.if_icmp .lt 19, 3) := by decide +kernel
theorem dX1_flowIn_45 : decode cX1_flowIn 45 = .ok (.aload_n 0, 1) := by decide +kernel
theorem dX1_flowIn_46 : decode cX1_flowIn 46 = .ok (.getfield 9, 3) := by decide +kernel
theorem dX1_flowIn_49 : decode cX1_flowIn 49 = .ok (.iload 4, 2) := by decide +kernel
theorem dX1_flowIn_51 : decode cX1_flowIn 51 = .ok (.iaload, 1) := by decide +kernel
theorem dX1_flowIn_52 : decode cX1_flowIn 52 = .ok (.istore_n 2, 1) := by decide +kernel
theorem dX1_flowIn_53 : decode cX1_flowIn 53 = .ok (.aload_n 0, 1) := by decide +kernel
theorem dX1_flowIn_54 : decode cX1_flowIn 54 = .ok (.getfield 15, 3) := by decide +kernel
theorem dX1_flowIn_57 : decode cX1_flowIn 57 = .ok (.iload 4, 2) := by decide +kernel
theorem dX1_flowIn_59 : decode cX1_flowIn 59 = .ok (.iaload, 1) := by decide +kernel
theorem dX1_flowIn_60 : decode cX1_flowIn 60 = .ok (.istore_n 3, 1) := by decide +kernel
theorem dX1_flowIn_61 : decode cX1_flowIn 61 = .ok (.iinc 4 1, 3) := by decide +kernel
theorem dX1_flowIn_64 : decode cX1_flowIn 64 = .ok (.goto (-56), 3) := by decide +kernel
theorem dX1_flowIn_67 : decode cX1_flowIn 67 = .ok (.iload_n 3, 1) := by decide +kernel
theorem dX1_flowIn_68 : decode cX1_flowIn 68 = .ok (.ireturn, 1) := by decide +kernel
theorem dX1_rainIn_0 : decode cX1_rainIn 0 = .ok (.iconst 0, 1) := by decide +kernel
theorem dX1_rainIn_1 : decode cX1_rainIn 1 = .ok (.istore_n 2, 1) := by decide +kernel
theorem dX1_rainIn_2 : decode cX1_rainIn 2 = .ok (.iconst 0, 1) := by decide +kernel
theorem dX1_rainIn_3 : decode cX1_rainIn 3 = .ok (.istore_n 3, 1) := by decide +kernel
theorem dX1_rainIn_4 : decode cX1_rainIn 4 = .ok (.iload_n 3, 1) := by decide +kernel
theorem dX1_rainIn_5 : decode cX1_rainIn 5 = .ok (.aload_n 0, 1) := by decide +kernel
theorem dX1_rainIn_6 : decode cX1_rainIn 6 = .ok (.getfield 34, 3) := by decide +kernel
theorem dX1_rainIn_9 : decode cX1_rainIn 9 = .ok (.if_icmp .ge 43, 3) := by decide +kernel
theorem dX1_rainIn_12 : decode cX1_rainIn 12 = .ok (.iload_n 3, 1) := by decide +kernel
theorem dX1_rainIn_13 : decode cX1_rainIn 13 = .ok (.iconst 4, 1) := by decide +kernel
theorem dX1_rainIn_14 : decode cX1_rainIn 14 = .ok (.if_icmp .ge 38, 3) := by decide +kernel
theorem dX1_rainIn_17 : decode cX1_rainIn 17 = .ok (.aload_n 0, 1) := by decide +kernel
theorem dX1_rainIn_18 : decode cX1_rainIn 18 = .ok (.getfield 18, 3) := by decide +kernel
theorem dX1_rainIn_21 : decode cX1_rainIn 21 = .ok (.iload_n 3, 1) := by decide +kernel
theorem dX1_rainIn_22 : decode cX1_rainIn 22 = .ok (.iaload, 1) := by decide +kernel
theorem dX1_rainIn_23 : decode cX1_rainIn 23 = .ok (.iload_n 1, 1) := by decide +kernel
theorem dX1_rainIn_24 : decode cX1_rainIn 24 = .ok (.if_icmp .gt 22, 3) := by decide +kernel
theorem dX1_rainIn_27 : decode cX1_rainIn 27 = .ok (.iload_n 1, 1) := by decide +kernel
theorem dX1_rainIn_28 : decode cX1_rainIn 28 = .ok (.aload_n 0, 1) := by decide +kernel
theorem dX1_rainIn_29 : decode cX1_rainIn 29 = .ok (.getfield 21, 3) := by decide +kernel
theorem dX1_rainIn_32 : decode cX1_rainIn 32 = .ok (.iload_n 3, 1) := by decide +kernel
theorem dX1_rainIn_33 : decode cX1_rainIn 33 = .ok (.iaload, 1) := by decide +kernel
theorem dX1_rainIn_34 : decode cX1_rainIn 34 = .ok (.if_icmp .gt 12, 3) := by decide +kernel
theorem dX1_rainIn_37 : decode cX1_rainIn 37 = .ok (.iload_n 2, 1) := by decide +kernel
theorem dX1_rainIn_38 : decode cX1_rainIn 38 = .ok (.aload_n 0, 1) := by decide +kernel
theorem dX1_rainIn_39 : decode cX1_rainIn 39 = .ok (.getfield 24, 3) := by decide +kernel
theorem dX1_rainIn_42 : decode cX1_rainIn 42 = .ok (.iload_n 3, 1) := by decide +kernel
theorem dX1_rainIn_43 : decode cX1_rainIn 43 = .ok (.iaload, 1) := by decide +kernel
theorem dX1_rainIn_44 : decode cX1_rainIn 44 = .ok (.iadd, 1) := by decide +kernel
theorem dX1_rainIn_45 : decode cX1_rainIn 45 = .ok (.istore_n 2, 1) := by decide +kernel
theorem dX1_rainIn_46 : decode cX1_rainIn 46 = .ok (.iinc 3 1, 3) := by decide +kernel
theorem dX1_rainIn_49 : decode cX1_rainIn 49 = .ok (.goto (-45), 3) := by decide +kernel
theorem dX1_rainIn_52 : decode cX1_rainIn 52 = .ok (.iload_n 2, 1) := by decide +kernel
theorem dX1_rainIn_53 : decode cX1_rainIn 53 = .ok (.ireturn, 1) := by decide +kernel
theorem dX1_comesIn_0 : decode cX1_comesIn 0 = .ok (.iload_n 1, 1) := by decide +kernel
theorem dX1_comesIn_1 : decode cX1_comesIn 1 = .ok (.ifCond .ge 7, 3) := by decide +kernel
theorem dX1_comesIn_4 : decode cX1_comesIn 4 = .ok (.iconst 0, 1) := by decide +kernel
theorem dX1_comesIn_5 : decode cX1_comesIn 5 = .ok (.goto 14, 3) := by decide +kernel
theorem dX1_comesIn_8 : decode cX1_comesIn 8 = .ok (.aload_n 0, 1) := by decide +kernel
theorem dX1_comesIn_9 : decode cX1_comesIn 9 = .ok (.getfield 27, 3) := by decide +kernel
theorem dX1_comesIn_12 : decode cX1_comesIn 12 = .ok (.iload_n 1, 1) := by decide +kernel
theorem dX1_comesIn_13 : decode cX1_comesIn 13 = .ok (.bipush 100, 2) := by decide +kernel
theorem dX1_comesIn_15 : decode cX1_comesIn 15 = .ok (.invokestatic 44, 3) := by decide +kernel
theorem dX1_comesIn_18 : decode cX1_comesIn 18 = .ok (.iaload, 1) := by decide +kernel
theorem dX1_comesIn_19 : decode cX1_comesIn 19 = .ok (.ireturn, 1) := by decide +kernel
theorem dX2_init_0 : decode cX2_init 0 = .ok (.aload_n 0, 1) := by decide +kernel
theorem dX2_init_1 : decode cX2_init 1 = .ok (.invokespecial 3, 3) := by decide +kernel
theorem dX2_init_4 : decode cX2_init 4 = .ok (.aload_n 0, 1) := by decide +kernel
theorem dX2_init_5 : decode cX2_init 5 = .ok (.iconst 4, 1) := by decide +kernel
theorem dX2_init_6 : decode cX2_init 6 = .ok (.iconst 4, 1) := by decide +kernel
theorem dX2_init_7 : decode cX2_init 7 = .ok (.multianewarray 9 2, 4) := by decide +kernel
theorem dX2_init_11 : decode cX2_init 11 = .ok (.putfield 11, 3) := by decide +kernel
theorem dX2_init_14 : decode cX2_init 14 = .ok (.aload_n 0, 1) := by decide +kernel
theorem dX2_init_15 : decode cX2_init 15 = .ok (.iconst 5, 1) := by decide +kernel
theorem dX2_init_16 : decode cX2_init 16 = .ok (.newarray .int, 2) := by decide +kernel
theorem dX2_init_18 : decode cX2_init 18 = .ok (.putfield 16, 3) := by decide +kernel
theorem dX2_init_21 : decode cX2_init 21 = .ok (.aload_n 0, 1) := by decide +kernel
theorem dX2_init_22 : decode cX2_init 22 = .ok (.iconst 5, 1) := by decide +kernel
theorem dX2_init_23 : decode cX2_init 23 = .ok (.newarray .int, 2) := by decide +kernel
theorem dX2_init_25 : decode cX2_init 25 = .ok (.putfield 20, 3) := by decide +kernel
theorem dX2_init_28 : decode cX2_init 28 = .ok (.aload_n 0, 1) := by decide +kernel
theorem dX2_init_29 : decode cX2_init 29 = .ok (.iconst 4, 1) := by decide +kernel
theorem dX2_init_30 : decode cX2_init 30 = .ok (.newarray .int, 2) := by decide +kernel
theorem dX2_init_32 : decode cX2_init 32 = .ok (.putfield 23, 3) := by decide +kernel
theorem dX2_init_35 : decode cX2_init 35 = .ok (.return_, 1) := by decide +kernel
theorem dX2_clear_0 : decode cX2_clear 0 = .ok (.aload_n 0, 1) := by decide +kernel
theorem dX2_clear_1 : decode cX2_clear 1 = .ok (.iconst 0, 1) := by decide +kernel
theorem dX2_clear_2 : decode cX2_clear 2 = .ok (.putfield 26, 3) := by decide +kernel
theorem dX2_clear_5 : decode cX2_clear 5 = .ok (.aload_n 0, 1) := by decide +kernel
theorem dX2_clear_6 : decode cX2_clear 6 = .ok (.iconst 0, 1) := by decide +kernel
theorem dX2_clear_7 : decode cX2_clear 7 = .ok (.putfield 30, 3) := by decide +kernel
theorem dX2_clear_10 : decode cX2_clear 10 = .ok (.return_, 1) := by decide +kernel
theorem dX2_addChild_0 : decode cX2_addChild 0 = .ok (.aload_n 0, 1) := by decide +kernel
theorem dX2_addChild_1 : decode cX2_addChild 1 = .ok (.getfield 26, 3) := by decide +kernel
theorem dX2_addChild_4 : decode cX2_addChild 4 = .ok (.ifCond .lt 11, 3) := by decide +kernel
theorem dX2_addChild_7 : decode cX2_addChild 7 = .ok (.aload_n 0, 1) := by decide +kernel
theorem dX2_addChild_8 : decode cX2_addChild 8 = .ok (.getfield 26, 3) := by decide +kernel
theorem dX2_addChild_11 : decode cX2_addChild 11 = .ok (.iconst 4, 1) := by decide +kernel
theorem dX2_addChild_12 : decode cX2_addChild 12 = .ok (.if_icmp .lt 5, 3) := by decide +kernel
theorem dX2_addChild_15 : decode cX2_addChild 15 = .ok (.iconst 0, 1) := by decide +kernel
theorem dX2_addChild_16 : decode cX2_addChild 16 = .ok (.ireturn, 1) := by decide +kernel
theorem dX2_addChild_17 : decode cX2_addChild 17 = .ok (.iconst 0, 1) := by decide +kernel
theorem dX2_addChild_18 : decode cX2_addChild 18 = .ok (.istore_n 2, 1) := by decide +kernel
theorem dX2_addChild_19 : decode cX2_addChild 19 = .ok (.iload_n 2, 1) := by decide +kernel
theorem dX2_addChild_20 : decode cX2_addChild 20 = .ok (.iconst 4, 1) := by decide +kernel
theorem dX2_addChild_21 : decode cX2_addChild 21 = .ok (.if_icmp .ge 37, 3) := by decide +kernel
theorem dX2_addChild_24 : decode cX2_addChild 24 = .ok (.aload_n 1, 1) := by decide +kernel
theorem dX2_addChild_25 : decode cX2_addChild 25 = .ok (.iload_n 2, 1) := by decide +kernel
theorem dX2_addChild_26 : decode cX2_addChild 26 = .ok (.invokevirtual 33, 3) := by decide +kernel
theorem dX2_addChild_29 : decode cX2_addChild 29 = .ok (.bipush 9, 2) := by decide +kernel
theorem dX2_addChild_31 : decode cX2_addChild 31 = .ok (.if_icmp .le 5, 3) := by decide +kernel
theorem dX2_addChild_34 : decode cX2_addChild 34 = .ok (.iconst 0, 1) := by decide +kernel
theorem dX2_addChild_35 : decode cX2_addChild 35 = .ok (.ireturn, 1) := by decide +kernel
theorem dX2_addChild_36 : decode cX2_addChild 36 = .ok (.aload_n 0, 1) := by decide +kernel
theorem dX2_addChild_37 : decode cX2_addChild 37 = .ok (.getfield 11, 3) := by decide +kernel
theorem dX2_addChild_40 : decode cX2_addChild 40 = .ok (.aload_n 0, 1) := by decide +kernel
theorem dX2_addChild_41 : decode cX2_addChild 41 = .ok (.getfield 26, 3) := by decide +kernel
theorem dX2_addChild_44 : decode cX2_addChild 44 = .ok (.aaload, 1) := by decide +kernel
theorem dX2_addChild_45 : decode cX2_addChild 45 = .ok (.iload_n 2, 1) := by decide +kernel
theorem dX2_addChild_46 : decode cX2_addChild 46 = .ok (.aload_n 1, 1) := by decide +kernel
theorem dX2_addChild_47 : decode cX2_addChild 47 = .ok (.iload_n 2, 1) := by decide +kernel
theorem dX2_addChild_48 : decode cX2_addChild 48 = .ok (.invokevirtual 33, 3) := by decide +kernel
theorem dX2_addChild_51 : decode cX2_addChild 51 = .ok (.iastore, 1) := by decide +kernel
theorem dX2_addChild_52 : decode cX2_addChild 52 = .ok (.iinc 2 1, 3) := by decide +kernel
theorem dX2_addChild_55 : decode cX2_addChild 55 = .ok (.goto (-36), 3) := by decide +kernel
theorem dX2_addChild_58 : decode cX2_addChild 58 = .ok (.aload_n 0, 1) := by decide +kernel
theorem dX2_addChild_59 : decode cX2_addChild 59 = .ok (.dup, 1) := by decide +kernel
theorem dX2_addChild_60 : decode cX2_addChild 60 = .ok (.getfield 26, 3) := by decide +kernel
theorem dX2_addChild_63 : decode cX2_addChild 63 = .ok (.iconst 1, 1) := by decide +kernel
theorem dX2_addChild_64 : decode cX2_addChild 64 = .ok (.iadd, 1) := by decide +kernel
theorem dX2_addChild_65 : decode cX2_addChild 65 = .ok (.putfield 26, 3) := by decide +kernel
theorem dX2_addChild_68 : decode cX2_addChild 68 = .ok (.iconst 1, 1) := by decide +kernel
theorem dX2_addChild_69 : decode cX2_addChild 69 = .ok (.ireturn, 1) := by decide +kernel
theorem dX2_addJob_0 : decode cX2_addJob 0 = .ok (.aload_n 0, 1) := by decide +kernel
theorem dX2_addJob_1 : decode cX2_addJob 1 = .ok (.getfield 30, 3) := by decide +kernel
theorem dX2_addJob_4 : decode cX2_addJob 4 = .ok (.ifCond .lt 28, 3) := by decide +kernel
theorem dX2_addJob_7 : decode cX2_addJob 7 = .ok (.aload_n 0, 1) := by decide +kernel
theorem dX2_addJob_8 : decode cX2_addJob 8 = .ok (.getfield 30, 3) := by decide +kernel
theorem dX2_addJob_11 : decode cX2_addJob 11 = .ok (.iconst 5, 1) := by decide +kernel
theorem dX2_addJob_12 : decode cX2_addJob 12 = .ok (.if_icmp .ge 20, 3) := by decide +kernel
theorem dX2_addJob_15 : decode cX2_addJob 15 = .ok (.iload_n 1, 1) := by decide +kernel
theorem dX2_addJob_16 : decode cX2_addJob 16 = .ok (.invokestatic 39, 3) := by decide +kernel
theorem dX2_addJob_19 : decode cX2_addJob 19 = .ok (.ifCond .eq 13, 3) := by decide +kernel
theorem dX2_addJob_22 : decode cX2_addJob 22 = .ok (.iload_n 2, 1) := by decide +kernel
theorem dX2_addJob_23 : decode cX2_addJob 23 = .ok (.iconst 1, 1) := by decide +kernel
theorem dX2_addJob_24 : decode cX2_addJob 24 = .ok (.bipush 30, 2) := by decide +kernel
theorem dX2_addJob_26 : decode cX2_addJob 26 = .ok (.invokestatic 43, 3) := by decide +kernel
theorem dX2_addJob_29 : decode cX2_addJob 29 = .ok (.ifCond .ne 5, 3) := by decide +kernel
theorem dX2_addJob_32 : decode cX2_addJob 32 = .ok (.iconst 0, 1) := by decide +kernel
theorem dX2_addJob_33 : decode cX2_addJob 33 = .ok (.ireturn, 1) := by decide +kernel
theorem dX2_addJob_34 : decode cX2_addJob 34 = .ok (.aload_n 0, 1) := by decide +kernel
theorem dX2_addJob_35 : decode cX2_addJob 35 = .ok (.getfield 16, 3) := by decide +kernel
theorem dX2_addJob_38 : decode cX2_addJob 38 = .ok (.aload_n 0, 1) := by decide +kernel
theorem dX2_addJob_39 : decode cX2_addJob 39 = .ok (.getfield 30, 3) := by decide +kernel
theorem dX2_addJob_42 : decode cX2_addJob 42 = .ok (.iload_n 1, 1) := by decide +kernel
theorem dX2_addJob_43 : decode cX2_addJob 43 = .ok (.iastore, 1) := by decide +kernel
theorem dX2_addJob_44 : decode cX2_addJob 44 = .ok (.aload_n 0, 1) := by decide +kernel
theorem dX2_addJob_45 : decode cX2_addJob 45 = .ok (.getfield 20, 3) := by decide +kernel
theorem dX2_addJob_48 : decode cX2_addJob 48 = .ok (.aload_n 0, 1) := by decide +kernel
theorem dX2_addJob_49 : decode cX2_addJob 49 = .ok (.getfield 30, 3) := by decide +kernel
theorem dX2_addJob_52 : decode cX2_addJob 52 = .ok (.iload_n 2, 1) := by decide +kernel
theorem dX2_addJob_53 : decode cX2_addJob 53 = .ok (.iastore, 1) := by decide +kernel
theorem dX2_addJob_54 : decode cX2_addJob 54 = .ok (.aload_n 0, 1) := by decide +kernel
theorem dX2_addJob_55 : decode cX2_addJob 55 = .ok (.dup, 1) := by decide +kernel
theorem dX2_addJob_56 : decode cX2_addJob 56 = .ok (.getfield 30, 3) := by decide +kernel
theorem dX2_addJob_59 : decode cX2_addJob 59 = .ok (.iconst 1, 1) := by decide +kernel
theorem dX2_addJob_60 : decode cX2_addJob 60 = .ok (.iadd, 1) := by decide +kernel
theorem dX2_addJob_61 : decode cX2_addJob 61 = .ok (.putfield 30, 3) := by decide +kernel
theorem dX2_addJob_64 : decode cX2_addJob 64 = .ok (.iconst 1, 1) := by decide +kernel
theorem dX2_addJob_65 : decode cX2_addJob 65 = .ok (.ireturn, 1) := by decide +kernel
theorem dX2_childCount_0 : decode cX2_childCount 0 = .ok (.aload_n 0, 1) := by decide +kernel
theorem dX2_childCount_1 : decode cX2_childCount 1 = .ok (.getfield 26, 3) := by decide +kernel
theorem dX2_childCount_4 : decode cX2_childCount 4 = .ok (.ireturn, 1) := by decide +kernel
theorem dX2_jobCount_0 : decode cX2_jobCount 0 = .ok (.aload_n 0, 1) := by decide +kernel
theorem dX2_jobCount_1 : decode cX2_jobCount 1 = .ok (.getfield 30, 3) := by decide +kernel
theorem dX2_jobCount_4 : decode cX2_jobCount 4 = .ok (.ireturn, 1) := by decide +kernel
theorem dX2_quickestWay_0 : decode cX2_quickestWay 0 = .ok (.bipush (-4), 2) := by decide +kernel
theorem dX2_quickestWay_2 : decode cX2_quickestWay 2 = .ok (.istore_n 1, 1) := by decide +kernel
theorem dX2_quickestWay_3 : decode cX2_quickestWay 3 = .ok (.iconst 0, 1) := by decide +kernel
theorem dX2_quickestWay_4 : decode cX2_quickestWay 4 = .ok (.istore_n 2, 1) := by decide +kernel
theorem dX2_quickestWay_5 : decode cX2_quickestWay 5 = .ok (.aload_n 0, 1) := by decide +kernel
theorem dX2_quickestWay_6 : decode cX2_quickestWay 6 = .ok (.invokevirtual 47, 3) := by decide +kernel
theorem dX2_quickestWay_9 : decode cX2_quickestWay 9 = .ok (.istore_n 3, 1) := by decide +kernel
theorem dX2_quickestWay_10 : decode cX2_quickestWay 10 = .ok (.iconst 0, 1) := by decide +kernel
theorem dX2_quickestWay_11 : decode cX2_quickestWay 11 = .ok (.istore 4, 2) := by decide +kernel
theorem dX2_quickestWay_13 : decode cX2_quickestWay 13 = .ok (.iload 4, 2) := by decide +kernel
theorem dX2_quickestWay_15 : decode cX2_quickestWay 15 = .ok (.iload_n 3, 1) := by decide +kernel
theorem dX2_quickestWay_16 : decode cX2_quickestWay 16 = .ok (.if_icmp .ge 42, 3) := by decide +kernel
theorem dX2_quickestWay_19 : decode cX2_quickestWay 19 = .ok (.aload_n 0, 1) := by decide +kernel
theorem dX2_quickestWay_20 : decode cX2_quickestWay 20 = .ok (.iload 4, 2) := by decide +kernel
theorem dX2_quickestWay_22 : decode cX2_quickestWay 22 = .ok (.invokevirtual 51, 3) := by decide +kernel
theorem dX2_quickestWay_25 : decode cX2_quickestWay 25 = .ok (.istore 5, 2) := by decide +kernel
theorem dX2_quickestWay_27 : decode cX2_quickestWay 27 = .ok (.iload 5, 2) := by decide +kernel
theorem dX2_quickestWay_29 : decode cX2_quickestWay 29 = .ok (.bipush (-4), 2) := by decide +kernel
theorem dX2_quickestWay_31 : decode cX2_quickestWay 31 = .ok (.if_icmp .eq 21, 3) := by decide +kernel
theorem dX2_quickestWay_34 : decode cX2_quickestWay 34 = .ok (.iload_n 1, 1) := by decide +kernel
theorem dX2_quickestWay_35 : decode cX2_quickestWay 35 = .ok (.bipush (-4), 2) := by decide +kernel
theorem dX2_quickestWay_37 : decode cX2_quickestWay 37 = .ok (.if_icmp .eq 9, 3) := by decide +kernel
theorem dX2_quickestWay_40 : decode cX2_quickestWay 40 = .ok (.iload 5, 2) := by decide +kernel
theorem dX2_quickestWay_42 : decode cX2_quickestWay 42 = .ok (.iload_n 2, 1) := by decide +kernel
theorem dX2_quickestWay_43 : decode cX2_quickestWay 43 = .ok (.if_icmp .ge 9, 3) := by decide +kernel
theorem dX2_quickestWay_46 : decode cX2_quickestWay 46 = .ok (.iload 4, 2) := by decide +kernel
theorem dX2_quickestWay_48 : decode cX2_quickestWay 48 = .ok (.istore_n 1, 1) := by decide +kernel
theorem dX2_quickestWay_49 : decode cX2_quickestWay 49 = .ok (.iload 5, 2) := by decide +kernel
theorem dX2_quickestWay_51 : decode cX2_quickestWay 51 = .ok (.istore_n 2, 1) := by decide +kernel
theorem dX2_quickestWay_52 : decode cX2_quickestWay 52 = .ok (.iinc 4 1, 3) := by decide +kernel
theorem dX2_quickestWay_55 : decode cX2_quickestWay 55 = .ok (.goto (-42), 3) := by decide +kernel
theorem dX2_quickestWay_58 : decode cX2_quickestWay 58 = .ok (.iload_n 1, 1) := by decide +kernel
theorem dX2_quickestWay_59 : decode cX2_quickestWay 59 = .ok (.ireturn, 1) := by decide +kernel
theorem dX2_wayCount_0 : decode cX2_wayCount 0 = .ok (.iconst 1, 1) := by decide +kernel
theorem dX2_wayCount_1 : decode cX2_wayCount 1 = .ok (.istore_n 1, 1) := by decide +kernel
theorem dX2_wayCount_2 : decode cX2_wayCount 2 = .ok (.iconst 0, 1) := by decide +kernel
theorem dX2_wayCount_3 : decode cX2_wayCount 3 = .ok (.istore_n 2, 1) := by decide +kernel
theorem dX2_wayCount_4 : decode cX2_wayCount 4 = .ok (.iload_n 2, 1) := by decide +kernel
theorem dX2_wayCount_5 : decode cX2_wayCount 5 = .ok (.aload_n 0, 1) := by decide +kernel
theorem dX2_wayCount_6 : decode cX2_wayCount 6 = .ok (.getfield 30, 3) := by decide +kernel
theorem dX2_wayCount_9 : decode cX2_wayCount 9 = .ok (.if_icmp .ge 16, 3) := by decide +kernel
theorem dX2_wayCount_12 : decode cX2_wayCount 12 = .ok (.iload_n 1, 1) := by decide +kernel
theorem dX2_wayCount_13 : decode cX2_wayCount 13 = .ok (.aload_n 0, 1) := by decide +kernel
theorem dX2_wayCount_14 : decode cX2_wayCount 14 = .ok (.getfield 26, 3) := by decide +kernel
theorem dX2_wayCount_17 : decode cX2_wayCount 17 = .ok (.imul, 1) := by decide +kernel
theorem dX2_wayCount_18 : decode cX2_wayCount 18 = .ok (.istore_n 1, 1) := by decide +kernel
theorem dX2_wayCount_19 : decode cX2_wayCount 19 = .ok (.iinc 2 1, 3) := by decide +kernel
theorem dX2_wayCount_22 : decode cX2_wayCount 22 = .ok (.goto (-18), 3) := by decide +kernel
theorem dX2_wayCount_25 : decode cX2_wayCount 25 = .ok (.iload_n 1, 1) := by decide +kernel
theorem dX2_wayCount_26 : decode cX2_wayCount 26 = .ok (.ireturn, 1) := by decide +kernel
theorem dX2_whoDoes_0 : decode cX2_whoDoes 0 = .ok (.aload_n 0, 1) := by decide +kernel
theorem dX2_whoDoes_1 : decode cX2_whoDoes 1 = .ok (.getfield 26, 3) := by decide +kernel
theorem dX2_whoDoes_4 : decode cX2_whoDoes 4 = .ok (.iconst 1, 1) := by decide +kernel
theorem dX2_whoDoes_5 : decode cX2_whoDoes 5 = .ok (.if_icmp .ge 6, 3) := by decide +kernel
theorem dX2_whoDoes_8 : decode cX2_whoDoes 8 = .ok (.bipush (-4), 2) := by decide +kernel
theorem dX2_whoDoes_10 : decode cX2_whoDoes 10 = .ok (.ireturn, 1) := by decide +kernel
theorem dX2_whoDoes_11 : decode cX2_whoDoes 11 = .ok (.iload_n 2, 1) := by decide +kernel
theorem dX2_whoDoes_12 : decode cX2_whoDoes 12 = .ok (.istore_n 3, 1) := by decide +kernel
theorem dX2_whoDoes_13 : decode cX2_whoDoes 13 = .ok (.aload_n 0, 1) := by decide +kernel
theorem dX2_whoDoes_14 : decode cX2_whoDoes 14 = .ok (.getfield 30, 3) := by decide +kernel
theorem dX2_whoDoes_17 : decode cX2_whoDoes 17 = .ok (.iconst 1, 1) := by decide +kernel
theorem dX2_whoDoes_18 : decode cX2_whoDoes 18 = .ok (.isub, 1) := by decide +kernel
theorem dX2_whoDoes_19 : decode cX2_whoDoes 19 = .ok (.istore 4, 2) := by decide +kernel
theorem dX2_whoDoes_21 : decode cX2_whoDoes 21 = .ok (.iload 4, 2) := by decide +kernel
theorem dX2_whoDoes_23 : decode cX2_whoDoes 23 = .ok (.iload_n 1, 1) := by decide +kernel
theorem dX2_whoDoes_24 : decode cX2_whoDoes 24 = .ok (.if_icmp .le 16, 3) := by decide +kernel
theorem dX2_whoDoes_27 : decode cX2_whoDoes 27 = .ok (.iload_n 3, 1) := by decide +kernel
theorem dX2_whoDoes_28 : decode cX2_whoDoes 28 = .ok (.aload_n 0, 1) := by decide +kernel
theorem dX2_whoDoes_29 : decode cX2_whoDoes 29 = .ok (.getfield 26, 3) := by decide +kernel
theorem dX2_whoDoes_32 : decode cX2_whoDoes 32 = .ok (.idiv, 1) := by decide +kernel
theorem dX2_whoDoes_33 : decode cX2_whoDoes 33 = .ok (.istore_n 3, 1) := by decide +kernel
theorem dX2_whoDoes_34 : decode cX2_whoDoes 34 = .ok (.iinc 4 (-1), 3) := by decide +kernel
theorem dX2_whoDoes_37 : decode cX2_whoDoes 37 = .ok (.goto (-16), 3) := by decide +kernel
theorem dX2_whoDoes_40 : decode cX2_whoDoes 40 = .ok (.iload_n 3, 1) := by decide +kernel
theorem dX2_whoDoes_41 : decode cX2_whoDoes 41 = .ok (.aload_n 0, 1) := by decide +kernel
theorem dX2_whoDoes_42 : decode cX2_whoDoes 42 = .ok (.getfield 26, 3) := by decide +kernel
theorem dX2_whoDoes_45 : decode cX2_whoDoes 45 = .ok (.irem, 1) := by decide +kernel
theorem dX2_whoDoes_46 : decode cX2_whoDoes 46 = .ok (.ireturn, 1) := by decide +kernel
theorem dX2_minutesBy_0 : decode cX2_minutesBy 0 = .ok (.iconst 0, 1) := by decide +kernel
theorem dX2_minutesBy_1 : decode cX2_minutesBy 1 = .ok (.istore_n 2, 1) := by decide +kernel
theorem dX2_minutesBy_2 : decode cX2_minutesBy 2 = .ok (.iconst 0, 1) := by decide +kernel
theorem dX2_minutesBy_3 : decode cX2_minutesBy 3 = .ok (.istore_n 3, 1) := by decide +kernel
theorem dX2_minutesBy_4 : decode cX2_minutesBy 4 = .ok (.iload_n 3, 1) := by decide +kernel
theorem dX2_minutesBy_5 : decode cX2_minutesBy 5 = .ok (.iconst 4, 1) := by decide +kernel
theorem dX2_minutesBy_6 : decode cX2_minutesBy 6 = .ok (.if_icmp .ge 16, 3) := by decide +kernel
theorem dX2_minutesBy_9 : decode cX2_minutesBy 9 = .ok (.aload_n 0, 1) := by decide +kernel
theorem dX2_minutesBy_10 : decode cX2_minutesBy 10 = .ok (.getfield 23, 3) := by decide +kernel
theorem dX2_minutesBy_13 : decode cX2_minutesBy 13 = .ok (.iload_n 3, 1) := by decide +kernel
theorem dX2_minutesBy_14 : decode cX2_minutesBy 14 = .ok (.iconst 0, 1) := by decide +kernel
theorem dX2_minutesBy_15 : decode cX2_minutesBy 15 = .ok (.iastore, 1) := by decide +kernel
theorem dX2_minutesBy_16 : decode cX2_minutesBy 16 = .ok (.iinc 3 1, 3) := by decide +kernel
theorem dX2_minutesBy_19 : decode cX2_minutesBy 19 = .ok (.goto (-15), 3) := by decide +kernel
theorem dX2_minutesBy_22 : decode cX2_minutesBy 22 = .ok (.iconst 0, 1) := by decide +kernel
theorem dX2_minutesBy_23 : decode cX2_minutesBy 23 = .ok (.istore_n 3, 1) := by decide +kernel
theorem dX2_minutesBy_24 : decode cX2_minutesBy 24 = .ok (.iload_n 3, 1) := by decide +kernel
theorem dX2_minutesBy_25 : decode cX2_minutesBy 25 = .ok (.aload_n 0, 1) := by decide +kernel
theorem dX2_minutesBy_26 : decode cX2_minutesBy 26 = .ok (.getfield 30, 3) := by decide +kernel
theorem dX2_minutesBy_29 : decode cX2_minutesBy 29 = .ok (.if_icmp .ge 71, 3) := by decide +kernel
theorem dX2_minutesBy_32 : decode cX2_minutesBy 32 = .ok (.aload_n 0, 1) := by decide +kernel
theorem dX2_minutesBy_33 : decode cX2_minutesBy 33 = .ok (.iload_n 3, 1) := by decide +kernel
theorem dX2_minutesBy_34 : decode cX2_minutesBy 34 = .ok (.iload_n 1, 1) := by decide +kernel
theorem dX2_minutesBy_35 : decode cX2_minutesBy 35 = .ok (.invokevirtual 54, 3) := by decide +kernel
theorem dX2_minutesBy_38 : decode cX2_minutesBy 38 = .ok (.istore 4, 2) := by decide +kernel
theorem dX2_minutesBy_40 : decode cX2_minutesBy 40 = .ok (.aload_n 0, 1) := by decide +kernel
theorem dX2_minutesBy_41 : decode cX2_minutesBy 41 = .ok (.iload 4, 2) := by decide +kernel
theorem dX2_minutesBy_43 : decode cX2_minutesBy 43 = .ok (.iload_n 3, 1) := by decide +kernel
theorem dX2_minutesBy_44 : decode cX2_minutesBy 44 = .ok (.invokevirtual 58, 3) := by decide +kernel
theorem dX2_minutesBy_47 : decode cX2_minutesBy 47 = .ok (.istore 5, 2) := by decide +kernel
theorem dX2_minutesBy_49 : decode cX2_minutesBy 49 = .ok (.iload 5, 2) := by decide +kernel
theorem dX2_minutesBy_51 : decode cX2_minutesBy 51 = .ok (.bipush (-4), 2) := by decide +kernel
theorem dX2_minutesBy_53 : decode cX2_minutesBy 53 = .ok (.if_icmp .eq 14, 3) := by decide +kernel
theorem dX2_minutesBy_56 : decode cX2_minutesBy 56 = .ok (.iload 4, 2) := by decide +kernel
theorem dX2_minutesBy_58 : decode cX2_minutesBy 58 = .ok (.ifCond .lt 9, 3) := by decide +kernel
theorem dX2_minutesBy_61 : decode cX2_minutesBy 61 = .ok (.iload 4, 2) := by decide +kernel
theorem dX2_minutesBy_63 : decode cX2_minutesBy 63 = .ok (.iconst 4, 1) := by decide +kernel
theorem dX2_minutesBy_64 : decode cX2_minutesBy 64 = .ok (.if_icmp .lt 6, 3) := by decide +kernel
theorem dX2_minutesBy_67 : decode cX2_minutesBy 67 = .ok (.bipush (-4), 2) := by decide +kernel
theorem dX2_minutesBy_69 : decode cX2_minutesBy 69 = .ok (.ireturn, 1) := by decide +kernel
theorem dX2_minutesBy_70 : decode cX2_minutesBy 70 = .ok (.aload_n 0, 1) := by decide +kernel
theorem dX2_minutesBy_71 : decode cX2_minutesBy 71 = .ok (.getfield 23, 3) := by decide +kernel
theorem dX2_minutesBy_74 : decode cX2_minutesBy 74 = .ok (.iload 4, 2) := by decide +kernel
theorem dX2_minutesBy_76 : decode cX2_minutesBy 76 = .ok (.dup2, 1) := by decide +kernel
theorem dX2_minutesBy_77 : decode cX2_minutesBy 77 = .ok (.iaload, 1) := by decide +kernel
theorem dX2_minutesBy_78 : decode cX2_minutesBy 78 = .ok (.iload 5, 2) := by decide +kernel
theorem dX2_minutesBy_80 : decode cX2_minutesBy 80 = .ok (.iadd, 1) := by decide +kernel
theorem dX2_minutesBy_81 : decode cX2_minutesBy 81 = .ok (.iastore, 1) := by decide +kernel
theorem dX2_minutesBy_82 : decode cX2_minutesBy 82 = .ok (.iload_n 2, 1) := by decide +kernel
theorem dX2_minutesBy_83 : decode cX2_minutesBy 83 = .ok (.aload_n 0, 1) := by decide +kernel
theorem dX2_minutesBy_84 : decode cX2_minutesBy 84 = .ok (.getfield 23, 3) := by decide +kernel
theorem dX2_minutesBy_87 : decode cX2_minutesBy 87 = .ok (.iload 4, 2) := by decide +kernel
theorem dX2_minutesBy_89 : decode cX2_minutesBy 89 = .ok (.iaload, 1) := by decide +kernel
theorem dX2_minutesBy_90 : decode cX2_minutesBy 90 = .ok (.invokestatic 61, 3) := by decide +kernel
theorem dX2_minutesBy_93 : decode cX2_minutesBy 93 = .ok (.istore_n 2, 1) := by decide +kernel
theorem dX2_minutesBy_94 : decode cX2_minutesBy 94 = .ok (.iinc 3 1, 3) := by decide +kernel
theorem dX2_minutesBy_97 : decode cX2_minutesBy 97 = .ok (.goto (-73), 3) := by decide +kernel
theorem dX2_minutesBy_100 : decode cX2_minutesBy 100 = .ok (.iload_n 2, 1) := by decide +kernel
theorem dX2_minutesBy_101 : decode cX2_minutesBy 101 = .ok (.ireturn, 1) := by decide +kernel
theorem dX2_minutesFor_0 : decode cX2_minutesFor 0 = .ok (.iload_n 1, 1) := by decide +kernel
theorem dX2_minutesFor_1 : decode cX2_minutesFor 1 = .ok (.ifCond .lt 23, 3) := by decide +kernel
theorem dX2_minutesFor_4 : decode cX2_minutesFor 4 = .ok (.iload_n 1, 1) := by decide +kernel
theorem dX2_minutesFor_5 : decode cX2_minutesFor 5 = .ok (.aload_n 0, 1) := by decide +kernel
theorem dX2_minutesFor_6 : decode cX2_minutesFor 6 = .ok (.getfield 26, 3) := by decide +kernel
theorem dX2_minutesFor_9 : decode cX2_minutesFor 9 = .ok (.if_icmp .ge 15, 3) := by decide +kernel
theorem dX2_minutesFor_12 : decode cX2_minutesFor 12 = .ok (.iload_n 2, 1) := by decide +kernel
theorem dX2_minutesFor_13 : decode cX2_minutesFor 13 = .ok (.ifCond .lt 11, 3) := by decide +kernel
theorem dX2_minutesFor_16 : decode cX2_minutesFor 16 = .ok (.iload_n 2, 1) := by decide +kernel
theorem dX2_minutesFor_17 : decode cX2_minutesFor 17 = .ok (.aload_n 0, 1) := by decide +kernel
theorem dX2_minutesFor_18 : decode cX2_minutesFor 18 = .ok (.getfield 30, 3) := by decide +kernel
theorem dX2_minutesFor_21 : decode cX2_minutesFor 21 = .ok (.if_icmp .lt 6, 3) := by decide +kernel
theorem dX2_minutesFor_24 : decode cX2_minutesFor 24 = .ok (.bipush (-4), 2) := by decide +kernel
theorem dX2_minutesFor_26 : decode cX2_minutesFor 26 = .ok (.ireturn, 1) := by decide +kernel
theorem dX2_minutesFor_27 : decode cX2_minutesFor 27 = .ok (.aload_n 0, 1) := by decide +kernel
theorem dX2_minutesFor_28 : decode cX2_minutesFor 28 = .ok (.getfield 11, 3) := by decide +kernel
theorem dX2_minutesFor_31 : decode cX2_minutesFor 31 = .ok (.iload_n 1, 1) := by decide +kernel
theorem dX2_minutesFor_32 : decode cX2_minutesFor 32 = .ok (.aaload, 1) := by decide +kernel
theorem dX2_minutesFor_33 : decode cX2_minutesFor 33 = .ok (.aload_n 0, 1) := by decide +kernel
theorem dX2_minutesFor_34 : decode cX2_minutesFor 34 = .ok (.getfield 16, 3) := by decide +kernel
theorem dX2_minutesFor_37 : decode cX2_minutesFor 37 = .ok (.iload_n 2, 1) := by decide +kernel
theorem dX2_minutesFor_38 : decode cX2_minutesFor 38 = .ok (.iaload, 1) := by decide +kernel
theorem dX2_minutesFor_39 : decode cX2_minutesFor 39 = .ok (.iaload, 1) := by decide +kernel
theorem dX2_minutesFor_40 : decode cX2_minutesFor 40 = .ok (.istore_n 3, 1) := by decide +kernel
theorem dX2_minutesFor_41 : decode cX2_minutesFor 41 = .ok (.iload_n 3, 1) := by decide +kernel
theorem dX2_minutesFor_42 : decode cX2_minutesFor 42 = .ok (.iconst 1, 1) := by decide +kernel
theorem dX2_minutesFor_43 : decode cX2_minutesFor 43 = .ok (.if_icmp .ge 8, 3) := by decide +kernel
theorem dX2_minutesFor_46 : decode cX2_minutesFor 46 = .ok (.bipush (-4), 2) := by decide +kernel
theorem dX2_minutesFor_48 : decode cX2_minutesFor 48 = .ok (.goto 15, 3) := by decide +kernel
theorem dX2_minutesFor_51 : decode cX2_minutesFor 51 = .ok (.aload_n 0, 1) := by decide +kernel
theorem dX2_minutesFor_52 : decode cX2_minutesFor 52 = .ok (.getfield 20, 3) := by decide +kernel
theorem dX2_minutesFor_55 : decode cX2_minutesFor 55 = .ok (.iload_n 2, 1) := by decide +kernel
theorem dX2_minutesFor_56 : decode cX2_minutesFor 56 = .ok (.iaload, 1) := by decide +kernel
theorem dX2_minutesFor_57 : decode cX2_minutesFor 57 = .ok (.iload_n 3, 1) := by decide +kernel
theorem dX2_minutesFor_58 : decode cX2_minutesFor 58 = .ok (.iadd, 1) := by decide +kernel
theorem dX2_minutesFor_59 : decode cX2_minutesFor 59 = .ok (.iconst 1, 1) := by decide +kernel
theorem dX2_minutesFor_60 : decode cX2_minutesFor 60 = .ok (.isub, 1) := by decide +kernel
theorem dX2_minutesFor_61 : decode cX2_minutesFor 61 = .ok (.iload_n 3, 1) := by decide +kernel
theorem dX2_minutesFor_62 : decode cX2_minutesFor 62 = .ok (.idiv, 1) := by decide +kernel
theorem dX2_minutesFor_63 : decode cX2_minutesFor 63 = .ok (.ireturn, 1) := by decide +kernel
theorem dX3_init_0 : decode cX3_init 0 = .ok (.aload_n 0, 1) := by decide +kernel
theorem dX3_init_1 : decode cX3_init 1 = .ok (.invokespecial 3, 3) := by decide +kernel
theorem dX3_init_4 : decode cX3_init 4 = .ok (.aload_n 0, 1) := by decide +kernel
theorem dX3_init_5 : decode cX3_init 5 = .ok (.bipush 8, 2) := by decide +kernel
theorem dX3_init_7 : decode cX3_init 7 = .ok (.newarray .int, 2) := by decide +kernel
theorem dX3_init_9 : decode cX3_init 9 = .ok (.putfield 9, 3) := by decide +kernel
theorem dX3_init_12 : decode cX3_init 12 = .ok (.aload_n 0, 1) := by decide +kernel
theorem dX3_init_13 : decode cX3_init 13 = .ok (.bipush 8, 2) := by decide +kernel
theorem dX3_init_15 : decode cX3_init 15 = .ok (.newarray .int, 2) := by decide +kernel
theorem dX3_init_17 : decode cX3_init 17 = .ok (.putfield 15, 3) := by decide +kernel
theorem dX3_init_20 : decode cX3_init 20 = .ok (.aload_n 0, 1) := by decide +kernel
theorem dX3_init_21 : decode cX3_init 21 = .ok (.bipush 8, 2) := by decide +kernel
theorem dX3_init_23 : decode cX3_init 23 = .ok (.newarray .int, 2) := by decide +kernel
theorem dX3_init_25 : decode cX3_init 25 = .ok (.putfield 18, 3) := by decide +kernel
theorem dX3_init_28 : decode cX3_init 28 = .ok (.aload_n 0, 1) := by decide +kernel
theorem dX3_init_29 : decode cX3_init 29 = .ok (.aload_n 1, 1) := by decide +kernel
theorem dX3_init_30 : decode cX3_init 30 = .ok (.putfield 21, 3) := by decide +kernel
theorem dX3_init_33 : decode cX3_init 33 = .ok (.return_, 1) := by decide +kernel
theorem dX3_startAnew_0 : decode cX3_startAnew 0 = .ok (.iconst 0, 1) := by decide +kernel
theorem dX3_startAnew_1 : decode cX3_startAnew 1 = .ok (.istore_n 1, 1) := by decide +kernel
theorem dX3_startAnew_2 : decode cX3_startAnew 2 = .ok (.iload_n 1, 1) := by decide +kernel
theorem dX3_startAnew_3 : decode cX3_startAnew 3 = .ok (.bipush 8, 2) := by decide +kernel
theorem dX3_startAnew_5 : decode cX3_startAnew 5 = .ok (.if_icmp .ge 44, 3) := by decide +kernel
theorem dX3_startAnew_8 : decode cX3_startAnew 8 = .ok (.aload_n 0, 1) := by decide +kernel
theorem dX3_startAnew_9 : decode cX3_startAnew 9 = .ok (.getfield 9, 3) := by decide +kernel
theorem dX3_startAnew_12 : decode cX3_startAnew 12 = .ok (.iload_n 1, 1) := by decide +kernel
theorem dX3_startAnew_13 : decode cX3_startAnew 13 = .ok (.aload_n 0, 1) := by decide +kernel
theorem dX3_startAnew_14 : decode cX3_startAnew 14 = .ok (.getfield 21, 3) := by decide +kernel
theorem dX3_startAnew_17 : decode cX3_startAnew 17 = .ok (.iload_n 1, 1) := by decide +kernel
theorem dX3_startAnew_18 : decode cX3_startAnew 18 = .ok (.invokevirtual 25, 3) := by decide +kernel
theorem dX3_startAnew_21 : decode cX3_startAnew 21 = .ok (.iastore, 1) := by decide +kernel
theorem dX3_startAnew_22 : decode cX3_startAnew 22 = .ok (.aload_n 0, 1) := by decide +kernel
theorem dX3_startAnew_23 : decode cX3_startAnew 23 = .ok (.getfield 15, 3) := by decide +kernel
theorem dX3_startAnew_26 : decode cX3_startAnew 26 = .ok (.iload_n 1, 1) := by decide +kernel
theorem dX3_startAnew_27 : decode cX3_startAnew 27 = .ok (.aload_n 0, 1) := by decide +kernel
theorem dX3_startAnew_28 : decode cX3_startAnew 28 = .ok (.getfield 21, 3) := by decide +kernel
theorem dX3_startAnew_31 : decode cX3_startAnew 31 = .ok (.iload_n 1, 1) := by decide +kernel
theorem dX3_startAnew_32 : decode cX3_startAnew 32 = .ok (.invokevirtual 31, 3) := by decide +kernel
theorem dX3_startAnew_35 : decode cX3_startAnew 35 = .ok (.iastore, 1) := by decide +kernel
theorem dX3_startAnew_36 : decode cX3_startAnew 36 = .ok (.aload_n 0, 1) := by decide +kernel
theorem dX3_startAnew_37 : decode cX3_startAnew 37 = .ok (.getfield 18, 3) := by decide +kernel
theorem dX3_startAnew_40 : decode cX3_startAnew 40 = .ok (.iload_n 1, 1) := by decide +kernel
theorem dX3_startAnew_41 : decode cX3_startAnew 41 = .ok (.iconst 0, 1) := by decide +kernel
theorem dX3_startAnew_42 : decode cX3_startAnew 42 = .ok (.iastore, 1) := by decide +kernel
theorem dX3_startAnew_43 : decode cX3_startAnew 43 = .ok (.iinc 1 1, 3) := by decide +kernel
theorem dX3_startAnew_46 : decode cX3_startAnew 46 = .ok (.goto (-44), 3) := by decide +kernel
theorem dX3_startAnew_49 : decode cX3_startAnew 49 = .ok (.aload_n 0, 1) := by decide +kernel
theorem dX3_startAnew_50 : decode cX3_startAnew 50 = .ok (.iconst 0, 1) := by decide +kernel
theorem dX3_startAnew_51 : decode cX3_startAnew 51 = .ok (.putfield 34, 3) := by decide +kernel
theorem dX3_startAnew_54 : decode cX3_startAnew 54 = .ok (.aload_n 0, 1) := by decide +kernel
theorem dX3_startAnew_55 : decode cX3_startAnew 55 = .ok (.iconst 0, 1) := by decide +kernel
theorem dX3_startAnew_56 : decode cX3_startAnew 56 = .ok (.putfield 38, 3) := by decide +kernel
theorem dX3_startAnew_59 : decode cX3_startAnew 59 = .ok (.aload_n 0, 1) := by decide +kernel
theorem dX3_startAnew_60 : decode cX3_startAnew 60 = .ok (.iconst 0, 1) := by decide +kernel
theorem dX3_startAnew_61 : decode cX3_startAnew 61 = .ok (.putfield 41, 3) := by decide +kernel
theorem dX3_startAnew_64 : decode cX3_startAnew 64 = .ok (.aload_n 0, 1) := by decide +kernel
theorem dX3_startAnew_65 : decode cX3_startAnew 65 = .ok (.iconst 0, 1) := by decide +kernel
theorem dX3_startAnew_66 : decode cX3_startAnew 66 = .ok (.putfield 44, 3) := by decide +kernel
theorem dX3_startAnew_69 : decode cX3_startAnew 69 = .ok (.aload_n 0, 1) := by decide +kernel
theorem dX3_startAnew_70 : decode cX3_startAnew 70 = .ok (.invokevirtual 47, 3) := by decide +kernel
theorem dX3_startAnew_73 : decode cX3_startAnew 73 = .ok (.return_, 1) := by decide +kernel
theorem dX3_copyFrom_0 : decode cX3_copyFrom 0 = .ok (.iconst 0, 1) := by decide +kernel
theorem dX3_copyFrom_1 : decode cX3_copyFrom 1 = .ok (.istore_n 2, 1) := by decide +kernel
theorem dX3_copyFrom_2 : decode cX3_copyFrom 2 = .ok (.iload_n 2, 1) := by decide +kernel
theorem dX3_copyFrom_3 : decode cX3_copyFrom 3 = .ok (.bipush 8, 2) := by decide +kernel
theorem dX3_copyFrom_5 : decode cX3_copyFrom 5 = .ok (.if_icmp .ge 45, 3) := by decide +kernel
theorem dX3_copyFrom_8 : decode cX3_copyFrom 8 = .ok (.aload_n 0, 1) := by decide +kernel
theorem dX3_copyFrom_9 : decode cX3_copyFrom 9 = .ok (.getfield 9, 3) := by decide +kernel
theorem dX3_copyFrom_12 : decode cX3_copyFrom 12 = .ok (.iload_n 2, 1) := by decide +kernel
theorem dX3_copyFrom_13 : decode cX3_copyFrom 13 = .ok (.aload_n 1, 1) := by decide +kernel
theorem dX3_copyFrom_14 : decode cX3_copyFrom 14 = .ok (.getfield 9, 3) := by decide +kernel
theorem dX3_copyFrom_17 : decode cX3_copyFrom 17 = .ok (.iload_n 2, 1) := by decide +kernel
theorem dX3_copyFrom_18 : decode cX3_copyFrom 18 = .ok (.iaload, 1) := by decide +kernel
theorem dX3_copyFrom_19 : decode cX3_copyFrom 19 = .ok (.iastore, 1) := by decide +kernel
theorem dX3_copyFrom_20 : decode cX3_copyFrom 20 = .ok (.aload_n 0, 1) := by decide +kernel
theorem dX3_copyFrom_21 : decode cX3_copyFrom 21 = .ok (.getfield 15, 3) := by decide +kernel
theorem dX3_copyFrom_24 : decode cX3_copyFrom 24 = .ok (.iload_n 2, 1) := by decide +kernel
theorem dX3_copyFrom_25 : decode cX3_copyFrom 25 = .ok (.aload_n 1, 1) := by decide +kernel
theorem dX3_copyFrom_26 : decode cX3_copyFrom 26 = .ok (.getfield 15, 3) := by decide +kernel
theorem dX3_copyFrom_29 : decode cX3_copyFrom 29 = .ok (.iload_n 2, 1) := by decide +kernel
theorem dX3_copyFrom_30 : decode cX3_copyFrom 30 = .ok (.iaload, 1) := by decide +kernel
theorem dX3_copyFrom_31 : decode cX3_copyFrom 31 = .ok (.iastore, 1) := by decide +kernel
theorem dX3_copyFrom_32 : decode cX3_copyFrom 32 = .ok (.aload_n 0, 1) := by decide +kernel
theorem dX3_copyFrom_33 : decode cX3_copyFrom 33 = .ok (.getfield 18, 3) := by decide +kernel
theorem dX3_copyFrom_36 : decode cX3_copyFrom 36 = .ok (.iload_n 2, 1) := by decide +kernel
theorem dX3_copyFrom_37 : decode cX3_copyFrom 37 = .ok (.aload_n 1, 1) := by decide +kernel
theorem dX3_copyFrom_38 : decode cX3_copyFrom 38 = .ok (.getfield 18, 3) := by decide +kernel
theorem dX3_copyFrom_41 : decode cX3_copyFrom 41 = .ok (.iload_n 2, 1) := by decide +kernel
theorem dX3_copyFrom_42 : decode cX3_copyFrom 42 = .ok (.iaload, 1) := by decide +kernel
theorem dX3_copyFrom_43 : decode cX3_copyFrom 43 = .ok (.iastore, 1) := by decide +kernel
theorem dX3_copyFrom_44 : decode cX3_copyFrom 44 = .ok (.iinc 2 1, 3) := by decide +kernel
theorem dX3_copyFrom_47 : decode cX3_copyFrom 47 = .ok (.goto (-45), 3) := by decide +kernel
theorem dX3_copyFrom_50 : decode cX3_copyFrom 50 = .ok (.aload_n 0, 1) := by decide +kernel
theorem dX3_copyFrom_51 : decode cX3_copyFrom 51 = .ok (.aload_n 1, 1) := by decide +kernel
theorem dX3_copyFrom_52 : decode cX3_copyFrom 52 = .ok (.getfield 34, 3) := by decide +kernel
theorem dX3_copyFrom_55 : decode cX3_copyFrom 55 = .ok (.putfield 34, 3) := by decide +kernel
theorem dX3_copyFrom_58 : decode cX3_copyFrom 58 = .ok (.aload_n 0, 1) := by decide +kernel
theorem dX3_copyFrom_59 : decode cX3_copyFrom 59 = .ok (.aload_n 1, 1) := by decide +kernel
theorem dX3_copyFrom_60 : decode cX3_copyFrom 60 = .ok (.getfield 38, 3) := by decide +kernel
theorem dX3_copyFrom_63 : decode cX3_copyFrom 63 = .ok (.putfield 38, 3) := by decide +kernel
theorem dX3_copyFrom_66 : decode cX3_copyFrom 66 = .ok (.aload_n 0, 1) := by decide +kernel
theorem dX3_copyFrom_67 : decode cX3_copyFrom 67 = .ok (.aload_n 1, 1) := by decide +kernel
theorem dX3_copyFrom_68 : decode cX3_copyFrom 68 = .ok (.getfield 41, 3) := by decide +kernel
theorem dX3_copyFrom_71 : decode cX3_copyFrom 71 = .ok (.putfield 41, 3) := by decide +kernel
theorem dX3_copyFrom_74 : decode cX3_copyFrom 74 = .ok (.aload_n 0, 1) := by decide +kernel
theorem dX3_copyFrom_75 : decode cX3_copyFrom 75 = .ok (.aload_n 1, 1) := by decide +kernel
theorem dX3_copyFrom_76 : decode cX3_copyFrom 76 = .ok (.getfield 44, 3) := by decide +kernel
theorem dX3_copyFrom_79 : decode cX3_copyFrom 79 = .ok (.putfield 44, 3) := by decide +kernel
theorem dX3_copyFrom_82 : decode cX3_copyFrom 82 = .ok (.aload_n 0, 1) := by decide +kernel
theorem dX3_copyFrom_83 : decode cX3_copyFrom 83 = .ok (.invokevirtual 47, 3) := by decide +kernel
theorem dX3_copyFrom_86 : decode cX3_copyFrom 86 = .ok (.return_, 1) := by decide +kernel
theorem dX3_survey_0 : decode cX3_survey 0 = .ok (.aload_n 0, 1) := by decide +kernel
theorem dX3_survey_1 : decode cX3_survey 1 = .ok (.aload_n 0, 1) := by decide +kernel
theorem dX3_survey_2 : decode cX3_survey 2 = .ok (.getfield 21, 3) := by decide +kernel
theorem dX3_survey_5 : decode cX3_survey 5 = .ok (.invokevirtual 50, 3) := by decide +kernel
theorem dX3_survey_8 : decode cX3_survey 8 = .ok (.aload_n 0, 1) := by decide +kernel
theorem dX3_survey_9 : decode cX3_survey 9 = .ok (.getfield 21, 3) := by decide +kernel
theorem dX3_survey_12 : decode cX3_survey 12 = .ok (.invokevirtual 54, 3) := by decide +kernel
theorem dX3_survey_15 : decode cX3_survey 15 = .ok (.invokestatic 57, 3) := by decide +kernel
theorem dX3_survey_18 : decode cX3_survey 18 = .ok (.putfield 63, 3) := by decide +kernel
theorem dX3_survey_21 : decode cX3_survey 21 = .ok (.aload_n 0, 1) := by decide +kernel
theorem dX3_survey_22 : decode cX3_survey 22 = .ok (.aload_n 0, 1) := by decide +kernel
theorem dX3_survey_23 : decode cX3_survey 23 = .ok (.getfield 63, 3) := by decide +kernel
theorem dX3_survey_26 : decode cX3_survey 26 = .ok (.aload_n 0, 1) := by decide +kernel
theorem dX3_survey_27 : decode cX3_survey 27 = .ok (.getfield 21, 3) := by decide +kernel
theorem dX3_survey_30 : decode cX3_survey 30 = .ok (.invokevirtual 50, 3) := by decide +kernel
theorem dX3_survey_33 : decode cX3_survey 33 = .ok (.if_icmp .ne 8, 3) := by decide +kernel
theorem dX3_survey_36 : decode cX3_survey 36 = .ok (.bipush 8, 2) := by decide +kernel
theorem dX3_survey_38 : decode cX3_survey 38 = .ok (.goto 5, 3) := by decide +kernel
theorem dX3_survey_41 : decode cX3_survey 41 = .ok (.bipush 9, 2) := by decide +kernel
theorem dX3_survey_43 : decode cX3_survey 43 = .ok (.putfield 66, 3) := by decide +kernel
theorem dX3_survey_46 : decode cX3_survey 46 = .ok (.aload_n 0, 1) := by decide +kernel
theorem dX3_survey_47 : decode cX3_survey 47 = .ok (.iconst 0, 1) := by decide +kernel
theorem dX3_survey_48 : decode cX3_survey 48 = .ok (.putfield 69, 3) := by decide +kernel
theorem dX3_survey_51 : decode cX3_survey 51 = .ok (.aload_n 0, 1) := by decide +kernel
theorem dX3_survey_52 : decode cX3_survey 52 = .ok (.iconst 0, 1) := by decide +kernel
theorem dX3_survey_53 : decode cX3_survey 53 = .ok (.putfield 72, 3) := by decide +kernel
theorem dX3_survey_56 : decode cX3_survey 56 = .ok (.aload_n 0, 1) := by decide +kernel
theorem dX3_survey_57 : decode cX3_survey 57 = .ok (.getfield 21, 3) := by decide +kernel
theorem dX3_survey_60 : decode cX3_survey 60 = .ok (.invokevirtual 75, 3) := by decide +kernel
theorem dX3_survey_63 : decode cX3_survey 63 = .ok (.bipush 8, 2) := by decide +kernel
theorem dX3_survey_65 : decode cX3_survey 65 = .ok (.invokestatic 57, 3) := by decide +kernel
theorem dX3_survey_68 : decode cX3_survey 68 = .ok (.iconst 1, 1) := by decide +kernel
theorem dX3_survey_69 : decode cX3_survey 69 = .ok (.isub, 1) := by decide +kernel
theorem dX3_survey_70 : decode cX3_survey 70 = .ok (.istore_n 1, 1) := by decide +kernel
theorem dX3_survey_71 : decode cX3_survey 71 = .ok (.iload_n 1, 1) := by decide +kernel
theorem dX3_survey_72 : decode cX3_survey 72 = .ok (.ifCond .lt 94, 3) := by decide +kernel
theorem dX3_survey_75 : decode cX3_survey 75 = .ok (.aload_n 0, 1) := by decide +kernel
theorem dX3_survey_76 : decode cX3_survey 76 = .ok (.getfield 9, 3) := by decide +kernel
theorem dX3_survey_79 : decode cX3_survey 79 = .ok (.iload_n 1, 1) := by decide +kernel
theorem dX3_survey_80 : decode cX3_survey 80 = .ok (.iaload, 1) := by decide +kernel
theorem dX3_survey_81 : decode cX3_survey 81 = .ok (.aload_n 0, 1) := by decide +kernel
theorem dX3_survey_82 : decode cX3_survey 82 = .ok (.getfield 63, 3) := by decide +kernel
theorem dX3_survey_85 : decode cX3_survey 85 = .ok (.if_icmp .gt 18, 3) := by decide +kernel
theorem dX3_survey_88 : decode cX3_survey 88 = .ok (.aload_n 0, 1) := by decide +kernel
theorem dX3_survey_89 : decode cX3_survey 89 = .ok (.aload_n 0, 1) := by decide +kernel
theorem dX3_survey_90 : decode cX3_survey 90 = .ok (.getfield 9, 3) := by decide +kernel
theorem dX3_survey_93 : decode cX3_survey 93 = .ok (.iload_n 1, 1) := by decide +kernel
theorem dX3_survey_94 : decode cX3_survey 94 = .ok (.iaload, 1) := by decide +kernel
theorem dX3_survey_95 : decode cX3_survey 95 = .ok (.putfield 63, 3) := by decide +kernel
theorem dX3_survey_98 : decode cX3_survey 98 = .ok (.aload_n 0, 1) := by decide +kernel
theorem dX3_survey_99 : decode cX3_survey 99 = .ok (.iload_n 1, 1) := by decide +kernel
theorem dX3_survey_100 : decode cX3_survey 100 = .ok (.putfield 66, 3) := by decide +kernel
theorem dX3_survey_103 : decode cX3_survey 103 = .ok (.aload_n 0, 1) := by decide +kernel
theorem dX3_survey_104 : decode cX3_survey 104 = .ok (.getfield 9, 3) := by decide +kernel
theorem dX3_survey_107 : decode cX3_survey 107 = .ok (.iload_n 1, 1) := by decide +kernel
theorem dX3_survey_108 : decode cX3_survey 108 = .ok (.iaload, 1) := by decide +kernel
theorem dX3_survey_109 : decode cX3_survey 109 = .ok (.ifCond .le 51, 3) := by decide +kernel
theorem dX3_survey_112 : decode cX3_survey 112 = .ok (.aload_n 0, 1) := by decide +kernel
theorem dX3_survey_113 : decode cX3_survey 113 = .ok (.dup, 1) := by decide +kernel
theorem dX3_survey_114 : decode cX3_survey 114 = .ok (.getfield 69, 3) := by decide +kernel
theorem dX3_survey_117 : decode cX3_survey 117 = .ok (.aload_n 0, 1) := by decide +kernel
theorem dX3_survey_118 : decode cX3_survey 118 = .ok (.getfield 15, 3) := by decide +kernel
theorem dX3_survey_121 : decode cX3_survey 121 = .ok (.iload_n 1, 1) := by decide +kernel
theorem dX3_survey_122 : decode cX3_survey 122 = .ok (.iaload, 1) := by decide +kernel
theorem dX3_survey_123 : decode cX3_survey 123 = .ok (.iconst 1, 1) := by decide +kernel
theorem dX3_survey_124 : decode cX3_survey 124 = .ok (.if_icmp .ne 7, 3) := by decide +kernel
theorem dX3_survey_127 : decode cX3_survey 127 = .ok (.iconst 1, 1) := by decide +kernel
theorem dX3_survey_128 : decode cX3_survey 128 = .ok (.goto 4, 3) := by decide +kernel
theorem dX3_survey_131 : decode cX3_survey 131 = .ok (.iconst 0, 1) := by decide +kernel
theorem dX3_survey_132 : decode cX3_survey 132 = .ok (.iadd, 1) := by decide +kernel
theorem dX3_survey_133 : decode cX3_survey 133 = .ok (.putfield 69, 3) := by decide +kernel
theorem dX3_survey_136 : decode cX3_survey 136 = .ok (.aload_n 0, 1) := by decide +kernel
theorem dX3_survey_137 : decode cX3_survey 137 = .ok (.dup, 1) := by decide +kernel
theorem dX3_survey_138 : decode cX3_survey 138 = .ok (.getfield 72, 3) := by decide +kernel
theorem dX3_survey_141 : decode cX3_survey 141 = .ok (.aload_n 0, 1) := by decide +kernel
theorem dX3_survey_142 : decode cX3_survey 142 = .ok (.getfield 15, 3) := by decide +kernel
theorem dX3_survey_145 : decode cX3_survey 145 = .ok (.iload_n 1, 1) := by decide +kernel
theorem dX3_survey_146 : decode cX3_survey 146 = .ok (.iaload, 1) := by decide +kernel
theorem dX3_survey_147 : decode cX3_survey 147 = .ok (.iconst 3, 1) := by decide +kernel
theorem dX3_survey_148 : decode cX3_survey 148 = .ok (.if_icmp .ne 7, 3) := by decide +kernel
theorem dX3_survey_151 : decode cX3_survey 151 = .ok (.iconst 1, 1) := by decide +kernel
theorem dX3_survey_152 : decode cX3_survey 152 = .ok (.goto 4, 3) := by decide +kernel
theorem dX3_survey_155 : decode cX3_survey 155 = .ok (.iconst 0, 1) := by decide +kernel
theorem dX3_survey_156 : decode cX3_survey 156 = .ok (.iadd, 1) := by decide +kernel
theorem dX3_survey_157 : decode cX3_survey 157 = .ok (.putfield 72, 3) := by decide +kernel
theorem dX3_survey_160 : decode cX3_survey 160 = .ok (.iinc 1 (-1), 3) := by decide +kernel
theorem dX3_survey_163 : decode cX3_survey 163 = .ok (.goto (-92), 3) := by decide +kernel
theorem dX3_survey_166 : decode cX3_survey 166 = .ok (.aload_n 0, 1) := by decide +kernel
theorem dX3_survey_167 : decode cX3_survey 167 = .ok (.aload_n 0, 1) := by decide +kernel
theorem dX3_survey_168 : decode cX3_survey 168 = .ok (.getfield 21, 3) := by decide +kernel
theorem dX3_survey_171 : decode cX3_survey 171 = .ok (.aload_n 0, 1) := by decide +kernel
theorem dX3_survey_172 : decode cX3_survey 172 = .ok (.getfield 63, 3) := by decide +kernel
theorem dX3_survey_175 : decode cX3_survey 175 = .ok (.invokevirtual 78, 3) := by decide +kernel
theorem dX3_survey_178 : decode cX3_survey 178 = .ok (.putfield 81, 3) := by decide +kernel
theorem dX3_survey_181 : decode cX3_survey 181 = .ok (.return_, 1) := by decide +kernel
theorem dX3_oneMinute_0 : decode cX3_oneMinute 0 = .ok (.aload_n 0, 1) := by decide +kernel
theorem dX3_oneMinute_1 : decode cX3_oneMinute 1 = .ok (.dup, 1) := by decide +kernel
theorem dX3_oneMinute_2 : decode cX3_oneMinute 2 = .ok (.getfield 38, 3) := by decide +kernel
theorem dX3_oneMinute_5 : decode cX3_oneMinute 5 = .ok (.iconst 1, 1) := by decide +kernel
theorem dX3_oneMinute_6 : decode cX3_oneMinute 6 = .ok (.iadd, 1) := by decide +kernel
theorem dX3_oneMinute_7 : decode cX3_oneMinute 7 = .ok (.putfield 38, 3) := by decide +kernel
theorem dX3_oneMinute_10 : decode cX3_oneMinute 10 = .ok (.aload_n 0, 1) := by decide +kernel
theorem dX3_oneMinute_11 : decode cX3_oneMinute 11 = .ok (.dup, 1) := by decide +kernel
theorem dX3_oneMinute_12 : decode cX3_oneMinute 12 = .ok (.getfield 34, 3) := by decide +kernel
theorem dX3_oneMinute_15 : decode cX3_oneMinute 15 = .ok (.aload_n 0, 1) := by decide +kernel
theorem dX3_oneMinute_16 : decode cX3_oneMinute 16 = .ok (.getfield 21, 3) := by decide +kernel
theorem dX3_oneMinute_19 : decode cX3_oneMinute 19 = .ok (.invokevirtual 84, 3) := by decide +kernel
theorem dX3_oneMinute_22 : decode cX3_oneMinute 22 = .ok (.aload_n 0, 1) := by decide +kernel
theorem dX3_oneMinute_23 : decode cX3_oneMinute 23 = .ok (.getfield 38, 3) := by decide +kernel
theorem dX3_oneMinute_26 : decode cX3_oneMinute 26 = .ok (.invokevirtual 88, 3) := by decide +kernel
theorem dX3_oneMinute_29 : decode cX3_oneMinute 29 = .ok (.iload_n 1, 1) := by decide +kernel
theorem dX3_oneMinute_30 : decode cX3_oneMinute 30 = .ok (.iadd, 1) := by decide +kernel
theorem dX3_oneMinute_31 : decode cX3_oneMinute 31 = .ok (.iadd, 1) := by decide +kernel
theorem dX3_oneMinute_32 : decode cX3_oneMinute 32 = .ok (.putfield 34, 3) := by decide +kernel
theorem dX3_oneMinute_35 : decode cX3_oneMinute 35 = .ok (.aload_n 0, 1) := by decide +kernel
theorem dX3_oneMinute_36 : decode cX3_oneMinute 36 = .ok (.getfield 69, 3) := by decide +kernel
theorem dX3_oneMinute_39 : decode cX3_oneMinute 39 = .ok (.aload_n 0, 1) := by decide +kernel
theorem dX3_oneMinute_40 : decode cX3_oneMinute 40 = .ok (.getfield 72, 3) := by decide +kernel
theorem dX3_oneMinute_43 : decode cX3_oneMinute 43 = .ok (.iadd, 1) := by decide +kernel
theorem dX3_oneMinute_44 : decode cX3_oneMinute 44 = .ok (.ifCond .le 61, 3) := by decide +kernel
theorem dX3_oneMinute_47 : decode cX3_oneMinute 47 = .ok (.aload_n 0, 1) := by decide +kernel
theorem dX3_oneMinute_48 : decode cX3_oneMinute 48 = .ok (.getfield 21, 3) := by decide +kernel
theorem dX3_oneMinute_51 : decode cX3_oneMinute 51 = .ok (.aload_n 0, 1) := by decide +kernel
theorem dX3_oneMinute_52 : decode cX3_oneMinute 52 = .ok (.getfield 34, 3) := by decide +kernel
theorem dX3_oneMinute_55 : decode cX3_oneMinute 55 = .ok (.invokevirtual 93, 3) := by decide +kernel
theorem dX3_oneMinute_58 : decode cX3_oneMinute 58 = .ok (.istore_n 2, 1) := by decide +kernel
theorem dX3_oneMinute_59 : decode cX3_oneMinute 59 = .ok (.aload_n 0, 1) := by decide +kernel
theorem dX3_oneMinute_60 : decode cX3_oneMinute 60 = .ok (.getfield 34, 3) := by decide +kernel
theorem dX3_oneMinute_63 : decode cX3_oneMinute 63 = .ok (.aload_n 0, 1) := by decide +kernel
theorem dX3_oneMinute_64 : decode cX3_oneMinute 64 = .ok (.getfield 69, 3) := by decide +kernel
theorem dX3_oneMinute_67 : decode cX3_oneMinute 67 = .ok (.iload_n 2, 1) := by decide +kernel
theorem dX3_oneMinute_68 : decode cX3_oneMinute 68 = .ok (.bipush 8, 2) := by decide +kernel
theorem dX3_oneMinute_70 : decode cX3_oneMinute 70 = .ok (.idiv, 1) := by decide +kernel
theorem dX3_oneMinute_71 : decode cX3_oneMinute 71 = .ok (.imul, 1) := by decide +kernel
theorem dX3_oneMinute_72 : decode cX3_oneMinute 72 = .ok (.aload_n 0, 1) := by decide +kernel
theorem dX3_oneMinute_73 : decode cX3_oneMinute 73 = .ok (.getfield 72, 3) := by decide +kernel
theorem dX3_oneMinute_76 : decode cX3_oneMinute 76 = .ok (.iload_n 2, 1) := by decide +kernel
theorem dX3_oneMinute_77 : decode cX3_oneMinute 77 = .ok (.iconst 3, 1) := by decide +kernel
theorem dX3_oneMinute_78 : decode cX3_oneMinute 78 = .ok (.idiv, 1) := by decide +kernel
theorem dX3_oneMinute_79 : decode cX3_oneMinute 79 = .ok (.imul, 1) := by decide +kernel
theorem dX3_oneMinute_80 : decode cX3_oneMinute 80 = .ok (.iadd, 1) := by decide +kernel
theorem dX3_oneMinute_81 : decode cX3_oneMinute 81 = .ok (.invokestatic 57, 3) := by decide +kernel
theorem dX3_oneMinute_84 : decode cX3_oneMinute 84 = .ok (.istore_n 3, 1) := by decide +kernel
theorem dX3_oneMinute_85 : decode cX3_oneMinute 85 = .ok (.aload_n 0, 1) := by decide +kernel
theorem dX3_oneMinute_86 : decode cX3_oneMinute 86 = .ok (.dup, 1) := by decide +kernel
theorem dX3_oneMinute_87 : decode cX3_oneMinute 87 = .ok (.getfield 34, 3) := by decide +kernel
theorem dX3_oneMinute_90 : decode cX3_oneMinute 90 = .ok (.iload_n 3, 1) := by decide +kernel
theorem dX3_oneMinute_91 : decode cX3_oneMinute 91 = .ok (.isub, 1) := by decide +kernel
theorem dX3_oneMinute_92 : decode cX3_oneMinute 92 = .ok (.putfield 34, 3) := by decide +kernel
theorem dX3_oneMinute_95 : decode cX3_oneMinute 95 = .ok (.aload_n 0, 1) := by decide +kernel
theorem dX3_oneMinute_96 : decode cX3_oneMinute 96 = .ok (.dup, 1) := by decide +kernel
theorem dX3_oneMinute_97 : decode cX3_oneMinute 97 = .ok (.getfield 44, 3) := by decide +kernel
theorem dX3_oneMinute_100 : decode cX3_oneMinute 100 = .ok (.iload_n 3, 1) := by decide +kernel
theorem dX3_oneMinute_101 : decode cX3_oneMinute 101 = .ok (.iadd, 1) := by decide +kernel
theorem dX3_oneMinute_102 : decode cX3_oneMinute 102 = .ok (.putfield 44, 3) := by decide +kernel
theorem dX3_oneMinute_105 : decode cX3_oneMinute 105 = .ok (.aload_n 0, 1) := by decide +kernel
theorem dX3_oneMinute_106 : decode cX3_oneMinute 106 = .ok (.iconst 0, 1) := by decide +kernel
theorem dX3_oneMinute_107 : decode cX3_oneMinute 107 = .ok (.aload_n 0, 1) := by decide +kernel
theorem dX3_oneMinute_108 : decode cX3_oneMinute 108 = .ok (.getfield 34, 3) := by decide +kernel
theorem dX3_oneMinute_111 : decode cX3_oneMinute 111 = .ok (.aload_n 0, 1) := by decide +kernel
theorem dX3_oneMinute_112 : decode cX3_oneMinute 112 = .ok (.getfield 81, 3) := by decide +kernel
theorem dX3_oneMinute_115 : decode cX3_oneMinute 115 = .ok (.isub, 1) := by decide +kernel
theorem dX3_oneMinute_116 : decode cX3_oneMinute 116 = .ok (.invokestatic 96, 3) := by decide +kernel
theorem dX3_oneMinute_119 : decode cX3_oneMinute 119 = .ok (.putfield 99, 3) := by decide +kernel
theorem dX3_oneMinute_122 : decode cX3_oneMinute 122 = .ok (.aload_n 0, 1) := by decide +kernel
theorem dX3_oneMinute_123 : decode cX3_oneMinute 123 = .ok (.aload_n 0, 1) := by decide +kernel
theorem dX3_oneMinute_124 : decode cX3_oneMinute 124 = .ok (.getfield 66, 3) := by decide +kernel
theorem dX3_oneMinute_127 : decode cX3_oneMinute 127 = .ok (.putfield 102, 3) := by decide +kernel
theorem dX3_oneMinute_130 : decode cX3_oneMinute 130 = .ok (.aload_n 0, 1) := by decide +kernel
theorem dX3_oneMinute_131 : decode cX3_oneMinute 131 = .ok (.dup, 1) := by decide +kernel
theorem dX3_oneMinute_132 : decode cX3_oneMinute 132 = .ok (.getfield 34, 3) := by decide +kernel
theorem dX3_oneMinute_135 : decode cX3_oneMinute 135 = .ok (.aload_n 0, 1) := by decide +kernel
theorem dX3_oneMinute_136 : decode cX3_oneMinute 136 = .ok (.getfield 99, 3) := by decide +kernel
theorem dX3_oneMinute_139 : decode cX3_oneMinute 139 = .ok (.isub, 1) := by decide +kernel
theorem dX3_oneMinute_140 : decode cX3_oneMinute 140 = .ok (.putfield 34, 3) := by decide +kernel
theorem dX3_oneMinute_143 : decode cX3_oneMinute 143 = .ok (.aload_n 0, 1) := by decide +kernel
theorem dX3_oneMinute_144 : decode cX3_oneMinute 144 = .ok (.dup, 1) := by decide +kernel
theorem dX3_oneMinute_145 : decode cX3_oneMinute 145 = .ok (.getfield 41, 3) := by decide +kernel
theorem dX3_oneMinute_148 : decode cX3_oneMinute 148 = .ok (.aload_n 0, 1) := by decide +kernel
theorem dX3_oneMinute_149 : decode cX3_oneMinute 149 = .ok (.getfield 99, 3) := by decide +kernel
theorem dX3_oneMinute_152 : decode cX3_oneMinute 152 = .ok (.iadd, 1) := by decide +kernel
theorem dX3_oneMinute_153 : decode cX3_oneMinute 153 = .ok (.putfield 41, 3) := by decide +kernel
theorem dX3_oneMinute_156 : decode cX3_oneMinute 156 = .ok (.aload_n 0, 1) := by decide +kernel
theorem dX3_oneMinute_157 : decode cX3_oneMinute 157 = .ok (.bipush (-4), 2) := by decide +kernel
theorem dX3_oneMinute_159 : decode cX3_oneMinute 159 = .ok (.putfield 105, 3) := by decide +kernel
theorem dX3_oneMinute_162 : decode cX3_oneMinute 162 = .ok (.aload_n 0, 1) := by decide +kernel
theorem dX3_oneMinute_163 : decode cX3_oneMinute 163 = .ok (.getfield 99, 3) := by decide +kernel
theorem dX3_oneMinute_166 : decode cX3_oneMinute 166 = .ok (.ifCond .le 18, 3) := by decide +kernel
theorem dX3_oneMinute_169 : decode cX3_oneMinute 169 = .ok (.aload_n 0, 1) := by decide +kernel
theorem dX3_oneMinute_170 : decode cX3_oneMinute 170 = .ok (.aload_n 0, 1) := by decide +kernel
theorem dX3_oneMinute_171 : decode cX3_oneMinute 171 = .ok (.getfield 102, 3) := by decide +kernel
theorem dX3_oneMinute_174 : decode cX3_oneMinute 174 = .ok (.invokevirtual 108, 3) := by decide +kernel
theorem dX3_oneMinute_177 : decode cX3_oneMinute 177 = .ok (.ifCond .eq 7, 3) := by decide +kernel
theorem dX3_oneMinute_180 : decode cX3_oneMinute 180 = .ok (.aload_n 0, 1) := by decide +kernel
theorem dX3_oneMinute_181 : decode cX3_oneMinute 181 = .ok (.invokevirtual 47, 3) := by decide +kernel
theorem dX3_oneMinute_184 : decode cX3_oneMinute 184 = .ok (.return_, 1) := by decide +kernel
theorem dX3_wears_0 : decode cX3_wears 0 = .ok (.iload_n 1, 1) := by decide +kernel
theorem dX3_wears_1 : decode cX3_wears 1 = .ok (.ifCond .lt 18, 3) := by decide +kernel
theorem dX3_wears_4 : decode cX3_wears 4 = .ok (.iload_n 1, 1) := by decide +kernel
theorem dX3_wears_5 : decode cX3_wears 5 = .ok (.bipush 8, 2) := by decide +kernel
theorem dX3_wears_7 : decode cX3_wears 7 = .ok (.if_icmp .ge 12, 3) := by decide +kernel
theorem dX3_wears_10 : decode cX3_wears 10 = .ok (.aload_n 0, 1) := by decide +kernel
theorem dX3_wears_11 : decode cX3_wears 11 = .ok (.getfield 9, 3) := by decide +kernel
theorem dX3_wears_14 : decode cX3_wears 14 = .ok (.iload_n 1, 1) := by decide +kernel
theorem dX3_wears_15 : decode cX3_wears 15 = .ok (.iaload, 1) := by decide +kernel
theorem dX3_wears_16 : decode cX3_wears 16 = .ok (.ifCond .ne 5, 3) := by decide +kernel
theorem dX3_wears_19 : decode cX3_wears 19 = .ok (.iconst 0, 1) := by decide +kernel
theorem dX3_wears_20 : decode cX3_wears 20 = .ok (.ireturn, 1) := by decide +kernel
theorem dX3_wears_21 : decode cX3_wears 21 = .ok (.aload_n 0, 1) := by decide +kernel
theorem dX3_wears_22 : decode cX3_wears 22 = .ok (.getfield 15, 3) := by decide +kernel
theorem dX3_wears_25 : decode cX3_wears 25 = .ok (.iload_n 1, 1) := by decide +kernel
theorem dX3_wears_26 : decode cX3_wears 26 = .ok (.iaload, 1) := by decide +kernel
theorem dX3_wears_27 : decode cX3_wears 27 = .ok (.ifCond .ne 7, 3) := by decide +kernel
theorem dX3_wears_30 : decode cX3_wears 30 = .ok (.iconst 2, 1) := by decide +kernel
theorem dX3_wears_31 : decode cX3_wears 31 = .ok (.goto 27, 3) := by decide +kernel
theorem dX3_wears_34 : decode cX3_wears 34 = .ok (.aload_n 0, 1) := by decide +kernel
theorem dX3_wears_35 : decode cX3_wears 35 = .ok (.getfield 15, 3) := by decide +kernel
theorem dX3_wears_38 : decode cX3_wears 38 = .ok (.iload_n 1, 1) := by decide +kernel
theorem dX3_wears_39 : decode cX3_wears 39 = .ok (.iaload, 1) := by decide +kernel
theorem dX3_wears_40 : decode cX3_wears 40 = .ok (.iconst 1, 1) := by decide +kernel
theorem dX3_wears_41 : decode cX3_wears 41 = .ok (.if_icmp .ne 16, 3) := by decide +kernel
theorem dX3_wears_44 : decode cX3_wears 44 = .ok (.aload_n 0, 1) := by decide +kernel
theorem dX3_wears_45 : decode cX3_wears 45 = .ok (.getfield 38, 3) := by decide +kernel
theorem dX3_wears_48 : decode cX3_wears 48 = .ok (.iconst 2, 1) := by decide +kernel
theorem dX3_wears_49 : decode cX3_wears 49 = .ok (.irem, 1) := by decide +kernel
theorem dX3_wears_50 : decode cX3_wears 50 = .ok (.ifCond .ne 7, 3) := by decide +kernel
theorem dX3_wears_53 : decode cX3_wears 53 = .ok (.iconst 1, 1) := by decide +kernel
theorem dX3_wears_54 : decode cX3_wears 54 = .ok (.goto 4, 3) := by decide +kernel
theorem dX3_wears_57 : decode cX3_wears 57 = .ok (.iconst 0, 1) := by decide +kernel
theorem dX3_wears_58 : decode cX3_wears 58 = .ok (.istore_n 2, 1) := by decide +kernel
theorem dX3_wears_59 : decode cX3_wears 59 = .ok (.aload_n 0, 1) := by decide +kernel
theorem dX3_wears_60 : decode cX3_wears 60 = .ok (.getfield 9, 3) := by decide +kernel
theorem dX3_wears_63 : decode cX3_wears 63 = .ok (.iload_n 1, 1) := by decide +kernel
theorem dX3_wears_64 : decode cX3_wears 64 = .ok (.iconst 0, 1) := by decide +kernel
theorem dX3_wears_65 : decode cX3_wears 65 = .ok (.aload_n 0, 1) := by decide +kernel
theorem dX3_wears_66 : decode cX3_wears 66 = .ok (.getfield 9, 3) := by decide +kernel
theorem dX3_wears_69 : decode cX3_wears 69 = .ok (.iload_n 1, 1) := by decide +kernel
theorem dX3_wears_70 : decode cX3_wears 70 = .ok (.iaload, 1) := by decide +kernel
theorem dX3_wears_71 : decode cX3_wears 71 = .ok (.iload_n 2, 1) := by decide +kernel
theorem dX3_wears_72 : decode cX3_wears 72 = .ok (.isub, 1) := by decide +kernel
theorem dX3_wears_73 : decode cX3_wears 73 = .ok (.invokestatic 96, 3) := by decide +kernel
theorem dX3_wears_76 : decode cX3_wears 76 = .ok (.iastore, 1) := by decide +kernel
theorem dX3_wears_77 : decode cX3_wears 77 = .ok (.aload_n 0, 1) := by decide +kernel
theorem dX3_wears_78 : decode cX3_wears 78 = .ok (.getfield 9, 3) := by decide +kernel
theorem dX3_wears_81 : decode cX3_wears 81 = .ok (.iload_n 1, 1) := by decide +kernel
theorem dX3_wears_82 : decode cX3_wears 82 = .ok (.iaload, 1) := by decide +kernel
theorem dX3_wears_83 : decode cX3_wears 83 = .ok (.ifCond .ne 18, 3) := by decide +kernel
theorem dX3_wears_86 : decode cX3_wears 86 = .ok (.aload_n 0, 1) := by decide +kernel
theorem dX3_wears_87 : decode cX3_wears 87 = .ok (.getfield 18, 3) := by decide +kernel
theorem dX3_wears_90 : decode cX3_wears 90 = .ok (.iload_n 1, 1) := by decide +kernel
theorem dX3_wears_91 : decode cX3_wears 91 = .ok (.dup2, 1) := by decide +kernel
theorem dX3_wears_92 : decode cX3_wears 92 = .ok (.iaload, 1) := by decide +kernel
theorem dX3_wears_93 : decode cX3_wears 93 = .ok (.iconst 1, 1) := by decide +kernel
theorem dX3_wears_94 : decode cX3_wears 94 = .ok (.iadd, 1) := by decide +kernel
theorem dX3_wears_95 : decode cX3_wears 95 = .ok (.iastore, 1) := by decide +kernel
theorem dX3_wears_96 : decode cX3_wears 96 = .ok (.aload_n 0, 1) := by decide +kernel
theorem dX3_wears_97 : decode cX3_wears 97 = .ok (.iload_n 1, 1) := by decide +kernel
theorem dX3_wears_98 : decode cX3_wears 98 = .ok (.putfield 105, 3) := by decide +kernel
theorem dX3_wears_101 : decode cX3_wears 101 = .ok (.iload_n 2, 1) := by decide +kernel
theorem dX3_wears_102 : decode cX3_wears 102 = .ok (.ifCond .le 7, 3) := by decide +kernel
theorem dX3_wears_105 : decode cX3_wears 105 = .ok (.iconst 1, 1) := by decide +kernel
theorem dX3_wears_106 : decode cX3_wears 106 = .ok (.goto 4, 3) := by decide +kernel
theorem dX3_wears_109 : decode cX3_wears 109 = .ok (.iconst 0, 1) := by decide +kernel
theorem dX3_wears_110 : decode cX3_wears 110 = .ok (.ireturn, 1) := by decide +kernel
theorem dX3_letPass_0 : decode cX3_letPass 0 = .ok (.iconst 0, 1) := by decide +kernel
theorem dX3_letPass_1 : decode cX3_letPass 1 = .ok (.istore_n 3, 1) := by decide +kernel
theorem dX3_letPass_2 : decode cX3_letPass 2 = .ok (.iload_n 3, 1) := by decide +kernel
theorem dX3_letPass_3 : decode cX3_letPass 3 = .ok (.iload_n 1, 1) := by decide +kernel
theorem dX3_letPass_4 : decode cX3_letPass 4 = .ok (.if_icmp .ge 14, 3) := by decide +kernel
theorem dX3_letPass_7 : decode cX3_letPass 7 = .ok (.aload_n 0, 1) := by decide +kernel
theorem dX3_letPass_8 : decode cX3_letPass 8 = .ok (.iload_n 2, 1) := by decide +kernel
theorem dX3_letPass_9 : decode cX3_letPass 9 = .ok (.invokevirtual 112, 3) := by decide +kernel
theorem dX3_letPass_12 : decode cX3_letPass 12 = .ok (.iinc 3 1, 3) := by decide +kernel
theorem dX3_letPass_15 : decode cX3_letPass 15 = .ok (.goto (-13), 3) := by decide +kernel
theorem dX3_letPass_18 : decode cX3_letPass 18 = .ok (.return_, 1) := by decide +kernel
theorem dX3_passTillOver_0 : decode cX3_passTillOver 0 = .ok (.iconst 1, 1) := by decide +kernel
theorem dX3_passTillOver_1 : decode cX3_passTillOver 1 = .ok (.istore_n 1, 1) := by decide +kernel
theorem dX3_passTillOver_2 : decode cX3_passTillOver 2 = .ok (.iload_n 1, 1) := by decide +kernel
theorem dX3_passTillOver_3 : decode cX3_passTillOver 3 = .ok (.sipush 200, 3) := by decide +kernel
theorem dX3_passTillOver_6 : decode cX3_passTillOver 6 = .ok (.if_icmp .gt 23, 3) := by decide +kernel
theorem dX3_passTillOver_9 : decode cX3_passTillOver 9 = .ok (.aload_n 0, 1) := by decide +kernel
theorem dX3_passTillOver_10 : decode cX3_passTillOver 10 = .ok (.iconst 0, 1) := by decide +kernel
theorem dX3_passTillOver_11 : decode cX3_passTillOver 11 = .ok (.invokevirtual 112, 3) := by decide +kernel
theorem dX3_passTillOver_14 : decode cX3_passTillOver 14 = .ok (.aload_n 0, 1) := by decide +kernel
theorem dX3_passTillOver_15 : decode cX3_passTillOver 15 = .ok (.getfield 99, 3) := by decide +kernel
theorem dX3_passTillOver_18 : decode cX3_passTillOver 18 = .ok (.ifCond .le 5, 3) := by decide +kernel
theorem dX3_passTillOver_21 : decode cX3_passTillOver 21 = .ok (.iload_n 1, 1) := by decide +kernel
theorem dX3_passTillOver_22 : decode cX3_passTillOver 22 = .ok (.ireturn, 1) := by decide +kernel
theorem dX3_passTillOver_23 : decode cX3_passTillOver 23 = .ok (.iinc 1 1, 3) := by decide +kernel
theorem dX3_passTillOver_26 : decode cX3_passTillOver 26 = .ok (.goto (-24), 3) := by decide +kernel
theorem dX3_passTillOver_29 : decode cX3_passTillOver 29 = .ok (.bipush (-4), 2) := by decide +kernel
theorem dX3_passTillOver_31 : decode cX3_passTillOver 31 = .ok (.ireturn, 1) := by decide +kernel
theorem dX3_passTillBreach_0 : decode cX3_passTillBreach 0 = .ok (.iconst 1, 1) := by decide +kernel
theorem dX3_passTillBreach_1 : decode cX3_passTillBreach 1 = .ok (.istore_n 1, 1) := by decide +kernel
theorem dX3_passTillBreach_2 : decode cX3_passTillBreach 2 = .ok (.iload_n 1, 1) := by decide +kernel
theorem dX3_passTillBreach_3 : decode cX3_passTillBreach 3 = .ok (.sipush 200, 3) := by decide +kernel
theorem dX3_passTillBreach_6 : decode cX3_passTillBreach 6 = .ok (.if_icmp .gt 25, 3) := by decide +kernel
theorem dX3_passTillBreach_9 : decode cX3_passTillBreach 9 = .ok (.aload_n 0, 1) := by decide +kernel
theorem dX3_passTillBreach_10 : decode cX3_passTillBreach 10 = .ok (.iconst 0, 1) := by decide +kernel
theorem dX3_passTillBreach_11 : decode cX3_passTillBreach 11 = .ok (.invokevirtual 112, 3) := by decide +kernel
theorem dX3_passTillBreach_14 : decode cX3_passTillBreach 14 = .ok (.aload_n 0, 1) := by decide +kernel
theorem dX3_passTillBreach_15 : decode cX3_passTillBreach 15 = .ok (.getfield 105, 3) := by decide +kernel
theorem dX3_passTillBreach_18 : decode cX3_passTillBreach 18 = .ok (.bipush (-4), 2) := by decide +kernel
theorem dX3_passTillBreach_20 : decode cX3_passTillBreach 20 = .ok (.if_icmp .eq 5, 3) := by decide +kernel
theorem dX3_passTillBreach_23 : decode cX3_passTillBreach 23 = .ok (.iload_n 1, 1) := by decide +kernel
theorem dX3_passTillBreach_24 : decode cX3_passTillBreach 24 = .ok (.ireturn, 1) := by decide +kernel
theorem dX3_passTillBreach_25 : decode cX3_passTillBreach 25 = .ok (.iinc 1 1, 3) := by decide +kernel
theorem dX3_passTillBreach_28 : decode cX3_passTillBreach 28 = .ok (.goto (-26), 3) := by decide +kernel
theorem dX3_passTillBreach_31 : decode cX3_passTillBreach 31 = .ok (.bipush (-4), 2) := by decide +kernel
theorem dX3_passTillBreach_33 : decode cX3_passTillBreach 33 = .ok (.ireturn, 1) := by decide +kernel
theorem dX3_canRaise_0 : decode cX3_canRaise 0 = .ok (.aload_n 0, 1) := by decide +kernel
theorem dX3_canRaise_1 : decode cX3_canRaise 1 = .ok (.iload_n 1, 1) := by decide +kernel
theorem dX3_canRaise_2 : decode cX3_canRaise 2 = .ok (.invokevirtual 116, 3) := by decide +kernel
theorem dX3_canRaise_5 : decode cX3_canRaise 5 = .ok (.iload_n 2, 1) := by decide +kernel
theorem dX3_canRaise_6 : decode cX3_canRaise 6 = .ok (.iadd, 1) := by decide +kernel
theorem dX3_canRaise_7 : decode cX3_canRaise 7 = .ok (.bipush 40, 2) := by decide +kernel
theorem dX3_canRaise_9 : decode cX3_canRaise 9 = .ok (.if_icmp .gt 7, 3) := by decide +kernel
theorem dX3_canRaise_12 : decode cX3_canRaise 12 = .ok (.iconst 1, 1) := by decide +kernel
theorem dX3_canRaise_13 : decode cX3_canRaise 13 = .ok (.goto 4, 3) := by decide +kernel
theorem dX3_canRaise_16 : decode cX3_canRaise 16 = .ok (.iconst 0, 1) := by decide +kernel
theorem dX3_canRaise_17 : decode cX3_canRaise 17 = .ok (.ireturn, 1) := by decide +kernel
theorem dX3_canDig_0 : decode cX3_canDig 0 = .ok (.aload_n 0, 1) := by decide +kernel
theorem dX3_canDig_1 : decode cX3_canDig 1 = .ok (.iload_n 1, 1) := by decide +kernel
theorem dX3_canDig_2 : decode cX3_canDig 2 = .ok (.invokevirtual 116, 3) := by decide +kernel
theorem dX3_canDig_5 : decode cX3_canDig 5 = .ok (.iload_n 2, 1) := by decide +kernel
theorem dX3_canDig_6 : decode cX3_canDig 6 = .ok (.if_icmp .lt 7, 3) := by decide +kernel
theorem dX3_canDig_9 : decode cX3_canDig 9 = .ok (.iconst 1, 1) := by decide +kernel
theorem dX3_canDig_10 : decode cX3_canDig 10 = .ok (.goto 4, 3) := by decide +kernel
theorem dX3_canDig_13 : decode cX3_canDig 13 = .ok (.iconst 0, 1) := by decide +kernel
theorem dX3_canDig_14 : decode cX3_canDig 14 = .ok (.ireturn, 1) := by decide +kernel
theorem dX3_canPass_0 : decode cX3_canPass 0 = .ok (.aload_n 0, 1) := by decide +kernel
theorem dX3_canPass_1 : decode cX3_canPass 1 = .ok (.getfield 38, 3) := by decide +kernel
theorem dX3_canPass_4 : decode cX3_canPass 4 = .ok (.iload_n 1, 1) := by decide +kernel
theorem dX3_canPass_5 : decode cX3_canPass 5 = .ok (.iadd, 1) := by decide +kernel
theorem dX3_canPass_6 : decode cX3_canPass 6 = .ok (.sipush 999, 3) := by decide +kernel
theorem dX3_canPass_9 : decode cX3_canPass 9 = .ok (.if_icmp .gt 7, 3) := by decide +kernel
theorem dX3_canPass_12 : decode cX3_canPass 12 = .ok (.iconst 1, 1) := by decide +kernel
theorem dX3_canPass_13 : decode cX3_canPass 13 = .ok (.goto 4, 3) := by decide +kernel
theorem dX3_canPass_16 : decode cX3_canPass 16 = .ok (.iconst 0, 1) := by decide +kernel
theorem dX3_canPass_17 : decode cX3_canPass 17 = .ok (.ireturn, 1) := by decide +kernel
theorem dX3_layAt_0 : decode cX3_layAt 0 = .ok (.aload_n 0, 1) := by decide +kernel
theorem dX3_layAt_1 : decode cX3_layAt 1 = .ok (.iload_n 1, 1) := by decide +kernel
theorem dX3_layAt_2 : decode cX3_layAt 2 = .ok (.iload_n 2, 1) := by decide +kernel
theorem dX3_layAt_3 : decode cX3_layAt 3 = .ok (.aload_n 0, 1) := by decide +kernel
theorem dX3_layAt_4 : decode cX3_layAt 4 = .ok (.iload_n 1, 1) := by decide +kernel
theorem dX3_layAt_5 : decode cX3_layAt 5 = .ok (.invokevirtual 116, 3) := by decide +kernel
theorem dX3_layAt_8 : decode cX3_layAt 8 = .ok (.iload_n 3, 1) := by decide +kernel
theorem dX3_layAt_9 : decode cX3_layAt 9 = .ok (.iadd, 1) := by decide +kernel
theorem dX3_layAt_10 : decode cX3_layAt 10 = .ok (.invokevirtual 119, 3) := by decide +kernel
theorem dX3_layAt_13 : decode cX3_layAt 13 = .ok (.return_, 1) := by decide +kernel
theorem dX3_digAt_0 : decode cX3_digAt 0 = .ok (.aload_n 0, 1) := by decide +kernel
theorem dX3_digAt_1 : decode cX3_digAt 1 = .ok (.iload_n 1, 1) := by decide +kernel
theorem dX3_digAt_2 : decode cX3_digAt 2 = .ok (.aload_n 0, 1) := by decide +kernel
theorem dX3_digAt_3 : decode cX3_digAt 3 = .ok (.iload_n 1, 1) := by decide +kernel
theorem dX3_digAt_4 : decode cX3_digAt 4 = .ok (.invokevirtual 123, 3) := by decide +kernel
theorem dX3_digAt_7 : decode cX3_digAt 7 = .ok (.aload_n 0, 1) := by decide +kernel
theorem dX3_digAt_8 : decode cX3_digAt 8 = .ok (.iload_n 1, 1) := by decide +kernel
theorem dX3_digAt_9 : decode cX3_digAt 9 = .ok (.invokevirtual 116, 3) := by decide +kernel
theorem dX3_digAt_12 : decode cX3_digAt 12 = .ok (.iload_n 2, 1) := by decide +kernel
theorem dX3_digAt_13 : decode cX3_digAt 13 = .ok (.isub, 1) := by decide +kernel
theorem dX3_digAt_14 : decode cX3_digAt 14 = .ok (.invokevirtual 119, 3) := by decide +kernel
theorem dX3_digAt_17 : decode cX3_digAt 17 = .ok (.return_, 1) := by decide +kernel
theorem dX3_remake_0 : decode cX3_remake 0 = .ok (.iload_n 1, 1) := by decide +kernel
theorem dX3_remake_1 : decode cX3_remake 1 = .ok (.ifCond .lt 9, 3) := by decide +kernel
theorem dX3_remake_4 : decode cX3_remake 4 = .ok (.iload_n 1, 1) := by decide +kernel
theorem dX3_remake_5 : decode cX3_remake 5 = .ok (.bipush 8, 2) := by decide +kernel
theorem dX3_remake_7 : decode cX3_remake 7 = .ok (.if_icmp .lt 4, 3) := by decide +kernel
theorem dX3_remake_10 : decode cX3_remake 10 = .ok (.return_, 1) := by decide +kernel
theorem dX3_remake_11 : decode cX3_remake 11 = .ok (.aload_n 0, 1) := by decide +kernel
theorem dX3_remake_12 : decode cX3_remake 12 = .ok (.getfield 9, 3) := by decide +kernel
theorem dX3_remake_15 : decode cX3_remake 15 = .ok (.iload_n 1, 1) := by decide +kernel
theorem dX3_remake_16 : decode cX3_remake 16 = .ok (.iload_n 3, 1) := by decide +kernel
theorem dX3_remake_17 : decode cX3_remake 17 = .ok (.iastore, 1) := by decide +kernel
theorem dX3_remake_18 : decode cX3_remake 18 = .ok (.aload_n 0, 1) := by decide +kernel
theorem dX3_remake_19 : decode cX3_remake 19 = .ok (.getfield 15, 3) := by decide +kernel
theorem dX3_remake_22 : decode cX3_remake 22 = .ok (.iload_n 1, 1) := by decide +kernel
theorem dX3_remake_23 : decode cX3_remake 23 = .ok (.iload_n 2, 1) := by decide +kernel
theorem dX3_remake_24 : decode cX3_remake 24 = .ok (.iastore, 1) := by decide +kernel
theorem dX3_remake_25 : decode cX3_remake 25 = .ok (.aload_n 0, 1) := by decide +kernel
theorem dX3_remake_26 : decode cX3_remake 26 = .ok (.invokevirtual 47, 3) := by decide +kernel
theorem dX3_remake_29 : decode cX3_remake 29 = .ok (.return_, 1) := by decide +kernel
theorem dX3_empty_0 : decode cX3_empty 0 = .ok (.aload_n 0, 1) := by decide +kernel
theorem dX3_empty_1 : decode cX3_empty 1 = .ok (.iconst 0, 1) := by decide +kernel
theorem dX3_empty_2 : decode cX3_empty 2 = .ok (.putfield 34, 3) := by decide +kernel
theorem dX3_empty_5 : decode cX3_empty 5 = .ok (.return_, 1) := by decide +kernel
theorem dX3_heightAt_0 : decode cX3_heightAt 0 = .ok (.iload_n 1, 1) := by decide +kernel
theorem dX3_heightAt_1 : decode cX3_heightAt 1 = .ok (.ifCond .lt 18, 3) := by decide +kernel
theorem dX3_heightAt_4 : decode cX3_heightAt 4 = .ok (.iload_n 1, 1) := by decide +kernel
theorem dX3_heightAt_5 : decode cX3_heightAt 5 = .ok (.bipush 8, 2) := by decide +kernel
theorem dX3_heightAt_7 : decode cX3_heightAt 7 = .ok (.if_icmp .ge 12, 3) := by decide +kernel
theorem dX3_heightAt_10 : decode cX3_heightAt 10 = .ok (.aload_n 0, 1) := by decide +kernel
theorem dX3_heightAt_11 : decode cX3_heightAt 11 = .ok (.getfield 9, 3) := by decide +kernel
theorem dX3_heightAt_14 : decode cX3_heightAt 14 = .ok (.iload_n 1, 1) := by decide +kernel
theorem dX3_heightAt_15 : decode cX3_heightAt 15 = .ok (.iaload, 1) := by decide +kernel
theorem dX3_heightAt_16 : decode cX3_heightAt 16 = .ok (.goto 4, 3) := by decide +kernel
theorem dX3_heightAt_19 : decode cX3_heightAt 19 = .ok (.iconst 0, 1) := by decide +kernel
theorem dX3_heightAt_20 : decode cX3_heightAt 20 = .ok (.ireturn, 1) := by decide +kernel
theorem dX3_stuffAt_0 : decode cX3_stuffAt 0 = .ok (.iload_n 1, 1) := by decide +kernel
theorem dX3_stuffAt_1 : decode cX3_stuffAt 1 = .ok (.ifCond .lt 18, 3) := by decide +kernel
theorem dX3_stuffAt_4 : decode cX3_stuffAt 4 = .ok (.iload_n 1, 1) := by decide +kernel
theorem dX3_stuffAt_5 : decode cX3_stuffAt 5 = .ok (.bipush 8, 2) := by decide +kernel
theorem dX3_stuffAt_7 : decode cX3_stuffAt 7 = .ok (.if_icmp .ge 12, 3) := by decide +kernel
theorem dX3_stuffAt_10 : decode cX3_stuffAt 10 = .ok (.aload_n 0, 1) := by decide +kernel
theorem dX3_stuffAt_11 : decode cX3_stuffAt 11 = .ok (.getfield 15, 3) := by decide +kernel
theorem dX3_stuffAt_14 : decode cX3_stuffAt 14 = .ok (.iload_n 1, 1) := by decide +kernel
theorem dX3_stuffAt_15 : decode cX3_stuffAt 15 = .ok (.iaload, 1) := by decide +kernel
theorem dX3_stuffAt_16 : decode cX3_stuffAt 16 = .ok (.goto 4, 3) := by decide +kernel
theorem dX3_stuffAt_19 : decode cX3_stuffAt 19 = .ok (.iconst 0, 1) := by decide +kernel
theorem dX3_stuffAt_20 : decode cX3_stuffAt 20 = .ok (.ireturn, 1) := by decide +kernel
theorem dX3_breachesAt_0 : decode cX3_breachesAt 0 = .ok (.iload_n 1, 1) := by decide +kernel
theorem dX3_breachesAt_1 : decode cX3_breachesAt 1 = .ok (.ifCond .lt 18, 3) := by decide +kernel
theorem dX3_breachesAt_4 : decode cX3_breachesAt 4 = .ok (.iload_n 1, 1) := by decide +kernel
theorem dX3_breachesAt_5 : decode cX3_breachesAt 5 = .ok (.bipush 8, 2) := by decide +kernel
theorem dX3_breachesAt_7 : decode cX3_breachesAt 7 = .ok (.if_icmp .ge 12, 3) := by decide +kernel
theorem dX3_breachesAt_10 : decode cX3_breachesAt 10 = .ok (.aload_n 0, 1) := by decide +kernel
theorem dX3_breachesAt_11 : decode cX3_breachesAt 11 = .ok (.getfield 18, 3) := by decide +kernel
theorem dX3_breachesAt_14 : decode cX3_breachesAt 14 = .ok (.iload_n 1, 1) := by decide +kernel
theorem dX3_breachesAt_15 : decode cX3_breachesAt 15 = .ok (.iaload, 1) := by decide +kernel
theorem dX3_breachesAt_16 : decode cX3_breachesAt 16 = .ok (.goto 4, 3) := by decide +kernel
theorem dX3_breachesAt_19 : decode cX3_breachesAt 19 = .ok (.iconst 0, 1) := by decide +kernel
theorem dX3_breachesAt_20 : decode cX3_breachesAt 20 = .ok (.ireturn, 1) := by decide +kernel
theorem dX3_allBreaches_0 : decode cX3_allBreaches 0 = .ok (.iconst 0, 1) := by decide +kernel
theorem dX3_allBreaches_1 : decode cX3_allBreaches 1 = .ok (.istore_n 1, 1) := by decide +kernel
theorem dX3_allBreaches_2 : decode cX3_allBreaches 2 = .ok (.iconst 0, 1) := by decide +kernel
theorem dX3_allBreaches_3 : decode cX3_allBreaches 3 = .ok (.istore_n 2, 1) := by decide +kernel
theorem dX3_allBreaches_4 : decode cX3_allBreaches 4 = .ok (.iload_n 2, 1) := by decide +kernel
theorem dX3_allBreaches_5 : decode cX3_allBreaches 5 = .ok (.bipush 8, 2) := by decide +kernel
theorem dX3_allBreaches_7 : decode cX3_allBreaches 7 = .ok (.if_icmp .ge 18, 3) := by decide +kernel
theorem dX3_allBreaches_10 : decode cX3_allBreaches 10 = .ok (.iload_n 1, 1) := by decide +kernel
theorem dX3_allBreaches_11 : decode cX3_allBreaches 11 = .ok (.aload_n 0, 1) := by decide +kernel
theorem dX3_allBreaches_12 : decode cX3_allBreaches 12 = .ok (.getfield 18, 3) := by decide +kernel
theorem dX3_allBreaches_15 : decode cX3_allBreaches 15 = .ok (.iload_n 2, 1) := by decide +kernel
theorem dX3_allBreaches_16 : decode cX3_allBreaches 16 = .ok (.iaload, 1) := by decide +kernel
theorem dX3_allBreaches_17 : decode cX3_allBreaches 17 = .ok (.iadd, 1) := by decide +kernel
theorem dX3_allBreaches_18 : decode cX3_allBreaches 18 = .ok (.istore_n 1, 1) := by decide +kernel
theorem dX3_allBreaches_19 : decode cX3_allBreaches 19 = .ok (.iinc 2 1, 3) := by decide +kernel
theorem dX3_allBreaches_22 : decode cX3_allBreaches 22 = .ok (.goto (-18), 3) := by decide +kernel
theorem dX3_allBreaches_25 : decode cX3_allBreaches 25 = .ok (.iload_n 1, 1) := by decide +kernel
theorem dX3_allBreaches_26 : decode cX3_allBreaches 26 = .ok (.ireturn, 1) := by decide +kernel
theorem dX3_wasBreached_0 : decode cX3_wasBreached 0 = .ok (.aload_n 0, 1) := by decide +kernel
theorem dX3_wasBreached_1 : decode cX3_wasBreached 1 = .ok (.invokevirtual 126, 3) := by decide +kernel
theorem dX3_wasBreached_4 : decode cX3_wasBreached 4 = .ok (.ifCond .le 7, 3) := by decide +kernel
theorem dX3_wasBreached_7 : decode cX3_wasBreached 7 = .ok (.iconst 1, 1) := by decide +kernel
theorem dX3_wasBreached_8 : decode cX3_wasBreached 8 = .ok (.goto 4, 3) := by decide +kernel
theorem dX3_wasBreached_11 : decode cX3_wasBreached 11 = .ok (.iconst 0, 1) := by decide +kernel
theorem dX3_wasBreached_12 : decode cX3_wasBreached 12 = .ok (.ireturn, 1) := by decide +kernel
theorem dX3_level_0 : decode cX3_level 0 = .ok (.aload_n 0, 1) := by decide +kernel
theorem dX3_level_1 : decode cX3_level 1 = .ok (.getfield 21, 3) := by decide +kernel
theorem dX3_level_4 : decode cX3_level 4 = .ok (.aload_n 0, 1) := by decide +kernel
theorem dX3_level_5 : decode cX3_level 5 = .ok (.getfield 34, 3) := by decide +kernel
theorem dX3_level_8 : decode cX3_level 8 = .ok (.invokevirtual 93, 3) := by decide +kernel
theorem dX3_level_11 : decode cX3_level 11 = .ok (.ireturn, 1) := by decide +kernel
theorem dX3_units_0 : decode cX3_units 0 = .ok (.aload_n 0, 1) := by decide +kernel
theorem dX3_units_1 : decode cX3_units 1 = .ok (.getfield 34, 3) := by decide +kernel
theorem dX3_units_4 : decode cX3_units 4 = .ok (.ireturn, 1) := by decide +kernel
theorem dX3_minutesGone_0 : decode cX3_minutesGone 0 = .ok (.aload_n 0, 1) := by decide +kernel
theorem dX3_minutesGone_1 : decode cX3_minutesGone 1 = .ok (.getfield 38, 3) := by decide +kernel
theorem dX3_minutesGone_4 : decode cX3_minutesGone 4 = .ok (.ireturn, 1) := by decide +kernel
theorem dX3_allOver_0 : decode cX3_allOver 0 = .ok (.aload_n 0, 1) := by decide +kernel
theorem dX3_allOver_1 : decode cX3_allOver 1 = .ok (.getfield 41, 3) := by decide +kernel
theorem dX3_allOver_4 : decode cX3_allOver 4 = .ok (.ireturn, 1) := by decide +kernel
theorem dX3_allSeeped_0 : decode cX3_allSeeped 0 = .ok (.aload_n 0, 1) := by decide +kernel
theorem dX3_allSeeped_1 : decode cX3_allSeeped 1 = .ok (.getfield 44, 3) := by decide +kernel
theorem dX3_allSeeped_4 : decode cX3_allSeeped 4 = .ok (.ireturn, 1) := by decide +kernel
theorem dX3_edgeHeight_0 : decode cX3_edgeHeight 0 = .ok (.aload_n 0, 1) := by decide +kernel
theorem dX3_edgeHeight_1 : decode cX3_edgeHeight 1 = .ok (.getfield 63, 3) := by decide +kernel
theorem dX3_edgeHeight_4 : decode cX3_edgeHeight 4 = .ok (.ireturn, 1) := by decide +kernel
theorem dX3_lowestPlace_0 : decode cX3_lowestPlace 0 = .ok (.aload_n 0, 1) := by decide +kernel
theorem dX3_lowestPlace_1 : decode cX3_lowestPlace 1 = .ok (.getfield 66, 3) := by decide +kernel
theorem dX3_lowestPlace_4 : decode cX3_lowestPlace 4 = .ok (.ireturn, 1) := by decide +kernel
theorem dX3_overInMinute_0 : decode cX3_overInMinute 0 = .ok (.aload_n 0, 1) := by decide +kernel
theorem dX3_overInMinute_1 : decode cX3_overInMinute 1 = .ok (.getfield 99, 3) := by decide +kernel
theorem dX3_overInMinute_4 : decode cX3_overInMinute 4 = .ok (.ireturn, 1) := by decide +kernel
theorem dX3_placeOver_0 : decode cX3_placeOver 0 = .ok (.aload_n 0, 1) := by decide +kernel
theorem dX3_placeOver_1 : decode cX3_placeOver 1 = .ok (.getfield 102, 3) := by decide +kernel
theorem dX3_placeOver_4 : decode cX3_placeOver 4 = .ok (.ireturn, 1) := by decide +kernel
theorem dX3_breachedCell_0 : decode cX3_breachedCell 0 = .ok (.aload_n 0, 1) := by decide +kernel
theorem dX3_breachedCell_1 : decode cX3_breachedCell 1 = .ok (.getfield 105, 3) := by decide +kernel
theorem dX3_breachedCell_4 : decode cX3_breachedCell 4 = .ok (.ireturn, 1) := by decide +kernel
theorem dX4_init_0 : decode cX4_init 0 = .ok (.aload_n 0, 1) := by decide +kernel
theorem dX4_init_1 : decode cX4_init 1 = .ok (.invokespecial 3, 3) := by decide +kernel
theorem dX4_init_4 : decode cX4_init 4 = .ok (.aload_n 0, 1) := by decide +kernel
theorem dX4_init_5 : decode cX4_init 5 = .ok (.bipush 8, 2) := by decide +kernel
theorem dX4_init_7 : decode cX4_init 7 = .ok (.newarray .int, 2) := by decide +kernel
theorem dX4_init_9 : decode cX4_init 9 = .ok (.putfield 9, 3) := by decide +kernel
theorem dX4_init_12 : decode cX4_init 12 = .ok (.aload_n 0, 1) := by decide +kernel
theorem dX4_init_13 : decode cX4_init 13 = .ok (.bipush 8, 2) := by decide +kernel
theorem dX4_init_15 : decode cX4_init 15 = .ok (.newarray .int, 2) := by decide +kernel
theorem dX4_init_17 : decode cX4_init 17 = .ok (.putfield 15, 3) := by decide +kernel
theorem dX4_init_20 : decode cX4_init 20 = .ok (.aload_n 0, 1) := by decide +kernel
theorem dX4_init_21 : decode cX4_init 21 = .ok (.new 18, 3) := by decide +kernel
theorem dX4_init_24 : decode cX4_init 24 = .ok (.dup, 1) := by decide +kernel
theorem dX4_init_25 : decode cX4_init 25 = .ok (.invokespecial 20, 3) := by decide +kernel
theorem dX4_init_28 : decode cX4_init 28 = .ok (.putfield 21, 3) := by decide +kernel
theorem dX4_init_31 : decode cX4_init 31 = .ok (.aload_n 0, 1) := by decide +kernel
theorem dX4_init_32 : decode cX4_init 32 = .ok (.new 25, 3) := by decide +kernel
theorem dX4_init_35 : decode cX4_init 35 = .ok (.dup, 1) := by decide +kernel
theorem dX4_init_36 : decode cX4_init 36 = .ok (.invokespecial 27, 3) := by decide +kernel
theorem dX4_init_39 : decode cX4_init 39 = .ok (.putfield 28, 3) := by decide +kernel
theorem dX4_init_42 : decode cX4_init 42 = .ok (.return_, 1) := by decide +kernel
theorem dX4_readFrom_0 : decode cX4_readFrom 0 = .ok (.aload_n 0, 1) := by decide +kernel
theorem dX4_readFrom_1 : decode cX4_readFrom 1 = .ok (.invokevirtual 32, 3) := by decide +kernel
theorem dX4_readFrom_4 : decode cX4_readFrom 4 = .ok (.iconst 0, 1) := by decide +kernel
theorem dX4_readFrom_5 : decode cX4_readFrom 5 = .ok (.istore_n 2, 1) := by decide +kernel
theorem dX4_readFrom_6 : decode cX4_readFrom 6 = .ok (.iconst 0, 1) := by decide +kernel
theorem dX4_readFrom_7 : decode cX4_readFrom 7 = .ok (.istore_n 3, 1) := by decide +kernel
theorem dX4_readFrom_8 : decode cX4_readFrom 8 = .ok (.iload_n 3, 1) := by decide +kernel
theorem dX4_readFrom_9 : decode cX4_readFrom 9 = .ok (.sipush 200, 3) := by decide +kernel
theorem dX4_readFrom_12 : decode cX4_readFrom 12 = .ok (.if_icmp .ge 49, 3) := by decide +kernel
theorem dX4_readFrom_15 : decode cX4_readFrom 15 = .ok (.iload_n 2, 1) := by decide +kernel
theorem dX4_readFrom_16 : decode cX4_readFrom 16 = .ok (.aload_n 1, 1) := by decide +kernel
theorem dX4_readFrom_17 : decode cX4_readFrom 17 = .ok (.invokevirtual 35, 3) := by decide +kernel
theorem dX4_readFrom_20 : decode cX4_readFrom 20 = .ok (.if_icmp .ge 41, 3) := by decide +kernel
theorem dX4_readFrom_23 : decode cX4_readFrom 23 = .ok (.aload_n 1, 1) := by decide +kernel
theorem dX4_readFrom_24 : decode cX4_readFrom 24 = .ok (.iload_n 2, 1) := by decide +kernel
theorem dX4_readFrom_25 : decode cX4_readFrom 25 = .ok (.invokevirtual 41, 3) := by decide +kernel
theorem dX4_readFrom_28 : decode cX4_readFrom 28 = .ok (.istore 4, 2) := by decide +kernel
theorem dX4_readFrom_30 : decode cX4_readFrom 30 = .ok (.iload 4, 2) := by decide +kernel
theorem dX4_readFrom_32 : decode cX4_readFrom 32 = .ok (.bipush (-4), 2) := by decide +kernel
theorem dX4_readFrom_34 : decode cX4_readFrom 34 = .ok (.if_icmp .eq 16, 3) := by decide +kernel
theorem dX4_readFrom_37 : decode cX4_readFrom 37 = .ok (.aload_n 0, 1) := by decide +kernel
theorem dX4_readFrom_38 : decode cX4_readFrom 38 = .ok (.aload_n 1, 1) := by decide +kernel
theorem dX4_readFrom_39 : decode cX4_readFrom 39 = .ok (.iload_n 2, 1) := by decide +kernel
theorem dX4_readFrom_40 : decode cX4_readFrom 40 = .ok (.invokevirtual 45, 3) := by decide +kernel
theorem dX4_readFrom_43 : decode cX4_readFrom 43 = .ok (.aload_n 1, 1) := by decide +kernel
theorem dX4_readFrom_44 : decode cX4_readFrom 44 = .ok (.invokevirtual 48, 3) := by decide +kernel
theorem dX4_readFrom_47 : decode cX4_readFrom 47 = .ok (.ifCond .ne 5, 3) := by decide +kernel
theorem dX4_readFrom_50 : decode cX4_readFrom 50 = .ok (.iload_n 2, 1) := by decide +kernel
theorem dX4_readFrom_51 : decode cX4_readFrom 51 = .ok (.ireturn, 1) := by decide +kernel
theorem dX4_readFrom_52 : decode cX4_readFrom 52 = .ok (.iload 4, 2) := by decide +kernel
theorem dX4_readFrom_54 : decode cX4_readFrom 54 = .ok (.istore_n 2, 1) := by decide +kernel
theorem dX4_readFrom_55 : decode cX4_readFrom 55 = .ok (.iinc 3 1, 3) := by decide +kernel
theorem dX4_readFrom_58 : decode cX4_readFrom 58 = .ok (.goto (-50), 3) := by decide +kernel
theorem dX4_readFrom_61 : decode cX4_readFrom 61 = .ok (.aload_n 0, 1) := by decide +kernel
theorem dX4_readFrom_62 : decode cX4_readFrom 62 = .ok (.getfield 21, 3) := by decide +kernel
theorem dX4_readFrom_65 : decode cX4_readFrom 65 = .ok (.invokevirtual 52, 3) := by decide +kernel
theorem dX4_readFrom_68 : decode cX4_readFrom 68 = .ok (.bipush (-4), 2) := by decide +kernel
theorem dX4_readFrom_70 : decode cX4_readFrom 70 = .ok (.ireturn, 1) := by decide +kernel
theorem dX4_clear_0 : decode cX4_clear 0 = .ok (.aload_n 0, 1) := by decide +kernel
theorem dX4_clear_1 : decode cX4_clear 1 = .ok (.iconst 0, 1) := by decide +kernel
theorem dX4_clear_2 : decode cX4_clear 2 = .ok (.putfield 55, 3) := by decide +kernel
theorem dX4_clear_5 : decode cX4_clear 5 = .ok (.aload_n 0, 1) := by decide +kernel
theorem dX4_clear_6 : decode cX4_clear 6 = .ok (.bipush 20, 2) := by decide +kernel
theorem dX4_clear_8 : decode cX4_clear 8 = .ok (.putfield 59, 3) := by decide +kernel
theorem dX4_clear_11 : decode cX4_clear 11 = .ok (.aload_n 0, 1) := by decide +kernel
theorem dX4_clear_12 : decode cX4_clear 12 = .ok (.bipush 20, 2) := by decide +kernel
theorem dX4_clear_14 : decode cX4_clear 14 = .ok (.putfield 62, 3) := by decide +kernel
theorem dX4_clear_17 : decode cX4_clear 17 = .ok (.aload_n 0, 1) := by decide +kernel
theorem dX4_clear_18 : decode cX4_clear 18 = .ok (.bipush 6, 2) := by decide +kernel
theorem dX4_clear_20 : decode cX4_clear 20 = .ok (.putfield 65, 3) := by decide +kernel
theorem dX4_clear_23 : decode cX4_clear 23 = .ok (.aload_n 0, 1) := by decide +kernel
theorem dX4_clear_24 : decode cX4_clear 24 = .ok (.iconst 1, 1) := by decide +kernel
theorem dX4_clear_25 : decode cX4_clear 25 = .ok (.putfield 68, 3) := by decide +kernel
theorem dX4_clear_28 : decode cX4_clear 28 = .ok (.aload_n 0, 1) := by decide +kernel
theorem dX4_clear_29 : decode cX4_clear 29 = .ok (.getfield 21, 3) := by decide +kernel
theorem dX4_clear_32 : decode cX4_clear 32 = .ok (.invokevirtual 71, 3) := by decide +kernel
theorem dX4_clear_35 : decode cX4_clear 35 = .ok (.aload_n 0, 1) := by decide +kernel
theorem dX4_clear_36 : decode cX4_clear 36 = .ok (.getfield 28, 3) := by decide +kernel
theorem dX4_clear_39 : decode cX4_clear 39 = .ok (.invokevirtual 72, 3) := by decide +kernel
theorem dX4_clear_42 : decode cX4_clear 42 = .ok (.return_, 1) := by decide +kernel
theorem dX4_takeItem_0 : decode cX4_takeItem 0 = .ok (.aload_n 2, 1) := by decide +kernel
theorem dX4_takeItem_1 : decode cX4_takeItem 1 = .ok (.invokevirtual 73, 3) := by decide +kernel
theorem dX4_takeItem_4 : decode cX4_takeItem 4 = .ok (.istore_n 3, 1) := by decide +kernel
theorem dX4_takeItem_5 : decode cX4_takeItem 5 = .ok (.aload_n 2, 1) := by decide +kernel
theorem dX4_takeItem_6 : decode cX4_takeItem 6 = .ok (.iconst 0, 1) := by decide +kernel
theorem dX4_takeItem_7 : decode cX4_takeItem 7 = .ok (.invokevirtual 76, 3) := by decide +kernel
theorem dX4_takeItem_10 : decode cX4_takeItem 10 = .ok (.istore 4, 2) := by decide +kernel
theorem dX4_takeItem_12 : decode cX4_takeItem 12 = .ok (.aload_n 2, 1) := by decide +kernel
theorem dX4_takeItem_13 : decode cX4_takeItem 13 = .ok (.iconst 1, 1) := by decide +kernel
theorem dX4_takeItem_14 : decode cX4_takeItem 14 = .ok (.invokevirtual 76, 3) := by decide +kernel
theorem dX4_takeItem_17 : decode cX4_takeItem 17 = .ok (.istore 5, 2) := by decide +kernel
theorem dX4_takeItem_19 : decode cX4_takeItem 19 = .ok (.aload_n 2, 1) := by decide +kernel
theorem dX4_takeItem_20 : decode cX4_takeItem 20 = .ok (.iconst 2, 1) := by decide +kernel
theorem dX4_takeItem_21 : decode cX4_takeItem 21 = .ok (.invokevirtual 76, 3) := by decide +kernel
theorem dX4_takeItem_24 : decode cX4_takeItem 24 = .ok (.istore 6, 2) := by decide +kernel
theorem dX4_takeItem_26 : decode cX4_takeItem 26 = .ok (.iload_n 1, 1) := by decide +kernel
theorem dX4_takeItem_27 : decode cX4_takeItem 27 = .ok (.tableswitch 259 97 114 #[129, 107, 85, 259, 259, 151, 259, 259, 259, 225, 259, 259, 259, 259, 259, 203, 259, 176], 85) := by decide +kernel
theorem dX4_takeItem_112 : decode cX4_takeItem 112 = .ok (.iload_n 3, 1) := by decide +kernel
theorem dX4_takeItem_113 : decode cX4_takeItem 113 = .ok (.iconst 2, 1) := by decide +kernel
theorem dX4_takeItem_114 : decode cX4_takeItem 114 = .ok (.if_icmp .ne 18, 3) := by decide +kernel
theorem dX4_takeItem_117 : decode cX4_takeItem 117 = .ok (.aload_n 0, 1) := by decide +kernel
theorem dX4_takeItem_118 : decode cX4_takeItem 118 = .ok (.iload 4, 2) := by decide +kernel
theorem dX4_takeItem_120 : decode cX4_takeItem 120 = .ok (.iload 5, 2) := by decide +kernel
theorem dX4_takeItem_122 : decode cX4_takeItem 122 = .ok (.invokevirtual 79, 3) := by decide +kernel
theorem dX4_takeItem_125 : decode cX4_takeItem 125 = .ok (.ifCond .eq 7, 3) := by decide +kernel
theorem dX4_takeItem_128 : decode cX4_takeItem 128 = .ok (.iconst 1, 1) := by decide +kernel
theorem dX4_takeItem_129 : decode cX4_takeItem 129 = .ok (.goto 4, 3) := by decide +kernel
theorem dX4_takeItem_132 : decode cX4_takeItem 132 = .ok (.iconst 0, 1) := by decide +kernel
theorem dX4_takeItem_133 : decode cX4_takeItem 133 = .ok (.ireturn, 1) := by decide +kernel
theorem dX4_takeItem_134 : decode cX4_takeItem 134 = .ok (.iload_n 3, 1) := by decide +kernel
theorem dX4_takeItem_135 : decode cX4_takeItem 135 = .ok (.iconst 2, 1) := by decide +kernel
theorem dX4_takeItem_136 : decode cX4_takeItem 136 = .ok (.if_icmp .ne 18, 3) := by decide +kernel
theorem dX4_takeItem_139 : decode cX4_takeItem 139 = .ok (.aload_n 0, 1) := by decide +kernel
theorem dX4_takeItem_140 : decode cX4_takeItem 140 = .ok (.iload 4, 2) := by decide +kernel
theorem dX4_takeItem_142 : decode cX4_takeItem 142 = .ok (.iload 5, 2) := by decide +kernel
theorem dX4_takeItem_144 : decode cX4_takeItem 144 = .ok (.invokevirtual 83, 3) := by decide +kernel
theorem dX4_takeItem_147 : decode cX4_takeItem 147 = .ok (.ifCond .eq 7, 3) := by decide +kernel
theorem dX4_takeItem_150 : decode cX4_takeItem 150 = .ok (.iconst 1, 1) := by decide +kernel
theorem dX4_takeItem_151 : decode cX4_takeItem 151 = .ok (.goto 4, 3) := by decide +kernel
theorem dX4_takeItem_154 : decode cX4_takeItem 154 = .ok (.iconst 0, 1) := by decide +kernel
theorem dX4_takeItem_155 : decode cX4_takeItem 155 = .ok (.ireturn, 1) := by decide +kernel
theorem dX4_takeItem_156 : decode cX4_takeItem 156 = .ok (.iload_n 3, 1) := by decide +kernel
theorem dX4_takeItem_157 : decode cX4_takeItem 157 = .ok (.iconst 2, 1) := by decide +kernel
theorem dX4_takeItem_158 : decode cX4_takeItem 158 = .ok (.if_icmp .ne 18, 3) := by decide +kernel
theorem dX4_takeItem_161 : decode cX4_takeItem 161 = .ok (.aload_n 0, 1) := by decide +kernel
theorem dX4_takeItem_162 : decode cX4_takeItem 162 = .ok (.iload 4, 2) := by decide +kernel
theorem dX4_takeItem_164 : decode cX4_takeItem 164 = .ok (.iload 5, 2) := by decide +kernel
theorem dX4_takeItem_166 : decode cX4_takeItem 166 = .ok (.invokevirtual 86, 3) := by decide +kernel
theorem dX4_takeItem_169 : decode cX4_takeItem 169 = .ok (.ifCond .eq 7, 3) := by decide +kernel
theorem dX4_takeItem_172 : decode cX4_takeItem 172 = .ok (.iconst 1, 1) := by decide +kernel
theorem dX4_takeItem_173 : decode cX4_takeItem 173 = .ok (.goto 4, 3) := by decide +kernel
theorem dX4_takeItem_176 : decode cX4_takeItem 176 = .ok (.iconst 0, 1) := by decide +kernel
theorem dX4_takeItem_177 : decode cX4_takeItem 177 = .ok (.ireturn, 1) := by decide +kernel
theorem dX4_takeItem_178 : decode cX4_takeItem 178 = .ok (.iload_n 3, 1) := by decide +kernel
theorem dX4_takeItem_179 : decode cX4_takeItem 179 = .ok (.iconst 2, 1) := by decide +kernel
theorem dX4_takeItem_180 : decode cX4_takeItem 180 = .ok (.if_icmp .ne 21, 3) := by decide +kernel
theorem dX4_takeItem_183 : decode cX4_takeItem 183 = .ok (.aload_n 0, 1) := by decide +kernel
theorem dX4_takeItem_184 : decode cX4_takeItem 184 = .ok (.getfield 21, 3) := by decide +kernel
theorem dX4_takeItem_187 : decode cX4_takeItem 187 = .ok (.iload 4, 2) := by decide +kernel
theorem dX4_takeItem_189 : decode cX4_takeItem 189 = .ok (.iload 5, 2) := by decide +kernel
theorem dX4_takeItem_191 : decode cX4_takeItem 191 = .ok (.invokevirtual 89, 3) := by decide +kernel
theorem dX4_takeItem_194 : decode cX4_takeItem 194 = .ok (.ifCond .eq 7, 3) := by decide +kernel
theorem dX4_takeItem_197 : decode cX4_takeItem 197 = .ok (.iconst 1, 1) := by decide +kernel
theorem dX4_takeItem_198 : decode cX4_takeItem 198 = .ok (.goto 4, 3) := by decide +kernel
theorem dX4_takeItem_201 : decode cX4_takeItem 201 = .ok (.iconst 0, 1) := by decide +kernel
theorem dX4_takeItem_202 : decode cX4_takeItem 202 = .ok (.ireturn, 1) := by decide +kernel
theorem dX4_takeItem_203 : decode cX4_takeItem 203 = .ok (.iload_n 3, 1) := by decide +kernel
theorem dX4_takeItem_204 : decode cX4_takeItem 204 = .ok (.iconst 3, 1) := by decide +kernel
theorem dX4_takeItem_205 : decode cX4_takeItem 205 = .ok (.if_icmp .ne 23, 3) := by decide +kernel
theorem dX4_takeItem_208 : decode cX4_takeItem 208 = .ok (.aload_n 0, 1) := by decide +kernel
theorem dX4_takeItem_209 : decode cX4_takeItem 209 = .ok (.getfield 21, 3) := by decide +kernel
theorem dX4_takeItem_212 : decode cX4_takeItem 212 = .ok (.iload 4, 2) := by decide +kernel
theorem dX4_takeItem_214 : decode cX4_takeItem 214 = .ok (.iload 5, 2) := by decide +kernel
theorem dX4_takeItem_216 : decode cX4_takeItem 216 = .ok (.iload 6, 2) := by decide +kernel
theorem dX4_takeItem_218 : decode cX4_takeItem 218 = .ok (.invokevirtual 92, 3) := by decide +kernel
theorem dX4_takeItem_221 : decode cX4_takeItem 221 = .ok (.ifCond .eq 7, 3) := by decide +kernel
theorem dX4_takeItem_224 : decode cX4_takeItem 224 = .ok (.iconst 1, 1) := by decide +kernel
theorem dX4_takeItem_225 : decode cX4_takeItem 225 = .ok (.goto 4, 3) := by decide +kernel
theorem dX4_takeItem_228 : decode cX4_takeItem 228 = .ok (.iconst 0, 1) := by decide +kernel
theorem dX4_takeItem_229 : decode cX4_takeItem 229 = .ok (.ireturn, 1) := by decide +kernel
theorem dX4_takeItem_230 : decode cX4_takeItem 230 = .ok (.iload_n 3, 1) := by decide +kernel
theorem dX4_takeItem_231 : decode cX4_takeItem 231 = .ok (.iconst 4, 1) := by decide +kernel
theorem dX4_takeItem_232 : decode cX4_takeItem 232 = .ok (.if_icmp .ne 18, 3) := by decide +kernel
theorem dX4_takeItem_235 : decode cX4_takeItem 235 = .ok (.aload_n 0, 1) := by decide +kernel
theorem dX4_takeItem_236 : decode cX4_takeItem 236 = .ok (.getfield 28, 3) := by decide +kernel
theorem dX4_takeItem_239 : decode cX4_takeItem 239 = .ok (.aload_n 2, 1) := by decide +kernel
theorem dX4_takeItem_240 : decode cX4_takeItem 240 = .ok (.invokevirtual 96, 3) := by decide +kernel
theorem dX4_takeItem_243 : decode cX4_takeItem 243 = .ok (.ifCond .eq 7, 3) := by decide +kernel
theorem dX4_takeItem_246 : decode cX4_takeItem 246 = .ok (.iconst 1, 1) := by decide +kernel
theorem dX4_takeItem_247 : decode cX4_takeItem 247 = .ok (.goto 4, 3) := by decide +kernel
theorem dX4_takeItem_250 : decode cX4_takeItem 250 = .ok (.iconst 0, 1) := by decide +kernel
theorem dX4_takeItem_251 : decode cX4_takeItem 251 = .ok (.ireturn, 1) := by decide +kernel
theorem dX4_takeItem_252 : decode cX4_takeItem 252 = .ok (.iload_n 3, 1) := by decide +kernel
theorem dX4_takeItem_253 : decode cX4_takeItem 253 = .ok (.iconst 3, 1) := by decide +kernel
theorem dX4_takeItem_254 : decode cX4_takeItem 254 = .ok (.if_icmp .ne 30, 3) := by decide +kernel
theorem dX4_takeItem_257 : decode cX4_takeItem 257 = .ok (.iload 4, 2) := by decide +kernel
theorem dX4_takeItem_259 : decode cX4_takeItem 259 = .ok (.aload_n 0, 1) := by decide +kernel
theorem dX4_takeItem_260 : decode cX4_takeItem 260 = .ok (.getfield 55, 3) := by decide +kernel
theorem dX4_takeItem_263 : decode cX4_takeItem 263 = .ok (.if_icmp .ge 21, 3) := by decide +kernel
theorem dX4_takeItem_266 : decode cX4_takeItem 266 = .ok (.aload_n 0, 1) := by decide +kernel
theorem dX4_takeItem_267 : decode cX4_takeItem 267 = .ok (.getfield 28, 3) := by decide +kernel
theorem dX4_takeItem_270 : decode cX4_takeItem 270 = .ok (.iload 5, 2) := by decide +kernel
theorem dX4_takeItem_272 : decode cX4_takeItem 272 = .ok (.iload 6, 2) := by decide +kernel
theorem dX4_takeItem_274 : decode cX4_takeItem 274 = .ok (.invokevirtual 100, 3) := by decide +kernel
theorem dX4_takeItem_277 : decode cX4_takeItem 277 = .ok (.ifCond .eq 7, 3) := by decide +kernel
theorem dX4_takeItem_280 : decode cX4_takeItem 280 = .ok (.iconst 1, 1) := by decide +kernel
theorem dX4_takeItem_281 : decode cX4_takeItem 281 = .ok (.goto 4, 3) := by decide +kernel
theorem dX4_takeItem_284 : decode cX4_takeItem 284 = .ok (.iconst 0, 1) := by decide +kernel
theorem dX4_takeItem_285 : decode cX4_takeItem 285 = .ok (.ireturn, 1) := by decide +kernel
theorem dX4_takeItem_286 : decode cX4_takeItem 286 = .ok (.iconst 0, 1) := by decide +kernel
theorem dX4_takeItem_287 : decode cX4_takeItem 287 = .ok (.ireturn, 1) := by decide +kernel
theorem dX4_addCell_0 : decode cX4_addCell 0 = .ok (.aload_n 0, 1) := by decide +kernel
theorem dX4_addCell_1 : decode cX4_addCell 1 = .ok (.getfield 55, 3) := by decide +kernel
theorem dX4_addCell_4 : decode cX4_addCell 4 = .ok (.ifCond .lt 25, 3) := by decide +kernel
theorem dX4_addCell_7 : decode cX4_addCell 7 = .ok (.aload_n 0, 1) := by decide +kernel
theorem dX4_addCell_8 : decode cX4_addCell 8 = .ok (.getfield 55, 3) := by decide +kernel
theorem dX4_addCell_11 : decode cX4_addCell 11 = .ok (.bipush 8, 2) := by decide +kernel
theorem dX4_addCell_13 : decode cX4_addCell 13 = .ok (.if_icmp .ge 16, 3) := by decide +kernel
theorem dX4_addCell_16 : decode cX4_addCell 16 = .ok (.iload_n 1, 1) := by decide +kernel
theorem dX4_addCell_17 : decode cX4_addCell 17 = .ok (.bipush 40, 2) := by decide +kernel
theorem dX4_addCell_19 : decode cX4_addCell 19 = .ok (.if_icmp .gt 10, 3) := by decide +kernel
theorem dX4_addCell_22 : decode cX4_addCell 22 = .ok (.iload_n 2, 1) := by decide +kernel
theorem dX4_addCell_23 : decode cX4_addCell 23 = .ok (.invokestatic 103, 3) := by decide +kernel
theorem dX4_addCell_26 : decode cX4_addCell 26 = .ok (.ifCond .ne 5, 3) := by decide +kernel
theorem dX4_addCell_29 : decode cX4_addCell 29 = .ok (.iconst 0, 1) := by decide +kernel
theorem dX4_addCell_30 : decode cX4_addCell 30 = .ok (.ireturn, 1) := by decide +kernel
theorem dX4_addCell_31 : decode cX4_addCell 31 = .ok (.aload_n 0, 1) := by decide +kernel
theorem dX4_addCell_32 : decode cX4_addCell 32 = .ok (.getfield 9, 3) := by decide +kernel
theorem dX4_addCell_35 : decode cX4_addCell 35 = .ok (.aload_n 0, 1) := by decide +kernel
theorem dX4_addCell_36 : decode cX4_addCell 36 = .ok (.getfield 55, 3) := by decide +kernel
theorem dX4_addCell_39 : decode cX4_addCell 39 = .ok (.iload_n 1, 1) := by decide +kernel
theorem dX4_addCell_40 : decode cX4_addCell 40 = .ok (.iastore, 1) := by decide +kernel
theorem dX4_addCell_41 : decode cX4_addCell 41 = .ok (.aload_n 0, 1) := by decide +kernel
theorem dX4_addCell_42 : decode cX4_addCell 42 = .ok (.getfield 15, 3) := by decide +kernel
theorem dX4_addCell_45 : decode cX4_addCell 45 = .ok (.aload_n 0, 1) := by decide +kernel
theorem dX4_addCell_46 : decode cX4_addCell 46 = .ok (.getfield 55, 3) := by decide +kernel
theorem dX4_addCell_49 : decode cX4_addCell 49 = .ok (.iload_n 2, 1) := by decide +kernel
theorem dX4_addCell_50 : decode cX4_addCell 50 = .ok (.iastore, 1) := by decide +kernel
theorem dX4_addCell_51 : decode cX4_addCell 51 = .ok (.aload_n 0, 1) := by decide +kernel
theorem dX4_addCell_52 : decode cX4_addCell 52 = .ok (.dup, 1) := by decide +kernel
theorem dX4_addCell_53 : decode cX4_addCell 53 = .ok (.getfield 55, 3) := by decide +kernel
theorem dX4_addCell_56 : decode cX4_addCell 56 = .ok (.iconst 1, 1) := by decide +kernel
theorem dX4_addCell_57 : decode cX4_addCell 57 = .ok (.iadd, 1) := by decide +kernel
theorem dX4_addCell_58 : decode cX4_addCell 58 = .ok (.putfield 55, 3) := by decide +kernel
theorem dX4_addCell_61 : decode cX4_addCell 61 = .ok (.iconst 1, 1) := by decide +kernel
theorem dX4_addCell_62 : decode cX4_addCell 62 = .ok (.ireturn, 1) := by decide +kernel
theorem dX4_setBanks_0 : decode cX4_setBanks 0 = .ok (.aload_n 0, 1) := by decide +kernel
theorem dX4_setBanks_1 : decode cX4_setBanks 1 = .ok (.iload_n 1, 1) := by decide +kernel
theorem dX4_setBanks_2 : decode cX4_setBanks 2 = .ok (.putfield 59, 3) := by decide +kernel
theorem dX4_setBanks_5 : decode cX4_setBanks 5 = .ok (.aload_n 0, 1) := by decide +kernel
theorem dX4_setBanks_6 : decode cX4_setBanks 6 = .ok (.iload_n 2, 1) := by decide +kernel
theorem dX4_setBanks_7 : decode cX4_setBanks 7 = .ok (.putfield 62, 3) := by decide +kernel
theorem dX4_setBanks_10 : decode cX4_setBanks 10 = .ok (.iload_n 1, 1) := by decide +kernel
theorem dX4_setBanks_11 : decode cX4_setBanks 11 = .ok (.bipush 50, 2) := by decide +kernel
theorem dX4_setBanks_13 : decode cX4_setBanks 13 = .ok (.if_icmp .gt 13, 3) := by decide +kernel
theorem dX4_setBanks_16 : decode cX4_setBanks 16 = .ok (.iload_n 2, 1) := by decide +kernel
theorem dX4_setBanks_17 : decode cX4_setBanks 17 = .ok (.bipush 50, 2) := by decide +kernel
theorem dX4_setBanks_19 : decode cX4_setBanks 19 = .ok (.if_icmp .gt 7, 3) := by decide +kernel
theorem dX4_setBanks_22 : decode cX4_setBanks 22 = .ok (.iconst 1, 1) := by decide +kernel
theorem dX4_setBanks_23 : decode cX4_setBanks 23 = .ok (.goto 4, 3) := by decide +kernel
theorem dX4_setBanks_26 : decode cX4_setBanks 26 = .ok (.iconst 0, 1) := by decide +kernel
theorem dX4_setBanks_27 : decode cX4_setBanks 27 = .ok (.ireturn, 1) := by decide +kernel
theorem dX4_setLake_0 : decode cX4_setLake 0 = .ok (.aload_n 0, 1) := by decide +kernel
theorem dX4_setLake_1 : decode cX4_setLake 1 = .ok (.iload_n 1, 1) := by decide +kernel
theorem dX4_setLake_2 : decode cX4_setLake 2 = .ok (.putfield 65, 3) := by decide +kernel
theorem dX4_setLake_5 : decode cX4_setLake 5 = .ok (.aload_n 0, 1) := by decide +kernel
theorem dX4_setLake_6 : decode cX4_setLake 6 = .ok (.iload_n 2, 1) := by decide +kernel
theorem dX4_setLake_7 : decode cX4_setLake 7 = .ok (.putfield 68, 3) := by decide +kernel
theorem dX4_setLake_10 : decode cX4_setLake 10 = .ok (.iload_n 1, 1) := by decide +kernel
theorem dX4_setLake_11 : decode cX4_setLake 11 = .ok (.iconst 1, 1) := by decide +kernel
theorem dX4_setLake_12 : decode cX4_setLake 12 = .ok (.bipush 20, 2) := by decide +kernel
theorem dX4_setLake_14 : decode cX4_setLake 14 = .ok (.invokestatic 107, 3) := by decide +kernel
theorem dX4_setLake_17 : decode cX4_setLake 17 = .ok (.ifCond .eq 12, 3) := by decide +kernel
theorem dX4_setLake_20 : decode cX4_setLake 20 = .ok (.iload_n 2, 1) := by decide +kernel
theorem dX4_setLake_21 : decode cX4_setLake 21 = .ok (.iconst 5, 1) := by decide +kernel
theorem dX4_setLake_22 : decode cX4_setLake 22 = .ok (.if_icmp .gt 7, 3) := by decide +kernel
theorem dX4_setLake_25 : decode cX4_setLake 25 = .ok (.iconst 1, 1) := by decide +kernel
theorem dX4_setLake_26 : decode cX4_setLake 26 = .ok (.goto 4, 3) := by decide +kernel
theorem dX4_setLake_29 : decode cX4_setLake 29 = .ok (.iconst 0, 1) := by decide +kernel
theorem dX4_setLake_30 : decode cX4_setLake 30 = .ok (.ireturn, 1) := by decide +kernel
theorem dX4_cellCount_0 : decode cX4_cellCount 0 = .ok (.aload_n 0, 1) := by decide +kernel
theorem dX4_cellCount_1 : decode cX4_cellCount 1 = .ok (.getfield 55, 3) := by decide +kernel
theorem dX4_cellCount_4 : decode cX4_cellCount 4 = .ok (.ireturn, 1) := by decide +kernel
theorem dX4_firstHeight_0 : decode cX4_firstHeight 0 = .ok (.iload_n 1, 1) := by decide +kernel
theorem dX4_firstHeight_1 : decode cX4_firstHeight 1 = .ok (.ifCond .lt 26, 3) := by decide +kernel
theorem dX4_firstHeight_4 : decode cX4_firstHeight 4 = .ok (.iload_n 1, 1) := by decide +kernel
theorem dX4_firstHeight_5 : decode cX4_firstHeight 5 = .ok (.aload_n 0, 1) := by decide +kernel
theorem dX4_firstHeight_6 : decode cX4_firstHeight 6 = .ok (.getfield 55, 3) := by decide +kernel
theorem dX4_firstHeight_9 : decode cX4_firstHeight 9 = .ok (.if_icmp .ge 18, 3) := by decide +kernel
theorem dX4_firstHeight_12 : decode cX4_firstHeight 12 = .ok (.iload_n 1, 1) := by decide +kernel
theorem dX4_firstHeight_13 : decode cX4_firstHeight 13 = .ok (.bipush 8, 2) := by decide +kernel
theorem dX4_firstHeight_15 : decode cX4_firstHeight 15 = .ok (.if_icmp .ge 12, 3) := by decide +kernel
theorem dX4_firstHeight_18 : decode cX4_firstHeight 18 = .ok (.aload_n 0, 1) := by decide +kernel
theorem dX4_firstHeight_19 : decode cX4_firstHeight 19 = .ok (.getfield 9, 3) := by decide +kernel
theorem dX4_firstHeight_22 : decode cX4_firstHeight 22 = .ok (.iload_n 1, 1) := by decide +kernel
theorem dX4_firstHeight_23 : decode cX4_firstHeight 23 = .ok (.iaload, 1) := by decide +kernel
theorem dX4_firstHeight_24 : decode cX4_firstHeight 24 = .ok (.goto 4, 3) := by decide +kernel
theorem dX4_firstHeight_27 : decode cX4_firstHeight 27 = .ok (.iconst 0, 1) := by decide +kernel
theorem dX4_firstHeight_28 : decode cX4_firstHeight 28 = .ok (.ireturn, 1) := by decide +kernel
theorem dX4_firstStuff_0 : decode cX4_firstStuff 0 = .ok (.iload_n 1, 1) := by decide +kernel
theorem dX4_firstStuff_1 : decode cX4_firstStuff 1 = .ok (.ifCond .lt 26, 3) := by decide +kernel
theorem dX4_firstStuff_4 : decode cX4_firstStuff 4 = .ok (.iload_n 1, 1) := by decide +kernel
theorem dX4_firstStuff_5 : decode cX4_firstStuff 5 = .ok (.aload_n 0, 1) := by decide +kernel
theorem dX4_firstStuff_6 : decode cX4_firstStuff 6 = .ok (.getfield 55, 3) := by decide +kernel
theorem dX4_firstStuff_9 : decode cX4_firstStuff 9 = .ok (.if_icmp .ge 18, 3) := by decide +kernel
theorem dX4_firstStuff_12 : decode cX4_firstStuff 12 = .ok (.iload_n 1, 1) := by decide +kernel
theorem dX4_firstStuff_13 : decode cX4_firstStuff 13 = .ok (.bipush 8, 2) := by decide +kernel
theorem dX4_firstStuff_15 : decode cX4_firstStuff 15 = .ok (.if_icmp .ge 12, 3) := by decide +kernel
theorem dX4_firstStuff_18 : decode cX4_firstStuff 18 = .ok (.aload_n 0, 1) := by decide +kernel
theorem dX4_firstStuff_19 : decode cX4_firstStuff 19 = .ok (.getfield 15, 3) := by decide +kernel
theorem dX4_firstStuff_22 : decode cX4_firstStuff 22 = .ok (.iload_n 1, 1) := by decide +kernel
theorem dX4_firstStuff_23 : decode cX4_firstStuff 23 = .ok (.iaload, 1) := by decide +kernel
theorem dX4_firstStuff_24 : decode cX4_firstStuff 24 = .ok (.goto 4, 3) := by decide +kernel
theorem dX4_firstStuff_27 : decode cX4_firstStuff 27 = .ok (.iconst 0, 1) := by decide +kernel
theorem dX4_firstStuff_28 : decode cX4_firstStuff 28 = .ok (.ireturn, 1) := by decide +kernel
theorem dX4_left_0 : decode cX4_left 0 = .ok (.aload_n 0, 1) := by decide +kernel
theorem dX4_left_1 : decode cX4_left 1 = .ok (.getfield 59, 3) := by decide +kernel
theorem dX4_left_4 : decode cX4_left 4 = .ok (.ireturn, 1) := by decide +kernel
theorem dX4_right_0 : decode cX4_right 0 = .ok (.aload_n 0, 1) := by decide +kernel
theorem dX4_right_1 : decode cX4_right 1 = .ok (.getfield 62, 3) := by decide +kernel
theorem dX4_right_4 : decode cX4_right 4 = .ok (.ireturn, 1) := by decide +kernel
theorem dX4_brook_0 : decode cX4_brook 0 = .ok (.aload_n 0, 1) := by decide +kernel
theorem dX4_brook_1 : decode cX4_brook 1 = .ok (.getfield 21, 3) := by decide +kernel
theorem dX4_brook_4 : decode cX4_brook 4 = .ok (.areturn, 1) := by decide +kernel
theorem dX4_crew_0 : decode cX4_crew 0 = .ok (.aload_n 0, 1) := by decide +kernel
theorem dX4_crew_1 : decode cX4_crew 1 = .ok (.getfield 28, 3) := by decide +kernel
theorem dX4_crew_4 : decode cX4_crew 4 = .ok (.areturn, 1) := by decide +kernel
theorem dX4_takes_0 : decode cX4_takes 0 = .ok (.aload_n 0, 1) := by decide +kernel
theorem dX4_takes_1 : decode cX4_takes 1 = .ok (.getfield 65, 3) := by decide +kernel
theorem dX4_takes_4 : decode cX4_takes 4 = .ok (.iload_n 1, 1) := by decide +kernel
theorem dX4_takes_5 : decode cX4_takes 5 = .ok (.imul, 1) := by decide +kernel
theorem dX4_takes_6 : decode cX4_takes 6 = .ok (.aload_n 0, 1) := by decide +kernel
theorem dX4_takes_7 : decode cX4_takes 7 = .ok (.getfield 68, 3) := by decide +kernel
theorem dX4_takes_10 : decode cX4_takes 10 = .ok (.iload_n 1, 1) := by decide +kernel
theorem dX4_takes_11 : decode cX4_takes 11 = .ok (.iload_n 1, 1) := by decide +kernel
theorem dX4_takes_12 : decode cX4_takes 12 = .ok (.iconst 1, 1) := by decide +kernel
theorem dX4_takes_13 : decode cX4_takes 13 = .ok (.iadd, 1) := by decide +kernel
theorem dX4_takes_14 : decode cX4_takes 14 = .ok (.imul, 1) := by decide +kernel
theorem dX4_takes_15 : decode cX4_takes 15 = .ok (.iconst 2, 1) := by decide +kernel
theorem dX4_takes_16 : decode cX4_takes 16 = .ok (.idiv, 1) := by decide +kernel
theorem dX4_takes_17 : decode cX4_takes 17 = .ok (.imul, 1) := by decide +kernel
theorem dX4_takes_18 : decode cX4_takes 18 = .ok (.iadd, 1) := by decide +kernel
theorem dX4_takes_19 : decode cX4_takes 19 = .ok (.ireturn, 1) := by decide +kernel
theorem dX4_levelOf_0 : decode cX4_levelOf 0 = .ok (.iconst 0, 1) := by decide +kernel
theorem dX4_levelOf_1 : decode cX4_levelOf 1 = .ok (.istore_n 2, 1) := by decide +kernel
theorem dX4_levelOf_2 : decode cX4_levelOf 2 = .ok (.bipush 32, 2) := by decide +kernel
theorem dX4_levelOf_4 : decode cX4_levelOf 4 = .ok (.istore_n 3, 1) := by decide +kernel
theorem dX4_levelOf_5 : decode cX4_levelOf 5 = .ok (.iload_n 3, 1) := by decide +kernel
theorem dX4_levelOf_6 : decode cX4_levelOf 6 = .ok (.ifCond .le 35, 3) := by decide +kernel
theorem dX4_levelOf_9 : decode cX4_levelOf 9 = .ok (.iload_n 2, 1) := by decide +kernel
theorem dX4_levelOf_10 : decode cX4_levelOf 10 = .ok (.iload_n 3, 1) := by decide +kernel
theorem dX4_levelOf_11 : decode cX4_levelOf 11 = .ok (.iadd, 1) := by decide +kernel
theorem dX4_levelOf_12 : decode cX4_levelOf 12 = .ok (.istore 4, 2) := by decide +kernel
theorem dX4_levelOf_14 : decode cX4_levelOf 14 = .ok (.iload 4, 2) := by decide +kernel
theorem dX4_levelOf_16 : decode cX4_levelOf 16 = .ok (.bipush 60, 2) := by decide +kernel
theorem dX4_levelOf_18 : decode cX4_levelOf 18 = .ok (.if_icmp .gt 16, 3) := by decide +kernel
theorem dX4_levelOf_21 : decode cX4_levelOf 21 = .ok (.aload_n 0, 1) := by decide +kernel
theorem dX4_levelOf_22 : decode cX4_levelOf 22 = .ok (.iload 4, 2) := by decide +kernel
theorem dX4_levelOf_24 : decode cX4_levelOf 24 = .ok (.invokevirtual 110, 3) := by decide +kernel
theorem dX4_levelOf_27 : decode cX4_levelOf 27 = .ok (.iload_n 1, 1) := by decide +kernel
theorem dX4_levelOf_28 : decode cX4_levelOf 28 = .ok (.if_icmp .gt 6, 3) := by decide +kernel
theorem dX4_levelOf_31 : decode cX4_levelOf 31 = .ok (.iload 4, 2) := by decide +kernel
theorem dX4_levelOf_33 : decode cX4_levelOf 33 = .ok (.istore_n 2, 1) := by decide +kernel
theorem dX4_levelOf_34 : decode cX4_levelOf 34 = .ok (.iload_n 3, 1) := by decide +kernel
theorem dX4_levelOf_35 : decode cX4_levelOf 35 = .ok (.iconst 2, 1) := by decide +kernel
theorem dX4_levelOf_36 : decode cX4_levelOf 36 = .ok (.idiv, 1) := by decide +kernel
theorem dX4_levelOf_37 : decode cX4_levelOf 37 = .ok (.istore_n 3, 1) := by decide +kernel
theorem dX4_levelOf_38 : decode cX4_levelOf 38 = .ok (.goto (-33), 3) := by decide +kernel
theorem dX4_levelOf_41 : decode cX4_levelOf 41 = .ok (.iload_n 2, 1) := by decide +kernel
theorem dX4_levelOf_42 : decode cX4_levelOf 42 = .ok (.ireturn, 1) := by decide +kernel
theorem dX5_init_0 : decode cX5_init 0 = .ok (.aload_n 0, 1) := by decide +kernel
theorem dX5_init_1 : decode cX5_init 1 = .ok (.invokespecial 3, 3) := by decide +kernel
theorem dX5_init_4 : decode cX5_init 4 = .ok (.aload_n 0, 1) := by decide +kernel
theorem dX5_init_5 : decode cX5_init 5 = .ok (.bipush 8, 2) := by decide +kernel
theorem dX5_init_7 : decode cX5_init 7 = .ok (.newarray .int, 2) := by decide +kernel
theorem dX5_init_9 : decode cX5_init 9 = .ok (.putfield 9, 3) := by decide +kernel
theorem dX5_init_12 : decode cX5_init 12 = .ok (.return_, 1) := by decide +kernel
theorem dX5_start_0 : decode cX5_start 0 = .ok (.iconst 0, 1) := by decide +kernel
theorem dX5_start_1 : decode cX5_start 1 = .ok (.istore_n 3, 1) := by decide +kernel
theorem dX5_start_2 : decode cX5_start 2 = .ok (.iload_n 3, 1) := by decide +kernel
theorem dX5_start_3 : decode cX5_start 3 = .ok (.bipush 8, 2) := by decide +kernel
theorem dX5_start_5 : decode cX5_start 5 = .ok (.if_icmp .ge 16, 3) := by decide +kernel
theorem dX5_start_8 : decode cX5_start 8 = .ok (.aload_n 0, 1) := by decide +kernel
theorem dX5_start_9 : decode cX5_start 9 = .ok (.getfield 9, 3) := by decide +kernel
theorem dX5_start_12 : decode cX5_start 12 = .ok (.iload_n 3, 1) := by decide +kernel
theorem dX5_start_13 : decode cX5_start 13 = .ok (.iconst 0, 1) := by decide +kernel
theorem dX5_start_14 : decode cX5_start 14 = .ok (.iastore, 1) := by decide +kernel
theorem dX5_start_15 : decode cX5_start 15 = .ok (.iinc 3 1, 3) := by decide +kernel
theorem dX5_start_18 : decode cX5_start 18 = .ok (.goto (-16), 3) := by decide +kernel
theorem dX5_start_21 : decode cX5_start 21 = .ok (.aload_n 0, 1) := by decide +kernel
theorem dX5_start_22 : decode cX5_start 22 = .ok (.getfield 9, 3) := by decide +kernel
theorem dX5_start_25 : decode cX5_start 25 = .ok (.iconst 0, 1) := by decide +kernel
theorem dX5_start_26 : decode cX5_start 26 = .ok (.iload_n 1, 1) := by decide +kernel
theorem dX5_start_27 : decode cX5_start 27 = .ok (.iastore, 1) := by decide +kernel
theorem dX5_start_28 : decode cX5_start 28 = .ok (.aload_n 0, 1) := by decide +kernel
theorem dX5_start_29 : decode cX5_start 29 = .ok (.iload_n 2, 1) := by decide +kernel
theorem dX5_start_30 : decode cX5_start 30 = .ok (.bipush 8, 2) := by decide +kernel
theorem dX5_start_32 : decode cX5_start 32 = .ok (.invokestatic 15, 3) := by decide +kernel
theorem dX5_start_35 : decode cX5_start 35 = .ok (.putfield 21, 3) := by decide +kernel
theorem dX5_start_38 : decode cX5_start 38 = .ok (.return_, 1) := by decide +kernel
theorem dX5_next_0 : decode cX5_next 0 = .ok (.aload_n 0, 1) := by decide +kernel
theorem dX5_next_1 : decode cX5_next 1 = .ok (.getfield 21, 3) := by decide +kernel
theorem dX5_next_4 : decode cX5_next 4 = .ok (.iconst 1, 1) := by decide +kernel
theorem dX5_next_5 : decode cX5_next 5 = .ok (.isub, 1) := by decide +kernel
theorem dX5_next_6 : decode cX5_next 6 = .ok (.istore_n 1, 1) := by decide +kernel
theorem dX5_next_7 : decode cX5_next 7 = .ok (.iload_n 1, 1) := by decide +kernel
theorem dX5_next_8 : decode cX5_next 8 = .ok (.iconst 1, 1) := by decide +kernel
theorem dX5_next_9 : decode cX5_next 9 = .ok (.isub, 1) := by decide +kernel
theorem dX5_next_10 : decode cX5_next 10 = .ok (.istore_n 2, 1) := by decide +kernel
theorem dX5_next_11 : decode cX5_next 11 = .ok (.iload_n 2, 1) := by decide +kernel
theorem dX5_next_12 : decode cX5_next 12 = .ok (.ifCond .lt 55, 3) := by decide +kernel
theorem dX5_next_15 : decode cX5_next 15 = .ok (.aload_n 0, 1) := by decide +kernel
theorem dX5_next_16 : decode cX5_next 16 = .ok (.getfield 9, 3) := by decide +kernel
theorem dX5_next_19 : decode cX5_next 19 = .ok (.iload_n 2, 1) := by decide +kernel
theorem dX5_next_20 : decode cX5_next 20 = .ok (.iaload, 1) := by decide +kernel
theorem dX5_next_21 : decode cX5_next 21 = .ok (.ifCond .le 40, 3) := by decide +kernel
theorem dX5_next_24 : decode cX5_next 24 = .ok (.aload_n 0, 1) := by decide +kernel
theorem dX5_next_25 : decode cX5_next 25 = .ok (.getfield 9, 3) := by decide +kernel
theorem dX5_next_28 : decode cX5_next 28 = .ok (.iload_n 1, 1) := by decide +kernel
theorem dX5_next_29 : decode cX5_next 29 = .ok (.iaload, 1) := by decide +kernel
theorem dX5_next_30 : decode cX5_next 30 = .ok (.iconst 1, 1) := by decide +kernel
theorem dX5_next_31 : decode cX5_next 31 = .ok (.iadd, 1) := by decide +kernel
theorem dX5_next_32 : decode cX5_next 32 = .ok (.istore_n 3, 1) := by decide +kernel
theorem dX5_next_33 : decode cX5_next 33 = .ok (.aload_n 0, 1) := by decide +kernel
theorem dX5_next_34 : decode cX5_next 34 = .ok (.getfield 9, 3) := by decide +kernel
theorem dX5_next_37 : decode cX5_next 37 = .ok (.iload_n 1, 1) := by decide +kernel
theorem dX5_next_38 : decode cX5_next 38 = .ok (.iconst 0, 1) := by decide +kernel
theorem dX5_next_39 : decode cX5_next 39 = .ok (.iastore, 1) := by decide +kernel
theorem dX5_next_40 : decode cX5_next 40 = .ok (.aload_n 0, 1) := by decide +kernel
theorem dX5_next_41 : decode cX5_next 41 = .ok (.getfield 9, 3) := by decide +kernel
theorem dX5_next_44 : decode cX5_next 44 = .ok (.iload_n 2, 1) := by decide +kernel
theorem dX5_next_45 : decode cX5_next 45 = .ok (.dup2, 1) := by decide +kernel
theorem dX5_next_46 : decode cX5_next 46 = .ok (.iaload, 1) := by decide +kernel
theorem dX5_next_47 : decode cX5_next 47 = .ok (.iconst 1, 1) := by decide +kernel
theorem dX5_next_48 : decode cX5_next 48 = .ok (.isub, 1) := by decide +kernel
theorem dX5_next_49 : decode cX5_next 49 = .ok (.iastore, 1) := by decide +kernel
theorem dX5_next_50 : decode cX5_next 50 = .ok (.aload_n 0, 1) := by decide +kernel
theorem dX5_next_51 : decode cX5_next 51 = .ok (.getfield 9, 3) := by decide +kernel
theorem dX5_next_54 : decode cX5_next 54 = .ok (.iload_n 2, 1) := by decide +kernel
theorem dX5_next_55 : decode cX5_next 55 = .ok (.iconst 1, 1) := by decide +kernel
theorem dX5_next_56 : decode cX5_next 56 = .ok (.iadd, 1) := by decide +kernel
theorem dX5_next_57 : decode cX5_next 57 = .ok (.iload_n 3, 1) := by decide +kernel
theorem dX5_next_58 : decode cX5_next 58 = .ok (.iastore, 1) := by decide +kernel
theorem dX5_next_59 : decode cX5_next 59 = .ok (.iconst 1, 1) := by decide +kernel
theorem dX5_next_60 : decode cX5_next 60 = .ok (.ireturn, 1) := by decide +kernel
theorem dX5_next_61 : decode cX5_next 61 = .ok (.iinc 2 (-1), 3) := by decide +kernel
theorem dX5_next_64 : decode cX5_next 64 = .ok (.goto (-53), 3) := by decide +kernel
theorem dX5_next_67 : decode cX5_next 67 = .ok (.iconst 0, 1) := by decide +kernel
theorem dX5_next_68 : decode cX5_next 68 = .ok (.ireturn, 1) := by decide +kernel
theorem dX5_inchesAt_0 : decode cX5_inchesAt 0 = .ok (.iload_n 1, 1) := by decide +kernel
theorem dX5_inchesAt_1 : decode cX5_inchesAt 1 = .ok (.ifCond .lt 18, 3) := by decide +kernel
theorem dX5_inchesAt_4 : decode cX5_inchesAt 4 = .ok (.iload_n 1, 1) := by decide +kernel
theorem dX5_inchesAt_5 : decode cX5_inchesAt 5 = .ok (.bipush 8, 2) := by decide +kernel
theorem dX5_inchesAt_7 : decode cX5_inchesAt 7 = .ok (.if_icmp .ge 12, 3) := by decide +kernel
theorem dX5_inchesAt_10 : decode cX5_inchesAt 10 = .ok (.aload_n 0, 1) := by decide +kernel
theorem dX5_inchesAt_11 : decode cX5_inchesAt 11 = .ok (.getfield 9, 3) := by decide +kernel
theorem dX5_inchesAt_14 : decode cX5_inchesAt 14 = .ok (.iload_n 1, 1) := by decide +kernel
theorem dX5_inchesAt_15 : decode cX5_inchesAt 15 = .ok (.iaload, 1) := by decide +kernel
theorem dX5_inchesAt_16 : decode cX5_inchesAt 16 = .ok (.goto 4, 3) := by decide +kernel
theorem dX5_inchesAt_19 : decode cX5_inchesAt 19 = .ok (.iconst 0, 1) := by decide +kernel
theorem dX5_inchesAt_20 : decode cX5_inchesAt 20 = .ok (.ireturn, 1) := by decide +kernel
theorem dX5_copyFrom_0 : decode cX5_copyFrom 0 = .ok (.iconst 0, 1) := by decide +kernel
theorem dX5_copyFrom_1 : decode cX5_copyFrom 1 = .ok (.istore_n 2, 1) := by decide +kernel
theorem dX5_copyFrom_2 : decode cX5_copyFrom 2 = .ok (.iload_n 2, 1) := by decide +kernel
theorem dX5_copyFrom_3 : decode cX5_copyFrom 3 = .ok (.bipush 8, 2) := by decide +kernel
theorem dX5_copyFrom_5 : decode cX5_copyFrom 5 = .ok (.if_icmp .ge 21, 3) := by decide +kernel
theorem dX5_copyFrom_8 : decode cX5_copyFrom 8 = .ok (.aload_n 0, 1) := by decide +kernel
theorem dX5_copyFrom_9 : decode cX5_copyFrom 9 = .ok (.getfield 9, 3) := by decide +kernel
theorem dX5_copyFrom_12 : decode cX5_copyFrom 12 = .ok (.iload_n 2, 1) := by decide +kernel
theorem dX5_copyFrom_13 : decode cX5_copyFrom 13 = .ok (.aload_n 1, 1) := by decide +kernel
theorem dX5_copyFrom_14 : decode cX5_copyFrom 14 = .ok (.getfield 9, 3) := by decide +kernel
theorem dX5_copyFrom_17 : decode cX5_copyFrom 17 = .ok (.iload_n 2, 1) := by decide +kernel
theorem dX5_copyFrom_18 : decode cX5_copyFrom 18 = .ok (.iaload, 1) := by decide +kernel
theorem dX5_copyFrom_19 : decode cX5_copyFrom 19 = .ok (.iastore, 1) := by decide +kernel
theorem dX5_copyFrom_20 : decode cX5_copyFrom 20 = .ok (.iinc 2 1, 3) := by decide +kernel
theorem dX5_copyFrom_23 : decode cX5_copyFrom 23 = .ok (.goto (-21), 3) := by decide +kernel
theorem dX5_copyFrom_26 : decode cX5_copyFrom 26 = .ok (.aload_n 0, 1) := by decide +kernel
theorem dX5_copyFrom_27 : decode cX5_copyFrom 27 = .ok (.aload_n 1, 1) := by decide +kernel
theorem dX5_copyFrom_28 : decode cX5_copyFrom 28 = .ok (.getfield 21, 3) := by decide +kernel
theorem dX5_copyFrom_31 : decode cX5_copyFrom 31 = .ok (.putfield 21, 3) := by decide +kernel
theorem dX5_copyFrom_34 : decode cX5_copyFrom 34 = .ok (.return_, 1) := by decide +kernel
theorem dX6_init_0 : decode cX6_init 0 = .ok (.aload_n 0, 1) := by decide +kernel
theorem dX6_init_1 : decode cX6_init 1 = .ok (.invokespecial 3, 3) := by decide +kernel
theorem dX6_init_4 : decode cX6_init 4 = .ok (.aload_n 0, 1) := by decide +kernel
theorem dX6_init_5 : decode cX6_init 5 = .ok (.bipush 8, 2) := by decide +kernel
theorem dX6_init_7 : decode cX6_init 7 = .ok (.newarray .int, 2) := by decide +kernel
theorem dX6_init_9 : decode cX6_init 9 = .ok (.putfield 9, 3) := by decide +kernel
theorem dX6_init_12 : decode cX6_init 12 = .ok (.aload_n 0, 1) := by decide +kernel
theorem dX6_init_13 : decode cX6_init 13 = .ok (.bipush 8, 2) := by decide +kernel
theorem dX6_init_15 : decode cX6_init 15 = .ok (.newarray .int, 2) := by decide +kernel
theorem dX6_init_17 : decode cX6_init 17 = .ok (.putfield 15, 3) := by decide +kernel
theorem dX6_init_20 : decode cX6_init 20 = .ok (.return_, 1) := by decide +kernel
theorem dX6_size_0 : decode cX6_size 0 = .ok (.aload_n 0, 1) := by decide +kernel
theorem dX6_size_1 : decode cX6_size 1 = .ok (.getfield 18, 3) := by decide +kernel
theorem dX6_size_4 : decode cX6_size 4 = .ok (.ireturn, 1) := by decide +kernel
theorem dX6_clear_0 : decode cX6_clear 0 = .ok (.aload_n 0, 1) := by decide +kernel
theorem dX6_clear_1 : decode cX6_clear 1 = .ok (.iconst 0, 1) := by decide +kernel
theorem dX6_clear_2 : decode cX6_clear 2 = .ok (.putfield 18, 3) := by decide +kernel
theorem dX6_clear_5 : decode cX6_clear 5 = .ok (.return_, 1) := by decide +kernel
theorem dX6_add_0 : decode cX6_add 0 = .ok (.aload_n 0, 1) := by decide +kernel
theorem dX6_add_1 : decode cX6_add 1 = .ok (.getfield 18, 3) := by decide +kernel
theorem dX6_add_4 : decode cX6_add 4 = .ok (.ifCond .lt 12, 3) := by decide +kernel
theorem dX6_add_7 : decode cX6_add 7 = .ok (.aload_n 0, 1) := by decide +kernel
theorem dX6_add_8 : decode cX6_add 8 = .ok (.getfield 18, 3) := by decide +kernel
theorem dX6_add_11 : decode cX6_add 11 = .ok (.bipush 8, 2) := by decide +kernel
theorem dX6_add_13 : decode cX6_add 13 = .ok (.if_icmp .lt 5, 3) := by decide +kernel
theorem dX6_add_16 : decode cX6_add 16 = .ok (.iconst 0, 1) := by decide +kernel
theorem dX6_add_17 : decode cX6_add 17 = .ok (.ireturn, 1) := by decide +kernel
theorem dX6_add_18 : decode cX6_add 18 = .ok (.aload_n 0, 1) := by decide +kernel
theorem dX6_add_19 : decode cX6_add 19 = .ok (.getfield 9, 3) := by decide +kernel
theorem dX6_add_22 : decode cX6_add 22 = .ok (.aload_n 0, 1) := by decide +kernel
theorem dX6_add_23 : decode cX6_add 23 = .ok (.getfield 18, 3) := by decide +kernel
theorem dX6_add_26 : decode cX6_add 26 = .ok (.iload_n 1, 1) := by decide +kernel
theorem dX6_add_27 : decode cX6_add 27 = .ok (.iastore, 1) := by decide +kernel
theorem dX6_add_28 : decode cX6_add 28 = .ok (.aload_n 0, 1) := by decide +kernel
theorem dX6_add_29 : decode cX6_add 29 = .ok (.getfield 15, 3) := by decide +kernel
theorem dX6_add_32 : decode cX6_add 32 = .ok (.aload_n 0, 1) := by decide +kernel
theorem dX6_add_33 : decode cX6_add 33 = .ok (.getfield 18, 3) := by decide +kernel
theorem dX6_add_36 : decode cX6_add 36 = .ok (.iload_n 2, 1) := by decide +kernel
theorem dX6_add_37 : decode cX6_add 37 = .ok (.iastore, 1) := by decide +kernel
theorem dX6_add_38 : decode cX6_add 38 = .ok (.aload_n 0, 1) := by decide +kernel
theorem dX6_add_39 : decode cX6_add 39 = .ok (.dup, 1) := by decide +kernel
theorem dX6_add_40 : decode cX6_add 40 = .ok (.getfield 18, 3) := by decide +kernel
theorem dX6_add_43 : decode cX6_add 43 = .ok (.iconst 1, 1) := by decide +kernel
theorem dX6_add_44 : decode cX6_add 44 = .ok (.iadd, 1) := by decide +kernel
theorem dX6_add_45 : decode cX6_add 45 = .ok (.putfield 18, 3) := by decide +kernel
theorem dX6_add_48 : decode cX6_add 48 = .ok (.iconst 1, 1) := by decide +kernel
theorem dX6_add_49 : decode cX6_add 49 = .ok (.ireturn, 1) := by decide +kernel
theorem dX6_agreeWith_0 : decode cX6_agreeWith 0 = .ok (.iconst 0, 1) := by decide +kernel
theorem dX6_agreeWith_1 : decode cX6_agreeWith 1 = .ok (.istore_n 3, 1) := by decide +kernel
theorem dX6_agreeWith_2 : decode cX6_agreeWith 2 = .ok (.iload_n 3, 1) := by decide +kernel
theorem dX6_agreeWith_3 : decode cX6_agreeWith 3 = .ok (.aload_n 0, 1) := by decide +kernel
theorem dX6_agreeWith_4 : decode cX6_agreeWith 4 = .ok (.getfield 18, 3) := by decide +kernel
theorem dX6_agreeWith_7 : decode cX6_agreeWith 7 = .ok (.if_icmp .ge 38, 3) := by decide +kernel
theorem dX6_agreeWith_10 : decode cX6_agreeWith 10 = .ok (.iload_n 3, 1) := by decide +kernel
theorem dX6_agreeWith_11 : decode cX6_agreeWith 11 = .ok (.bipush 8, 2) := by decide +kernel
theorem dX6_agreeWith_13 : decode cX6_agreeWith 13 = .ok (.if_icmp .ge 32, 3) := by decide +kernel
theorem dX6_agreeWith_16 : decode cX6_agreeWith 16 = .ok (.aload_n 2, 1) := by decide +kernel
theorem dX6_agreeWith_17 : decode cX6_agreeWith 17 = .ok (.iload_n 1, 1) := by decide +kernel
theorem dX6_agreeWith_18 : decode cX6_agreeWith 18 = .ok (.aload_n 0, 1) := by decide +kernel
theorem dX6_agreeWith_19 : decode cX6_agreeWith 19 = .ok (.getfield 15, 3) := by decide +kernel
theorem dX6_agreeWith_22 : decode cX6_agreeWith 22 = .ok (.iload_n 3, 1) := by decide +kernel
theorem dX6_agreeWith_23 : decode cX6_agreeWith 23 = .ok (.iaload, 1) := by decide +kernel
theorem dX6_agreeWith_24 : decode cX6_agreeWith 24 = .ok (.imul, 1) := by decide +kernel
theorem dX6_agreeWith_25 : decode cX6_agreeWith 25 = .ok (.invokevirtual 22, 3) := by decide +kernel
theorem dX6_agreeWith_28 : decode cX6_agreeWith 28 = .ok (.aload_n 0, 1) := by decide +kernel
theorem dX6_agreeWith_29 : decode cX6_agreeWith 29 = .ok (.getfield 9, 3) := by decide +kernel
theorem dX6_agreeWith_32 : decode cX6_agreeWith 32 = .ok (.iload_n 3, 1) := by decide +kernel
theorem dX6_agreeWith_33 : decode cX6_agreeWith 33 = .ok (.iaload, 1) := by decide +kernel
theorem dX6_agreeWith_34 : decode cX6_agreeWith 34 = .ok (.if_icmp .eq 5, 3) := by decide +kernel
theorem dX6_agreeWith_37 : decode cX6_agreeWith 37 = .ok (.iconst 0, 1) := by decide +kernel
theorem dX6_agreeWith_38 : decode cX6_agreeWith 38 = .ok (.ireturn, 1) := by decide +kernel
theorem dX6_agreeWith_39 : decode cX6_agreeWith 39 = .ok (.iinc 3 1, 3) := by decide +kernel
theorem dX6_agreeWith_42 : decode cX6_agreeWith 42 = .ok (.goto (-40), 3) := by decide +kernel
theorem dX6_agreeWith_45 : decode cX6_agreeWith 45 = .ok (.iconst 1, 1) := by decide +kernel
theorem dX6_agreeWith_46 : decode cX6_agreeWith 46 = .ok (.ireturn, 1) := by decide +kernel
theorem dX7_init_0 : decode cX7_init 0 = .ok (.aload_n 0, 1) := by decide +kernel
theorem dX7_init_1 : decode cX7_init 1 = .ok (.invokespecial 3, 3) := by decide +kernel
theorem dX7_init_4 : decode cX7_init 4 = .ok (.aload_n 0, 1) := by decide +kernel
theorem dX7_init_5 : decode cX7_init 5 = .ok (.sipush 200, 3) := by decide +kernel
theorem dX7_init_8 : decode cX7_init 8 = .ok (.newarray .int, 2) := by decide +kernel
theorem dX7_init_10 : decode cX7_init 10 = .ok (.putfield 9, 3) := by decide +kernel
theorem dX7_init_13 : decode cX7_init 13 = .ok (.aload_n 0, 1) := by decide +kernel
theorem dX7_init_14 : decode cX7_init 14 = .ok (.iconst 4, 1) := by decide +kernel
theorem dX7_init_15 : decode cX7_init 15 = .ok (.newarray .int, 2) := by decide +kernel
theorem dX7_init_17 : decode cX7_init 17 = .ok (.putfield 15, 3) := by decide +kernel
theorem dX7_init_20 : decode cX7_init 20 = .ok (.return_, 1) := by decide +kernel
theorem dX7_size_0 : decode cX7_size 0 = .ok (.aload_n 0, 1) := by decide +kernel
theorem dX7_size_1 : decode cX7_size 1 = .ok (.getfield 18, 3) := by decide +kernel
theorem dX7_size_4 : decode cX7_size 4 = .ok (.ireturn, 1) := by decide +kernel
theorem dX7_clear_0 : decode cX7_clear 0 = .ok (.aload_n 0, 1) := by decide +kernel
theorem dX7_clear_1 : decode cX7_clear 1 = .ok (.iconst 0, 1) := by decide +kernel
theorem dX7_clear_2 : decode cX7_clear 2 = .ok (.putfield 18, 3) := by decide +kernel
theorem dX7_clear_5 : decode cX7_clear 5 = .ok (.return_, 1) := by decide +kernel
theorem dX7_add_0 : decode cX7_add 0 = .ok (.aload_n 0, 1) := by decide +kernel
theorem dX7_add_1 : decode cX7_add 1 = .ok (.getfield 18, 3) := by decide +kernel
theorem dX7_add_4 : decode cX7_add 4 = .ok (.ifCond .lt 13, 3) := by decide +kernel
theorem dX7_add_7 : decode cX7_add 7 = .ok (.aload_n 0, 1) := by decide +kernel
theorem dX7_add_8 : decode cX7_add 8 = .ok (.getfield 18, 3) := by decide +kernel
theorem dX7_add_11 : decode cX7_add 11 = .ok (.sipush 200, 3) := by decide +kernel
theorem dX7_add_14 : decode cX7_add 14 = .ok (.if_icmp .lt 5, 3) := by decide +kernel
theorem dX7_add_17 : decode cX7_add 17 = .ok (.iconst 0, 1) := by decide +kernel
theorem dX7_add_18 : decode cX7_add 18 = .ok (.ireturn, 1) := by decide +kernel
theorem dX7_add_19 : decode cX7_add 19 = .ok (.aload_n 0, 1) := by decide +kernel
theorem dX7_add_20 : decode cX7_add 20 = .ok (.getfield 9, 3) := by decide +kernel
theorem dX7_add_23 : decode cX7_add 23 = .ok (.aload_n 0, 1) := by decide +kernel
theorem dX7_add_24 : decode cX7_add 24 = .ok (.getfield 18, 3) := by decide +kernel
theorem dX7_add_27 : decode cX7_add 27 = .ok (.iload_n 1, 1) := by decide +kernel
theorem dX7_add_28 : decode cX7_add 28 = .ok (.iastore, 1) := by decide +kernel
theorem dX7_add_29 : decode cX7_add 29 = .ok (.aload_n 0, 1) := by decide +kernel
theorem dX7_add_30 : decode cX7_add 30 = .ok (.dup, 1) := by decide +kernel
theorem dX7_add_31 : decode cX7_add 31 = .ok (.getfield 18, 3) := by decide +kernel
theorem dX7_add_34 : decode cX7_add 34 = .ok (.iconst 1, 1) := by decide +kernel
theorem dX7_add_35 : decode cX7_add 35 = .ok (.iadd, 1) := by decide +kernel
theorem dX7_add_36 : decode cX7_add 36 = .ok (.putfield 18, 3) := by decide +kernel
theorem dX7_add_39 : decode cX7_add 39 = .ok (.iconst 1, 1) := by decide +kernel
theorem dX7_add_40 : decode cX7_add 40 = .ok (.ireturn, 1) := by decide +kernel
theorem dX7_letterAt_0 : decode cX7_letterAt 0 = .ok (.iload_n 1, 1) := by decide +kernel
theorem dX7_letterAt_1 : decode cX7_letterAt 1 = .ok (.ifCond .lt 27, 3) := by decide +kernel
theorem dX7_letterAt_4 : decode cX7_letterAt 4 = .ok (.iload_n 1, 1) := by decide +kernel
theorem dX7_letterAt_5 : decode cX7_letterAt 5 = .ok (.aload_n 0, 1) := by decide +kernel
theorem dX7_letterAt_6 : decode cX7_letterAt 6 = .ok (.getfield 18, 3) := by decide +kernel
theorem dX7_letterAt_9 : decode cX7_letterAt 9 = .ok (.if_icmp .ge 19, 3) := by decide +kernel
theorem dX7_letterAt_12 : decode cX7_letterAt 12 = .ok (.iload_n 1, 1) := by decide +kernel
theorem dX7_letterAt_13 : decode cX7_letterAt 13 = .ok (.sipush 200, 3) := by decide +kernel
theorem dX7_letterAt_16 : decode cX7_letterAt 16 = .ok (.if_icmp .ge 12, 3) := by decide +kernel
theorem dX7_letterAt_19 : decode cX7_letterAt 19 = .ok (.aload_n 0, 1) := by decide +kernel
theorem dX7_letterAt_20 : decode cX7_letterAt 20 = .ok (.getfield 9, 3) := by decide +kernel
theorem dX7_letterAt_23 : decode cX7_letterAt 23 = .ok (.iload_n 1, 1) := by decide +kernel
theorem dX7_letterAt_24 : decode cX7_letterAt 24 = .ok (.iaload, 1) := by decide +kernel
theorem dX7_letterAt_25 : decode cX7_letterAt 25 = .ok (.goto 4, 3) := by decide +kernel
theorem dX7_letterAt_28 : decode cX7_letterAt 28 = .ok (.iconst 0, 1) := by decide +kernel
theorem dX7_letterAt_29 : decode cX7_letterAt 29 = .ok (.ireturn, 1) := by decide +kernel
theorem dX7_numberCount_0 : decode cX7_numberCount 0 = .ok (.aload_n 0, 1) := by decide +kernel
theorem dX7_numberCount_1 : decode cX7_numberCount 1 = .ok (.getfield 22, 3) := by decide +kernel
theorem dX7_numberCount_4 : decode cX7_numberCount 4 = .ok (.ireturn, 1) := by decide +kernel
theorem dX7_numberAt_0 : decode cX7_numberAt 0 = .ok (.iload_n 1, 1) := by decide +kernel
theorem dX7_numberAt_1 : decode cX7_numberAt 1 = .ok (.ifCond .lt 25, 3) := by decide +kernel
theorem dX7_numberAt_4 : decode cX7_numberAt 4 = .ok (.iload_n 1, 1) := by decide +kernel
theorem dX7_numberAt_5 : decode cX7_numberAt 5 = .ok (.aload_n 0, 1) := by decide +kernel
theorem dX7_numberAt_6 : decode cX7_numberAt 6 = .ok (.getfield 22, 3) := by decide +kernel
theorem dX7_numberAt_9 : decode cX7_numberAt 9 = .ok (.if_icmp .ge 17, 3) := by decide +kernel
theorem dX7_numberAt_12 : decode cX7_numberAt 12 = .ok (.iload_n 1, 1) := by decide +kernel
theorem dX7_numberAt_13 : decode cX7_numberAt 13 = .ok (.iconst 4, 1) := by decide +kernel
theorem dX7_numberAt_14 : decode cX7_numberAt 14 = .ok (.if_icmp .ge 12, 3) := by decide +kernel
theorem dX7_numberAt_17 : decode cX7_numberAt 17 = .ok (.aload_n 0, 1) := by decide +kernel
theorem dX7_numberAt_18 : decode cX7_numberAt 18 = .ok (.getfield 15, 3) := by decide +kernel
theorem dX7_numberAt_21 : decode cX7_numberAt 21 = .ok (.iload_n 1, 1) := by decide +kernel
theorem dX7_numberAt_22 : decode cX7_numberAt 22 = .ok (.iaload, 1) := by decide +kernel
theorem dX7_numberAt_23 : decode cX7_numberAt 23 = .ok (.goto 4, 3) := by decide +kernel
theorem dX7_numberAt_26 : decode cX7_numberAt 26 = .ok (.iconst 0, 1) := by decide +kernel
theorem dX7_numberAt_27 : decode cX7_numberAt 27 = .ok (.ireturn, 1) := by decide +kernel
theorem dX7_readItem_0 : decode cX7_readItem 0 = .ok (.iload_n 1, 1) := by decide +kernel
theorem dX7_readItem_1 : decode cX7_readItem 1 = .ok (.iconst 1, 1) := by decide +kernel
theorem dX7_readItem_2 : decode cX7_readItem 2 = .ok (.iadd, 1) := by decide +kernel
theorem dX7_readItem_3 : decode cX7_readItem 3 = .ok (.istore_n 2, 1) := by decide +kernel
theorem dX7_readItem_4 : decode cX7_readItem 4 = .ok (.aload_n 0, 1) := by decide +kernel
theorem dX7_readItem_5 : decode cX7_readItem 5 = .ok (.iconst 0, 1) := by decide +kernel
theorem dX7_readItem_6 : decode cX7_readItem 6 = .ok (.putfield 22, 3) := by decide +kernel
theorem dX7_readItem_9 : decode cX7_readItem 9 = .ok (.iconst 0, 1) := by decide +kernel
theorem dX7_readItem_10 : decode cX7_readItem 10 = .ok (.istore_n 3, 1) := by decide +kernel
theorem dX7_readItem_11 : decode cX7_readItem 11 = .ok (.iload_n 3, 1) := by decide +kernel
theorem dX7_readItem_12 : decode cX7_readItem 12 = .ok (.iconst 4, 1) := by decide +kernel
theorem dX7_readItem_13 : decode cX7_readItem 13 = .ok (.if_icmp .ge 103, 3) := by decide +kernel
theorem dX7_readItem_16 : decode cX7_readItem 16 = .ok (.aload_n 0, 1) := by decide +kernel
theorem dX7_readItem_17 : decode cX7_readItem 17 = .ok (.iload_n 2, 1) := by decide +kernel
theorem dX7_readItem_18 : decode cX7_readItem 18 = .ok (.invokevirtual 25, 3) := by decide +kernel
theorem dX7_readItem_21 : decode cX7_readItem 21 = .ok (.istore 4, 2) := by decide +kernel
theorem dX7_readItem_23 : decode cX7_readItem 23 = .ok (.iload 4, 2) := by decide +kernel
theorem dX7_readItem_25 : decode cX7_readItem 25 = .ok (.ifCond .ne 6, 3) := by decide +kernel
theorem dX7_readItem_28 : decode cX7_readItem 28 = .ok (.bipush (-4), 2) := by decide +kernel
theorem dX7_readItem_30 : decode cX7_readItem 30 = .ok (.ireturn, 1) := by decide +kernel
theorem dX7_readItem_31 : decode cX7_readItem 31 = .ok (.aload_n 0, 1) := by decide +kernel
theorem dX7_readItem_32 : decode cX7_readItem 32 = .ok (.getfield 15, 3) := by decide +kernel
theorem dX7_readItem_35 : decode cX7_readItem 35 = .ok (.iload_n 3, 1) := by decide +kernel
theorem dX7_readItem_36 : decode cX7_readItem 36 = .ok (.iload 4, 2) := by decide +kernel
theorem dX7_readItem_38 : decode cX7_readItem 38 = .ok (.iconst 1, 1) := by decide +kernel
theorem dX7_readItem_39 : decode cX7_readItem 39 = .ok (.if_icmp .ne 11, 3) := by decide +kernel
theorem dX7_readItem_42 : decode cX7_readItem 42 = .ok (.aload_n 0, 1) := by decide +kernel
theorem dX7_readItem_43 : decode cX7_readItem 43 = .ok (.iload_n 2, 1) := by decide +kernel
theorem dX7_readItem_44 : decode cX7_readItem 44 = .ok (.invokevirtual 29, 3) := by decide +kernel
theorem dX7_readItem_47 : decode cX7_readItem 47 = .ok (.goto 19, 3) := by decide +kernel
theorem dX7_readItem_50 : decode cX7_readItem 50 = .ok (.bipush 10, 2) := by decide +kernel
theorem dX7_readItem_52 : decode cX7_readItem 52 = .ok (.aload_n 0, 1) := by decide +kernel
theorem dX7_readItem_53 : decode cX7_readItem 53 = .ok (.iload_n 2, 1) := by decide +kernel
theorem dX7_readItem_54 : decode cX7_readItem 54 = .ok (.invokevirtual 29, 3) := by decide +kernel
theorem dX7_readItem_57 : decode cX7_readItem 57 = .ok (.imul, 1) := by decide +kernel
theorem dX7_readItem_58 : decode cX7_readItem 58 = .ok (.aload_n 0, 1) := by decide +kernel
theorem dX7_readItem_59 : decode cX7_readItem 59 = .ok (.iload_n 2, 1) := by decide +kernel
theorem dX7_readItem_60 : decode cX7_readItem 60 = .ok (.iconst 1, 1) := by decide +kernel
theorem dX7_readItem_61 : decode cX7_readItem 61 = .ok (.iadd, 1) := by decide +kernel
theorem dX7_readItem_62 : decode cX7_readItem 62 = .ok (.invokevirtual 29, 3) := by decide +kernel
theorem dX7_readItem_65 : decode cX7_readItem 65 = .ok (.iadd, 1) := by decide +kernel
theorem dX7_readItem_66 : decode cX7_readItem 66 = .ok (.iastore, 1) := by decide +kernel
theorem dX7_readItem_67 : decode cX7_readItem 67 = .ok (.aload_n 0, 1) := by decide +kernel
theorem dX7_readItem_68 : decode cX7_readItem 68 = .ok (.iload_n 3, 1) := by decide +kernel
theorem dX7_readItem_69 : decode cX7_readItem 69 = .ok (.iconst 1, 1) := by decide +kernel
theorem dX7_readItem_70 : decode cX7_readItem 70 = .ok (.iadd, 1) := by decide +kernel
theorem dX7_readItem_71 : decode cX7_readItem 71 = .ok (.putfield 22, 3) := by decide +kernel
theorem dX7_readItem_74 : decode cX7_readItem 74 = .ok (.aload_n 0, 1) := by decide +kernel
theorem dX7_readItem_75 : decode cX7_readItem 75 = .ok (.iload_n 2, 1) := by decide +kernel
theorem dX7_readItem_76 : decode cX7_readItem 76 = .ok (.iload 4, 2) := by decide +kernel
theorem dX7_readItem_78 : decode cX7_readItem 78 = .ok (.iadd, 1) := by decide +kernel
theorem dX7_readItem_79 : decode cX7_readItem 79 = .ok (.invokevirtual 32, 3) := by decide +kernel
theorem dX7_readItem_82 : decode cX7_readItem 82 = .ok (.istore 5, 2) := by decide +kernel
theorem dX7_readItem_84 : decode cX7_readItem 84 = .ok (.iload_n 2, 1) := by decide +kernel
theorem dX7_readItem_85 : decode cX7_readItem 85 = .ok (.iload 4, 2) := by decide +kernel
theorem dX7_readItem_87 : decode cX7_readItem 87 = .ok (.iconst 1, 1) := by decide +kernel
theorem dX7_readItem_88 : decode cX7_readItem 88 = .ok (.iadd, 1) := by decide +kernel
theorem dX7_readItem_89 : decode cX7_readItem 89 = .ok (.iadd, 1) := by decide +kernel
theorem dX7_readItem_90 : decode cX7_readItem 90 = .ok (.istore_n 2, 1) := by decide +kernel
theorem dX7_readItem_91 : decode cX7_readItem 91 = .ok (.iload 5, 2) := by decide +kernel
theorem dX7_readItem_93 : decode cX7_readItem 93 = .ok (.bipush 59, 2) := by decide +kernel
theorem dX7_readItem_95 : decode cX7_readItem 95 = .ok (.if_icmp .ne 5, 3) := by decide +kernel
theorem dX7_readItem_98 : decode cX7_readItem 98 = .ok (.iload_n 2, 1) := by decide +kernel
theorem dX7_readItem_99 : decode cX7_readItem 99 = .ok (.ireturn, 1) := by decide +kernel
theorem dX7_readItem_100 : decode cX7_readItem 100 = .ok (.iload 5, 2) := by decide +kernel
theorem dX7_readItem_102 : decode cX7_readItem 102 = .ok (.bipush 44, 2) := by decide +kernel
theorem dX7_readItem_104 : decode cX7_readItem 104 = .ok (.if_icmp .eq 6, 3) := by decide +kernel
theorem dX7_readItem_107 : decode cX7_readItem 107 = .ok (.bipush (-4), 2) := by decide +kernel
theorem dX7_readItem_109 : decode cX7_readItem 109 = .ok (.ireturn, 1) := by decide +kernel
theorem dX7_readItem_110 : decode cX7_readItem 110 = .ok (.iinc 3 1, 3) := by decide +kernel
theorem dX7_readItem_113 : decode cX7_readItem 113 = .ok (.goto (-102), 3) := by decide +kernel
theorem dX7_readItem_116 : decode cX7_readItem 116 = .ok (.bipush (-4), 2) := by decide +kernel
theorem dX7_readItem_118 : decode cX7_readItem 118 = .ok (.ireturn, 1) := by decide +kernel
theorem dX7_figuresAt_0 : decode cX7_figuresAt 0 = .ok (.aload_n 0, 1) := by decide +kernel
theorem dX7_figuresAt_1 : decode cX7_figuresAt 1 = .ok (.iload_n 1, 1) := by decide +kernel
theorem dX7_figuresAt_2 : decode cX7_figuresAt 2 = .ok (.invokevirtual 29, 3) := by decide +kernel
theorem dX7_figuresAt_5 : decode cX7_figuresAt 5 = .ok (.bipush (-4), 2) := by decide +kernel
theorem dX7_figuresAt_7 : decode cX7_figuresAt 7 = .ok (.if_icmp .ne 5, 3) := by decide +kernel
theorem dX7_figuresAt_10 : decode cX7_figuresAt 10 = .ok (.iconst 0, 1) := by decide +kernel
theorem dX7_figuresAt_11 : decode cX7_figuresAt 11 = .ok (.ireturn, 1) := by decide +kernel
theorem dX7_figuresAt_12 : decode cX7_figuresAt 12 = .ok (.aload_n 0, 1) := by decide +kernel
theorem dX7_figuresAt_13 : decode cX7_figuresAt 13 = .ok (.iload_n 1, 1) := by decide +kernel
theorem dX7_figuresAt_14 : decode cX7_figuresAt 14 = .ok (.iconst 1, 1) := by decide +kernel
theorem dX7_figuresAt_15 : decode cX7_figuresAt 15 = .ok (.iadd, 1) := by decide +kernel
theorem dX7_figuresAt_16 : decode cX7_figuresAt 16 = .ok (.invokevirtual 29, 3) := by decide +kernel
theorem dX7_figuresAt_19 : decode cX7_figuresAt 19 = .ok (.bipush (-4), 2) := by decide +kernel
theorem dX7_figuresAt_21 : decode cX7_figuresAt 21 = .ok (.if_icmp .ne 7, 3) := by decide +kernel
theorem dX7_figuresAt_24 : decode cX7_figuresAt 24 = .ok (.iconst 1, 1) := by decide +kernel
theorem dX7_figuresAt_25 : decode cX7_figuresAt 25 = .ok (.goto 4, 3) := by decide +kernel
theorem dX7_figuresAt_28 : decode cX7_figuresAt 28 = .ok (.iconst 2, 1) := by decide +kernel
theorem dX7_figuresAt_29 : decode cX7_figuresAt 29 = .ok (.ireturn, 1) := by decide +kernel
theorem dX7_figureAt_0 : decode cX7_figureAt 0 = .ok (.aload_n 0, 1) := by decide +kernel
theorem dX7_figureAt_1 : decode cX7_figureAt 1 = .ok (.iload_n 1, 1) := by decide +kernel
theorem dX7_figureAt_2 : decode cX7_figureAt 2 = .ok (.invokevirtual 32, 3) := by decide +kernel
theorem dX7_figureAt_5 : decode cX7_figureAt 5 = .ok (.istore_n 2, 1) := by decide +kernel
theorem dX7_figureAt_6 : decode cX7_figureAt 6 = .ok (.iload_n 2, 1) := by decide +kernel
theorem dX7_figureAt_7 : decode cX7_figureAt 7 = .ok (.bipush 48, 2) := by decide +kernel
theorem dX7_figureAt_9 : decode cX7_figureAt 9 = .ok (.if_icmp .lt 16, 3) := by decide +kernel
theorem dX7_figureAt_12 : decode cX7_figureAt 12 = .ok (.iload_n 2, 1) := by decide +kernel
theorem dX7_figureAt_13 : decode cX7_figureAt 13 = .ok (.bipush 57, 2) := by decide +kernel
theorem dX7_figureAt_15 : decode cX7_figureAt 15 = .ok (.if_icmp .gt 10, 3) := by decide +kernel
theorem dX7_figureAt_18 : decode cX7_figureAt 18 = .ok (.iload_n 2, 1) := by decide +kernel
theorem dX7_figureAt_19 : decode cX7_figureAt 19 = .ok (.bipush 48, 2) := by decide +kernel
theorem dX7_figureAt_21 : decode cX7_figureAt 21 = .ok (.isub, 1) := by decide +kernel
theorem dX7_figureAt_22 : decode cX7_figureAt 22 = .ok (.goto 5, 3) := by decide +kernel
theorem dX7_figureAt_25 : decode cX7_figureAt 25 = .ok (.bipush (-4), 2) := by decide +kernel
theorem dX7_figureAt_27 : decode cX7_figureAt 27 = .ok (.ireturn, 1) := by decide +kernel
theorem dX8_init_0 : decode cX8_init 0 = .ok (.aload_n 0, 1) := by decide +kernel
theorem dX8_init_1 : decode cX8_init 1 = .ok (.invokespecial 1, 3) := by decide +kernel
theorem dX8_init_4 : decode cX8_init 4 = .ok (.aload_n 0, 1) := by decide +kernel
theorem dX8_init_5 : decode cX8_init 5 = .ok (.new 7, 3) := by decide +kernel
theorem dX8_init_8 : decode cX8_init 8 = .ok (.dup, 1) := by decide +kernel
theorem dX8_init_9 : decode cX8_init 9 = .ok (.invokespecial 9, 3) := by decide +kernel
theorem dX8_init_12 : decode cX8_init 12 = .ok (.putfield 10, 3) := by decide +kernel
theorem dX8_init_15 : decode cX8_init 15 = .ok (.aload_n 0, 1) := by decide +kernel
theorem dX8_init_16 : decode cX8_init 16 = .ok (.new 16, 3) := by decide +kernel
theorem dX8_init_19 : decode cX8_init 19 = .ok (.dup, 1) := by decide +kernel
theorem dX8_init_20 : decode cX8_init 20 = .ok (.invokespecial 18, 3) := by decide +kernel
theorem dX8_init_23 : decode cX8_init 23 = .ok (.putfield 19, 3) := by decide +kernel
theorem dX8_init_26 : decode cX8_init 26 = .ok (.aload_n 0, 1) := by decide +kernel
theorem dX8_init_27 : decode cX8_init 27 = .ok (.new 16, 3) := by decide +kernel
theorem dX8_init_30 : decode cX8_init 30 = .ok (.dup, 1) := by decide +kernel
theorem dX8_init_31 : decode cX8_init 31 = .ok (.invokespecial 18, 3) := by decide +kernel
theorem dX8_init_34 : decode cX8_init 34 = .ok (.putfield 23, 3) := by decide +kernel
theorem dX8_init_37 : decode cX8_init 37 = .ok (.aload_n 0, 1) := by decide +kernel
theorem dX8_init_38 : decode cX8_init 38 = .ok (.new 26, 3) := by decide +kernel
theorem dX8_init_41 : decode cX8_init 41 = .ok (.dup, 1) := by decide +kernel
theorem dX8_init_42 : decode cX8_init 42 = .ok (.aload_n 0, 1) := by decide +kernel
theorem dX8_init_43 : decode cX8_init 43 = .ok (.getfield 19, 3) := by decide +kernel
theorem dX8_init_46 : decode cX8_init 46 = .ok (.invokespecial 28, 3) := by decide +kernel
theorem dX8_init_49 : decode cX8_init 49 = .ok (.putfield 31, 3) := by decide +kernel
theorem dX8_init_52 : decode cX8_init 52 = .ok (.aload_n 0, 1) := by decide +kernel
theorem dX8_init_53 : decode cX8_init 53 = .ok (.new 26, 3) := by decide +kernel
theorem dX8_init_56 : decode cX8_init 56 = .ok (.dup, 1) := by decide +kernel
theorem dX8_init_57 : decode cX8_init 57 = .ok (.aload_n 0, 1) := by decide +kernel
theorem dX8_init_58 : decode cX8_init 58 = .ok (.getfield 19, 3) := by decide +kernel
theorem dX8_init_61 : decode cX8_init 61 = .ok (.invokespecial 28, 3) := by decide +kernel
theorem dX8_init_64 : decode cX8_init 64 = .ok (.putfield 35, 3) := by decide +kernel
theorem dX8_init_67 : decode cX8_init 67 = .ok (.aload_n 0, 1) := by decide +kernel
theorem dX8_init_68 : decode cX8_init 68 = .ok (.new 38, 3) := by decide +kernel
theorem dX8_init_71 : decode cX8_init 71 = .ok (.dup, 1) := by decide +kernel
theorem dX8_init_72 : decode cX8_init 72 = .ok (.invokespecial 40, 3) := by decide +kernel
theorem dX8_init_75 : decode cX8_init 75 = .ok (.putfield 41, 3) := by decide +kernel
theorem dX8_init_78 : decode cX8_init 78 = .ok (.aload_n 0, 1) := by decide +kernel
theorem dX8_init_79 : decode cX8_init 79 = .ok (.iconst 2, 1) := by decide +kernel
theorem dX8_init_80 : decode cX8_init 80 = .ok (.anewarray 38, 3) := by decide +kernel
theorem dX8_init_83 : decode cX8_init 83 = .ok (.putfield 45, 3) := by decide +kernel
theorem dX8_init_86 : decode cX8_init 86 = .ok (.iconst 0, 1) := by decide +kernel
theorem dX8_init_87 : decode cX8_init 87 = .ok (.istore_n 1, 1) := by decide +kernel
theorem dX8_init_88 : decode cX8_init 88 = .ok (.iload_n 1, 1) := by decide +kernel
theorem dX8_init_89 : decode cX8_init 89 = .ok (.iconst 2, 1) := by decide +kernel
theorem dX8_init_90 : decode cX8_init 90 = .ok (.if_icmp .ge 22, 3) := by decide +kernel
theorem dX8_init_93 : decode cX8_init 93 = .ok (.aload_n 0, 1) := by decide +kernel
theorem dX8_init_94 : decode cX8_init 94 = .ok (.getfield 45, 3) := by decide +kernel
theorem dX8_init_97 : decode cX8_init 97 = .ok (.iload_n 1, 1) := by decide +kernel
theorem dX8_init_98 : decode cX8_init 98 = .ok (.new 38, 3) := by decide +kernel
theorem dX8_init_101 : decode cX8_init 101 = .ok (.dup, 1) := by decide +kernel
theorem dX8_init_102 : decode cX8_init 102 = .ok (.invokespecial 40, 3) := by decide +kernel
theorem dX8_init_105 : decode cX8_init 105 = .ok (.aastore, 1) := by decide +kernel
theorem dX8_init_106 : decode cX8_init 106 = .ok (.iinc 1 1, 3) := by decide +kernel
theorem dX8_init_109 : decode cX8_init 109 = .ok (.goto (-21), 3) := by decide +kernel
theorem dX8_init_112 : decode cX8_init 112 = .ok (.aload_n 0, 1) := by decide +kernel
theorem dX8_init_113 : decode cX8_init 113 = .ok (.new 49, 3) := by decide +kernel
theorem dX8_init_116 : decode cX8_init 116 = .ok (.dup, 1) := by decide +kernel
theorem dX8_init_117 : decode cX8_init 117 = .ok (.invokespecial 51, 3) := by decide +kernel
theorem dX8_init_120 : decode cX8_init 120 = .ok (.putfield 52, 3) := by decide +kernel
theorem dX8_init_123 : decode cX8_init 123 = .ok (.aload_n 0, 1) := by decide +kernel
theorem dX8_init_124 : decode cX8_init 124 = .ok (.new 56, 3) := by decide +kernel
theorem dX8_init_127 : decode cX8_init 127 = .ok (.dup, 1) := by decide +kernel
theorem dX8_init_128 : decode cX8_init 128 = .ok (.invokespecial 58, 3) := by decide +kernel
theorem dX8_init_131 : decode cX8_init 131 = .ok (.putfield 59, 3) := by decide +kernel
theorem dX8_init_134 : decode cX8_init 134 = .ok (.aload_n 0, 1) := by decide +kernel
theorem dX8_init_135 : decode cX8_init 135 = .ok (.new 56, 3) := by decide +kernel
theorem dX8_init_138 : decode cX8_init 138 = .ok (.dup, 1) := by decide +kernel
theorem dX8_init_139 : decode cX8_init 139 = .ok (.invokespecial 58, 3) := by decide +kernel
theorem dX8_init_142 : decode cX8_init 142 = .ok (.putfield 63, 3) := by decide +kernel
theorem dX8_init_145 : decode cX8_init 145 = .ok (.iconst 0, 1) := by decide +kernel
theorem dX8_init_146 : decode cX8_init 146 = .ok (.istore_n 1, 1) := by decide +kernel
theorem dX8_init_147 : decode cX8_init 147 = .ok (.iload_n 1, 1) := by decide +kernel
theorem dX8_init_148 : decode cX8_init 148 = .ok (.ldc 66, 2) := by decide +kernel
theorem dX8_init_150 : decode cX8_init 150 = .ok (.invokevirtual 68, 3) := by decide +kernel
theorem dX8_init_153 : decode cX8_init 153 = .ok (.if_icmp .ge 23, 3) := by decide +kernel
theorem dX8_init_156 : decode cX8_init 156 = .ok (.aload_n 0, 1) := by decide +kernel
theorem dX8_init_157 : decode cX8_init 157 = .ok (.getfield 10, 3) := by decide +kernel
theorem dX8_init_160 : decode cX8_init 160 = .ok (.ldc 66, 2) := by decide +kernel
theorem dX8_init_162 : decode cX8_init 162 = .ok (.iload_n 1, 1) := by decide +kernel
theorem dX8_init_163 : decode cX8_init 163 = .ok (.invokevirtual 74, 3) := by decide +kernel
theorem dX8_init_166 : decode cX8_init 166 = .ok (.invokevirtual 78, 3) := by decide +kernel
theorem dX8_init_169 : decode cX8_init 169 = .ok (.pop, 1) := by decide +kernel
theorem dX8_init_170 : decode cX8_init 170 = .ok (.iinc 1 1, 3) := by decide +kernel
theorem dX8_init_173 : decode cX8_init 173 = .ok (.goto (-26), 3) := by decide +kernel
theorem dX8_init_176 : decode cX8_init 176 = .ok (.aload_n 0, 1) := by decide +kernel
theorem dX8_init_177 : decode cX8_init 177 = .ok (.getfield 19, 3) := by decide +kernel
theorem dX8_init_180 : decode cX8_init 180 = .ok (.aload_n 0, 1) := by decide +kernel
theorem dX8_init_181 : decode cX8_init 181 = .ok (.getfield 10, 3) := by decide +kernel
theorem dX8_init_184 : decode cX8_init 184 = .ok (.invokevirtual 82, 3) := by decide +kernel
theorem dX8_init_187 : decode cX8_init 187 = .ok (.pop, 1) := by decide +kernel
theorem dX8_init_188 : decode cX8_init 188 = .ok (.aload_n 0, 1) := by decide +kernel
theorem dX8_init_189 : decode cX8_init 189 = .ok (.getfield 10, 3) := by decide +kernel
theorem dX8_init_192 : decode cX8_init 192 = .ok (.invokevirtual 86, 3) := by decide +kernel
theorem dX8_init_195 : decode cX8_init 195 = .ok (.aload_n 0, 1) := by decide +kernel
theorem dX8_init_196 : decode cX8_init 196 = .ok (.getfield 31, 3) := by decide +kernel
theorem dX8_init_199 : decode cX8_init 199 = .ok (.invokevirtual 89, 3) := by decide +kernel
theorem dX8_init_202 : decode cX8_init 202 = .ok (.return_, 1) := by decide +kernel
theorem dX8_write_0 : decode cX8_write 0 = .ok (.iload_n 1, 1) := by decide +kernel
theorem dX8_write_1 : decode cX8_write 1 = .ok (.bipush 32, 2) := by decide +kernel
theorem dX8_write_3 : decode cX8_write 3 = .ok (.bipush 126, 2) := by decide +kernel
theorem dX8_write_5 : decode cX8_write 5 = .ok (.invokestatic 92, 3) := by decide +kernel
theorem dX8_write_8 : decode cX8_write 8 = .ok (.ifCond .ne 5, 3) := by decide +kernel
theorem dX8_write_11 : decode cX8_write 11 = .ok (.iconst (-1), 1) := by decide +kernel
theorem dX8_write_12 : decode cX8_write 12 = .ok (.ireturn, 1) := by decide +kernel
theorem dX8_write_13 : decode cX8_write 13 = .ok (.aload_n 0, 1) := by decide +kernel
theorem dX8_write_14 : decode cX8_write 14 = .ok (.getfield 10, 3) := by decide +kernel
theorem dX8_write_17 : decode cX8_write 17 = .ok (.iload_n 1, 1) := by decide +kernel
theorem dX8_write_18 : decode cX8_write 18 = .ok (.invokevirtual 78, 3) := by decide +kernel
theorem dX8_write_21 : decode cX8_write 21 = .ok (.ifCond .eq 13, 3) := by decide +kernel
theorem dX8_write_24 : decode cX8_write 24 = .ok (.aload_n 0, 1) := by decide +kernel
theorem dX8_write_25 : decode cX8_write 25 = .ok (.getfield 10, 3) := by decide +kernel
theorem dX8_write_28 : decode cX8_write 28 = .ok (.invokevirtual 96, 3) := by decide +kernel
theorem dX8_write_31 : decode cX8_write 31 = .ok (.goto 5, 3) := by decide +kernel
theorem dX8_write_34 : decode cX8_write 34 = .ok (.bipush (-3), 2) := by decide +kernel
theorem dX8_write_36 : decode cX8_write 36 = .ok (.ireturn, 1) := by decide +kernel
theorem dX8_wipe_0 : decode cX8_wipe 0 = .ok (.aload_n 0, 1) := by decide +kernel
theorem dX8_wipe_1 : decode cX8_wipe 1 = .ok (.getfield 10, 3) := by decide +kernel
theorem dX8_wipe_4 : decode cX8_wipe 4 = .ok (.invokevirtual 96, 3) := by decide +kernel
theorem dX8_wipe_7 : decode cX8_wipe 7 = .ok (.istore_n 1, 1) := by decide +kernel
theorem dX8_wipe_8 : decode cX8_wipe 8 = .ok (.aload_n 0, 1) := by decide +kernel
theorem dX8_wipe_9 : decode cX8_wipe 9 = .ok (.getfield 10, 3) := by decide +kernel
theorem dX8_wipe_12 : decode cX8_wipe 12 = .ok (.invokevirtual 86, 3) := by decide +kernel
theorem dX8_wipe_15 : decode cX8_wipe 15 = .ok (.iload_n 1, 1) := by decide +kernel
theorem dX8_wipe_16 : decode cX8_wipe 16 = .ok (.ireturn, 1) := by decide +kernel
theorem dX8_fault_0 : decode cX8_fault 0 = .ok (.aload_n 0, 1) := by decide +kernel
theorem dX8_fault_1 : decode cX8_fault 1 = .ok (.getfield 23, 3) := by decide +kernel
theorem dX8_fault_4 : decode cX8_fault 4 = .ok (.aload_n 0, 1) := by decide +kernel
theorem dX8_fault_5 : decode cX8_fault 5 = .ok (.getfield 10, 3) := by decide +kernel
theorem dX8_fault_8 : decode cX8_fault 8 = .ok (.invokevirtual 82, 3) := by decide +kernel
theorem dX8_fault_11 : decode cX8_fault 11 = .ok (.ireturn, 1) := by decide +kernel
theorem dX8_laid_0 : decode cX8_laid 0 = .ok (.aload_n 0, 1) := by decide +kernel
theorem dX8_laid_1 : decode cX8_laid 1 = .ok (.getfield 23, 3) := by decide +kernel
theorem dX8_laid_4 : decode cX8_laid 4 = .ok (.aload_n 0, 1) := by decide +kernel
theorem dX8_laid_5 : decode cX8_laid 5 = .ok (.getfield 10, 3) := by decide +kernel
theorem dX8_laid_8 : decode cX8_laid 8 = .ok (.invokevirtual 82, 3) := by decide +kernel
theorem dX8_laid_11 : decode cX8_laid 11 = .ok (.bipush (-4), 2) := by decide +kernel
theorem dX8_laid_13 : decode cX8_laid 13 = .ok (.if_icmp .ne 13, 3) := by decide +kernel
theorem dX8_laid_16 : decode cX8_laid 16 = .ok (.aload_n 0, 1) := by decide +kernel
theorem dX8_laid_17 : decode cX8_laid 17 = .ok (.getfield 23, 3) := by decide +kernel
theorem dX8_laid_20 : decode cX8_laid 20 = .ok (.invokevirtual 99, 3) := by decide +kernel
theorem dX8_laid_23 : decode cX8_laid 23 = .ok (.ifCond .ne 6, 3) := by decide +kernel
theorem dX8_laid_26 : decode cX8_laid 26 = .ok (.bipush (-2), 2) := by decide +kernel
theorem dX8_laid_28 : decode cX8_laid 28 = .ok (.ireturn, 1) := by decide +kernel
theorem dX8_laid_29 : decode cX8_laid 29 = .ok (.aload_n 0, 1) := by decide +kernel
theorem dX8_laid_30 : decode cX8_laid 30 = .ok (.getfield 19, 3) := by decide +kernel
theorem dX8_laid_33 : decode cX8_laid 33 = .ok (.aload_n 0, 1) := by decide +kernel
theorem dX8_laid_34 : decode cX8_laid 34 = .ok (.getfield 10, 3) := by decide +kernel
theorem dX8_laid_37 : decode cX8_laid 37 = .ok (.invokevirtual 82, 3) := by decide +kernel
theorem dX8_laid_40 : decode cX8_laid 40 = .ok (.pop, 1) := by decide +kernel
theorem dX8_laid_41 : decode cX8_laid 41 = .ok (.aload_n 0, 1) := by decide +kernel
theorem dX8_laid_42 : decode cX8_laid 42 = .ok (.getfield 41, 3) := by decide +kernel
theorem dX8_laid_45 : decode cX8_laid 45 = .ok (.invokevirtual 102, 3) := by decide +kernel
theorem dX8_laid_48 : decode cX8_laid 48 = .ok (.aload_n 0, 1) := by decide +kernel
theorem dX8_laid_49 : decode cX8_laid 49 = .ok (.iconst 0, 1) := by decide +kernel
theorem dX8_laid_50 : decode cX8_laid 50 = .ok (.putfield 103, 3) := by decide +kernel
theorem dX8_laid_53 : decode cX8_laid 53 = .ok (.aload_n 0, 1) := by decide +kernel
theorem dX8_laid_54 : decode cX8_laid 54 = .ok (.getfield 52, 3) := by decide +kernel
theorem dX8_laid_57 : decode cX8_laid 57 = .ok (.invokevirtual 107, 3) := by decide +kernel
theorem dX8_laid_60 : decode cX8_laid 60 = .ok (.aload_n 0, 1) := by decide +kernel
theorem dX8_laid_61 : decode cX8_laid 61 = .ok (.getfield 31, 3) := by decide +kernel
theorem dX8_laid_64 : decode cX8_laid 64 = .ok (.invokevirtual 89, 3) := by decide +kernel
theorem dX8_laid_67 : decode cX8_laid 67 = .ok (.aload_n 0, 1) := by decide +kernel
theorem dX8_laid_68 : decode cX8_laid 68 = .ok (.getfield 19, 3) := by decide +kernel
theorem dX8_laid_71 : decode cX8_laid 71 = .ok (.invokevirtual 99, 3) := by decide +kernel
theorem dX8_laid_74 : decode cX8_laid 74 = .ok (.ireturn, 1) := by decide +kernel
theorem dX8_cell_0 : decode cX8_cell 0 = .ok (.aload_n 0, 1) := by decide +kernel
theorem dX8_cell_1 : decode cX8_cell 1 = .ok (.iload_n 1, 1) := by decide +kernel
theorem dX8_cell_2 : decode cX8_cell 2 = .ok (.invokevirtual 108, 3) := by decide +kernel
theorem dX8_cell_5 : decode cX8_cell 5 = .ok (.ifCond .ne 5, 3) := by decide +kernel
theorem dX8_cell_8 : decode cX8_cell 8 = .ok (.iconst (-1), 1) := by decide +kernel
theorem dX8_cell_9 : decode cX8_cell 9 = .ok (.ireturn, 1) := by decide +kernel
theorem dX8_cell_10 : decode cX8_cell 10 = .ok (.iload_n 2, 1) := by decide +kernel
theorem dX8_cell_11 : decode cX8_cell 11 = .ok (.tableswitch 52 0 2 #[25, 34, 43], 25) := by decide +kernel
theorem dX8_cell_36 : decode cX8_cell 36 = .ok (.aload_n 0, 1) := by decide +kernel
theorem dX8_cell_37 : decode cX8_cell 37 = .ok (.getfield 31, 3) := by decide +kernel
theorem dX8_cell_40 : decode cX8_cell 40 = .ok (.iload_n 1, 1) := by decide +kernel
theorem dX8_cell_41 : decode cX8_cell 41 = .ok (.invokevirtual 111, 3) := by decide +kernel
theorem dX8_cell_44 : decode cX8_cell 44 = .ok (.ireturn, 1) := by decide +kernel
theorem dX8_cell_45 : decode cX8_cell 45 = .ok (.aload_n 0, 1) := by decide +kernel
theorem dX8_cell_46 : decode cX8_cell 46 = .ok (.getfield 31, 3) := by decide +kernel
theorem dX8_cell_49 : decode cX8_cell 49 = .ok (.iload_n 1, 1) := by decide +kernel
theorem dX8_cell_50 : decode cX8_cell 50 = .ok (.invokevirtual 115, 3) := by decide +kernel
theorem dX8_cell_53 : decode cX8_cell 53 = .ok (.ireturn, 1) := by decide +kernel
theorem dX8_cell_54 : decode cX8_cell 54 = .ok (.aload_n 0, 1) := by decide +kernel
theorem dX8_cell_55 : decode cX8_cell 55 = .ok (.getfield 31, 3) := by decide +kernel
theorem dX8_cell_58 : decode cX8_cell 58 = .ok (.iload_n 1, 1) := by decide +kernel
theorem dX8_cell_59 : decode cX8_cell 59 = .ok (.invokevirtual 118, 3) := by decide +kernel
theorem dX8_cell_62 : decode cX8_cell 62 = .ok (.ireturn, 1) := by decide +kernel
theorem dX8_cell_63 : decode cX8_cell 63 = .ok (.iconst (-1), 1) := by decide +kernel
theorem dX8_cell_64 : decode cX8_cell 64 = .ok (.ireturn, 1) := by decide +kernel
theorem dX8_lake_0 : decode cX8_lake 0 = .ok (.iload_n 1, 1) := by decide +kernel
theorem dX8_lake_1 : decode cX8_lake 1 = .ok (.tableswitch 75 0 4 #[35, 43, 51, 59, 67], 35) := by decide +kernel
theorem dX8_lake_36 : decode cX8_lake 36 = .ok (.aload_n 0, 1) := by decide +kernel
theorem dX8_lake_37 : decode cX8_lake 37 = .ok (.getfield 31, 3) := by decide +kernel
theorem dX8_lake_40 : decode cX8_lake 40 = .ok (.invokevirtual 121, 3) := by decide +kernel
theorem dX8_lake_43 : decode cX8_lake 43 = .ok (.ireturn, 1) := by decide +kernel
theorem dX8_lake_44 : decode cX8_lake 44 = .ok (.aload_n 0, 1) := by decide +kernel
theorem dX8_lake_45 : decode cX8_lake 45 = .ok (.getfield 31, 3) := by decide +kernel
theorem dX8_lake_48 : decode cX8_lake 48 = .ok (.invokevirtual 124, 3) := by decide +kernel
theorem dX8_lake_51 : decode cX8_lake 51 = .ok (.ireturn, 1) := by decide +kernel
theorem dX8_lake_52 : decode cX8_lake 52 = .ok (.aload_n 0, 1) := by decide +kernel
theorem dX8_lake_53 : decode cX8_lake 53 = .ok (.getfield 31, 3) := by decide +kernel
theorem dX8_lake_56 : decode cX8_lake 56 = .ok (.invokevirtual 127, 3) := by decide +kernel
theorem dX8_lake_59 : decode cX8_lake 59 = .ok (.ireturn, 1) := by decide +kernel
theorem dX8_lake_60 : decode cX8_lake 60 = .ok (.aload_n 0, 1) := by decide +kernel
theorem dX8_lake_61 : decode cX8_lake 61 = .ok (.getfield 31, 3) := by decide +kernel
theorem dX8_lake_64 : decode cX8_lake 64 = .ok (.invokevirtual 130, 3) := by decide +kernel
theorem dX8_lake_67 : decode cX8_lake 67 = .ok (.ireturn, 1) := by decide +kernel
theorem dX8_lake_68 : decode cX8_lake 68 = .ok (.aload_n 0, 1) := by decide +kernel
theorem dX8_lake_69 : decode cX8_lake 69 = .ok (.getfield 31, 3) := by decide +kernel
theorem dX8_lake_72 : decode cX8_lake 72 = .ok (.invokevirtual 133, 3) := by decide +kernel
theorem dX8_lake_75 : decode cX8_lake 75 = .ok (.ireturn, 1) := by decide +kernel
theorem dX8_lake_76 : decode cX8_lake 76 = .ok (.iconst (-1), 1) := by decide +kernel
theorem dX8_lake_77 : decode cX8_lake 77 = .ok (.ireturn, 1) := by decide +kernel
theorem dX8_edge_0 : decode cX8_edge 0 = .ok (.iload_n 1, 1) := by decide +kernel
theorem dX8_edge_1 : decode cX8_edge 1 = .ok (.lookupswitch 43 #[(0, 27), (1, 35)], 27) := by decide +kernel
theorem dX8_edge_28 : decode cX8_edge 28 = .ok (.aload_n 0, 1) := by decide +kernel
theorem dX8_edge_29 : decode cX8_edge 29 = .ok (.getfield 31, 3) := by decide +kernel
theorem dX8_edge_32 : decode cX8_edge 32 = .ok (.invokevirtual 136, 3) := by decide +kernel
theorem dX8_edge_35 : decode cX8_edge 35 = .ok (.ireturn, 1) := by decide +kernel
theorem dX8_edge_36 : decode cX8_edge 36 = .ok (.aload_n 0, 1) := by decide +kernel
theorem dX8_edge_37 : decode cX8_edge 37 = .ok (.getfield 31, 3) := by decide +kernel
theorem dX8_edge_40 : decode cX8_edge 40 = .ok (.invokevirtual 139, 3) := by decide +kernel
theorem dX8_edge_43 : decode cX8_edge 43 = .ok (.ireturn, 1) := by decide +kernel
theorem dX8_edge_44 : decode cX8_edge 44 = .ok (.iconst (-1), 1) := by decide +kernel
theorem dX8_edge_45 : decode cX8_edge 45 = .ok (.ireturn, 1) := by decide +kernel
theorem dX8_comes_0 : decode cX8_comes 0 = .ok (.iload_n 1, 1) := by decide +kernel
theorem dX8_comes_1 : decode cX8_comes 1 = .ok (.iconst 1, 1) := by decide +kernel
theorem dX8_comes_2 : decode cX8_comes 2 = .ok (.sipush 999, 3) := by decide +kernel
theorem dX8_comes_5 : decode cX8_comes 5 = .ok (.invokestatic 92, 3) := by decide +kernel
theorem dX8_comes_8 : decode cX8_comes 8 = .ok (.ifCond .eq 17, 3) := by decide +kernel
theorem dX8_comes_11 : decode cX8_comes 11 = .ok (.aload_n 0, 1) := by decide +kernel
theorem dX8_comes_12 : decode cX8_comes 12 = .ok (.getfield 19, 3) := by decide +kernel
theorem dX8_comes_15 : decode cX8_comes 15 = .ok (.invokevirtual 142, 3) := by decide +kernel
theorem dX8_comes_18 : decode cX8_comes 18 = .ok (.iload_n 1, 1) := by decide +kernel
theorem dX8_comes_19 : decode cX8_comes 19 = .ok (.invokevirtual 146, 3) := by decide +kernel
theorem dX8_comes_22 : decode cX8_comes 22 = .ok (.goto 4, 3) := by decide +kernel
theorem dX8_comes_25 : decode cX8_comes 25 = .ok (.iconst (-1), 1) := by decide +kernel
theorem dX8_comes_26 : decode cX8_comes 26 = .ok (.ireturn, 1) := by decide +kernel
theorem dX8_put_0 : decode cX8_put 0 = .ok (.aload_n 0, 1) := by decide +kernel
theorem dX8_put_1 : decode cX8_put 1 = .ok (.iload_n 1, 1) := by decide +kernel
theorem dX8_put_2 : decode cX8_put 2 = .ok (.invokevirtual 108, 3) := by decide +kernel
theorem dX8_put_5 : decode cX8_put 5 = .ok (.ifCond .eq 20, 3) := by decide +kernel
theorem dX8_put_8 : decode cX8_put 8 = .ok (.iload_n 2, 1) := by decide +kernel
theorem dX8_put_9 : decode cX8_put 9 = .ok (.invokestatic 151, 3) := by decide +kernel
theorem dX8_put_12 : decode cX8_put 12 = .ok (.ifCond .eq 13, 3) := by decide +kernel
theorem dX8_put_15 : decode cX8_put 15 = .ok (.iload_n 3, 1) := by decide +kernel
theorem dX8_put_16 : decode cX8_put 16 = .ok (.iconst 1, 1) := by decide +kernel
theorem dX8_put_17 : decode cX8_put 17 = .ok (.bipush 9, 2) := by decide +kernel
theorem dX8_put_19 : decode cX8_put 19 = .ok (.invokestatic 92, 3) := by decide +kernel
theorem dX8_put_22 : decode cX8_put 22 = .ok (.ifCond .ne 5, 3) := by decide +kernel
theorem dX8_put_25 : decode cX8_put 25 = .ok (.iconst (-1), 1) := by decide +kernel
theorem dX8_put_26 : decode cX8_put 26 = .ok (.ireturn, 1) := by decide +kernel
theorem dX8_put_27 : decode cX8_put 27 = .ok (.aload_n 0, 1) := by decide +kernel
theorem dX8_put_28 : decode cX8_put 28 = .ok (.getfield 31, 3) := by decide +kernel
theorem dX8_put_31 : decode cX8_put 31 = .ok (.iload_n 1, 1) := by decide +kernel
theorem dX8_put_32 : decode cX8_put 32 = .ok (.iload_n 3, 1) := by decide +kernel
theorem dX8_put_33 : decode cX8_put 33 = .ok (.invokevirtual 154, 3) := by decide +kernel
theorem dX8_put_36 : decode cX8_put 36 = .ok (.ifCond .ne 6, 3) := by decide +kernel
theorem dX8_put_39 : decode cX8_put 39 = .ok (.bipush (-2), 2) := by decide +kernel
theorem dX8_put_41 : decode cX8_put 41 = .ok (.ireturn, 1) := by decide +kernel
theorem dX8_put_42 : decode cX8_put 42 = .ok (.aload_n 0, 1) := by decide +kernel
theorem dX8_put_43 : decode cX8_put 43 = .ok (.getfield 41, 3) := by decide +kernel
theorem dX8_put_46 : decode cX8_put 46 = .ok (.iconst 0, 1) := by decide +kernel
theorem dX8_put_47 : decode cX8_put 47 = .ok (.iload_n 1, 1) := by decide +kernel
theorem dX8_put_48 : decode cX8_put 48 = .ok (.iload_n 2, 1) := by decide +kernel
theorem dX8_put_49 : decode cX8_put 49 = .ok (.iload_n 3, 1) := by decide +kernel
theorem dX8_put_50 : decode cX8_put 50 = .ok (.invokevirtual 158, 3) := by decide +kernel
theorem dX8_put_53 : decode cX8_put 53 = .ok (.ifCond .ne 6, 3) := by decide +kernel
theorem dX8_put_56 : decode cX8_put 56 = .ok (.bipush (-3), 2) := by decide +kernel
theorem dX8_put_58 : decode cX8_put 58 = .ok (.ireturn, 1) := by decide +kernel
theorem dX8_put_59 : decode cX8_put 59 = .ok (.aload_n 0, 1) := by decide +kernel
theorem dX8_put_60 : decode cX8_put 60 = .ok (.getfield 31, 3) := by decide +kernel
theorem dX8_put_63 : decode cX8_put 63 = .ok (.iload_n 1, 1) := by decide +kernel
theorem dX8_put_64 : decode cX8_put 64 = .ok (.iload_n 2, 1) := by decide +kernel
theorem dX8_put_65 : decode cX8_put 65 = .ok (.iload_n 3, 1) := by decide +kernel
theorem dX8_put_66 : decode cX8_put 66 = .ok (.invokevirtual 161, 3) := by decide +kernel
theorem dX8_put_69 : decode cX8_put 69 = .ok (.aload_n 0, 1) := by decide +kernel
theorem dX8_put_70 : decode cX8_put 70 = .ok (.getfield 31, 3) := by decide +kernel
theorem dX8_put_73 : decode cX8_put 73 = .ok (.iload_n 1, 1) := by decide +kernel
theorem dX8_put_74 : decode cX8_put 74 = .ok (.invokevirtual 111, 3) := by decide +kernel
theorem dX8_put_77 : decode cX8_put 77 = .ok (.ireturn, 1) := by decide +kernel
theorem dX8_dig_0 : decode cX8_dig 0 = .ok (.aload_n 0, 1) := by decide +kernel
theorem dX8_dig_1 : decode cX8_dig 1 = .ok (.iload_n 1, 1) := by decide +kernel
theorem dX8_dig_2 : decode cX8_dig 2 = .ok (.invokevirtual 108, 3) := by decide +kernel
theorem dX8_dig_5 : decode cX8_dig 5 = .ok (.ifCond .eq 13, 3) := by decide +kernel
theorem dX8_dig_8 : decode cX8_dig 8 = .ok (.iload_n 2, 1) := by decide +kernel
theorem dX8_dig_9 : decode cX8_dig 9 = .ok (.iconst 1, 1) := by decide +kernel
theorem dX8_dig_10 : decode cX8_dig 10 = .ok (.bipush 9, 2) := by decide +kernel
theorem dX8_dig_12 : decode cX8_dig 12 = .ok (.invokestatic 92, 3) := by decide +kernel
theorem dX8_dig_15 : decode cX8_dig 15 = .ok (.ifCond .ne 5, 3) := by decide +kernel
theorem dX8_dig_18 : decode cX8_dig 18 = .ok (.iconst (-1), 1) := by decide +kernel
theorem dX8_dig_19 : decode cX8_dig 19 = .ok (.ireturn, 1) := by decide +kernel
theorem dX8_dig_20 : decode cX8_dig 20 = .ok (.aload_n 0, 1) := by decide +kernel
theorem dX8_dig_21 : decode cX8_dig 21 = .ok (.getfield 31, 3) := by decide +kernel
theorem dX8_dig_24 : decode cX8_dig 24 = .ok (.iload_n 1, 1) := by decide +kernel
theorem dX8_dig_25 : decode cX8_dig 25 = .ok (.iload_n 2, 1) := by decide +kernel
theorem dX8_dig_26 : decode cX8_dig 26 = .ok (.invokevirtual 165, 3) := by decide +kernel
theorem dX8_dig_29 : decode cX8_dig 29 = .ok (.ifCond .ne 6, 3) := by decide +kernel
theorem dX8_dig_32 : decode cX8_dig 32 = .ok (.bipush (-2), 2) := by decide +kernel
theorem dX8_dig_34 : decode cX8_dig 34 = .ok (.ireturn, 1) := by decide +kernel
theorem dX8_dig_35 : decode cX8_dig 35 = .ok (.aload_n 0, 1) := by decide +kernel
theorem dX8_dig_36 : decode cX8_dig 36 = .ok (.getfield 41, 3) := by decide +kernel
theorem dX8_dig_39 : decode cX8_dig 39 = .ok (.iconst 1, 1) := by decide +kernel
theorem dX8_dig_40 : decode cX8_dig 40 = .ok (.iload_n 1, 1) := by decide +kernel
theorem dX8_dig_41 : decode cX8_dig 41 = .ok (.iconst 0, 1) := by decide +kernel
theorem dX8_dig_42 : decode cX8_dig 42 = .ok (.iload_n 2, 1) := by decide +kernel
theorem dX8_dig_43 : decode cX8_dig 43 = .ok (.invokevirtual 158, 3) := by decide +kernel
theorem dX8_dig_46 : decode cX8_dig 46 = .ok (.ifCond .ne 6, 3) := by decide +kernel
theorem dX8_dig_49 : decode cX8_dig 49 = .ok (.bipush (-3), 2) := by decide +kernel
theorem dX8_dig_51 : decode cX8_dig 51 = .ok (.ireturn, 1) := by decide +kernel
theorem dX8_dig_52 : decode cX8_dig 52 = .ok (.aload_n 0, 1) := by decide +kernel
theorem dX8_dig_53 : decode cX8_dig 53 = .ok (.getfield 31, 3) := by decide +kernel
theorem dX8_dig_56 : decode cX8_dig 56 = .ok (.iload_n 1, 1) := by decide +kernel
theorem dX8_dig_57 : decode cX8_dig 57 = .ok (.iload_n 2, 1) := by decide +kernel
theorem dX8_dig_58 : decode cX8_dig 58 = .ok (.invokevirtual 168, 3) := by decide +kernel
theorem dX8_dig_61 : decode cX8_dig 61 = .ok (.aload_n 0, 1) := by decide +kernel
theorem dX8_dig_62 : decode cX8_dig 62 = .ok (.getfield 31, 3) := by decide +kernel
theorem dX8_dig_65 : decode cX8_dig 65 = .ok (.iload_n 1, 1) := by decide +kernel
theorem dX8_dig_66 : decode cX8_dig 66 = .ok (.invokevirtual 111, 3) := by decide +kernel
theorem dX8_dig_69 : decode cX8_dig 69 = .ok (.ireturn, 1) := by decide +kernel
theorem dX8_pass_0 : decode cX8_pass 0 = .ok (.iload_n 1, 1) := by decide +kernel
theorem dX8_pass_1 : decode cX8_pass 1 = .ok (.iconst 1, 1) := by decide +kernel
theorem dX8_pass_2 : decode cX8_pass 2 = .ok (.bipush 60, 2) := by decide +kernel
theorem dX8_pass_4 : decode cX8_pass 4 = .ok (.invokestatic 92, 3) := by decide +kernel
theorem dX8_pass_7 : decode cX8_pass 7 = .ok (.ifCond .ne 5, 3) := by decide +kernel
theorem dX8_pass_10 : decode cX8_pass 10 = .ok (.iconst (-1), 1) := by decide +kernel
theorem dX8_pass_11 : decode cX8_pass 11 = .ok (.ireturn, 1) := by decide +kernel
theorem dX8_pass_12 : decode cX8_pass 12 = .ok (.aload_n 0, 1) := by decide +kernel
theorem dX8_pass_13 : decode cX8_pass 13 = .ok (.getfield 31, 3) := by decide +kernel
theorem dX8_pass_16 : decode cX8_pass 16 = .ok (.iload_n 1, 1) := by decide +kernel
theorem dX8_pass_17 : decode cX8_pass 17 = .ok (.invokevirtual 172, 3) := by decide +kernel
theorem dX8_pass_20 : decode cX8_pass 20 = .ok (.ifCond .ne 6, 3) := by decide +kernel
theorem dX8_pass_23 : decode cX8_pass 23 = .ok (.bipush (-2), 2) := by decide +kernel
theorem dX8_pass_25 : decode cX8_pass 25 = .ok (.ireturn, 1) := by decide +kernel
theorem dX8_pass_26 : decode cX8_pass 26 = .ok (.aload_n 0, 1) := by decide +kernel
theorem dX8_pass_27 : decode cX8_pass 27 = .ok (.getfield 41, 3) := by decide +kernel
theorem dX8_pass_30 : decode cX8_pass 30 = .ok (.iconst 2, 1) := by decide +kernel
theorem dX8_pass_31 : decode cX8_pass 31 = .ok (.iconst 0, 1) := by decide +kernel
theorem dX8_pass_32 : decode cX8_pass 32 = .ok (.iconst 0, 1) := by decide +kernel
theorem dX8_pass_33 : decode cX8_pass 33 = .ok (.iload_n 1, 1) := by decide +kernel
theorem dX8_pass_34 : decode cX8_pass 34 = .ok (.invokevirtual 158, 3) := by decide +kernel
theorem dX8_pass_37 : decode cX8_pass 37 = .ok (.ifCond .ne 6, 3) := by decide +kernel
theorem dX8_pass_40 : decode cX8_pass 40 = .ok (.bipush (-3), 2) := by decide +kernel
theorem dX8_pass_42 : decode cX8_pass 42 = .ok (.ireturn, 1) := by decide +kernel
theorem dX8_pass_43 : decode cX8_pass 43 = .ok (.aload_n 0, 1) := by decide +kernel
theorem dX8_pass_44 : decode cX8_pass 44 = .ok (.getfield 31, 3) := by decide +kernel
theorem dX8_pass_47 : decode cX8_pass 47 = .ok (.iload_n 1, 1) := by decide +kernel
theorem dX8_pass_48 : decode cX8_pass 48 = .ok (.iconst 0, 1) := by decide +kernel
theorem dX8_pass_49 : decode cX8_pass 49 = .ok (.invokevirtual 175, 3) := by decide +kernel
theorem dX8_pass_52 : decode cX8_pass 52 = .ok (.aload_n 0, 1) := by decide +kernel
theorem dX8_pass_53 : decode cX8_pass 53 = .ok (.getfield 31, 3) := by decide +kernel
theorem dX8_pass_56 : decode cX8_pass 56 = .ok (.invokevirtual 121, 3) := by decide +kernel
theorem dX8_pass_59 : decode cX8_pass 59 = .ok (.ireturn, 1) := by decide +kernel
theorem dX8_undo_0 : decode cX8_undo 0 = .ok (.aload_n 0, 1) := by decide +kernel
theorem dX8_undo_1 : decode cX8_undo 1 = .ok (.getfield 41, 3) := by decide +kernel
theorem dX8_undo_4 : decode cX8_undo 4 = .ok (.invokevirtual 178, 3) := by decide +kernel
theorem dX8_undo_7 : decode cX8_undo 7 = .ok (.ifCond .ne 6, 3) := by decide +kernel
theorem dX8_undo_10 : decode cX8_undo 10 = .ok (.bipush (-2), 2) := by decide +kernel
theorem dX8_undo_12 : decode cX8_undo 12 = .ok (.ireturn, 1) := by decide +kernel
theorem dX8_undo_13 : decode cX8_undo 13 = .ok (.aload_n 0, 1) := by decide +kernel
theorem dX8_undo_14 : decode cX8_undo 14 = .ok (.getfield 41, 3) := by decide +kernel
theorem dX8_undo_17 : decode cX8_undo 17 = .ok (.invokevirtual 179, 3) := by decide +kernel
theorem dX8_undo_20 : decode cX8_undo 20 = .ok (.aload_n 0, 1) := by decide +kernel
theorem dX8_undo_21 : decode cX8_undo 21 = .ok (.getfield 41, 3) := by decide +kernel
theorem dX8_undo_24 : decode cX8_undo 24 = .ok (.bipush (-4), 2) := by decide +kernel
theorem dX8_undo_26 : decode cX8_undo 26 = .ok (.aload_n 0, 1) := by decide +kernel
theorem dX8_undo_27 : decode cX8_undo 27 = .ok (.getfield 31, 3) := by decide +kernel
theorem dX8_undo_30 : decode cX8_undo 30 = .ok (.invokevirtual 182, 3) := by decide +kernel
theorem dX8_undo_33 : decode cX8_undo 33 = .ok (.aload_n 0, 1) := by decide +kernel
theorem dX8_undo_34 : decode cX8_undo 34 = .ok (.getfield 41, 3) := by decide +kernel
theorem dX8_undo_37 : decode cX8_undo 37 = .ok (.invokevirtual 178, 3) := by decide +kernel
theorem dX8_undo_40 : decode cX8_undo 40 = .ok (.ireturn, 1) := by decide +kernel
theorem dX8_behind_0 : decode cX8_behind 0 = .ok (.iload_n 1, 1) := by decide +kernel
theorem dX8_behind_1 : decode cX8_behind 1 = .ok (.iconst 0, 1) := by decide +kernel
theorem dX8_behind_2 : decode cX8_behind 2 = .ok (.sipush 200, 3) := by decide +kernel
theorem dX8_behind_5 : decode cX8_behind 5 = .ok (.invokestatic 92, 3) := by decide +kernel
theorem dX8_behind_8 : decode cX8_behind 8 = .ok (.ifCond .eq 12, 3) := by decide +kernel
theorem dX8_behind_11 : decode cX8_behind 11 = .ok (.iload_n 2, 1) := by decide +kernel
theorem dX8_behind_12 : decode cX8_behind 12 = .ok (.iconst 0, 1) := by decide +kernel
theorem dX8_behind_13 : decode cX8_behind 13 = .ok (.iconst 2, 1) := by decide +kernel
theorem dX8_behind_14 : decode cX8_behind 14 = .ok (.invokestatic 92, 3) := by decide +kernel
theorem dX8_behind_17 : decode cX8_behind 17 = .ok (.ifCond .ne 5, 3) := by decide +kernel
theorem dX8_behind_20 : decode cX8_behind 20 = .ok (.iconst (-1), 1) := by decide +kernel
theorem dX8_behind_21 : decode cX8_behind 21 = .ok (.ireturn, 1) := by decide +kernel
theorem dX8_behind_22 : decode cX8_behind 22 = .ok (.aload_n 0, 1) := by decide +kernel
theorem dX8_behind_23 : decode cX8_behind 23 = .ok (.getfield 35, 3) := by decide +kernel
theorem dX8_behind_26 : decode cX8_behind 26 = .ok (.aload_n 0, 1) := by decide +kernel
theorem dX8_behind_27 : decode cX8_behind 27 = .ok (.getfield 31, 3) := by decide +kernel
theorem dX8_behind_30 : decode cX8_behind 30 = .ok (.invokevirtual 186, 3) := by decide +kernel
theorem dX8_behind_33 : decode cX8_behind 33 = .ok (.aload_n 0, 1) := by decide +kernel
theorem dX8_behind_34 : decode cX8_behind 34 = .ok (.getfield 35, 3) := by decide +kernel
theorem dX8_behind_37 : decode cX8_behind 37 = .ok (.iload_n 1, 1) := by decide +kernel
theorem dX8_behind_38 : decode cX8_behind 38 = .ok (.iconst 0, 1) := by decide +kernel
theorem dX8_behind_39 : decode cX8_behind 39 = .ok (.invokevirtual 175, 3) := by decide +kernel
theorem dX8_behind_42 : decode cX8_behind 42 = .ok (.iload_n 2, 1) := by decide +kernel
theorem dX8_behind_43 : decode cX8_behind 43 = .ok (.lookupswitch 41 #[(0, 25), (1, 33)], 25) := by decide +kernel
theorem dX8_behind_68 : decode cX8_behind 68 = .ok (.aload_n 0, 1) := by decide +kernel
theorem dX8_behind_69 : decode cX8_behind 69 = .ok (.getfield 35, 3) := by decide +kernel
theorem dX8_behind_72 : decode cX8_behind 72 = .ok (.invokevirtual 121, 3) := by decide +kernel
theorem dX8_behind_75 : decode cX8_behind 75 = .ok (.ireturn, 1) := by decide +kernel
theorem dX8_behind_76 : decode cX8_behind 76 = .ok (.aload_n 0, 1) := by decide +kernel
theorem dX8_behind_77 : decode cX8_behind 77 = .ok (.getfield 35, 3) := by decide +kernel
theorem dX8_behind_80 : decode cX8_behind 80 = .ok (.invokevirtual 124, 3) := by decide +kernel
theorem dX8_behind_83 : decode cX8_behind 83 = .ok (.ireturn, 1) := by decide +kernel
theorem dX8_behind_84 : decode cX8_behind 84 = .ok (.aload_n 0, 1) := by decide +kernel
theorem dX8_behind_85 : decode cX8_behind 85 = .ok (.getfield 35, 3) := by decide +kernel
theorem dX8_behind_88 : decode cX8_behind 88 = .ok (.invokevirtual 130, 3) := by decide +kernel
theorem dX8_behind_91 : decode cX8_behind 91 = .ok (.aload_n 0, 1) := by decide +kernel
theorem dX8_behind_92 : decode cX8_behind 92 = .ok (.getfield 31, 3) := by decide +kernel
theorem dX8_behind_95 : decode cX8_behind 95 = .ok (.invokevirtual 130, 3) := by decide +kernel
theorem dX8_behind_98 : decode cX8_behind 98 = .ok (.isub, 1) := by decide +kernel
theorem dX8_behind_99 : decode cX8_behind 99 = .ok (.ireturn, 1) := by decide +kernel
theorem dX8_worn_0 : decode cX8_worn 0 = .ok (.aload_n 0, 1) := by decide +kernel
theorem dX8_worn_1 : decode cX8_worn 1 = .ok (.iload_n 1, 1) := by decide +kernel
theorem dX8_worn_2 : decode cX8_worn 2 = .ok (.invokevirtual 108, 3) := by decide +kernel
theorem dX8_worn_5 : decode cX8_worn 5 = .ok (.ifCond .eq 14, 3) := by decide +kernel
theorem dX8_worn_8 : decode cX8_worn 8 = .ok (.iload_n 2, 1) := by decide +kernel
theorem dX8_worn_9 : decode cX8_worn 9 = .ok (.iconst 0, 1) := by decide +kernel
theorem dX8_worn_10 : decode cX8_worn 10 = .ok (.sipush 200, 3) := by decide +kernel
theorem dX8_worn_13 : decode cX8_worn 13 = .ok (.invokestatic 92, 3) := by decide +kernel
theorem dX8_worn_16 : decode cX8_worn 16 = .ok (.ifCond .ne 5, 3) := by decide +kernel
theorem dX8_worn_19 : decode cX8_worn 19 = .ok (.iconst (-1), 1) := by decide +kernel
theorem dX8_worn_20 : decode cX8_worn 20 = .ok (.ireturn, 1) := by decide +kernel
theorem dX8_worn_21 : decode cX8_worn 21 = .ok (.aload_n 0, 1) := by decide +kernel
theorem dX8_worn_22 : decode cX8_worn 22 = .ok (.getfield 35, 3) := by decide +kernel
theorem dX8_worn_25 : decode cX8_worn 25 = .ok (.aload_n 0, 1) := by decide +kernel
theorem dX8_worn_26 : decode cX8_worn 26 = .ok (.getfield 31, 3) := by decide +kernel
theorem dX8_worn_29 : decode cX8_worn 29 = .ok (.invokevirtual 186, 3) := by decide +kernel
theorem dX8_worn_32 : decode cX8_worn 32 = .ok (.aload_n 0, 1) := by decide +kernel
theorem dX8_worn_33 : decode cX8_worn 33 = .ok (.getfield 35, 3) := by decide +kernel
theorem dX8_worn_36 : decode cX8_worn 36 = .ok (.iload_n 2, 1) := by decide +kernel
theorem dX8_worn_37 : decode cX8_worn 37 = .ok (.iconst 0, 1) := by decide +kernel
theorem dX8_worn_38 : decode cX8_worn 38 = .ok (.invokevirtual 175, 3) := by decide +kernel
theorem dX8_worn_41 : decode cX8_worn 41 = .ok (.aload_n 0, 1) := by decide +kernel
theorem dX8_worn_42 : decode cX8_worn 42 = .ok (.getfield 35, 3) := by decide +kernel
theorem dX8_worn_45 : decode cX8_worn 45 = .ok (.iload_n 1, 1) := by decide +kernel
theorem dX8_worn_46 : decode cX8_worn 46 = .ok (.invokevirtual 111, 3) := by decide +kernel
theorem dX8_worn_49 : decode cX8_worn 49 = .ok (.ireturn, 1) := by decide +kernel
theorem dX8_over_0 : decode cX8_over 0 = .ok (.iload_n 1, 1) := by decide +kernel
theorem dX8_over_1 : decode cX8_over 1 = .ok (.iconst 0, 1) := by decide +kernel
theorem dX8_over_2 : decode cX8_over 2 = .ok (.iconst 1, 1) := by decide +kernel
theorem dX8_over_3 : decode cX8_over 3 = .ok (.invokestatic 92, 3) := by decide +kernel
theorem dX8_over_6 : decode cX8_over 6 = .ok (.ifCond .ne 5, 3) := by decide +kernel
theorem dX8_over_9 : decode cX8_over 9 = .ok (.iconst (-1), 1) := by decide +kernel
theorem dX8_over_10 : decode cX8_over 10 = .ok (.ireturn, 1) := by decide +kernel
theorem dX8_over_11 : decode cX8_over 11 = .ok (.aload_n 0, 1) := by decide +kernel
theorem dX8_over_12 : decode cX8_over 12 = .ok (.getfield 35, 3) := by decide +kernel
theorem dX8_over_15 : decode cX8_over 15 = .ok (.aload_n 0, 1) := by decide +kernel
theorem dX8_over_16 : decode cX8_over 16 = .ok (.getfield 31, 3) := by decide +kernel
theorem dX8_over_19 : decode cX8_over 19 = .ok (.invokevirtual 186, 3) := by decide +kernel
theorem dX8_over_22 : decode cX8_over 22 = .ok (.aload_n 0, 1) := by decide +kernel
theorem dX8_over_23 : decode cX8_over 23 = .ok (.getfield 35, 3) := by decide +kernel
theorem dX8_over_26 : decode cX8_over 26 = .ok (.invokevirtual 190, 3) := by decide +kernel
theorem dX8_over_29 : decode cX8_over 29 = .ok (.istore_n 2, 1) := by decide +kernel
theorem dX8_over_30 : decode cX8_over 30 = .ok (.iload_n 2, 1) := by decide +kernel
theorem dX8_over_31 : decode cX8_over 31 = .ok (.bipush (-4), 2) := by decide +kernel
theorem dX8_over_33 : decode cX8_over 33 = .ok (.if_icmp .eq 7, 3) := by decide +kernel
theorem dX8_over_36 : decode cX8_over 36 = .ok (.iload_n 1, 1) := by decide +kernel
theorem dX8_over_37 : decode cX8_over 37 = .ok (.ifCond .ne 7, 3) := by decide +kernel
theorem dX8_over_40 : decode cX8_over 40 = .ok (.iload_n 2, 1) := by decide +kernel
theorem dX8_over_41 : decode cX8_over 41 = .ok (.goto 10, 3) := by decide +kernel
theorem dX8_over_44 : decode cX8_over 44 = .ok (.aload_n 0, 1) := by decide +kernel
theorem dX8_over_45 : decode cX8_over 45 = .ok (.getfield 35, 3) := by decide +kernel
theorem dX8_over_48 : decode cX8_over 48 = .ok (.invokevirtual 193, 3) := by decide +kernel
theorem dX8_over_51 : decode cX8_over 51 = .ok (.ireturn, 1) := by decide +kernel
theorem dX8_gone_0 : decode cX8_gone 0 = .ok (.iload_n 1, 1) := by decide +kernel
theorem dX8_gone_1 : decode cX8_gone 1 = .ok (.iconst 0, 1) := by decide +kernel
theorem dX8_gone_2 : decode cX8_gone 2 = .ok (.iconst 1, 1) := by decide +kernel
theorem dX8_gone_3 : decode cX8_gone 3 = .ok (.invokestatic 92, 3) := by decide +kernel
theorem dX8_gone_6 : decode cX8_gone 6 = .ok (.ifCond .ne 5, 3) := by decide +kernel
theorem dX8_gone_9 : decode cX8_gone 9 = .ok (.iconst (-1), 1) := by decide +kernel
theorem dX8_gone_10 : decode cX8_gone 10 = .ok (.ireturn, 1) := by decide +kernel
theorem dX8_gone_11 : decode cX8_gone 11 = .ok (.aload_n 0, 1) := by decide +kernel
theorem dX8_gone_12 : decode cX8_gone 12 = .ok (.getfield 35, 3) := by decide +kernel
theorem dX8_gone_15 : decode cX8_gone 15 = .ok (.aload_n 0, 1) := by decide +kernel
theorem dX8_gone_16 : decode cX8_gone 16 = .ok (.getfield 31, 3) := by decide +kernel
theorem dX8_gone_19 : decode cX8_gone 19 = .ok (.invokevirtual 186, 3) := by decide +kernel
theorem dX8_gone_22 : decode cX8_gone 22 = .ok (.aload_n 0, 1) := by decide +kernel
theorem dX8_gone_23 : decode cX8_gone 23 = .ok (.getfield 35, 3) := by decide +kernel
theorem dX8_gone_26 : decode cX8_gone 26 = .ok (.invokevirtual 196, 3) := by decide +kernel
theorem dX8_gone_29 : decode cX8_gone 29 = .ok (.istore_n 2, 1) := by decide +kernel
theorem dX8_gone_30 : decode cX8_gone 30 = .ok (.iload_n 2, 1) := by decide +kernel
theorem dX8_gone_31 : decode cX8_gone 31 = .ok (.bipush (-4), 2) := by decide +kernel
theorem dX8_gone_33 : decode cX8_gone 33 = .ok (.if_icmp .eq 7, 3) := by decide +kernel
theorem dX8_gone_36 : decode cX8_gone 36 = .ok (.iload_n 1, 1) := by decide +kernel
theorem dX8_gone_37 : decode cX8_gone 37 = .ok (.ifCond .ne 7, 3) := by decide +kernel
theorem dX8_gone_40 : decode cX8_gone 40 = .ok (.iload_n 2, 1) := by decide +kernel
theorem dX8_gone_41 : decode cX8_gone 41 = .ok (.goto 10, 3) := by decide +kernel
theorem dX8_gone_44 : decode cX8_gone 44 = .ok (.aload_n 0, 1) := by decide +kernel
theorem dX8_gone_45 : decode cX8_gone 45 = .ok (.getfield 35, 3) := by decide +kernel
theorem dX8_gone_48 : decode cX8_gone 48 = .ok (.invokevirtual 199, 3) := by decide +kernel
theorem dX8_gone_51 : decode cX8_gone 51 = .ok (.ireturn, 1) := by decide +kernel
theorem dX8_best_0 : decode cX8_best 0 = .ok (.iload_n 1, 1) := by decide +kernel
theorem dX8_best_1 : decode cX8_best 1 = .ok (.iconst 1, 1) := by decide +kernel
theorem dX8_best_2 : decode cX8_best 2 = .ok (.iconst 5, 1) := by decide +kernel
theorem dX8_best_3 : decode cX8_best 3 = .ok (.invokestatic 92, 3) := by decide +kernel
theorem dX8_best_6 : decode cX8_best 6 = .ok (.ifCond .eq 38, 3) := by decide +kernel
theorem dX8_best_9 : decode cX8_best 9 = .ok (.iload_n 2, 1) := by decide +kernel
theorem dX8_best_10 : decode cX8_best 10 = .ok (.invokestatic 151, 3) := by decide +kernel
theorem dX8_best_13 : decode cX8_best 13 = .ok (.ifCond .eq 31, 3) := by decide +kernel
theorem dX8_best_16 : decode cX8_best 16 = .ok (.iload_n 3, 1) := by decide +kernel
theorem dX8_best_17 : decode cX8_best 17 = .ok (.iconst 1, 1) := by decide +kernel
theorem dX8_best_18 : decode cX8_best 18 = .ok (.bipush 60, 2) := by decide +kernel
theorem dX8_best_20 : decode cX8_best 20 = .ok (.invokestatic 92, 3) := by decide +kernel
theorem dX8_best_23 : decode cX8_best 23 = .ok (.ifCond .eq 21, 3) := by decide +kernel
theorem dX8_best_26 : decode cX8_best 26 = .ok (.iload 4, 2) := by decide +kernel
theorem dX8_best_28 : decode cX8_best 28 = .ok (.iconst (-1), 1) := by decide +kernel
theorem dX8_best_29 : decode cX8_best 29 = .ok (.aload_n 0, 1) := by decide +kernel
theorem dX8_best_30 : decode cX8_best 30 = .ok (.getfield 19, 3) := by decide +kernel
theorem dX8_best_33 : decode cX8_best 33 = .ok (.invokevirtual 99, 3) := by decide +kernel
theorem dX8_best_36 : decode cX8_best 36 = .ok (.iconst 1, 1) := by decide +kernel
theorem dX8_best_37 : decode cX8_best 37 = .ok (.isub, 1) := by decide +kernel
theorem dX8_best_38 : decode cX8_best 38 = .ok (.invokestatic 92, 3) := by decide +kernel
theorem dX8_best_41 : decode cX8_best 41 = .ok (.ifCond .ne 5, 3) := by decide +kernel
theorem dX8_best_44 : decode cX8_best 44 = .ok (.iconst (-1), 1) := by decide +kernel
theorem dX8_best_45 : decode cX8_best 45 = .ok (.ireturn, 1) := by decide +kernel
theorem dX8_best_46 : decode cX8_best 46 = .ok (.aload_n 0, 1) := by decide +kernel
theorem dX8_best_47 : decode cX8_best 47 = .ok (.iload_n 1, 1) := by decide +kernel
theorem dX8_best_48 : decode cX8_best 48 = .ok (.iload_n 2, 1) := by decide +kernel
theorem dX8_best_49 : decode cX8_best 49 = .ok (.iload_n 3, 1) := by decide +kernel
theorem dX8_best_50 : decode cX8_best 50 = .ok (.invokevirtual 202, 3) := by decide +kernel
theorem dX8_best_53 : decode cX8_best 53 = .ok (.istore 5, 2) := by decide +kernel
theorem dX8_best_55 : decode cX8_best 55 = .ok (.iload 5, 2) := by decide +kernel
theorem dX8_best_57 : decode cX8_best 57 = .ok (.bipush (-4), 2) := by decide +kernel
theorem dX8_best_59 : decode cX8_best 59 = .ok (.if_icmp .eq 9, 3) := by decide +kernel
theorem dX8_best_62 : decode cX8_best 62 = .ok (.iload 4, 2) := by decide +kernel
theorem dX8_best_64 : decode cX8_best 64 = .ok (.iconst (-1), 1) := by decide +kernel
theorem dX8_best_65 : decode cX8_best 65 = .ok (.if_icmp .ne 8, 3) := by decide +kernel
theorem dX8_best_68 : decode cX8_best 68 = .ok (.iload 5, 2) := by decide +kernel
theorem dX8_best_70 : decode cX8_best 70 = .ok (.goto 12, 3) := by decide +kernel
theorem dX8_best_73 : decode cX8_best 73 = .ok (.aload_n 0, 1) := by decide +kernel
theorem dX8_best_74 : decode cX8_best 74 = .ok (.getfield 63, 3) := by decide +kernel
theorem dX8_best_77 : decode cX8_best 77 = .ok (.iload 4, 2) := by decide +kernel
theorem dX8_best_79 : decode cX8_best 79 = .ok (.invokevirtual 206, 3) := by decide +kernel
theorem dX8_best_82 : decode cX8_best 82 = .ok (.ireturn, 1) := by decide +kernel
theorem dX8_findBestShares_0 : decode cX8_findBestShares 0 = .ok (.bipush (-4), 2) := by decide +kernel
theorem dX8_findBestShares_2 : decode cX8_findBestShares 2 = .ok (.istore 4, 2) := by decide +kernel
theorem dX8_findBestShares_4 : decode cX8_findBestShares 4 = .ok (.iconst 1, 1) := by decide +kernel
theorem dX8_findBestShares_5 : decode cX8_findBestShares 5 = .ok (.istore 5, 2) := by decide +kernel
theorem dX8_findBestShares_7 : decode cX8_findBestShares 7 = .ok (.aload_n 0, 1) := by decide +kernel
theorem dX8_findBestShares_8 : decode cX8_findBestShares 8 = .ok (.getfield 59, 3) := by decide +kernel
theorem dX8_findBestShares_11 : decode cX8_findBestShares 11 = .ok (.iload_n 1, 1) := by decide +kernel
theorem dX8_findBestShares_12 : decode cX8_findBestShares 12 = .ok (.aload_n 0, 1) := by decide +kernel
theorem dX8_findBestShares_13 : decode cX8_findBestShares 13 = .ok (.getfield 19, 3) := by decide +kernel
theorem dX8_findBestShares_16 : decode cX8_findBestShares 16 = .ok (.invokevirtual 99, 3) := by decide +kernel
theorem dX8_findBestShares_19 : decode cX8_findBestShares 19 = .ok (.invokevirtual 209, 3) := by decide +kernel
theorem dX8_findBestShares_22 : decode cX8_findBestShares 22 = .ok (.iconst 0, 1) := by decide +kernel
theorem dX8_findBestShares_23 : decode cX8_findBestShares 23 = .ok (.istore 6, 2) := by decide +kernel
theorem dX8_findBestShares_25 : decode cX8_findBestShares 25 = .ok (.iload 6, 2) := by decide +kernel
theorem dX8_findBestShares_27 : decode cX8_findBestShares 27 = .ok (.sipush 1000, 3) := by decide +kernel
theorem dX8_findBestShares_30 : decode cX8_findBestShares 30 = .ok (.if_icmp .ge 53, 3) := by decide +kernel
theorem dX8_findBestShares_33 : decode cX8_findBestShares 33 = .ok (.iload 5, 2) := by decide +kernel
theorem dX8_findBestShares_35 : decode cX8_findBestShares 35 = .ok (.ifCond .eq 48, 3) := by decide +kernel
theorem dX8_findBestShares_38 : decode cX8_findBestShares 38 = .ok (.aload_n 0, 1) := by decide +kernel
theorem dX8_findBestShares_39 : decode cX8_findBestShares 39 = .ok (.iload_n 2, 1) := by decide +kernel
theorem dX8_findBestShares_40 : decode cX8_findBestShares 40 = .ok (.iload_n 3, 1) := by decide +kernel
theorem dX8_findBestShares_41 : decode cX8_findBestShares 41 = .ok (.invokevirtual 212, 3) := by decide +kernel
theorem dX8_findBestShares_44 : decode cX8_findBestShares 44 = .ok (.istore 7, 2) := by decide +kernel
theorem dX8_findBestShares_46 : decode cX8_findBestShares 46 = .ok (.iload 7, 2) := by decide +kernel
theorem dX8_findBestShares_48 : decode cX8_findBestShares 48 = .ok (.iload 4, 2) := by decide +kernel
theorem dX8_findBestShares_50 : decode cX8_findBestShares 50 = .ok (.if_icmp .le 18, 3) := by decide +kernel
theorem dX8_findBestShares_53 : decode cX8_findBestShares 53 = .ok (.iload 7, 2) := by decide +kernel
theorem dX8_findBestShares_55 : decode cX8_findBestShares 55 = .ok (.istore 4, 2) := by decide +kernel
theorem dX8_findBestShares_57 : decode cX8_findBestShares 57 = .ok (.aload_n 0, 1) := by decide +kernel
theorem dX8_findBestShares_58 : decode cX8_findBestShares 58 = .ok (.getfield 63, 3) := by decide +kernel
theorem dX8_findBestShares_61 : decode cX8_findBestShares 61 = .ok (.aload_n 0, 1) := by decide +kernel
theorem dX8_findBestShares_62 : decode cX8_findBestShares 62 = .ok (.getfield 59, 3) := by decide +kernel
theorem dX8_findBestShares_65 : decode cX8_findBestShares 65 = .ok (.invokevirtual 216, 3) := by decide +kernel
theorem dX8_findBestShares_68 : decode cX8_findBestShares 68 = .ok (.aload_n 0, 1) := by decide +kernel
theorem dX8_findBestShares_69 : decode cX8_findBestShares 69 = .ok (.getfield 59, 3) := by decide +kernel
theorem dX8_findBestShares_72 : decode cX8_findBestShares 72 = .ok (.invokevirtual 219, 3) := by decide +kernel
theorem dX8_findBestShares_75 : decode cX8_findBestShares 75 = .ok (.istore 5, 2) := by decide +kernel
theorem dX8_findBestShares_77 : decode cX8_findBestShares 77 = .ok (.iinc 6 1, 3) := by decide +kernel
theorem dX8_findBestShares_80 : decode cX8_findBestShares 80 = .ok (.goto (-55), 3) := by decide +kernel
theorem dX8_findBestShares_83 : decode cX8_findBestShares 83 = .ok (.iload 4, 2) := by decide +kernel
theorem dX8_findBestShares_85 : decode cX8_findBestShares 85 = .ok (.ireturn, 1) := by decide +kernel
theorem dX8_waterWithShares_0 : decode cX8_waterWithShares 0 = .ok (.aload_n 0, 1) := by decide +kernel
theorem dX8_waterWithShares_1 : decode cX8_waterWithShares 1 = .ok (.getfield 35, 3) := by decide +kernel
theorem dX8_waterWithShares_4 : decode cX8_waterWithShares 4 = .ok (.aload_n 0, 1) := by decide +kernel
theorem dX8_waterWithShares_5 : decode cX8_waterWithShares 5 = .ok (.getfield 31, 3) := by decide +kernel
theorem dX8_waterWithShares_8 : decode cX8_waterWithShares 8 = .ok (.invokevirtual 186, 3) := by decide +kernel
theorem dX8_waterWithShares_11 : decode cX8_waterWithShares 11 = .ok (.iconst 0, 1) := by decide +kernel
theorem dX8_waterWithShares_12 : decode cX8_waterWithShares 12 = .ok (.istore_n 3, 1) := by decide +kernel
theorem dX8_waterWithShares_13 : decode cX8_waterWithShares 13 = .ok (.iload_n 3, 1) := by decide +kernel
theorem dX8_waterWithShares_14 : decode cX8_waterWithShares 14 = .ok (.aload_n 0, 1) := by decide +kernel
theorem dX8_waterWithShares_15 : decode cX8_waterWithShares 15 = .ok (.getfield 19, 3) := by decide +kernel
theorem dX8_waterWithShares_18 : decode cX8_waterWithShares 18 = .ok (.invokevirtual 99, 3) := by decide +kernel
theorem dX8_waterWithShares_21 : decode cX8_waterWithShares 21 = .ok (.if_icmp .ge 51, 3) := by decide +kernel
theorem dX8_waterWithShares_24 : decode cX8_waterWithShares 24 = .ok (.aload_n 0, 1) := by decide +kernel
theorem dX8_waterWithShares_25 : decode cX8_waterWithShares 25 = .ok (.getfield 59, 3) := by decide +kernel
theorem dX8_waterWithShares_28 : decode cX8_waterWithShares 28 = .ok (.iload_n 3, 1) := by decide +kernel
theorem dX8_waterWithShares_29 : decode cX8_waterWithShares 29 = .ok (.invokevirtual 206, 3) := by decide +kernel
theorem dX8_waterWithShares_32 : decode cX8_waterWithShares 32 = .ok (.istore 4, 2) := by decide +kernel
theorem dX8_waterWithShares_34 : decode cX8_waterWithShares 34 = .ok (.iload 4, 2) := by decide +kernel
theorem dX8_waterWithShares_36 : decode cX8_waterWithShares 36 = .ok (.ifCond .le 30, 3) := by decide +kernel
theorem dX8_waterWithShares_39 : decode cX8_waterWithShares 39 = .ok (.aload_n 0, 1) := by decide +kernel
theorem dX8_waterWithShares_40 : decode cX8_waterWithShares 40 = .ok (.getfield 35, 3) := by decide +kernel
theorem dX8_waterWithShares_43 : decode cX8_waterWithShares 43 = .ok (.iload_n 3, 1) := by decide +kernel
theorem dX8_waterWithShares_44 : decode cX8_waterWithShares 44 = .ok (.iload 4, 2) := by decide +kernel
theorem dX8_waterWithShares_46 : decode cX8_waterWithShares 46 = .ok (.invokevirtual 154, 3) := by decide +kernel
theorem dX8_waterWithShares_49 : decode cX8_waterWithShares 49 = .ok (.ifCond .ne 6, 3) := by decide +kernel
theorem dX8_waterWithShares_52 : decode cX8_waterWithShares 52 = .ok (.bipush (-4), 2) := by decide +kernel
theorem dX8_waterWithShares_54 : decode cX8_waterWithShares 54 = .ok (.ireturn, 1) := by decide +kernel
theorem dX8_waterWithShares_55 : decode cX8_waterWithShares 55 = .ok (.aload_n 0, 1) := by decide +kernel
theorem dX8_waterWithShares_56 : decode cX8_waterWithShares 56 = .ok (.getfield 35, 3) := by decide +kernel
theorem dX8_waterWithShares_59 : decode cX8_waterWithShares 59 = .ok (.iload_n 3, 1) := by decide +kernel
theorem dX8_waterWithShares_60 : decode cX8_waterWithShares 60 = .ok (.iload_n 1, 1) := by decide +kernel
theorem dX8_waterWithShares_61 : decode cX8_waterWithShares 61 = .ok (.iload 4, 2) := by decide +kernel
theorem dX8_waterWithShares_63 : decode cX8_waterWithShares 63 = .ok (.invokevirtual 161, 3) := by decide +kernel
theorem dX8_waterWithShares_66 : decode cX8_waterWithShares 66 = .ok (.iinc 3 1, 3) := by decide +kernel
theorem dX8_waterWithShares_69 : decode cX8_waterWithShares 69 = .ok (.goto (-56), 3) := by decide +kernel
theorem dX8_waterWithShares_72 : decode cX8_waterWithShares 72 = .ok (.aload_n 0, 1) := by decide +kernel
theorem dX8_waterWithShares_73 : decode cX8_waterWithShares 73 = .ok (.getfield 35, 3) := by decide +kernel
theorem dX8_waterWithShares_76 : decode cX8_waterWithShares 76 = .ok (.iload_n 2, 1) := by decide +kernel
theorem dX8_waterWithShares_77 : decode cX8_waterWithShares 77 = .ok (.iconst 0, 1) := by decide +kernel
theorem dX8_waterWithShares_78 : decode cX8_waterWithShares 78 = .ok (.invokevirtual 175, 3) := by decide +kernel
theorem dX8_waterWithShares_81 : decode cX8_waterWithShares 81 = .ok (.aload_n 0, 1) := by decide +kernel
theorem dX8_waterWithShares_82 : decode cX8_waterWithShares 82 = .ok (.getfield 35, 3) := by decide +kernel
theorem dX8_waterWithShares_85 : decode cX8_waterWithShares 85 = .ok (.invokevirtual 124, 3) := by decide +kernel
theorem dX8_waterWithShares_88 : decode cX8_waterWithShares 88 = .ok (.ireturn, 1) := by decide +kernel
theorem dX8_gap_0 : decode cX8_gap 0 = .ok (.iload_n 1, 1) := by decide +kernel
theorem dX8_gap_1 : decode cX8_gap 1 = .ok (.iconst 1, 1) := by decide +kernel
theorem dX8_gap_2 : decode cX8_gap 2 = .ok (.bipush 60, 2) := by decide +kernel
theorem dX8_gap_4 : decode cX8_gap 4 = .ok (.invokestatic 92, 3) := by decide +kernel
theorem dX8_gap_7 : decode cX8_gap 7 = .ok (.ifCond .eq 12, 3) := by decide +kernel
theorem dX8_gap_10 : decode cX8_gap 10 = .ok (.iload_n 2, 1) := by decide +kernel
theorem dX8_gap_11 : decode cX8_gap 11 = .ok (.iconst 0, 1) := by decide +kernel
theorem dX8_gap_12 : decode cX8_gap 12 = .ok (.iconst 1, 1) := by decide +kernel
theorem dX8_gap_13 : decode cX8_gap 13 = .ok (.invokestatic 92, 3) := by decide +kernel
theorem dX8_gap_16 : decode cX8_gap 16 = .ok (.ifCond .ne 5, 3) := by decide +kernel
theorem dX8_gap_19 : decode cX8_gap 19 = .ok (.iconst (-1), 1) := by decide +kernel
theorem dX8_gap_20 : decode cX8_gap 20 = .ok (.ireturn, 1) := by decide +kernel
theorem dX8_gap_21 : decode cX8_gap 21 = .ok (.bipush 40, 2) := by decide +kernel
theorem dX8_gap_23 : decode cX8_gap 23 = .ok (.istore_n 3, 1) := by decide +kernel
theorem dX8_gap_24 : decode cX8_gap 24 = .ok (.iload_n 3, 1) := by decide +kernel
theorem dX8_gap_25 : decode cX8_gap 25 = .ok (.ifCond .lt 52, 3) := by decide +kernel
theorem dX8_gap_28 : decode cX8_gap 28 = .ok (.iconst 0, 1) := by decide +kernel
theorem dX8_gap_29 : decode cX8_gap 29 = .ok (.istore 4, 2) := by decide +kernel
theorem dX8_gap_31 : decode cX8_gap 31 = .ok (.iload 4, 2) := by decide +kernel
theorem dX8_gap_33 : decode cX8_gap 33 = .ok (.aload_n 0, 1) := by decide +kernel
theorem dX8_gap_34 : decode cX8_gap 34 = .ok (.getfield 19, 3) := by decide +kernel
theorem dX8_gap_37 : decode cX8_gap 37 = .ok (.invokevirtual 99, 3) := by decide +kernel
theorem dX8_gap_40 : decode cX8_gap 40 = .ok (.if_icmp .ge 31, 3) := by decide +kernel
theorem dX8_gap_43 : decode cX8_gap 43 = .ok (.aload_n 0, 1) := by decide +kernel
theorem dX8_gap_44 : decode cX8_gap 44 = .ok (.iload 4, 2) := by decide +kernel
theorem dX8_gap_46 : decode cX8_gap 46 = .ok (.iload_n 3, 1) := by decide +kernel
theorem dX8_gap_47 : decode cX8_gap 47 = .ok (.iload_n 1, 1) := by decide +kernel
theorem dX8_gap_48 : decode cX8_gap 48 = .ok (.invokevirtual 223, 3) := by decide +kernel
theorem dX8_gap_51 : decode cX8_gap 51 = .ok (.ifCond .eq 14, 3) := by decide +kernel
theorem dX8_gap_54 : decode cX8_gap 54 = .ok (.iload_n 2, 1) := by decide +kernel
theorem dX8_gap_55 : decode cX8_gap 55 = .ok (.ifCond .ne 7, 3) := by decide +kernel
theorem dX8_gap_58 : decode cX8_gap 58 = .ok (.iload_n 3, 1) := by decide +kernel
theorem dX8_gap_59 : decode cX8_gap 59 = .ok (.goto 5, 3) := by decide +kernel
theorem dX8_gap_62 : decode cX8_gap 62 = .ok (.iload 4, 2) := by decide +kernel
theorem dX8_gap_64 : decode cX8_gap 64 = .ok (.ireturn, 1) := by decide +kernel
theorem dX8_gap_65 : decode cX8_gap 65 = .ok (.iinc 4 1, 3) := by decide +kernel
theorem dX8_gap_68 : decode cX8_gap 68 = .ok (.goto (-37), 3) := by decide +kernel
theorem dX8_gap_71 : decode cX8_gap 71 = .ok (.iinc 3 (-1), 3) := by decide +kernel
theorem dX8_gap_74 : decode cX8_gap 74 = .ok (.goto (-50), 3) := by decide +kernel
theorem dX8_gap_77 : decode cX8_gap 77 = .ok (.bipush (-4), 2) := by decide +kernel
theorem dX8_gap_79 : decode cX8_gap 79 = .ok (.ireturn, 1) := by decide +kernel
theorem dX8_isGap_0 : decode cX8_isGap 0 = .ok (.aload_n 0, 1) := by decide +kernel
theorem dX8_isGap_1 : decode cX8_isGap 1 = .ok (.getfield 35, 3) := by decide +kernel
theorem dX8_isGap_4 : decode cX8_isGap 4 = .ok (.aload_n 0, 1) := by decide +kernel
theorem dX8_isGap_5 : decode cX8_isGap 5 = .ok (.getfield 31, 3) := by decide +kernel
theorem dX8_isGap_8 : decode cX8_isGap 8 = .ok (.invokevirtual 186, 3) := by decide +kernel
theorem dX8_isGap_11 : decode cX8_isGap 11 = .ok (.aload_n 0, 1) := by decide +kernel
theorem dX8_isGap_12 : decode cX8_isGap 12 = .ok (.getfield 35, 3) := by decide +kernel
theorem dX8_isGap_15 : decode cX8_isGap 15 = .ok (.iload_n 1, 1) := by decide +kernel
theorem dX8_isGap_16 : decode cX8_isGap 16 = .ok (.iconst 2, 1) := by decide +kernel
theorem dX8_isGap_17 : decode cX8_isGap 17 = .ok (.iload_n 2, 1) := by decide +kernel
theorem dX8_isGap_18 : decode cX8_isGap 18 = .ok (.invokevirtual 226, 3) := by decide +kernel
theorem dX8_isGap_21 : decode cX8_isGap 21 = .ok (.iconst 0, 1) := by decide +kernel
theorem dX8_isGap_22 : decode cX8_isGap 22 = .ok (.istore 4, 2) := by decide +kernel
theorem dX8_isGap_24 : decode cX8_isGap 24 = .ok (.iload 4, 2) := by decide +kernel
theorem dX8_isGap_26 : decode cX8_isGap 26 = .ok (.iload_n 3, 1) := by decide +kernel
theorem dX8_isGap_27 : decode cX8_isGap 27 = .ok (.if_icmp .ge 40, 3) := by decide +kernel
theorem dX8_isGap_30 : decode cX8_isGap 30 = .ok (.aload_n 0, 1) := by decide +kernel
theorem dX8_isGap_31 : decode cX8_isGap 31 = .ok (.getfield 35, 3) := by decide +kernel
theorem dX8_isGap_34 : decode cX8_isGap 34 = .ok (.iconst 0, 1) := by decide +kernel
theorem dX8_isGap_35 : decode cX8_isGap 35 = .ok (.invokevirtual 229, 3) := by decide +kernel
theorem dX8_isGap_38 : decode cX8_isGap 38 = .ok (.aload_n 0, 1) := by decide +kernel
theorem dX8_isGap_39 : decode cX8_isGap 39 = .ok (.getfield 35, 3) := by decide +kernel
theorem dX8_isGap_42 : decode cX8_isGap 42 = .ok (.invokevirtual 233, 3) := by decide +kernel
theorem dX8_isGap_45 : decode cX8_isGap 45 = .ok (.ifCond .le 16, 3) := by decide +kernel
theorem dX8_isGap_48 : decode cX8_isGap 48 = .ok (.aload_n 0, 1) := by decide +kernel
theorem dX8_isGap_49 : decode cX8_isGap 49 = .ok (.getfield 35, 3) := by decide +kernel
theorem dX8_isGap_52 : decode cX8_isGap 52 = .ok (.invokevirtual 193, 3) := by decide +kernel
theorem dX8_isGap_55 : decode cX8_isGap 55 = .ok (.iload_n 1, 1) := by decide +kernel
theorem dX8_isGap_56 : decode cX8_isGap 56 = .ok (.if_icmp .eq 5, 3) := by decide +kernel
theorem dX8_isGap_59 : decode cX8_isGap 59 = .ok (.iconst 0, 1) := by decide +kernel
theorem dX8_isGap_60 : decode cX8_isGap 60 = .ok (.ireturn, 1) := by decide +kernel
theorem dX8_isGap_61 : decode cX8_isGap 61 = .ok (.iinc 4 1, 3) := by decide +kernel
theorem dX8_isGap_64 : decode cX8_isGap 64 = .ok (.goto (-40), 3) := by decide +kernel
theorem dX8_isGap_67 : decode cX8_isGap 67 = .ok (.iconst 1, 1) := by decide +kernel
theorem dX8_isGap_68 : decode cX8_isGap 68 = .ok (.ireturn, 1) := by decide +kernel
theorem dX8_together_0 : decode cX8_together 0 = .ok (.iload_n 1, 1) := by decide +kernel
theorem dX8_together_1 : decode cX8_together 1 = .ok (.iconst (-1), 1) := by decide +kernel
theorem dX8_together_2 : decode cX8_together 2 = .ok (.aload_n 0, 1) := by decide +kernel
theorem dX8_together_3 : decode cX8_together 3 = .ok (.getfield 19, 3) := by decide +kernel
theorem dX8_together_6 : decode cX8_together 6 = .ok (.invokevirtual 236, 3) := by decide +kernel
theorem dX8_together_9 : decode cX8_together 9 = .ok (.invokevirtual 240, 3) := by decide +kernel
theorem dX8_together_12 : decode cX8_together 12 = .ok (.iconst 1, 1) := by decide +kernel
theorem dX8_together_13 : decode cX8_together 13 = .ok (.isub, 1) := by decide +kernel
theorem dX8_together_14 : decode cX8_together 14 = .ok (.invokestatic 92, 3) := by decide +kernel
theorem dX8_together_17 : decode cX8_together 17 = .ok (.ifCond .ne 5, 3) := by decide +kernel
theorem dX8_together_20 : decode cX8_together 20 = .ok (.iconst (-1), 1) := by decide +kernel
theorem dX8_together_21 : decode cX8_together 21 = .ok (.ireturn, 1) := by decide +kernel
theorem dX8_together_22 : decode cX8_together 22 = .ok (.aload_n 0, 1) := by decide +kernel
theorem dX8_together_23 : decode cX8_together 23 = .ok (.getfield 19, 3) := by decide +kernel
theorem dX8_together_26 : decode cX8_together 26 = .ok (.invokevirtual 236, 3) := by decide +kernel
theorem dX8_together_29 : decode cX8_together 29 = .ok (.invokevirtual 245, 3) := by decide +kernel
theorem dX8_together_32 : decode cX8_together 32 = .ok (.istore_n 2, 1) := by decide +kernel
theorem dX8_together_33 : decode cX8_together 33 = .ok (.iload_n 2, 1) := by decide +kernel
theorem dX8_together_34 : decode cX8_together 34 = .ok (.bipush (-4), 2) := by decide +kernel
theorem dX8_together_36 : decode cX8_together 36 = .ok (.if_icmp .ne 6, 3) := by decide +kernel
theorem dX8_together_39 : decode cX8_together 39 = .ok (.bipush (-4), 2) := by decide +kernel
theorem dX8_together_41 : decode cX8_together 41 = .ok (.ireturn, 1) := by decide +kernel
theorem dX8_together_42 : decode cX8_together 42 = .ok (.iload_n 1, 1) := by decide +kernel
theorem dX8_together_43 : decode cX8_together 43 = .ok (.iconst (-1), 1) := by decide +kernel
theorem dX8_together_44 : decode cX8_together 44 = .ok (.if_icmp .ne 17, 3) := by decide +kernel
theorem dX8_together_47 : decode cX8_together 47 = .ok (.aload_n 0, 1) := by decide +kernel
theorem dX8_together_48 : decode cX8_together 48 = .ok (.getfield 19, 3) := by decide +kernel
theorem dX8_together_51 : decode cX8_together 51 = .ok (.invokevirtual 236, 3) := by decide +kernel
theorem dX8_together_54 : decode cX8_together 54 = .ok (.iload_n 2, 1) := by decide +kernel
theorem dX8_together_55 : decode cX8_together 55 = .ok (.invokevirtual 248, 3) := by decide +kernel
theorem dX8_together_58 : decode cX8_together 58 = .ok (.goto 15, 3) := by decide +kernel
theorem dX8_together_61 : decode cX8_together 61 = .ok (.aload_n 0, 1) := by decide +kernel
theorem dX8_together_62 : decode cX8_together 62 = .ok (.getfield 19, 3) := by decide +kernel
theorem dX8_together_65 : decode cX8_together 65 = .ok (.invokevirtual 236, 3) := by decide +kernel
theorem dX8_together_68 : decode cX8_together 68 = .ok (.iload_n 1, 1) := by decide +kernel
theorem dX8_together_69 : decode cX8_together 69 = .ok (.iload_n 2, 1) := by decide +kernel
theorem dX8_together_70 : decode cX8_together 70 = .ok (.invokevirtual 251, 3) := by decide +kernel
theorem dX8_together_73 : decode cX8_together 73 = .ok (.ireturn, 1) := by decide +kernel
theorem dX8_slow_0 : decode cX8_slow 0 = .ok (.aload_n 0, 1) := by decide +kernel
theorem dX8_slow_1 : decode cX8_slow 1 = .ok (.iload_n 1, 1) := by decide +kernel
theorem dX8_slow_2 : decode cX8_slow 2 = .ok (.invokevirtual 108, 3) := by decide +kernel
theorem dX8_slow_5 : decode cX8_slow 5 = .ok (.ifCond .eq 23, 3) := by decide +kernel
theorem dX8_slow_8 : decode cX8_slow 8 = .ok (.iload_n 2, 1) := by decide +kernel
theorem dX8_slow_9 : decode cX8_slow 9 = .ok (.iconst 0, 1) := by decide +kernel
theorem dX8_slow_10 : decode cX8_slow 10 = .ok (.sipush 999, 3) := by decide +kernel
theorem dX8_slow_13 : decode cX8_slow 13 = .ok (.invokestatic 92, 3) := by decide +kernel
theorem dX8_slow_16 : decode cX8_slow 16 = .ok (.ifCond .eq 12, 3) := by decide +kernel
theorem dX8_slow_19 : decode cX8_slow 19 = .ok (.iload_n 3, 1) := by decide +kernel
theorem dX8_slow_20 : decode cX8_slow 20 = .ok (.iconst 0, 1) := by decide +kernel
theorem dX8_slow_21 : decode cX8_slow 21 = .ok (.iconst 1, 1) := by decide +kernel
theorem dX8_slow_22 : decode cX8_slow 22 = .ok (.invokestatic 92, 3) := by decide +kernel
theorem dX8_slow_25 : decode cX8_slow 25 = .ok (.ifCond .ne 5, 3) := by decide +kernel
theorem dX8_slow_28 : decode cX8_slow 28 = .ok (.iconst (-1), 1) := by decide +kernel
theorem dX8_slow_29 : decode cX8_slow 29 = .ok (.ireturn, 1) := by decide +kernel
theorem dX8_slow_30 : decode cX8_slow 30 = .ok (.iconst 1, 1) := by decide +kernel
theorem dX8_slow_31 : decode cX8_slow 31 = .ok (.istore 4, 2) := by decide +kernel
theorem dX8_slow_33 : decode cX8_slow 33 = .ok (.iload 4, 2) := by decide +kernel
theorem dX8_slow_35 : decode cX8_slow 35 = .ok (.bipush 9, 2) := by decide +kernel
theorem dX8_slow_37 : decode cX8_slow 37 = .ok (.if_icmp .gt 43, 3) := by decide +kernel
theorem dX8_slow_40 : decode cX8_slow 40 = .ok (.aload_n 0, 1) := by decide +kernel
theorem dX8_slow_41 : decode cX8_slow 41 = .ok (.iload_n 1, 1) := by decide +kernel
theorem dX8_slow_42 : decode cX8_slow 42 = .ok (.iload 4, 2) := by decide +kernel
theorem dX8_slow_44 : decode cX8_slow 44 = .ok (.iconst 0, 1) := by decide +kernel
theorem dX8_slow_45 : decode cX8_slow 45 = .ok (.invokevirtual 254, 3) := by decide +kernel
theorem dX8_slow_48 : decode cX8_slow 48 = .ok (.istore 5, 2) := by decide +kernel
theorem dX8_slow_50 : decode cX8_slow 50 = .ok (.iload 5, 2) := by decide +kernel
theorem dX8_slow_52 : decode cX8_slow 52 = .ok (.iload_n 2, 1) := by decide +kernel
theorem dX8_slow_53 : decode cX8_slow 53 = .ok (.if_icmp .gt 21, 3) := by decide +kernel
theorem dX8_slow_56 : decode cX8_slow 56 = .ok (.iload_n 3, 1) := by decide +kernel
theorem dX8_slow_57 : decode cX8_slow 57 = .ok (.ifCond .ne 8, 3) := by decide +kernel
theorem dX8_slow_60 : decode cX8_slow 60 = .ok (.iload 4, 2) := by decide +kernel
theorem dX8_slow_62 : decode cX8_slow 62 = .ok (.goto 11, 3) := by decide +kernel
theorem dX8_slow_65 : decode cX8_slow 65 = .ok (.aload_n 0, 1) := by decide +kernel
theorem dX8_slow_66 : decode cX8_slow 66 = .ok (.iload_n 1, 1) := by decide +kernel
theorem dX8_slow_67 : decode cX8_slow 67 = .ok (.iload 4, 2) := by decide +kernel
theorem dX8_slow_69 : decode cX8_slow 69 = .ok (.iconst 1, 1) := by decide +kernel
theorem dX8_slow_70 : decode cX8_slow 70 = .ok (.invokevirtual 254, 3) := by decide +kernel
theorem dX8_slow_73 : decode cX8_slow 73 = .ok (.ireturn, 1) := by decide +kernel
theorem dX8_slow_74 : decode cX8_slow 74 = .ok (.iinc 4 1, 3) := by decide +kernel
theorem dX8_slow_77 : decode cX8_slow 77 = .ok (.goto (-44), 3) := by decide +kernel
theorem dX8_slow_80 : decode cX8_slow 80 = .ok (.bipush (-4), 2) := by decide +kernel
theorem dX8_slow_82 : decode cX8_slow 82 = .ok (.ireturn, 1) := by decide +kernel
theorem dX8_letOut_0 : decode cX8_letOut 0 = .ok (.iconst 0, 1) := by decide +kernel
theorem dX8_letOut_1 : decode cX8_letOut 1 = .ok (.istore 4, 2) := by decide +kernel
theorem dX8_letOut_3 : decode cX8_letOut 3 = .ok (.iconst 0, 1) := by decide +kernel
theorem dX8_letOut_4 : decode cX8_letOut 4 = .ok (.istore 5, 2) := by decide +kernel
theorem dX8_letOut_6 : decode cX8_letOut 6 = .ok (.aload_n 0, 1) := by decide +kernel
theorem dX8_letOut_7 : decode cX8_letOut 7 = .ok (.getfield 35, 3) := by decide +kernel
theorem dX8_letOut_10 : decode cX8_letOut 10 = .ok (.aload_n 0, 1) := by decide +kernel
theorem dX8_letOut_11 : decode cX8_letOut 11 = .ok (.getfield 31, 3) := by decide +kernel
theorem dX8_letOut_14 : decode cX8_letOut 14 = .ok (.invokevirtual 186, 3) := by decide +kernel
theorem dX8_letOut_17 : decode cX8_letOut 17 = .ok (.iconst 1, 1) := by decide +kernel
theorem dX8_letOut_18 : decode cX8_letOut 18 = .ok (.istore 6, 2) := by decide +kernel
theorem dX8_letOut_20 : decode cX8_letOut 20 = .ok (.iload 6, 2) := by decide +kernel
theorem dX8_letOut_22 : decode cX8_letOut 22 = .ok (.bipush 60, 2) := by decide +kernel
theorem dX8_letOut_24 : decode cX8_letOut 24 = .ok (.if_icmp .gt 81, 3) := by decide +kernel
theorem dX8_letOut_27 : decode cX8_letOut 27 = .ok (.iinc 5 1, 3) := by decide +kernel
theorem dX8_letOut_30 : decode cX8_letOut 30 = .ok (.iload 5, 2) := by decide +kernel
theorem dX8_letOut_32 : decode cX8_letOut 32 = .ok (.iload_n 2, 1) := by decide +kernel
theorem dX8_letOut_33 : decode cX8_letOut 33 = .ok (.if_icmp .ne 27, 3) := by decide +kernel
theorem dX8_letOut_36 : decode cX8_letOut 36 = .ok (.iconst 0, 1) := by decide +kernel
theorem dX8_letOut_37 : decode cX8_letOut 37 = .ok (.istore 5, 2) := by decide +kernel
theorem dX8_letOut_39 : decode cX8_letOut 39 = .ok (.aload_n 0, 1) := by decide +kernel
theorem dX8_letOut_40 : decode cX8_letOut 40 = .ok (.getfield 35, 3) := by decide +kernel
theorem dX8_letOut_43 : decode cX8_letOut 43 = .ok (.iload_n 1, 1) := by decide +kernel
theorem dX8_letOut_44 : decode cX8_letOut 44 = .ok (.iconst 1, 1) := by decide +kernel
theorem dX8_letOut_45 : decode cX8_letOut 45 = .ok (.invokevirtual 165, 3) := by decide +kernel
theorem dX8_letOut_48 : decode cX8_letOut 48 = .ok (.ifCond .eq 12, 3) := by decide +kernel
theorem dX8_letOut_51 : decode cX8_letOut 51 = .ok (.aload_n 0, 1) := by decide +kernel
theorem dX8_letOut_52 : decode cX8_letOut 52 = .ok (.getfield 35, 3) := by decide +kernel
theorem dX8_letOut_55 : decode cX8_letOut 55 = .ok (.iload_n 1, 1) := by decide +kernel
theorem dX8_letOut_56 : decode cX8_letOut 56 = .ok (.iconst 1, 1) := by decide +kernel
theorem dX8_letOut_57 : decode cX8_letOut 57 = .ok (.invokevirtual 168, 3) := by decide +kernel
theorem dX8_letOut_60 : decode cX8_letOut 60 = .ok (.aload_n 0, 1) := by decide +kernel
theorem dX8_letOut_61 : decode cX8_letOut 61 = .ok (.getfield 35, 3) := by decide +kernel
theorem dX8_letOut_64 : decode cX8_letOut 64 = .ok (.iconst 0, 1) := by decide +kernel
theorem dX8_letOut_65 : decode cX8_letOut 65 = .ok (.invokevirtual 229, 3) := by decide +kernel
theorem dX8_letOut_68 : decode cX8_letOut 68 = .ok (.iload 4, 2) := by decide +kernel
theorem dX8_letOut_70 : decode cX8_letOut 70 = .ok (.aload_n 0, 1) := by decide +kernel
theorem dX8_letOut_71 : decode cX8_letOut 71 = .ok (.getfield 35, 3) := by decide +kernel
theorem dX8_letOut_74 : decode cX8_letOut 74 = .ok (.invokevirtual 233, 3) := by decide +kernel
theorem dX8_letOut_77 : decode cX8_letOut 77 = .ok (.invokestatic 258, 3) := by decide +kernel
theorem dX8_letOut_80 : decode cX8_letOut 80 = .ok (.istore 4, 2) := by decide +kernel
theorem dX8_letOut_82 : decode cX8_letOut 82 = .ok (.iload_n 3, 1) := by decide +kernel
theorem dX8_letOut_83 : decode cX8_letOut 83 = .ok (.ifCond .eq 16, 3) := by decide +kernel
theorem dX8_letOut_86 : decode cX8_letOut 86 = .ok (.aload_n 0, 1) := by decide +kernel
theorem dX8_letOut_87 : decode cX8_letOut 87 = .ok (.getfield 35, 3) := by decide +kernel
theorem dX8_letOut_90 : decode cX8_letOut 90 = .ok (.invokevirtual 121, 3) := by decide +kernel
theorem dX8_letOut_93 : decode cX8_letOut 93 = .ok (.ifCond .ne 6, 3) := by decide +kernel
theorem dX8_letOut_96 : decode cX8_letOut 96 = .ok (.iload 6, 2) := by decide +kernel
theorem dX8_letOut_98 : decode cX8_letOut 98 = .ok (.ireturn, 1) := by decide +kernel
theorem dX8_letOut_99 : decode cX8_letOut 99 = .ok (.iinc 6 1, 3) := by decide +kernel
theorem dX8_letOut_102 : decode cX8_letOut 102 = .ok (.goto (-82), 3) := by decide +kernel
theorem dX8_letOut_105 : decode cX8_letOut 105 = .ok (.iload_n 3, 1) := by decide +kernel
theorem dX8_letOut_106 : decode cX8_letOut 106 = .ok (.ifCond .eq 8, 3) := by decide +kernel
theorem dX8_letOut_109 : decode cX8_letOut 109 = .ok (.bipush (-4), 2) := by decide +kernel
theorem dX8_letOut_111 : decode cX8_letOut 111 = .ok (.goto 5, 3) := by decide +kernel
theorem dX8_letOut_114 : decode cX8_letOut 114 = .ok (.iload 4, 2) := by decide +kernel
theorem dX8_letOut_116 : decode cX8_letOut 116 = .ok (.ireturn, 1) := by decide +kernel
theorem dX8_fill_0 : decode cX8_fill 0 = .ok (.iload_n 1, 1) := by decide +kernel
theorem dX8_fill_1 : decode cX8_fill 1 = .ok (.iconst 1, 1) := by decide +kernel
theorem dX8_fill_2 : decode cX8_fill 2 = .ok (.bipush 40, 2) := by decide +kernel
theorem dX8_fill_4 : decode cX8_fill 4 = .ok (.invokestatic 92, 3) := by decide +kernel
theorem dX8_fill_7 : decode cX8_fill 7 = .ok (.ifCond .ne 5, 3) := by decide +kernel
theorem dX8_fill_10 : decode cX8_fill 10 = .ok (.iconst (-1), 1) := by decide +kernel
theorem dX8_fill_11 : decode cX8_fill 11 = .ok (.ireturn, 1) := by decide +kernel
theorem dX8_fill_12 : decode cX8_fill 12 = .ok (.aload_n 0, 1) := by decide +kernel
theorem dX8_fill_13 : decode cX8_fill 13 = .ok (.getfield 35, 3) := by decide +kernel
theorem dX8_fill_16 : decode cX8_fill 16 = .ok (.aload_n 0, 1) := by decide +kernel
theorem dX8_fill_17 : decode cX8_fill 17 = .ok (.getfield 31, 3) := by decide +kernel
theorem dX8_fill_20 : decode cX8_fill 20 = .ok (.invokevirtual 186, 3) := by decide +kernel
theorem dX8_fill_23 : decode cX8_fill 23 = .ok (.aload_n 0, 1) := by decide +kernel
theorem dX8_fill_24 : decode cX8_fill 24 = .ok (.getfield 35, 3) := by decide +kernel
theorem dX8_fill_27 : decode cX8_fill 27 = .ok (.invokevirtual 263, 3) := by decide +kernel
theorem dX8_fill_30 : decode cX8_fill 30 = .ok (.iconst 1, 1) := by decide +kernel
theorem dX8_fill_31 : decode cX8_fill 31 = .ok (.istore_n 2, 1) := by decide +kernel
theorem dX8_fill_32 : decode cX8_fill 32 = .ok (.iload_n 2, 1) := by decide +kernel
theorem dX8_fill_33 : decode cX8_fill 33 = .ok (.sipush 200, 3) := by decide +kernel
theorem dX8_fill_36 : decode cX8_fill 36 = .ok (.if_icmp .gt 30, 3) := by decide +kernel
theorem dX8_fill_39 : decode cX8_fill 39 = .ok (.aload_n 0, 1) := by decide +kernel
theorem dX8_fill_40 : decode cX8_fill 40 = .ok (.getfield 35, 3) := by decide +kernel
theorem dX8_fill_43 : decode cX8_fill 43 = .ok (.iconst 0, 1) := by decide +kernel
theorem dX8_fill_44 : decode cX8_fill 44 = .ok (.invokevirtual 229, 3) := by decide +kernel
theorem dX8_fill_47 : decode cX8_fill 47 = .ok (.aload_n 0, 1) := by decide +kernel
theorem dX8_fill_48 : decode cX8_fill 48 = .ok (.getfield 35, 3) := by decide +kernel
theorem dX8_fill_51 : decode cX8_fill 51 = .ok (.invokevirtual 121, 3) := by decide +kernel
theorem dX8_fill_54 : decode cX8_fill 54 = .ok (.iload_n 1, 1) := by decide +kernel
theorem dX8_fill_55 : decode cX8_fill 55 = .ok (.if_icmp .lt 5, 3) := by decide +kernel
theorem dX8_fill_58 : decode cX8_fill 58 = .ok (.iload_n 2, 1) := by decide +kernel
theorem dX8_fill_59 : decode cX8_fill 59 = .ok (.ireturn, 1) := by decide +kernel
theorem dX8_fill_60 : decode cX8_fill 60 = .ok (.iinc 2 1, 3) := by decide +kernel
theorem dX8_fill_63 : decode cX8_fill 63 = .ok (.goto (-31), 3) := by decide +kernel
theorem dX8_fill_66 : decode cX8_fill 66 = .ok (.bipush (-4), 2) := by decide +kernel
theorem dX8_fill_68 : decode cX8_fill 68 = .ok (.ireturn, 1) := by decide +kernel
theorem dX8_trodden_0 : decode cX8_trodden 0 = .ok (.aload_n 0, 1) := by decide +kernel
theorem dX8_trodden_1 : decode cX8_trodden 1 = .ok (.iload_n 1, 1) := by decide +kernel
theorem dX8_trodden_2 : decode cX8_trodden 2 = .ok (.invokevirtual 108, 3) := by decide +kernel
theorem dX8_trodden_5 : decode cX8_trodden 5 = .ok (.ifCond .eq 13, 3) := by decide +kernel
theorem dX8_trodden_8 : decode cX8_trodden 8 = .ok (.iload_n 2, 1) := by decide +kernel
theorem dX8_trodden_9 : decode cX8_trodden 9 = .ok (.iconst 1, 1) := by decide +kernel
theorem dX8_trodden_10 : decode cX8_trodden 10 = .ok (.bipush 9, 2) := by decide +kernel
theorem dX8_trodden_12 : decode cX8_trodden 12 = .ok (.invokestatic 92, 3) := by decide +kernel
theorem dX8_trodden_15 : decode cX8_trodden 15 = .ok (.ifCond .ne 5, 3) := by decide +kernel
theorem dX8_trodden_18 : decode cX8_trodden 18 = .ok (.iconst (-1), 1) := by decide +kernel
theorem dX8_trodden_19 : decode cX8_trodden 19 = .ok (.ireturn, 1) := by decide +kernel
theorem dX8_trodden_20 : decode cX8_trodden 20 = .ok (.aload_n 0, 1) := by decide +kernel
theorem dX8_trodden_21 : decode cX8_trodden 21 = .ok (.getfield 31, 3) := by decide +kernel
theorem dX8_trodden_24 : decode cX8_trodden 24 = .ok (.iload_n 1, 1) := by decide +kernel
theorem dX8_trodden_25 : decode cX8_trodden 25 = .ok (.iload_n 2, 1) := by decide +kernel
theorem dX8_trodden_26 : decode cX8_trodden 26 = .ok (.invokevirtual 154, 3) := by decide +kernel
theorem dX8_trodden_29 : decode cX8_trodden 29 = .ok (.ifCond .ne 6, 3) := by decide +kernel
theorem dX8_trodden_32 : decode cX8_trodden 32 = .ok (.bipush (-2), 2) := by decide +kernel
theorem dX8_trodden_34 : decode cX8_trodden 34 = .ok (.ireturn, 1) := by decide +kernel
theorem dX8_trodden_35 : decode cX8_trodden 35 = .ok (.aload_n 0, 1) := by decide +kernel
theorem dX8_trodden_36 : decode cX8_trodden 36 = .ok (.getfield 35, 3) := by decide +kernel
theorem dX8_trodden_39 : decode cX8_trodden 39 = .ok (.aload_n 0, 1) := by decide +kernel
theorem dX8_trodden_40 : decode cX8_trodden 40 = .ok (.getfield 31, 3) := by decide +kernel
theorem dX8_trodden_43 : decode cX8_trodden 43 = .ok (.invokevirtual 186, 3) := by decide +kernel
theorem dX8_trodden_46 : decode cX8_trodden 46 = .ok (.aload_n 0, 1) := by decide +kernel
theorem dX8_trodden_47 : decode cX8_trodden 47 = .ok (.getfield 35, 3) := by decide +kernel
theorem dX8_trodden_50 : decode cX8_trodden 50 = .ok (.invokevirtual 196, 3) := by decide +kernel
theorem dX8_trodden_53 : decode cX8_trodden 53 = .ok (.istore_n 3, 1) := by decide +kernel
theorem dX8_trodden_54 : decode cX8_trodden 54 = .ok (.iload_n 3, 1) := by decide +kernel
theorem dX8_trodden_55 : decode cX8_trodden 55 = .ok (.bipush (-4), 2) := by decide +kernel
theorem dX8_trodden_57 : decode cX8_trodden 57 = .ok (.if_icmp .ne 6, 3) := by decide +kernel
theorem dX8_trodden_60 : decode cX8_trodden 60 = .ok (.bipush (-4), 2) := by decide +kernel
theorem dX8_trodden_62 : decode cX8_trodden 62 = .ok (.ireturn, 1) := by decide +kernel
theorem dX8_trodden_63 : decode cX8_trodden 63 = .ok (.aload_n 0, 1) := by decide +kernel
theorem dX8_trodden_64 : decode cX8_trodden 64 = .ok (.getfield 35, 3) := by decide +kernel
theorem dX8_trodden_67 : decode cX8_trodden 67 = .ok (.aload_n 0, 1) := by decide +kernel
theorem dX8_trodden_68 : decode cX8_trodden 68 = .ok (.getfield 31, 3) := by decide +kernel
theorem dX8_trodden_71 : decode cX8_trodden 71 = .ok (.invokevirtual 186, 3) := by decide +kernel
theorem dX8_trodden_74 : decode cX8_trodden 74 = .ok (.aload_n 0, 1) := by decide +kernel
theorem dX8_trodden_75 : decode cX8_trodden 75 = .ok (.getfield 35, 3) := by decide +kernel
theorem dX8_trodden_78 : decode cX8_trodden 78 = .ok (.iload_n 1, 1) := by decide +kernel
theorem dX8_trodden_79 : decode cX8_trodden 79 = .ok (.aload_n 0, 1) := by decide +kernel
theorem dX8_trodden_80 : decode cX8_trodden 80 = .ok (.getfield 31, 3) := by decide +kernel
theorem dX8_trodden_83 : decode cX8_trodden 83 = .ok (.iload_n 1, 1) := by decide +kernel
theorem dX8_trodden_84 : decode cX8_trodden 84 = .ok (.invokevirtual 115, 3) := by decide +kernel
theorem dX8_trodden_87 : decode cX8_trodden 87 = .ok (.iload_n 2, 1) := by decide +kernel
theorem dX8_trodden_88 : decode cX8_trodden 88 = .ok (.invokevirtual 161, 3) := by decide +kernel
theorem dX8_trodden_91 : decode cX8_trodden 91 = .ok (.aload_n 0, 1) := by decide +kernel
theorem dX8_trodden_92 : decode cX8_trodden 92 = .ok (.getfield 35, 3) := by decide +kernel
theorem dX8_trodden_95 : decode cX8_trodden 95 = .ok (.invokevirtual 196, 3) := by decide +kernel
theorem dX8_trodden_98 : decode cX8_trodden 98 = .ok (.istore 4, 2) := by decide +kernel
theorem dX8_trodden_100 : decode cX8_trodden 100 = .ok (.iload 4, 2) := by decide +kernel
theorem dX8_trodden_102 : decode cX8_trodden 102 = .ok (.bipush (-4), 2) := by decide +kernel
theorem dX8_trodden_104 : decode cX8_trodden 104 = .ok (.if_icmp .ne 9, 3) := by decide +kernel
theorem dX8_trodden_107 : decode cX8_trodden 107 = .ok (.sipush 200, 3) := by decide +kernel
theorem dX8_trodden_110 : decode cX8_trodden 110 = .ok (.goto 5, 3) := by decide +kernel
theorem dX8_trodden_113 : decode cX8_trodden 113 = .ok (.iload 4, 2) := by decide +kernel
theorem dX8_trodden_115 : decode cX8_trodden 115 = .ok (.iload_n 3, 1) := by decide +kernel
theorem dX8_trodden_116 : decode cX8_trodden 116 = .ok (.isub, 1) := by decide +kernel
theorem dX8_trodden_117 : decode cX8_trodden 117 = .ok (.sipush 200, 3) := by decide +kernel
theorem dX8_trodden_120 : decode cX8_trodden 120 = .ok (.iadd, 1) := by decide +kernel
theorem dX8_trodden_121 : decode cX8_trodden 121 = .ok (.ireturn, 1) := by decide +kernel
theorem dX8_blame_0 : decode cX8_blame 0 = .ok (.aload_n 0, 1) := by decide +kernel
theorem dX8_blame_1 : decode cX8_blame 1 = .ok (.getfield 31, 3) := by decide +kernel
theorem dX8_blame_4 : decode cX8_blame 4 = .ok (.invokevirtual 266, 3) := by decide +kernel
theorem dX8_blame_7 : decode cX8_blame 7 = .ok (.ifCond .ne 6, 3) := by decide +kernel
theorem dX8_blame_10 : decode cX8_blame 10 = .ok (.bipush (-4), 2) := by decide +kernel
theorem dX8_blame_12 : decode cX8_blame 12 = .ok (.ireturn, 1) := by decide +kernel
theorem dX8_blame_13 : decode cX8_blame 13 = .ok (.iconst 0, 1) := by decide +kernel
theorem dX8_blame_14 : decode cX8_blame 14 = .ok (.istore_n 1, 1) := by decide +kernel
theorem dX8_blame_15 : decode cX8_blame 15 = .ok (.iload_n 1, 1) := by decide +kernel
theorem dX8_blame_16 : decode cX8_blame 16 = .ok (.aload_n 0, 1) := by decide +kernel
theorem dX8_blame_17 : decode cX8_blame 17 = .ok (.getfield 41, 3) := by decide +kernel
theorem dX8_blame_20 : decode cX8_blame 20 = .ok (.invokevirtual 178, 3) := by decide +kernel
theorem dX8_blame_23 : decode cX8_blame 23 = .ok (.if_icmp .ge 33, 3) := by decide +kernel
theorem dX8_blame_26 : decode cX8_blame 26 = .ok (.aload_n 0, 1) := by decide +kernel
theorem dX8_blame_27 : decode cX8_blame 27 = .ok (.getfield 41, 3) := by decide +kernel
theorem dX8_blame_30 : decode cX8_blame 30 = .ok (.iload_n 1, 1) := by decide +kernel
theorem dX8_blame_31 : decode cX8_blame 31 = .ok (.aload_n 0, 1) := by decide +kernel
theorem dX8_blame_32 : decode cX8_blame 32 = .ok (.getfield 35, 3) := by decide +kernel
theorem dX8_blame_35 : decode cX8_blame 35 = .ok (.invokevirtual 182, 3) := by decide +kernel
theorem dX8_blame_38 : decode cX8_blame 38 = .ok (.aload_n 0, 1) := by decide +kernel
theorem dX8_blame_39 : decode cX8_blame 39 = .ok (.getfield 35, 3) := by decide +kernel
theorem dX8_blame_42 : decode cX8_blame 42 = .ok (.invokevirtual 266, 3) := by decide +kernel
theorem dX8_blame_45 : decode cX8_blame 45 = .ok (.ifCond .ne 5, 3) := by decide +kernel
theorem dX8_blame_48 : decode cX8_blame 48 = .ok (.iload_n 1, 1) := by decide +kernel
theorem dX8_blame_49 : decode cX8_blame 49 = .ok (.ireturn, 1) := by decide +kernel
theorem dX8_blame_50 : decode cX8_blame 50 = .ok (.iinc 1 1, 3) := by decide +kernel
theorem dX8_blame_53 : decode cX8_blame 53 = .ok (.goto (-38), 3) := by decide +kernel
theorem dX8_blame_56 : decode cX8_blame 56 = .ok (.bipush (-4), 2) := by decide +kernel
theorem dX8_blame_58 : decode cX8_blame 58 = .ok (.ireturn, 1) := by decide +kernel
theorem dX8_seen_0 : decode cX8_seen 0 = .ok (.iload_n 1, 1) := by decide +kernel
theorem dX8_seen_1 : decode cX8_seen 1 = .ok (.iconst 0, 1) := by decide +kernel
theorem dX8_seen_2 : decode cX8_seen 2 = .ok (.bipush 60, 2) := by decide +kernel
theorem dX8_seen_4 : decode cX8_seen 4 = .ok (.invokestatic 92, 3) := by decide +kernel
theorem dX8_seen_7 : decode cX8_seen 7 = .ok (.ifCond .eq 13, 3) := by decide +kernel
theorem dX8_seen_10 : decode cX8_seen 10 = .ok (.iload_n 2, 1) := by decide +kernel
theorem dX8_seen_11 : decode cX8_seen 11 = .ok (.iconst 1, 1) := by decide +kernel
theorem dX8_seen_12 : decode cX8_seen 12 = .ok (.bipush 99, 2) := by decide +kernel
theorem dX8_seen_14 : decode cX8_seen 14 = .ok (.invokestatic 92, 3) := by decide +kernel
theorem dX8_seen_17 : decode cX8_seen 17 = .ok (.ifCond .ne 5, 3) := by decide +kernel
theorem dX8_seen_20 : decode cX8_seen 20 = .ok (.iconst (-1), 1) := by decide +kernel
theorem dX8_seen_21 : decode cX8_seen 21 = .ok (.ireturn, 1) := by decide +kernel
theorem dX8_seen_22 : decode cX8_seen 22 = .ok (.aload_n 0, 1) := by decide +kernel
theorem dX8_seen_23 : decode cX8_seen 23 = .ok (.getfield 52, 3) := by decide +kernel
theorem dX8_seen_26 : decode cX8_seen 26 = .ok (.iload_n 1, 1) := by decide +kernel
theorem dX8_seen_27 : decode cX8_seen 27 = .ok (.iload_n 2, 1) := by decide +kernel
theorem dX8_seen_28 : decode cX8_seen 28 = .ok (.invokevirtual 269, 3) := by decide +kernel
theorem dX8_seen_31 : decode cX8_seen 31 = .ok (.ifCond .eq 13, 3) := by decide +kernel
theorem dX8_seen_34 : decode cX8_seen 34 = .ok (.aload_n 0, 1) := by decide +kernel
theorem dX8_seen_35 : decode cX8_seen 35 = .ok (.getfield 52, 3) := by decide +kernel
theorem dX8_seen_38 : decode cX8_seen 38 = .ok (.invokevirtual 271, 3) := by decide +kernel
theorem dX8_seen_41 : decode cX8_seen 41 = .ok (.goto 5, 3) := by decide +kernel
theorem dX8_seen_44 : decode cX8_seen 44 = .ok (.bipush (-3), 2) := by decide +kernel
theorem dX8_seen_46 : decode cX8_seen 46 = .ok (.ireturn, 1) := by decide +kernel
theorem dX8_forget_0 : decode cX8_forget 0 = .ok (.aload_n 0, 1) := by decide +kernel
theorem dX8_forget_1 : decode cX8_forget 1 = .ok (.getfield 52, 3) := by decide +kernel
theorem dX8_forget_4 : decode cX8_forget 4 = .ok (.invokevirtual 271, 3) := by decide +kernel
theorem dX8_forget_7 : decode cX8_forget 7 = .ok (.istore_n 1, 1) := by decide +kernel
theorem dX8_forget_8 : decode cX8_forget 8 = .ok (.aload_n 0, 1) := by decide +kernel
theorem dX8_forget_9 : decode cX8_forget 9 = .ok (.getfield 52, 3) := by decide +kernel
theorem dX8_forget_12 : decode cX8_forget 12 = .ok (.invokevirtual 107, 3) := by decide +kernel
theorem dX8_forget_15 : decode cX8_forget 15 = .ok (.iload_n 1, 1) := by decide +kernel
theorem dX8_forget_16 : decode cX8_forget 16 = .ok (.ireturn, 1) := by decide +kernel
theorem dX8_flows_0 : decode cX8_flows 0 = .ok (.iconst 0, 1) := by decide +kernel
theorem dX8_flows_1 : decode cX8_flows 1 = .ok (.istore_n 1, 1) := by decide +kernel
theorem dX8_flows_2 : decode cX8_flows 2 = .ok (.iconst 0, 1) := by decide +kernel
theorem dX8_flows_3 : decode cX8_flows 3 = .ok (.istore_n 2, 1) := by decide +kernel
theorem dX8_flows_4 : decode cX8_flows 4 = .ok (.iload_n 2, 1) := by decide +kernel
theorem dX8_flows_5 : decode cX8_flows 5 = .ok (.bipush 30, 2) := by decide +kernel
theorem dX8_flows_7 : decode cX8_flows 7 = .ok (.if_icmp .gt 30, 3) := by decide +kernel
theorem dX8_flows_10 : decode cX8_flows 10 = .ok (.aload_n 0, 1) := by decide +kernel
theorem dX8_flows_11 : decode cX8_flows 11 = .ok (.getfield 52, 3) := by decide +kernel
theorem dX8_flows_14 : decode cX8_flows 14 = .ok (.iload_n 2, 1) := by decide +kernel
theorem dX8_flows_15 : decode cX8_flows 15 = .ok (.aload_n 0, 1) := by decide +kernel
theorem dX8_flows_16 : decode cX8_flows 16 = .ok (.getfield 19, 3) := by decide +kernel
theorem dX8_flows_19 : decode cX8_flows 19 = .ok (.invokevirtual 272, 3) := by decide +kernel
theorem dX8_flows_22 : decode cX8_flows 22 = .ok (.ifCond .eq 9, 3) := by decide +kernel
theorem dX8_flows_25 : decode cX8_flows 25 = .ok (.iload_n 1, 1) := by decide +kernel
theorem dX8_flows_26 : decode cX8_flows 26 = .ok (.iconst 1, 1) := by decide +kernel
theorem dX8_flows_27 : decode cX8_flows 27 = .ok (.iload_n 2, 1) := by decide +kernel
theorem dX8_flows_28 : decode cX8_flows 28 = .ok (.ishl, 1) := by decide +kernel
theorem dX8_flows_29 : decode cX8_flows 29 = .ok (.ior, 1) := by decide +kernel
theorem dX8_flows_30 : decode cX8_flows 30 = .ok (.istore_n 1, 1) := by decide +kernel
theorem dX8_flows_31 : decode cX8_flows 31 = .ok (.iinc 2 1, 3) := by decide +kernel
theorem dX8_flows_34 : decode cX8_flows 34 = .ok (.goto (-30), 3) := by decide +kernel
theorem dX8_flows_37 : decode cX8_flows 37 = .ok (.iload_n 1, 1) := by decide +kernel
theorem dX8_flows_38 : decode cX8_flows 38 = .ok (.ireturn, 1) := by decide +kernel
theorem dX8_odds_0 : decode cX8_odds 0 = .ok (.iload_n 1, 1) := by decide +kernel
theorem dX8_odds_1 : decode cX8_odds 1 = .ok (.iconst 0, 1) := by decide +kernel
theorem dX8_odds_2 : decode cX8_odds 2 = .ok (.iconst 5, 1) := by decide +kernel
theorem dX8_odds_3 : decode cX8_odds 3 = .ok (.invokestatic 92, 3) := by decide +kernel
theorem dX8_odds_6 : decode cX8_odds 6 = .ok (.ifCond .eq 33, 3) := by decide +kernel
theorem dX8_odds_9 : decode cX8_odds 9 = .ok (.iload_n 2, 1) := by decide +kernel
theorem dX8_odds_10 : decode cX8_odds 10 = .ok (.iconst 0, 1) := by decide +kernel
theorem dX8_odds_11 : decode cX8_odds 11 = .ok (.bipush 30, 2) := by decide +kernel
theorem dX8_odds_13 : decode cX8_odds 13 = .ok (.invokestatic 92, 3) := by decide +kernel
theorem dX8_odds_16 : decode cX8_odds 16 = .ok (.ifCond .eq 23, 3) := by decide +kernel
theorem dX8_odds_19 : decode cX8_odds 19 = .ok (.iload_n 3, 1) := by decide +kernel
theorem dX8_odds_20 : decode cX8_odds 20 = .ok (.iconst 0, 1) := by decide +kernel
theorem dX8_odds_21 : decode cX8_odds 21 = .ok (.bipush 10, 2) := by decide +kernel
theorem dX8_odds_23 : decode cX8_odds 23 = .ok (.invokestatic 92, 3) := by decide +kernel
theorem dX8_odds_26 : decode cX8_odds 26 = .ok (.ifCond .eq 13, 3) := by decide +kernel
theorem dX8_odds_29 : decode cX8_odds 29 = .ok (.iload 4, 2) := by decide +kernel
theorem dX8_odds_31 : decode cX8_odds 31 = .ok (.iconst 0, 1) := by decide +kernel
theorem dX8_odds_32 : decode cX8_odds 32 = .ok (.iconst 1, 1) := by decide +kernel
theorem dX8_odds_33 : decode cX8_odds 33 = .ok (.invokestatic 92, 3) := by decide +kernel
theorem dX8_odds_36 : decode cX8_odds 36 = .ok (.ifCond .ne 5, 3) := by decide +kernel
theorem dX8_odds_39 : decode cX8_odds 39 = .ok (.iconst (-1), 1) := by decide +kernel
theorem dX8_odds_40 : decode cX8_odds 40 = .ok (.ireturn, 1) := by decide +kernel
theorem dX8_odds_41 : decode cX8_odds 41 = .ok (.iconst 0, 1) := by decide +kernel
theorem dX8_odds_42 : decode cX8_odds 42 = .ok (.istore 5, 2) := by decide +kernel
theorem dX8_odds_44 : decode cX8_odds 44 = .ok (.iconst 1, 1) := by decide +kernel
theorem dX8_odds_45 : decode cX8_odds 45 = .ok (.istore 6, 2) := by decide +kernel
theorem dX8_odds_47 : decode cX8_odds 47 = .ok (.iconst 0, 1) := by decide +kernel
theorem dX8_odds_48 : decode cX8_odds 48 = .ok (.istore 7, 2) := by decide +kernel
theorem dX8_odds_50 : decode cX8_odds 50 = .ok (.iload 7, 2) := by decide +kernel
theorem dX8_odds_52 : decode cX8_odds 52 = .ok (.iload_n 1, 1) := by decide +kernel
theorem dX8_odds_53 : decode cX8_odds 53 = .ok (.if_icmp .ge 16, 3) := by decide +kernel
theorem dX8_odds_56 : decode cX8_odds 56 = .ok (.iload 6, 2) := by decide +kernel
theorem dX8_odds_58 : decode cX8_odds 58 = .ok (.bipush 10, 2) := by decide +kernel
theorem dX8_odds_60 : decode cX8_odds 60 = .ok (.imul, 1) := by decide +kernel
theorem dX8_odds_61 : decode cX8_odds 61 = .ok (.istore 6, 2) := by decide +kernel
theorem dX8_odds_63 : decode cX8_odds 63 = .ok (.iinc 7 1, 3) := by decide +kernel
theorem dX8_odds_66 : decode cX8_odds 66 = .ok (.goto (-16), 3) := by decide +kernel
theorem dX8_odds_69 : decode cX8_odds 69 = .ok (.iconst 0, 1) := by decide +kernel
theorem dX8_odds_70 : decode cX8_odds 70 = .ok (.istore 7, 2) := by decide +kernel
theorem dX8_odds_72 : decode cX8_odds 72 = .ok (.iload 7, 2) := by decide +kernel
theorem dX8_odds_74 : decode cX8_odds 74 = .ok (.iconst 1, 1) := by decide +kernel
theorem dX8_odds_75 : decode cX8_odds 75 = .ok (.iload_n 1, 1) := by decide +kernel
theorem dX8_odds_76 : decode cX8_odds 76 = .ok (.ishl, 1) := by decide +kernel
theorem dX8_odds_77 : decode cX8_odds 77 = .ok (.if_icmp .ge 32, 3) := by decide +kernel
theorem dX8_odds_80 : decode cX8_odds 80 = .ok (.aload_n 0, 1) := by decide +kernel
theorem dX8_odds_81 : decode cX8_odds 81 = .ok (.iload 7, 2) := by decide +kernel
theorem dX8_odds_83 : decode cX8_odds 83 = .ok (.iload_n 1, 1) := by decide +kernel
theorem dX8_odds_84 : decode cX8_odds 84 = .ok (.iload_n 2, 1) := by decide +kernel
theorem dX8_odds_85 : decode cX8_odds 85 = .ok (.invokevirtual 276, 3) := by decide +kernel
theorem dX8_odds_88 : decode cX8_odds 88 = .ok (.ifCond .eq 15, 3) := by decide +kernel
theorem dX8_odds_91 : decode cX8_odds 91 = .ok (.iload 5, 2) := by decide +kernel
theorem dX8_odds_93 : decode cX8_odds 93 = .ok (.iload 7, 2) := by decide +kernel
theorem dX8_odds_95 : decode cX8_odds 95 = .ok (.iload_n 1, 1) := by decide +kernel
theorem dX8_odds_96 : decode cX8_odds 96 = .ok (.iload_n 3, 1) := by decide +kernel
theorem dX8_odds_97 : decode cX8_odds 97 = .ok (.invokestatic 279, 3) := by decide +kernel
theorem dX8_odds_100 : decode cX8_odds 100 = .ok (.iadd, 1) := by decide +kernel
theorem dX8_odds_101 : decode cX8_odds 101 = .ok (.istore 5, 2) := by decide +kernel
theorem dX8_odds_103 : decode cX8_odds 103 = .ok (.iinc 7 1, 3) := by decide +kernel
theorem dX8_odds_106 : decode cX8_odds 106 = .ok (.goto (-34), 3) := by decide +kernel
theorem dX8_odds_109 : decode cX8_odds 109 = .ok (.iload 5, 2) := by decide +kernel
theorem dX8_odds_111 : decode cX8_odds 111 = .ok (.iload 6, 2) := by decide +kernel
theorem dX8_odds_113 : decode cX8_odds 113 = .ok (.invokestatic 282, 3) := by decide +kernel
theorem dX8_odds_116 : decode cX8_odds 116 = .ok (.istore 7, 2) := by decide +kernel
theorem dX8_odds_118 : decode cX8_odds 118 = .ok (.iload 7, 2) := by decide +kernel
theorem dX8_odds_120 : decode cX8_odds 120 = .ok (.iconst 1, 1) := by decide +kernel
theorem dX8_odds_121 : decode cX8_odds 121 = .ok (.if_icmp .ge 5, 3) := by decide +kernel
theorem dX8_odds_124 : decode cX8_odds 124 = .ok (.iconst (-1), 1) := by decide +kernel
theorem dX8_odds_125 : decode cX8_odds 125 = .ok (.ireturn, 1) := by decide +kernel
theorem dX8_odds_126 : decode cX8_odds 126 = .ok (.iload 4, 2) := by decide +kernel
theorem dX8_odds_128 : decode cX8_odds 128 = .ok (.ifCond .ne 11, 3) := by decide +kernel
theorem dX8_odds_131 : decode cX8_odds 131 = .ok (.iload 5, 2) := by decide +kernel
theorem dX8_odds_133 : decode cX8_odds 133 = .ok (.iload 7, 2) := by decide +kernel
theorem dX8_odds_135 : decode cX8_odds 135 = .ok (.idiv, 1) := by decide +kernel
theorem dX8_odds_136 : decode cX8_odds 136 = .ok (.goto 8, 3) := by decide +kernel
theorem dX8_odds_139 : decode cX8_odds 139 = .ok (.iload 6, 2) := by decide +kernel
theorem dX8_odds_141 : decode cX8_odds 141 = .ok (.iload 7, 2) := by decide +kernel
theorem dX8_odds_143 : decode cX8_odds 143 = .ok (.idiv, 1) := by decide +kernel
theorem dX8_odds_144 : decode cX8_odds 144 = .ok (.ireturn, 1) := by decide +kernel
theorem dX8_holdsIn_0 : decode cX8_holdsIn 0 = .ok (.aload_n 0, 1) := by decide +kernel
theorem dX8_holdsIn_1 : decode cX8_holdsIn 1 = .ok (.getfield 35, 3) := by decide +kernel
theorem dX8_holdsIn_4 : decode cX8_holdsIn 4 = .ok (.aload_n 0, 1) := by decide +kernel
theorem dX8_holdsIn_5 : decode cX8_holdsIn 5 = .ok (.getfield 31, 3) := by decide +kernel
theorem dX8_holdsIn_8 : decode cX8_holdsIn 8 = .ok (.invokevirtual 186, 3) := by decide +kernel
theorem dX8_holdsIn_11 : decode cX8_holdsIn 11 = .ok (.aload_n 0, 1) := by decide +kernel
theorem dX8_holdsIn_12 : decode cX8_holdsIn 12 = .ok (.getfield 35, 3) := by decide +kernel
theorem dX8_holdsIn_15 : decode cX8_holdsIn 15 = .ok (.invokevirtual 285, 3) := by decide +kernel
theorem dX8_holdsIn_18 : decode cX8_holdsIn 18 = .ok (.istore 4, 2) := by decide +kernel
theorem dX8_holdsIn_20 : decode cX8_holdsIn 20 = .ok (.iconst 0, 1) := by decide +kernel
theorem dX8_holdsIn_21 : decode cX8_holdsIn 21 = .ok (.istore 5, 2) := by decide +kernel
theorem dX8_holdsIn_23 : decode cX8_holdsIn 23 = .ok (.iload 5, 2) := by decide +kernel
theorem dX8_holdsIn_25 : decode cX8_holdsIn 25 = .ok (.iload_n 2, 1) := by decide +kernel
theorem dX8_holdsIn_26 : decode cX8_holdsIn 26 = .ok (.if_icmp .ge 33, 3) := by decide +kernel
theorem dX8_holdsIn_29 : decode cX8_holdsIn 29 = .ok (.aload_n 0, 1) := by decide +kernel
theorem dX8_holdsIn_30 : decode cX8_holdsIn 30 = .ok (.getfield 35, 3) := by decide +kernel
theorem dX8_holdsIn_33 : decode cX8_holdsIn 33 = .ok (.bipush 10, 2) := by decide +kernel
theorem dX8_holdsIn_35 : decode cX8_holdsIn 35 = .ok (.iload_n 1, 1) := by decide +kernel
theorem dX8_holdsIn_36 : decode cX8_holdsIn 36 = .ok (.iload 5, 2) := by decide +kernel
theorem dX8_holdsIn_38 : decode cX8_holdsIn 38 = .ok (.ishr, 1) := by decide +kernel
theorem dX8_holdsIn_39 : decode cX8_holdsIn 39 = .ok (.iconst 1, 1) := by decide +kernel
theorem dX8_holdsIn_40 : decode cX8_holdsIn 40 = .ok (.iand, 1) := by decide +kernel
theorem dX8_holdsIn_41 : decode cX8_holdsIn 41 = .ok (.iconst 1, 1) := by decide +kernel
theorem dX8_holdsIn_42 : decode cX8_holdsIn 42 = .ok (.if_icmp .ne 7, 3) := by decide +kernel
theorem dX8_holdsIn_45 : decode cX8_holdsIn 45 = .ok (.iload_n 3, 1) := by decide +kernel
theorem dX8_holdsIn_46 : decode cX8_holdsIn 46 = .ok (.goto 4, 3) := by decide +kernel
theorem dX8_holdsIn_49 : decode cX8_holdsIn 49 = .ok (.iconst 0, 1) := by decide +kernel
theorem dX8_holdsIn_50 : decode cX8_holdsIn 50 = .ok (.invokevirtual 175, 3) := by decide +kernel
theorem dX8_holdsIn_53 : decode cX8_holdsIn 53 = .ok (.iinc 5 1, 3) := by decide +kernel
theorem dX8_holdsIn_56 : decode cX8_holdsIn 56 = .ok (.goto (-33), 3) := by decide +kernel
theorem dX8_holdsIn_59 : decode cX8_holdsIn 59 = .ok (.aload_n 0, 1) := by decide +kernel
theorem dX8_holdsIn_60 : decode cX8_holdsIn 60 = .ok (.getfield 35, 3) := by decide +kernel
theorem dX8_holdsIn_63 : decode cX8_holdsIn 63 = .ok (.invokevirtual 285, 3) := by decide +kernel
theorem dX8_holdsIn_66 : decode cX8_holdsIn 66 = .ok (.iload 4, 2) := by decide +kernel
theorem dX8_holdsIn_68 : decode cX8_holdsIn 68 = .ok (.if_icmp .ne 7, 3) := by decide +kernel
theorem dX8_holdsIn_71 : decode cX8_holdsIn 71 = .ok (.iconst 1, 1) := by decide +kernel
theorem dX8_holdsIn_72 : decode cX8_holdsIn 72 = .ok (.goto 4, 3) := by decide +kernel
theorem dX8_holdsIn_75 : decode cX8_holdsIn 75 = .ok (.iconst 0, 1) := by decide +kernel
theorem dX8_holdsIn_76 : decode cX8_holdsIn 76 = .ok (.ireturn, 1) := by decide +kernel
theorem dX8_chanceOf_0 : decode cX8_chanceOf 0 = .ok (.iconst 1, 1) := by decide +kernel
theorem dX8_chanceOf_1 : decode cX8_chanceOf 1 = .ok (.istore_n 3, 1) := by decide +kernel
theorem dX8_chanceOf_2 : decode cX8_chanceOf 2 = .ok (.iconst 0, 1) := by decide +kernel
theorem dX8_chanceOf_3 : decode cX8_chanceOf 3 = .ok (.istore 4, 2) := by decide +kernel
theorem dX8_chanceOf_5 : decode cX8_chanceOf 5 = .ok (.iload 4, 2) := by decide +kernel
theorem dX8_chanceOf_7 : decode cX8_chanceOf 7 = .ok (.iload_n 1, 1) := by decide +kernel
theorem dX8_chanceOf_8 : decode cX8_chanceOf 8 = .ok (.if_icmp .ge 30, 3) := by decide +kernel
theorem dX8_chanceOf_11 : decode cX8_chanceOf 11 = .ok (.iload_n 3, 1) := by decide +kernel
theorem dX8_chanceOf_12 : decode cX8_chanceOf 12 = .ok (.iload_n 0, 1) := by decide +kernel
theorem dX8_chanceOf_13 : decode cX8_chanceOf 13 = .ok (.iload 4, 2) := by decide +kernel
theorem dX8_chanceOf_15 : decode cX8_chanceOf 15 = .ok (.ishr, 1) := by decide +kernel
theorem dX8_chanceOf_16 : decode cX8_chanceOf 16 = .ok (.iconst 1, 1) := by decide +kernel
theorem dX8_chanceOf_17 : decode cX8_chanceOf 17 = .ok (.iand, 1) := by decide +kernel
theorem dX8_chanceOf_18 : decode cX8_chanceOf 18 = .ok (.iconst 1, 1) := by decide +kernel
theorem dX8_chanceOf_19 : decode cX8_chanceOf 19 = .ok (.if_icmp .ne 7, 3) := by decide +kernel
theorem dX8_chanceOf_22 : decode cX8_chanceOf 22 = .ok (.iload_n 2, 1) := by decide +kernel
theorem dX8_chanceOf_23 : decode cX8_chanceOf 23 = .ok (.goto 7, 3) := by decide +kernel
theorem dX8_chanceOf_26 : decode cX8_chanceOf 26 = .ok (.bipush 10, 2) := by decide +kernel
theorem dX8_chanceOf_28 : decode cX8_chanceOf 28 = .ok (.iload_n 2, 1) := by decide +kernel
theorem dX8_chanceOf_29 : decode cX8_chanceOf 29 = .ok (.isub, 1) := by decide +kernel
theorem dX8_chanceOf_30 : decode cX8_chanceOf 30 = .ok (.imul, 1) := by decide +kernel
theorem dX8_chanceOf_31 : decode cX8_chanceOf 31 = .ok (.istore_n 3, 1) := by decide +kernel
theorem dX8_chanceOf_32 : decode cX8_chanceOf 32 = .ok (.iinc 4 1, 3) := by decide +kernel
theorem dX8_chanceOf_35 : decode cX8_chanceOf 35 = .ok (.goto (-30), 3) := by decide +kernel
theorem dX8_chanceOf_38 : decode cX8_chanceOf 38 = .ok (.iload_n 3, 1) := by decide +kernel
theorem dX8_chanceOf_39 : decode cX8_chanceOf 39 = .ok (.ireturn, 1) := by decide +kernel
theorem dX8_greatestDivisor_0 : decode cX8_greatestDivisor 0 = .ok (.iload_n 0, 1) := by decide +kernel
theorem dX8_greatestDivisor_1 : decode cX8_greatestDivisor 1 = .ok (.istore_n 2, 1) := by decide +kernel
theorem dX8_greatestDivisor_2 : decode cX8_greatestDivisor 2 = .ok (.iload_n 1, 1) := by decide +kernel
theorem dX8_greatestDivisor_3 : decode cX8_greatestDivisor 3 = .ok (.istore_n 3, 1) := by decide +kernel
theorem dX8_greatestDivisor_4 : decode cX8_greatestDivisor 4 = .ok (.iconst 0, 1) := by decide +kernel
theorem dX8_greatestDivisor_5 : decode cX8_greatestDivisor 5 = .ok (.istore 4, 2) := by decide +kernel
theorem dX8_greatestDivisor_7 : decode cX8_greatestDivisor 7 = .ok (.iload 4, 2) := by decide +kernel
theorem dX8_greatestDivisor_9 : decode cX8_greatestDivisor 9 = .ok (.bipush 100, 2) := by decide +kernel
theorem dX8_greatestDivisor_11 : decode cX8_greatestDivisor 11 = .ok (.if_icmp .ge 23, 3) := by decide +kernel
theorem dX8_greatestDivisor_14 : decode cX8_greatestDivisor 14 = .ok (.iload_n 3, 1) := by decide +kernel
theorem dX8_greatestDivisor_15 : decode cX8_greatestDivisor 15 = .ok (.ifCond .eq 19, 3) := by decide +kernel
theorem dX8_greatestDivisor_18 : decode cX8_greatestDivisor 18 = .ok (.iload_n 2, 1) := by decide +kernel
theorem dX8_greatestDivisor_19 : decode cX8_greatestDivisor 19 = .ok (.iload_n 3, 1) := by decide +kernel
theorem dX8_greatestDivisor_20 : decode cX8_greatestDivisor 20 = .ok (.irem, 1) := by decide +kernel
theorem dX8_greatestDivisor_21 : decode cX8_greatestDivisor 21 = .ok (.istore 5, 2) := by decide +kernel
theorem dX8_greatestDivisor_23 : decode cX8_greatestDivisor 23 = .ok (.iload_n 3, 1) := by decide +kernel
theorem dX8_greatestDivisor_24 : decode cX8_greatestDivisor 24 = .ok (.istore_n 2, 1) := by decide +kernel
theorem dX8_greatestDivisor_25 : decode cX8_greatestDivisor 25 = .ok (.iload 5, 2) := by decide +kernel
theorem dX8_greatestDivisor_27 : decode cX8_greatestDivisor 27 = .ok (.istore_n 3, 1) := by decide +kernel
theorem dX8_greatestDivisor_28 : decode cX8_greatestDivisor 28 = .ok (.iinc 4 1, 3) := by decide +kernel
theorem dX8_greatestDivisor_31 : decode cX8_greatestDivisor 31 = .ok (.goto (-24), 3) := by decide +kernel
theorem dX8_greatestDivisor_34 : decode cX8_greatestDivisor 34 = .ok (.iload_n 2, 1) := by decide +kernel
theorem dX8_greatestDivisor_35 : decode cX8_greatestDivisor 35 = .ok (.ireturn, 1) := by decide +kernel
theorem dX8_night_0 : decode cX8_night 0 = .ok (.iload_n 1, 1) := by decide +kernel
theorem dX8_night_1 : decode cX8_night 1 = .ok (.iconst 0, 1) := by decide +kernel
theorem dX8_night_2 : decode cX8_night 2 = .ok (.sipush 9999, 3) := by decide +kernel
theorem dX8_night_5 : decode cX8_night 5 = .ok (.invokestatic 92, 3) := by decide +kernel
theorem dX8_night_8 : decode cX8_night 8 = .ok (.ifCond .eq 12, 3) := by decide +kernel
theorem dX8_night_11 : decode cX8_night 11 = .ok (.iload_n 2, 1) := by decide +kernel
theorem dX8_night_12 : decode cX8_night 12 = .ok (.iconst 0, 1) := by decide +kernel
theorem dX8_night_13 : decode cX8_night 13 = .ok (.iconst 1, 1) := by decide +kernel
theorem dX8_night_14 : decode cX8_night 14 = .ok (.invokestatic 92, 3) := by decide +kernel
theorem dX8_night_17 : decode cX8_night 17 = .ok (.ifCond .ne 5, 3) := by decide +kernel
theorem dX8_night_20 : decode cX8_night 20 = .ok (.iconst (-1), 1) := by decide +kernel
theorem dX8_night_21 : decode cX8_night 21 = .ok (.ireturn, 1) := by decide +kernel
theorem dX8_night_22 : decode cX8_night 22 = .ok (.aload_n 0, 1) := by decide +kernel
theorem dX8_night_23 : decode cX8_night 23 = .ok (.getfield 35, 3) := by decide +kernel
theorem dX8_night_26 : decode cX8_night 26 = .ok (.aload_n 0, 1) := by decide +kernel
theorem dX8_night_27 : decode cX8_night 27 = .ok (.getfield 31, 3) := by decide +kernel
theorem dX8_night_30 : decode cX8_night 30 = .ok (.invokevirtual 186, 3) := by decide +kernel
theorem dX8_night_33 : decode cX8_night 33 = .ok (.iconst 1, 1) := by decide +kernel
theorem dX8_night_34 : decode cX8_night 34 = .ok (.istore_n 3, 1) := by decide +kernel
theorem dX8_night_35 : decode cX8_night 35 = .ok (.iload_n 3, 1) := by decide +kernel
theorem dX8_night_36 : decode cX8_night 36 = .ok (.bipush 60, 2) := by decide +kernel
theorem dX8_night_38 : decode cX8_night 38 = .ok (.if_icmp .gt 21, 3) := by decide +kernel
theorem dX8_night_41 : decode cX8_night 41 = .ok (.aload_n 0, 1) := by decide +kernel
theorem dX8_night_42 : decode cX8_night 42 = .ok (.getfield 35, 3) := by decide +kernel
theorem dX8_night_45 : decode cX8_night 45 = .ok (.iload_n 1, 1) := by decide +kernel
theorem dX8_night_46 : decode cX8_night 46 = .ok (.iload_n 3, 1) := by decide +kernel
theorem dX8_night_47 : decode cX8_night 47 = .ok (.invokestatic 288, 3) := by decide +kernel
theorem dX8_night_50 : decode cX8_night 50 = .ok (.invokevirtual 229, 3) := by decide +kernel
theorem dX8_night_53 : decode cX8_night 53 = .ok (.iinc 3 1, 3) := by decide +kernel
theorem dX8_night_56 : decode cX8_night 56 = .ok (.goto (-21), 3) := by decide +kernel
theorem dX8_night_59 : decode cX8_night 59 = .ok (.iload_n 2, 1) := by decide +kernel
theorem dX8_night_60 : decode cX8_night 60 = .ok (.ifCond .ne 13, 3) := by decide +kernel
theorem dX8_night_63 : decode cX8_night 63 = .ok (.aload_n 0, 1) := by decide +kernel
theorem dX8_night_64 : decode cX8_night 64 = .ok (.getfield 35, 3) := by decide +kernel
theorem dX8_night_67 : decode cX8_night 67 = .ok (.invokevirtual 124, 3) := by decide +kernel
theorem dX8_night_70 : decode cX8_night 70 = .ok (.goto 18, 3) := by decide +kernel
theorem dX8_night_73 : decode cX8_night 73 = .ok (.aload_n 0, 1) := by decide +kernel
theorem dX8_night_74 : decode cX8_night 74 = .ok (.getfield 35, 3) := by decide +kernel
theorem dX8_night_77 : decode cX8_night 77 = .ok (.invokevirtual 285, 3) := by decide +kernel
theorem dX8_night_80 : decode cX8_night 80 = .ok (.aload_n 0, 1) := by decide +kernel
theorem dX8_night_81 : decode cX8_night 81 = .ok (.getfield 31, 3) := by decide +kernel
theorem dX8_night_84 : decode cX8_night 84 = .ok (.invokevirtual 285, 3) := by decide +kernel
theorem dX8_night_87 : decode cX8_night 87 = .ok (.isub, 1) := by decide +kernel
theorem dX8_night_88 : decode cX8_night 88 = .ok (.ireturn, 1) := by decide +kernel
theorem dX8_drawOf_0 : decode cX8_drawOf 0 = .ok (.ldc2_w 291, 3) := by decide +kernel
theorem dX8_drawOf_3 : decode cX8_drawOf 3 = .ok (.iload_n 0, 1) := by decide +kernel
theorem dX8_drawOf_4 : decode cX8_drawOf 4 = .ok (.i2l, 1) := by decide +kernel
theorem dX8_drawOf_5 : decode cX8_drawOf 5 = .ok (.lmul, 1) := by decide +kernel
theorem dX8_drawOf_6 : decode cX8_drawOf 6 = .ok (.ldc2_w 293, 3) := by decide +kernel
theorem dX8_drawOf_9 : decode cX8_drawOf 9 = .ok (.iload_n 1, 1) := by decide +kernel
theorem dX8_drawOf_10 : decode cX8_drawOf 10 = .ok (.i2l, 1) := by decide +kernel
theorem dX8_drawOf_11 : decode cX8_drawOf 11 = .ok (.lmul, 1) := by decide +kernel
theorem dX8_drawOf_12 : decode cX8_drawOf 12 = .ok (.ladd, 1) := by decide +kernel
theorem dX8_drawOf_13 : decode cX8_drawOf 13 = .ok (.lconst 1, 1) := by decide +kernel
theorem dX8_drawOf_14 : decode cX8_drawOf 14 = .ok (.ladd, 1) := by decide +kernel
theorem dX8_drawOf_15 : decode cX8_drawOf 15 = .ok (.lstore_n 2, 1) := by decide +kernel
theorem dX8_drawOf_16 : decode cX8_drawOf 16 = .ok (.lload_n 2, 1) := by decide +kernel
theorem dX8_drawOf_17 : decode cX8_drawOf 17 = .ok (.lload_n 2, 1) := by decide +kernel
theorem dX8_drawOf_18 : decode cX8_drawOf 18 = .ok (.lmul, 1) := by decide +kernel
theorem dX8_drawOf_19 : decode cX8_drawOf 19 = .ok (.ldc2_w 295, 3) := by decide +kernel
theorem dX8_drawOf_22 : decode cX8_drawOf 22 = .ok (.lrem, 1) := by decide +kernel
theorem dX8_drawOf_23 : decode cX8_drawOf 23 = .ok (.ldc2_w 297, 3) := by decide +kernel
theorem dX8_drawOf_26 : decode cX8_drawOf 26 = .ok (.lrem, 1) := by decide +kernel
theorem dX8_drawOf_27 : decode cX8_drawOf 27 = .ok (.l2i, 1) := by decide +kernel
theorem dX8_drawOf_28 : decode cX8_drawOf 28 = .ok (.ireturn, 1) := by decide +kernel
theorem dX8_keep_0 : decode cX8_keep 0 = .ok (.aload_n 0, 1) := by decide +kernel
theorem dX8_keep_1 : decode cX8_keep 1 = .ok (.getfield 103, 3) := by decide +kernel
theorem dX8_keep_4 : decode cX8_keep 4 = .ok (.ifCond .lt 11, 3) := by decide +kernel
theorem dX8_keep_7 : decode cX8_keep 7 = .ok (.aload_n 0, 1) := by decide +kernel
theorem dX8_keep_8 : decode cX8_keep 8 = .ok (.getfield 103, 3) := by decide +kernel
theorem dX8_keep_11 : decode cX8_keep 11 = .ok (.iconst 2, 1) := by decide +kernel
theorem dX8_keep_12 : decode cX8_keep 12 = .ok (.if_icmp .lt 6, 3) := by decide +kernel
theorem dX8_keep_15 : decode cX8_keep 15 = .ok (.bipush (-3), 2) := by decide +kernel
theorem dX8_keep_17 : decode cX8_keep 17 = .ok (.ireturn, 1) := by decide +kernel
theorem dX8_keep_18 : decode cX8_keep 18 = .ok (.aload_n 0, 1) := by decide +kernel
theorem dX8_keep_19 : decode cX8_keep 19 = .ok (.getfield 45, 3) := by decide +kernel
theorem dX8_keep_22 : decode cX8_keep 22 = .ok (.aload_n 0, 1) := by decide +kernel
theorem dX8_keep_23 : decode cX8_keep 23 = .ok (.getfield 103, 3) := by decide +kernel
theorem dX8_keep_26 : decode cX8_keep 26 = .ok (.aaload, 1) := by decide +kernel
theorem dX8_keep_27 : decode cX8_keep 27 = .ok (.aload_n 0, 1) := by decide +kernel
theorem dX8_keep_28 : decode cX8_keep 28 = .ok (.getfield 41, 3) := by decide +kernel
theorem dX8_keep_31 : decode cX8_keep 31 = .ok (.invokevirtual 299, 3) := by decide +kernel
theorem dX8_keep_34 : decode cX8_keep 34 = .ok (.aload_n 0, 1) := by decide +kernel
theorem dX8_keep_35 : decode cX8_keep 35 = .ok (.dup, 1) := by decide +kernel
theorem dX8_keep_36 : decode cX8_keep 36 = .ok (.getfield 103, 3) := by decide +kernel
theorem dX8_keep_39 : decode cX8_keep 39 = .ok (.iconst 1, 1) := by decide +kernel
theorem dX8_keep_40 : decode cX8_keep 40 = .ok (.iadd, 1) := by decide +kernel
theorem dX8_keep_41 : decode cX8_keep 41 = .ok (.putfield 103, 3) := by decide +kernel
theorem dX8_keep_44 : decode cX8_keep 44 = .ok (.aload_n 0, 1) := by decide +kernel
theorem dX8_keep_45 : decode cX8_keep 45 = .ok (.getfield 103, 3) := by decide +kernel
theorem dX8_keep_48 : decode cX8_keep 48 = .ok (.ireturn, 1) := by decide +kernel
theorem dX8_back_0 : decode cX8_back 0 = .ok (.aload_n 0, 1) := by decide +kernel
theorem dX8_back_1 : decode cX8_back 1 = .ok (.getfield 103, 3) := by decide +kernel
theorem dX8_back_4 : decode cX8_back 4 = .ok (.iconst 1, 1) := by decide +kernel
theorem dX8_back_5 : decode cX8_back 5 = .ok (.if_icmp .lt 11, 3) := by decide +kernel
theorem dX8_back_8 : decode cX8_back 8 = .ok (.aload_n 0, 1) := by decide +kernel
theorem dX8_back_9 : decode cX8_back 9 = .ok (.getfield 103, 3) := by decide +kernel
theorem dX8_back_12 : decode cX8_back 12 = .ok (.iconst 2, 1) := by decide +kernel
theorem dX8_back_13 : decode cX8_back 13 = .ok (.if_icmp .le 6, 3) := by decide +kernel
theorem dX8_back_16 : decode cX8_back 16 = .ok (.bipush (-2), 2) := by decide +kernel
theorem dX8_back_18 : decode cX8_back 18 = .ok (.ireturn, 1) := by decide +kernel
theorem dX8_back_19 : decode cX8_back 19 = .ok (.aload_n 0, 1) := by decide +kernel
theorem dX8_back_20 : decode cX8_back 20 = .ok (.dup, 1) := by decide +kernel
theorem dX8_back_21 : decode cX8_back 21 = .ok (.getfield 103, 3) := by decide +kernel
theorem dX8_back_24 : decode cX8_back 24 = .ok (.iconst 1, 1) := by decide +kernel
theorem dX8_back_25 : decode cX8_back 25 = .ok (.isub, 1) := by decide +kernel
theorem dX8_back_26 : decode cX8_back 26 = .ok (.putfield 103, 3) := by decide +kernel
theorem dX8_back_29 : decode cX8_back 29 = .ok (.aload_n 0, 1) := by decide +kernel
theorem dX8_back_30 : decode cX8_back 30 = .ok (.getfield 41, 3) := by decide +kernel
theorem dX8_back_33 : decode cX8_back 33 = .ok (.aload_n 0, 1) := by decide +kernel
theorem dX8_back_34 : decode cX8_back 34 = .ok (.getfield 45, 3) := by decide +kernel
theorem dX8_back_37 : decode cX8_back 37 = .ok (.aload_n 0, 1) := by decide +kernel
theorem dX8_back_38 : decode cX8_back 38 = .ok (.getfield 103, 3) := by decide +kernel
theorem dX8_back_41 : decode cX8_back 41 = .ok (.aaload, 1) := by decide +kernel
theorem dX8_back_42 : decode cX8_back 42 = .ok (.invokevirtual 299, 3) := by decide +kernel
theorem dX8_back_45 : decode cX8_back 45 = .ok (.aload_n 0, 1) := by decide +kernel
theorem dX8_back_46 : decode cX8_back 46 = .ok (.getfield 41, 3) := by decide +kernel
theorem dX8_back_49 : decode cX8_back 49 = .ok (.bipush (-4), 2) := by decide +kernel
theorem dX8_back_51 : decode cX8_back 51 = .ok (.aload_n 0, 1) := by decide +kernel
theorem dX8_back_52 : decode cX8_back 52 = .ok (.getfield 31, 3) := by decide +kernel
theorem dX8_back_55 : decode cX8_back 55 = .ok (.invokevirtual 182, 3) := by decide +kernel
theorem dX8_back_58 : decode cX8_back 58 = .ok (.aload_n 0, 1) := by decide +kernel
theorem dX8_back_59 : decode cX8_back 59 = .ok (.getfield 103, 3) := by decide +kernel
theorem dX8_back_62 : decode cX8_back 62 = .ok (.ireturn, 1) := by decide +kernel
theorem dX8_count_0 : decode cX8_count 0 = .ok (.iload_n 1, 1) := by decide +kernel
theorem dX8_count_1 : decode cX8_count 1 = .ok (.tableswitch 102 0 6 #[43, 51, 62, 73, 81, 89, 94], 43) := by decide +kernel
theorem dX8_count_44 : decode cX8_count 44 = .ok (.aload_n 0, 1) := by decide +kernel
theorem dX8_count_45 : decode cX8_count 45 = .ok (.getfield 19, 3) := by decide +kernel
theorem dX8_count_48 : decode cX8_count 48 = .ok (.invokevirtual 99, 3) := by decide +kernel
theorem dX8_count_51 : decode cX8_count 51 = .ok (.ireturn, 1) := by decide +kernel
theorem dX8_count_52 : decode cX8_count 52 = .ok (.aload_n 0, 1) := by decide +kernel
theorem dX8_count_53 : decode cX8_count 53 = .ok (.getfield 19, 3) := by decide +kernel
theorem dX8_count_56 : decode cX8_count 56 = .ok (.invokevirtual 236, 3) := by decide +kernel
theorem dX8_count_59 : decode cX8_count 59 = .ok (.invokevirtual 302, 3) := by decide +kernel
theorem dX8_count_62 : decode cX8_count 62 = .ok (.ireturn, 1) := by decide +kernel
theorem dX8_count_63 : decode cX8_count 63 = .ok (.aload_n 0, 1) := by decide +kernel
theorem dX8_count_64 : decode cX8_count 64 = .ok (.getfield 19, 3) := by decide +kernel
theorem dX8_count_67 : decode cX8_count 67 = .ok (.invokevirtual 236, 3) := by decide +kernel
theorem dX8_count_70 : decode cX8_count 70 = .ok (.invokevirtual 240, 3) := by decide +kernel
theorem dX8_count_73 : decode cX8_count 73 = .ok (.ireturn, 1) := by decide +kernel
theorem dX8_count_74 : decode cX8_count 74 = .ok (.aload_n 0, 1) := by decide +kernel
theorem dX8_count_75 : decode cX8_count 75 = .ok (.getfield 41, 3) := by decide +kernel
theorem dX8_count_78 : decode cX8_count 78 = .ok (.invokevirtual 178, 3) := by decide +kernel
theorem dX8_count_81 : decode cX8_count 81 = .ok (.ireturn, 1) := by decide +kernel
theorem dX8_count_82 : decode cX8_count 82 = .ok (.aload_n 0, 1) := by decide +kernel
theorem dX8_count_83 : decode cX8_count 83 = .ok (.getfield 52, 3) := by decide +kernel
theorem dX8_count_86 : decode cX8_count 86 = .ok (.invokevirtual 271, 3) := by decide +kernel
theorem dX8_count_89 : decode cX8_count 89 = .ok (.ireturn, 1) := by decide +kernel
theorem dX8_count_90 : decode cX8_count 90 = .ok (.aload_n 0, 1) := by decide +kernel
theorem dX8_count_91 : decode cX8_count 91 = .ok (.getfield 103, 3) := by decide +kernel
theorem dX8_count_94 : decode cX8_count 94 = .ok (.ireturn, 1) := by decide +kernel
theorem dX8_count_95 : decode cX8_count 95 = .ok (.aload_n 0, 1) := by decide +kernel
theorem dX8_count_96 : decode cX8_count 96 = .ok (.getfield 10, 3) := by decide +kernel
theorem dX8_count_99 : decode cX8_count 99 = .ok (.invokevirtual 96, 3) := by decide +kernel
theorem dX8_count_102 : decode cX8_count 102 = .ok (.ireturn, 1) := by decide +kernel
theorem dX8_count_103 : decode cX8_count 103 = .ok (.iconst (-1), 1) := by decide +kernel
theorem dX8_count_104 : decode cX8_count 104 = .ok (.ireturn, 1) := by decide +kernel
theorem dX8_isCell_0 : decode cX8_isCell 0 = .ok (.iload_n 1, 1) := by decide +kernel
theorem dX8_isCell_1 : decode cX8_isCell 1 = .ok (.iconst 0, 1) := by decide +kernel
theorem dX8_isCell_2 : decode cX8_isCell 2 = .ok (.aload_n 0, 1) := by decide +kernel
theorem dX8_isCell_3 : decode cX8_isCell 3 = .ok (.getfield 19, 3) := by decide +kernel
theorem dX8_isCell_6 : decode cX8_isCell 6 = .ok (.invokevirtual 99, 3) := by decide +kernel
theorem dX8_isCell_9 : decode cX8_isCell 9 = .ok (.iconst 1, 1) := by decide +kernel
theorem dX8_isCell_10 : decode cX8_isCell 10 = .ok (.isub, 1) := by decide +kernel
theorem dX8_isCell_11 : decode cX8_isCell 11 = .ok (.invokestatic 92, 3) := by decide +kernel
theorem dX8_isCell_14 : decode cX8_isCell 14 = .ok (.ireturn, 1) := by decide +kernel
theorem dX8_isStuff_0 : decode cX8_isStuff 0 = .ok (.iload_n 0, 1) := by decide +kernel
theorem dX8_isStuff_1 : decode cX8_isStuff 1 = .ok (.iconst 0, 1) := by decide +kernel
theorem dX8_isStuff_2 : decode cX8_isStuff 2 = .ok (.iconst 3, 1) := by decide +kernel
theorem dX8_isStuff_3 : decode cX8_isStuff 3 = .ok (.invokestatic 92, 3) := by decide +kernel
theorem dX8_isStuff_6 : decode cX8_isStuff 6 = .ok (.ireturn, 1) := by decide +kernel
theorem dX8_isWithin_0 : decode cX8_isWithin 0 = .ok (.iload_n 0, 1) := by decide +kernel
theorem dX8_isWithin_1 : decode cX8_isWithin 1 = .ok (.iload_n 1, 1) := by decide +kernel
theorem dX8_isWithin_2 : decode cX8_isWithin 2 = .ok (.if_icmp .lt 12, 3) := by decide +kernel
theorem dX8_isWithin_5 : decode cX8_isWithin 5 = .ok (.iload_n 0, 1) := by decide +kernel
theorem dX8_isWithin_6 : decode cX8_isWithin 6 = .ok (.iload_n 2, 1) := by decide +kernel
theorem dX8_isWithin_7 : decode cX8_isWithin 7 = .ok (.if_icmp .gt 7, 3) := by decide +kernel
theorem dX8_isWithin_10 : decode cX8_isWithin 10 = .ok (.iconst 1, 1) := by decide +kernel
theorem dX8_isWithin_11 : decode cX8_isWithin 11 = .ok (.goto 4, 3) := by decide +kernel
theorem dX8_isWithin_14 : decode cX8_isWithin 14 = .ok (.iconst 0, 1) := by decide +kernel
theorem dX8_isWithin_15 : decode cX8_isWithin 15 = .ok (.ireturn, 1) := by decide +kernel
