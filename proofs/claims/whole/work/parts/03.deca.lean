theorem dX0_init_0 : decode cX0_init 0 = .ok (.aload_n 0, 1) := by decide +kernel
theorem dX0_init_1 : decode cX0_init 1 = .ok (.invokespecial 3, 3) := by decide +kernel
theorem dX0_init_4 : decode cX0_init 4 = .ok (.aload_n 0, 1) := by decide +kernel
theorem dX0_init_5 : decode cX0_init 5 = .ok (.sipush 300, 3) := by decide +kernel
theorem dX0_init_8 : decode cX0_init 8 = .ok (.newarray .int, 2) := by decide +kernel
theorem dX0_init_10 : decode cX0_init 10 = .ok (.putfield 9, 3) := by decide +kernel
theorem dX0_init_13 : decode cX0_init 13 = .ok (.aload_n 0, 1) := by decide +kernel
theorem dX0_init_14 : decode cX0_init 14 = .ok (.sipush 300, 3) := by decide +kernel
theorem dX0_init_17 : decode cX0_init 17 = .ok (.newarray .int, 2) := by decide +kernel
theorem dX0_init_19 : decode cX0_init 19 = .ok (.putfield 15, 3) := by decide +kernel
theorem dX0_init_22 : decode cX0_init 22 = .ok (.aload_n 0, 1) := by decide +kernel
theorem dX0_init_23 : decode cX0_init 23 = .ok (.sipush 300, 3) := by decide +kernel
theorem dX0_init_26 : decode cX0_init 26 = .ok (.newarray .int, 2) := by decide +kernel
theorem dX0_init_28 : decode cX0_init 28 = .ok (.putfield 18, 3) := by decide +kernel
theorem dX0_init_31 : decode cX0_init 31 = .ok (.return_, 1) := by decide +kernel
theorem dX0_has_0 : decode cX0_has 0 = .ok (.iload_n 1, 1) := by decide +kernel
theorem dX0_has_1 : decode cX0_has 1 = .ok (.ifCond .lt 15, 3) := by decide +kernel
theorem dX0_has_4 : decode cX0_has 4 = .ok (.iload_n 1, 1) := by decide +kernel
theorem dX0_has_5 : decode cX0_has 5 = .ok (.aload_n 0, 1) := by decide +kernel
theorem dX0_has_6 : decode cX0_has 6 = .ok (.getfield 21, 3) := by decide +kernel
theorem dX0_has_9 : decode cX0_has 9 = .ok (.if_icmp .ge 7, 3) := by decide +kernel
theorem dX0_has_12 : decode cX0_has 12 = .ok (.iconst 1, 1) := by decide +kernel
theorem dX0_has_13 : decode cX0_has 13 = .ok (.goto 4, 3) := by decide +kernel
theorem dX0_has_16 : decode cX0_has 16 = .ok (.iconst 0, 1) := by decide +kernel
theorem dX0_has_17 : decode cX0_has 17 = .ok (.ireturn, 1) := by decide +kernel
theorem dX0_find_0 : decode cX0_find 0 = .ok (.aload_n 0, 1) := by decide +kernel
theorem dX0_find_1 : decode cX0_find 1 = .ok (.iconst 0, 1) := by decide +kernel
theorem dX0_find_2 : decode cX0_find 2 = .ok (.putfield 21, 3) := by decide +kernel
theorem dX0_find_5 : decode cX0_find 5 = .ok (.iconst 0, 1) := by decide +kernel
theorem dX0_find_6 : decode cX0_find 6 = .ok (.istore 4, 2) := by decide +kernel
theorem dX0_find_8 : decode cX0_find 8 = .ok (.iconst 0, 1) := by decide +kernel
theorem dX0_find_9 : decode cX0_find 9 = .ok (.istore 5, 2) := by decide +kernel
theorem dX0_find_11 : decode cX0_find 11 = .ok (.iload 5, 2) := by decide +kernel
theorem dX0_find_13 : decode cX0_find 13 = .ok (.aload_n 1, 1) := by decide +kernel
theorem dX0_find_14 : decode cX0_find 14 = .ok (.getfield 25, 3) := by decide +kernel
theorem dX0_find_17 : decode cX0_find 17 = .ok (.if_icmp .ge 91, 3) := by decide +kernel
theorem dX0_find_20 : decode cX0_find 20 = .ok (.aload_n 0, 1) := by decide +kernel
theorem dX0_find_21 : decode cX0_find 21 = .ok (.getfield 9, 3) := by decide +kernel
theorem dX0_find_24 : decode cX0_find 24 = .ok (.iload 5, 2) := by decide +kernel
theorem dX0_find_26 : decode cX0_find 26 = .ok (.iconst (-1), 1) := by decide +kernel
theorem dX0_find_27 : decode cX0_find 27 = .ok (.iastore, 1) := by decide +kernel
theorem dX0_find_28 : decode cX0_find 28 = .ok (.iload 5, 2) := by decide +kernel
theorem dX0_find_30 : decode cX0_find 30 = .ok (.ifCond .le 26, 3) := by decide +kernel
theorem dX0_find_33 : decode cX0_find 33 = .ok (.aload_n 1, 1) := by decide +kernel
theorem dX0_find_34 : decode cX0_find 34 = .ok (.getfield 28, 3) := by decide +kernel
theorem dX0_find_37 : decode cX0_find 37 = .ok (.iload 5, 2) := by decide +kernel
theorem dX0_find_39 : decode cX0_find 39 = .ok (.iaload, 1) := by decide +kernel
theorem dX0_find_40 : decode cX0_find 40 = .ok (.aload_n 1, 1) := by decide +kernel
theorem dX0_find_41 : decode cX0_find 41 = .ok (.getfield 28, 3) := by decide +kernel
theorem dX0_find_44 : decode cX0_find 44 = .ok (.iload 5, 2) := by decide +kernel
theorem dX0_find_46 : decode cX0_find 46 = .ok (.iconst 1, 1) := by decide +kernel
theorem dX0_find_47 : decode cX0_find 47 = .ok (.isub, 1) := by decide +kernel
theorem dX0_find_48 : decode cX0_find 48 = .ok (.iaload, 1) := by decide +kernel
theorem dX0_find_49 : decode cX0_find 49 = .ok (.if_icmp .eq 7, 3) := by decide +kernel
theorem dX0_find_52 : decode cX0_find 52 = .ok (.iconst 1, 1) := by decide +kernel
theorem dX0_find_53 : decode cX0_find 53 = .ok (.goto 4, 3) := by decide +kernel
theorem dX0_find_56 : decode cX0_find 56 = .ok (.iconst 0, 1) := by decide +kernel
theorem dX0_find_57 : decode cX0_find 57 = .ok (.istore 6, 2) := by decide +kernel
theorem dX0_find_59 : decode cX0_find 59 = .ok (.aload_n 2, 1) := by decide +kernel
theorem dX0_find_60 : decode cX0_find 60 = .ok (.aload_n 1, 1) := by decide +kernel
theorem dX0_find_61 : decode cX0_find 61 = .ok (.iload 5, 2) := by decide +kernel
theorem dX0_find_63 : decode cX0_find 63 = .ok (.aload_n 3, 1) := by decide +kernel
theorem dX0_find_64 : decode cX0_find 64 = .ok (.invokevirtual 31, 3) := by decide +kernel
theorem dX0_find_67 : decode cX0_find 67 = .ok (.istore 7, 2) := by decide +kernel
theorem dX0_find_69 : decode cX0_find 69 = .ok (.iload 6, 2) := by decide +kernel
theorem dX0_find_71 : decode cX0_find 71 = .ok (.ifCond .ne 8, 3) := by decide +kernel
theorem dX0_find_74 : decode cX0_find 74 = .ok (.iload 7, 2) := by decide +kernel
theorem dX0_find_76 : decode cX0_find 76 = .ok (.ifCond .ne 18, 3) := by decide +kernel
theorem dX0_find_79 : decode cX0_find 79 = .ok (.aload_n 0, 1) := by decide +kernel
theorem dX0_find_80 : decode cX0_find 80 = .ok (.iload 5, 2) := by decide +kernel
theorem dX0_find_82 : decode cX0_find 82 = .ok (.iload 4, 2) := by decide +kernel
theorem dX0_find_84 : decode cX0_find 84 = .ok (.aload_n 3, 1) := by decide +kernel
theorem dX0_find_85 : decode cX0_find 85 = .ok (.invokevirtual 37, 3) := by decide +kernel
theorem dX0_find_88 : decode cX0_find 88 = .ok (.invokevirtual 43, 3) := by decide +kernel
theorem dX0_find_91 : decode cX0_find 91 = .ok (.iconst 0, 1) := by decide +kernel
theorem dX0_find_92 : decode cX0_find 92 = .ok (.istore 4, 2) := by decide +kernel
theorem dX0_find_94 : decode cX0_find 94 = .ok (.iload 7, 2) := by decide +kernel
theorem dX0_find_96 : decode cX0_find 96 = .ok (.ifCond .eq 6, 3) := by decide +kernel
theorem dX0_find_99 : decode cX0_find 99 = .ok (.iinc 4 1, 3) := by decide +kernel
theorem dX0_find_102 : decode cX0_find 102 = .ok (.iinc 5 1, 3) := by decide +kernel
theorem dX0_find_105 : decode cX0_find 105 = .ok (.goto (-94), 3) := by decide +kernel
theorem dX0_find_108 : decode cX0_find 108 = .ok (.aload_n 0, 1) := by decide +kernel
theorem dX0_find_109 : decode cX0_find 109 = .ok (.aload_n 1, 1) := by decide +kernel
theorem dX0_find_110 : decode cX0_find 110 = .ok (.getfield 25, 3) := by decide +kernel
theorem dX0_find_113 : decode cX0_find 113 = .ok (.iload 4, 2) := by decide +kernel
theorem dX0_find_115 : decode cX0_find 115 = .ok (.aload_n 3, 1) := by decide +kernel
theorem dX0_find_116 : decode cX0_find 116 = .ok (.invokevirtual 37, 3) := by decide +kernel
theorem dX0_find_119 : decode cX0_find 119 = .ok (.invokevirtual 43, 3) := by decide +kernel
theorem dX0_find_122 : decode cX0_find 122 = .ok (.return_, 1) := by decide +kernel
theorem dX0_close_0 : decode cX0_close 0 = .ok (.iload_n 2, 1) := by decide +kernel
theorem dX0_close_1 : decode cX0_close 1 = .ok (.iload_n 3, 1) := by decide +kernel
theorem dX0_close_2 : decode cX0_close 2 = .ok (.if_icmp .lt 15, 3) := by decide +kernel
theorem dX0_close_5 : decode cX0_close 5 = .ok (.aload_n 0, 1) := by decide +kernel
theorem dX0_close_6 : decode cX0_close 6 = .ok (.getfield 21, 3) := by decide +kernel
theorem dX0_close_9 : decode cX0_close 9 = .ok (.aload_n 0, 1) := by decide +kernel
theorem dX0_close_10 : decode cX0_close 10 = .ok (.getfield 15, 3) := by decide +kernel
theorem dX0_close_13 : decode cX0_close 13 = .ok (.arraylength, 1) := by decide +kernel
theorem dX0_close_14 : decode cX0_close 14 = .ok (.if_icmp .lt 4, 3) := by decide +kernel
theorem dX0_close_17 : decode cX0_close 17 = .ok (.return_, 1) := by decide +kernel
theorem dX0_close_18 : decode cX0_close 18 = .ok (.aload_n 0, 1) := by decide +kernel
theorem dX0_close_19 : decode cX0_close 19 = .ok (.getfield 15, 3) := by decide +kernel
theorem dX0_close_22 : decode cX0_close 22 = .ok (.aload_n 0, 1) := by decide +kernel
theorem dX0_close_23 : decode cX0_close 23 = .ok (.getfield 21, 3) := by decide +kernel
theorem dX0_close_26 : decode cX0_close 26 = .ok (.iload_n 1, 1) := by decide +kernel
theorem dX0_close_27 : decode cX0_close 27 = .ok (.iload_n 2, 1) := by decide +kernel
theorem dX0_close_28 : decode cX0_close 28 = .ok (.isub, 1) := by decide +kernel
theorem dX0_close_29 : decode cX0_close 29 = .ok (.iastore, 1) := by decide +kernel
theorem dX0_close_30 : decode cX0_close 30 = .ok (.aload_n 0, 1) := by decide +kernel
theorem dX0_close_31 : decode cX0_close 31 = .ok (.getfield 18, 3) := by decide +kernel
theorem dX0_close_34 : decode cX0_close 34 = .ok (.aload_n 0, 1) := by decide +kernel
theorem dX0_close_35 : decode cX0_close 35 = .ok (.getfield 21, 3) := by decide +kernel
theorem dX0_close_38 : decode cX0_close 38 = .ok (.iload_n 2, 1) := by decide +kernel
theorem dX0_close_39 : decode cX0_close 39 = .ok (.iastore, 1) := by decide +kernel
theorem dX0_close_40 : decode cX0_close 40 = .ok (.iload_n 1, 1) := by decide +kernel
theorem dX0_close_41 : decode cX0_close 41 = .ok (.iload_n 2, 1) := by decide +kernel
theorem dX0_close_42 : decode cX0_close 42 = .ok (.isub, 1) := by decide +kernel
theorem dX0_close_43 : decode cX0_close 43 = .ok (.istore 4, 2) := by decide +kernel
theorem dX0_close_45 : decode cX0_close 45 = .ok (.iload 4, 2) := by decide +kernel
theorem dX0_close_47 : decode cX0_close 47 = .ok (.iload_n 1, 1) := by decide +kernel
theorem dX0_close_48 : decode cX0_close 48 = .ok (.if_icmp .ge 20, 3) := by decide +kernel
theorem dX0_close_51 : decode cX0_close 51 = .ok (.aload_n 0, 1) := by decide +kernel
theorem dX0_close_52 : decode cX0_close 52 = .ok (.getfield 9, 3) := by decide +kernel
theorem dX0_close_55 : decode cX0_close 55 = .ok (.iload 4, 2) := by decide +kernel
theorem dX0_close_57 : decode cX0_close 57 = .ok (.aload_n 0, 1) := by decide +kernel
theorem dX0_close_58 : decode cX0_close 58 = .ok (.getfield 21, 3) := by decide +kernel
theorem dX0_close_61 : decode cX0_close 61 = .ok (.iastore, 1) := by decide +kernel
theorem dX0_close_62 : decode cX0_close 62 = .ok (.iinc 4 1, 3) := by decide +kernel
theorem dX0_close_65 : decode cX0_close 65 = .ok (.goto (-20), 3) := by decide +kernel
theorem dX0_close_68 : decode cX0_close 68 = .ok (.aload_n 0, 1) := by decide +kernel
theorem dX0_close_69 : decode cX0_close 69 = .ok (.dup, 1) := by decide +kernel
theorem dX0_close_70 : decode cX0_close 70 = .ok (.getfield 21, 3) := by decide +kernel
theorem dX0_close_73 : decode cX0_close 73 = .ok (.iconst 1, 1) := by decide +kernel
theorem dX0_close_74 : decode cX0_close 74 = .ok (.iadd, 1) := by decide +kernel
theorem dX0_close_75 : decode cX0_close 75 = .ok (.putfield 21, 3) := by decide +kernel
theorem dX0_close_78 : decode cX0_close 78 = .ok (.return_, 1) := by decide +kernel
theorem dX1_init_0 : decode cX1_init 0 = .ok (.aload_n 0, 1) := by decide +kernel
theorem dX1_init_1 : decode cX1_init 1 = .ok (.invokespecial 3, 3) := by decide +kernel
theorem dX1_init_4 : decode cX1_init 4 = .ok (.aload_n 0, 1) := by decide +kernel
theorem dX1_init_5 : decode cX1_init 5 = .ok (.iconst 4, 1) := by decide +kernel
theorem dX1_init_6 : decode cX1_init 6 = .ok (.newarray .int, 2) := by decide +kernel
theorem dX1_init_8 : decode cX1_init 8 = .ok (.putfield 9, 3) := by decide +kernel
theorem dX1_init_11 : decode cX1_init 11 = .ok (.aload_n 0, 1) := by decide +kernel
theorem dX1_init_12 : decode cX1_init 12 = .ok (.iconst 4, 1) := by decide +kernel
theorem dX1_init_13 : decode cX1_init 13 = .ok (.newarray .int, 2) := by decide +kernel
theorem dX1_init_15 : decode cX1_init 15 = .ok (.putfield 15, 3) := by decide +kernel
theorem dX1_init_18 : decode cX1_init 18 = .ok (.return_, 1) := by decide +kernel
theorem dX1_canBe_0 : decode cX1_canBe 0 = .ok (.iload_n 0, 1) := by decide +kernel
theorem dX1_canBe_1 : decode cX1_canBe 1 = .ok (.ifCond .lt 33, 3) := by decide +kernel
theorem dX1_canBe_4 : decode cX1_canBe 4 = .ok (.iload_n 0, 1) := by decide +kernel
theorem dX1_canBe_5 : decode cX1_canBe 5 = .ok (.getstatic 18, 3) := by decide +kernel
theorem dX1_canBe_8 : decode cX1_canBe 8 = .ok (.arraylength, 1) := by decide +kernel
theorem dX1_canBe_9 : decode cX1_canBe 9 = .ok (.if_icmp .ge 25, 3) := by decide +kernel
theorem dX1_canBe_12 : decode cX1_canBe 12 = .ok (.iload_n 1, 1) := by decide +kernel
theorem dX1_canBe_13 : decode cX1_canBe 13 = .ok (.getstatic 18, 3) := by decide +kernel
theorem dX1_canBe_16 : decode cX1_canBe 16 = .ok (.iload_n 0, 1) := by decide +kernel
theorem dX1_canBe_17 : decode cX1_canBe 17 = .ok (.iaload, 1) := by decide +kernel
theorem dX1_canBe_18 : decode cX1_canBe 18 = .ok (.if_icmp .lt 16, 3) := by decide +kernel
theorem dX1_canBe_21 : decode cX1_canBe 21 = .ok (.iload_n 1, 1) := by decide +kernel
theorem dX1_canBe_22 : decode cX1_canBe 22 = .ok (.getstatic 21, 3) := by decide +kernel
theorem dX1_canBe_25 : decode cX1_canBe 25 = .ok (.iload_n 0, 1) := by decide +kernel
theorem dX1_canBe_26 : decode cX1_canBe 26 = .ok (.iaload, 1) := by decide +kernel
theorem dX1_canBe_27 : decode cX1_canBe 27 = .ok (.if_icmp .gt 7, 3) := by decide +kernel
theorem dX1_canBe_30 : decode cX1_canBe 30 = .ok (.iconst 1, 1) := by decide +kernel
theorem dX1_canBe_31 : decode cX1_canBe 31 = .ok (.goto 4, 3) := by decide +kernel
theorem dX1_canBe_34 : decode cX1_canBe 34 = .ok (.iconst 0, 1) := by decide +kernel
theorem dX1_canBe_35 : decode cX1_canBe 35 = .ok (.ireturn, 1) := by decide +kernel
theorem dX1_lay_0 : decode cX1_lay 0 = .ok (.aload_n 0, 1) := by decide +kernel
theorem dX1_lay_1 : decode cX1_lay 1 = .ok (.getfield 24, 3) := by decide +kernel
theorem dX1_lay_4 : decode cX1_lay 4 = .ok (.aload_n 0, 1) := by decide +kernel
theorem dX1_lay_5 : decode cX1_lay 5 = .ok (.getfield 9, 3) := by decide +kernel
theorem dX1_lay_8 : decode cX1_lay 8 = .ok (.arraylength, 1) := by decide +kernel
theorem dX1_lay_9 : decode cX1_lay 9 = .ok (.if_icmp .lt 4, 3) := by decide +kernel
theorem dX1_lay_12 : decode cX1_lay 12 = .ok (.return_, 1) := by decide +kernel
theorem dX1_lay_13 : decode cX1_lay 13 = .ok (.aload_n 0, 1) := by decide +kernel
theorem dX1_lay_14 : decode cX1_lay 14 = .ok (.getfield 9, 3) := by decide +kernel
theorem dX1_lay_17 : decode cX1_lay 17 = .ok (.aload_n 0, 1) := by decide +kernel
theorem dX1_lay_18 : decode cX1_lay 18 = .ok (.getfield 24, 3) := by decide +kernel
theorem dX1_lay_21 : decode cX1_lay 21 = .ok (.iload_n 1, 1) := by decide +kernel
theorem dX1_lay_22 : decode cX1_lay 22 = .ok (.iastore, 1) := by decide +kernel
theorem dX1_lay_23 : decode cX1_lay 23 = .ok (.aload_n 0, 1) := by decide +kernel
theorem dX1_lay_24 : decode cX1_lay 24 = .ok (.getfield 15, 3) := by decide +kernel
theorem dX1_lay_27 : decode cX1_lay 27 = .ok (.aload_n 0, 1) := by decide +kernel
theorem dX1_lay_28 : decode cX1_lay 28 = .ok (.getfield 24, 3) := by decide +kernel
theorem dX1_lay_31 : decode cX1_lay 31 = .ok (.iload_n 2, 1) := by decide +kernel
theorem dX1_lay_32 : decode cX1_lay 32 = .ok (.iastore, 1) := by decide +kernel
theorem dX1_lay_33 : decode cX1_lay 33 = .ok (.aload_n 0, 1) := by decide +kernel
theorem dX1_lay_34 : decode cX1_lay 34 = .ok (.dup, 1) := by decide +kernel
theorem dX1_lay_35 : decode cX1_lay 35 = .ok (.getfield 24, 3) := by decide +kernel
theorem dX1_lay_38 : decode cX1_lay 38 = .ok (.iconst 1, 1) := by decide +kernel
theorem dX1_lay_39 : decode cX1_lay 39 = .ok (.iadd, 1) := by decide +kernel
theorem dX1_lay_40 : decode cX1_lay 40 = .ok (.putfield 24, 3) := by decide +kernel
theorem dX1_lay_43 : decode cX1_lay 43 = .ok (.return_, 1) := by decide +kernel
theorem dX1_takeOff_0 : decode cX1_takeOff 0 = .ok (.aload_n 0, 1) := by decide +kernel
theorem dX1_takeOff_1 : decode cX1_takeOff 1 = .ok (.getfield 24, 3) := by decide +kernel
theorem dX1_takeOff_4 : decode cX1_takeOff 4 = .ok (.ifCond .le 13, 3) := by decide +kernel
theorem dX1_takeOff_7 : decode cX1_takeOff 7 = .ok (.aload_n 0, 1) := by decide +kernel
theorem dX1_takeOff_8 : decode cX1_takeOff 8 = .ok (.dup, 1) := by decide +kernel
theorem dX1_takeOff_9 : decode cX1_takeOff 9 = .ok (.getfield 24, 3) := by decide +kernel
theorem dX1_takeOff_12 : decode cX1_takeOff 12 = .ok (.iconst 1, 1) := by decide +kernel
theorem dX1_takeOff_13 : decode cX1_takeOff 13 = .ok (.isub, 1) := by decide +kernel
theorem dX1_takeOff_14 : decode cX1_takeOff 14 = .ok (.putfield 24, 3) := by decide +kernel
theorem dX1_takeOff_17 : decode cX1_takeOff 17 = .ok (.return_, 1) := by decide +kernel
theorem dX1_show_0 : decode cX1_show 0 = .ok (.iload_n 1, 1) := by decide +kernel
theorem dX1_show_1 : decode cX1_show 1 = .ok (.ifCond .lt 11, 3) := by decide +kernel
theorem dX1_show_4 : decode cX1_show 4 = .ok (.iload_n 1, 1) := by decide +kernel
theorem dX1_show_5 : decode cX1_show 5 = .ok (.aload_n 0, 1) := by decide +kernel
theorem dX1_show_6 : decode cX1_show 6 = .ok (.getfield 24, 3) := by decide +kernel
theorem dX1_show_9 : decode cX1_show 9 = .ok (.if_icmp .lt 4, 3) := by decide +kernel
theorem dX1_show_12 : decode cX1_show 12 = .ok (.return_, 1) := by decide +kernel
theorem dX1_show_13 : decode cX1_show 13 = .ok (.aload_n 0, 1) := by decide +kernel
theorem dX1_show_14 : decode cX1_show 14 = .ok (.getfield 15, 3) := by decide +kernel
theorem dX1_show_17 : decode cX1_show 17 = .ok (.iload_n 1, 1) := by decide +kernel
theorem dX1_show_18 : decode cX1_show 18 = .ok (.iaload, 1) := by decide +kernel
theorem dX1_show_19 : decode cX1_show 19 = .ok (.istore 6, 2) := by decide +kernel
theorem dX1_show_21 : decode cX1_show 21 = .ok (.aload_n 0, 1) := by decide +kernel
theorem dX1_show_22 : decode cX1_show 22 = .ok (.getfield 9, 3) := by decide +kernel
theorem dX1_show_25 : decode cX1_show 25 = .ok (.iload_n 1, 1) := by decide +kernel
theorem dX1_show_26 : decode cX1_show 26 = .ok (.iaload, 1) := by decide +kernel
theorem dX1_show_27 : decode cX1_show 27 = .ok (.ifCond .ne 15, 3) := by decide +kernel
theorem dX1_show_30 : decode cX1_show 30 = .ok (.aload_n 2, 1) := by decide +kernel
theorem dX1_show_31 : decode cX1_show 31 = .ok (.aload_n 3, 1) := by decide +kernel
theorem dX1_show_32 : decode cX1_show 32 = .ok (.iload 4, 2) := by decide +kernel
theorem dX1_show_34 : decode cX1_show 34 = .ok (.iload 5, 2) := by decide +kernel
theorem dX1_show_36 : decode cX1_show 36 = .ok (.iload 6, 2) := by decide +kernel
theorem dX1_show_38 : decode cX1_show 38 = .ok (.invokestatic 28, 3) := by decide +kernel
theorem dX1_show_41 : decode cX1_show 41 = .ok (.return_, 1) := by decide +kernel
theorem dX1_show_42 : decode cX1_show 42 = .ok (.iload 4, 2) := by decide +kernel
theorem dX1_show_44 : decode cX1_show 44 = .ok (.istore 7, 2) := by decide +kernel
theorem dX1_show_46 : decode cX1_show 46 = .ok (.iload 7, 2) := by decide +kernel
theorem dX1_show_48 : decode cX1_show 48 = .ok (.iload 5, 2) := by decide +kernel
theorem dX1_show_50 : decode cX1_show 50 = .ok (.if_icmp .ge 138, 3) := by decide +kernel
theorem dX1_show_53 : decode cX1_show 53 = .ok (.aload_n 0, 1) := by decide +kernel
theorem dX1_show_54 : decode cX1_show 54 = .ok (.getfield 9, 3) := by decide +kernel
theorem dX1_show_57 : decode cX1_show 57 = .ok (.iload_n 1, 1) := by decide +kernel
theorem dX1_show_58 : decode cX1_show 58 = .ok (.iaload, 1) := by decide +kernel
theorem dX1_show_59 : decode cX1_show 59 = .ok (.tableswitch 115 1 4 #[29, 51, 63, 82], 29) := by decide +kernel
theorem dX1_show_88 : decode cX1_show 88 = .ok (.aload_n 3, 1) := by decide +kernel
theorem dX1_show_89 : decode cX1_show 89 = .ok (.iload 7, 2) := by decide +kernel
theorem dX1_show_91 : decode cX1_show 91 = .ok (.iload 6, 2) := by decide +kernel
theorem dX1_show_93 : decode cX1_show 93 = .ok (.ineg, 1) := by decide +kernel
theorem dX1_show_94 : decode cX1_show 94 = .ok (.iload 6, 2) := by decide +kernel
theorem dX1_show_96 : decode cX1_show 96 = .ok (.aload_n 2, 1) := by decide +kernel
theorem dX1_show_97 : decode cX1_show 97 = .ok (.iload 7, 2) := by decide +kernel
theorem dX1_show_99 : decode cX1_show 99 = .ok (.iaload, 1) := by decide +kernel
theorem dX1_show_100 : decode cX1_show 100 = .ok (.invokestatic 32, 3) := by decide +kernel
theorem dX1_show_103 : decode cX1_show 103 = .ok (.invokestatic 38, 3) := by decide +kernel
theorem dX1_show_106 : decode cX1_show 106 = .ok (.iastore, 1) := by decide +kernel
theorem dX1_show_107 : decode cX1_show 107 = .ok (.goto 75, 3) := by decide +kernel
theorem dX1_show_110 : decode cX1_show 110 = .ok (.aload_n 3, 1) := by decide +kernel
theorem dX1_show_111 : decode cX1_show 111 = .ok (.iload 7, 2) := by decide +kernel
theorem dX1_show_113 : decode cX1_show 113 = .ok (.aload_n 2, 1) := by decide +kernel
theorem dX1_show_114 : decode cX1_show 114 = .ok (.iload 7, 2) := by decide +kernel
theorem dX1_show_116 : decode cX1_show 116 = .ok (.iaload, 1) := by decide +kernel
theorem dX1_show_117 : decode cX1_show 117 = .ok (.ineg, 1) := by decide +kernel
theorem dX1_show_118 : decode cX1_show 118 = .ok (.iastore, 1) := by decide +kernel
theorem dX1_show_119 : decode cX1_show 119 = .ok (.goto 63, 3) := by decide +kernel
theorem dX1_show_122 : decode cX1_show 122 = .ok (.aload_n 3, 1) := by decide +kernel
theorem dX1_show_123 : decode cX1_show 123 = .ok (.iload 7, 2) := by decide +kernel
theorem dX1_show_125 : decode cX1_show 125 = .ok (.aload_n 2, 1) := by decide +kernel
theorem dX1_show_126 : decode cX1_show 126 = .ok (.iload 7, 2) := by decide +kernel
theorem dX1_show_128 : decode cX1_show 128 = .ok (.iaload, 1) := by decide +kernel
theorem dX1_show_129 : decode cX1_show 129 = .ok (.iload 6, 2) := by decide +kernel
theorem dX1_show_131 : decode cX1_show 131 = .ok (.imul, 1) := by decide +kernel
theorem dX1_show_132 : decode cX1_show 132 = .ok (.bipush 10, 2) := by decide +kernel
theorem dX1_show_134 : decode cX1_show 134 = .ok (.invokestatic 41, 3) := by decide +kernel
theorem dX1_show_137 : decode cX1_show 137 = .ok (.iastore, 1) := by decide +kernel
theorem dX1_show_138 : decode cX1_show 138 = .ok (.goto 44, 3) := by decide +kernel
theorem dX1_show_141 : decode cX1_show 141 = .ok (.aload_n 3, 1) := by decide +kernel
theorem dX1_show_142 : decode cX1_show 142 = .ok (.iload 7, 2) := by decide +kernel
theorem dX1_show_144 : decode cX1_show 144 = .ok (.iload 7, 2) := by decide +kernel
theorem dX1_show_146 : decode cX1_show 146 = .ok (.iload 4, 2) := by decide +kernel
theorem dX1_show_148 : decode cX1_show 148 = .ok (.isub, 1) := by decide +kernel
theorem dX1_show_149 : decode cX1_show 149 = .ok (.iload 6, 2) := by decide +kernel
theorem dX1_show_151 : decode cX1_show 151 = .ok (.if_icmp .ge 7, 3) := by decide +kernel
theorem dX1_show_154 : decode cX1_show 154 = .ok (.iconst 0, 1) := by decide +kernel
theorem dX1_show_155 : decode cX1_show 155 = .ok (.goto 15, 3) := by decide +kernel
theorem dX1_show_158 : decode cX1_show 158 = .ok (.aload_n 2, 1) := by decide +kernel
theorem dX1_show_159 : decode cX1_show 159 = .ok (.iload 7, 2) := by decide +kernel
theorem dX1_show_161 : decode cX1_show 161 = .ok (.iaload, 1) := by decide +kernel
theorem dX1_show_162 : decode cX1_show 162 = .ok (.aload_n 2, 1) := by decide +kernel
theorem dX1_show_163 : decode cX1_show 163 = .ok (.iload 7, 2) := by decide +kernel
theorem dX1_show_165 : decode cX1_show 165 = .ok (.iload 6, 2) := by decide +kernel
theorem dX1_show_167 : decode cX1_show 167 = .ok (.isub, 1) := by decide +kernel
theorem dX1_show_168 : decode cX1_show 168 = .ok (.iaload, 1) := by decide +kernel
theorem dX1_show_169 : decode cX1_show 169 = .ok (.isub, 1) := by decide +kernel
theorem dX1_show_170 : decode cX1_show 170 = .ok (.iastore, 1) := by decide +kernel
theorem dX1_show_171 : decode cX1_show 171 = .ok (.goto 11, 3) := by decide +kernel
theorem dX1_show_174 : decode cX1_show 174 = .ok (.aload_n 3, 1) := by decide +kernel
theorem dX1_show_175 : decode cX1_show 175 = .ok (.iload 7, 2) := by decide +kernel
theorem dX1_show_177 : decode cX1_show 177 = .ok (.aload_n 2, 1) := by decide +kernel
theorem dX1_show_178 : decode cX1_show 178 = .ok (.iload 7, 2) := by decide +kernel
theorem dX1_show_180 : decode cX1_show 180 = .ok (.iaload, 1) := by decide +kernel
theorem dX1_show_181 : decode cX1_show 181 = .ok (.iastore, 1) := by decide +kernel
theorem dX1_show_182 : decode cX1_show 182 = .ok (.iinc 7 1, 3) := by decide +kernel
theorem dX1_show_185 : decode cX1_show 185 = .ok (.goto (-139), 3) := by decide +kernel
theorem dX1_show_188 : decode cX1_show 188 = .ok (.return_, 1) := by decide +kernel
theorem dX1_showMean_0 : decode cX1_showMean 0 = .ok (.lconst 0, 1) := by decide +kernel
theorem dX1_showMean_1 : decode cX1_showMean 1 = .ok (.lstore 5, 2) := by decide +kernel
theorem dX1_showMean_3 : decode cX1_showMean 3 = .ok (.iload_n 2, 1) := by decide +kernel
theorem dX1_showMean_4 : decode cX1_showMean 4 = .ok (.istore 7, 2) := by decide +kernel
theorem dX1_showMean_6 : decode cX1_showMean 6 = .ok (.iload_n 2, 1) := by decide +kernel
theorem dX1_showMean_7 : decode cX1_showMean 7 = .ok (.istore 8, 2) := by decide +kernel
theorem dX1_showMean_9 : decode cX1_showMean 9 = .ok (.iload_n 2, 1) := by decide +kernel
theorem dX1_showMean_10 : decode cX1_showMean 10 = .ok (.istore 9, 2) := by decide +kernel
theorem dX1_showMean_12 : decode cX1_showMean 12 = .ok (.iload 9, 2) := by decide +kernel
theorem dX1_showMean_14 : decode cX1_showMean 14 = .ok (.iload_n 3, 1) := by decide +kernel
theorem dX1_showMean_15 : decode cX1_showMean 15 = .ok (.if_icmp .ge 81, 3) := by decide +kernel
theorem dX1_showMean_18 : decode cX1_showMean 18 = .ok (.iload 8, 2) := by decide +kernel
theorem dX1_showMean_20 : decode cX1_showMean 20 = .ok (.iload_n 3, 1) := by decide +kernel
theorem dX1_showMean_21 : decode cX1_showMean 21 = .ok (.if_icmp .ge 29, 3) := by decide +kernel
theorem dX1_showMean_24 : decode cX1_showMean 24 = .ok (.iload 8, 2) := by decide +kernel
theorem dX1_showMean_26 : decode cX1_showMean 26 = .ok (.iload 9, 2) := by decide +kernel
theorem dX1_showMean_28 : decode cX1_showMean 28 = .ok (.iload 4, 2) := by decide +kernel
theorem dX1_showMean_30 : decode cX1_showMean 30 = .ok (.iadd, 1) := by decide +kernel
theorem dX1_showMean_31 : decode cX1_showMean 31 = .ok (.if_icmp .gt 19, 3) := by decide +kernel
theorem dX1_showMean_34 : decode cX1_showMean 34 = .ok (.lload 5, 2) := by decide +kernel
theorem dX1_showMean_36 : decode cX1_showMean 36 = .ok (.aload_n 0, 1) := by decide +kernel
theorem dX1_showMean_37 : decode cX1_showMean 37 = .ok (.iload 8, 2) := by decide +kernel
theorem dX1_showMean_39 : decode cX1_showMean 39 = .ok (.iaload, 1) := by decide +kernel
theorem dX1_showMean_40 : decode cX1_showMean 40 = .ok (.i2l, 1) := by decide +kernel
theorem dX1_showMean_41 : decode cX1_showMean 41 = .ok (.ladd, 1) := by decide +kernel
theorem dX1_showMean_42 : decode cX1_showMean 42 = .ok (.lstore 5, 2) := by decide +kernel
theorem dX1_showMean_44 : decode cX1_showMean 44 = .ok (.iinc 8 1, 3) := by decide +kernel
theorem dX1_showMean_47 : decode cX1_showMean 47 = .ok (.goto (-29), 3) := by decide +kernel
theorem dX1_showMean_50 : decode cX1_showMean 50 = .ok (.iload 7, 2) := by decide +kernel
theorem dX1_showMean_52 : decode cX1_showMean 52 = .ok (.iload 9, 2) := by decide +kernel
theorem dX1_showMean_54 : decode cX1_showMean 54 = .ok (.iload 4, 2) := by decide +kernel
theorem dX1_showMean_56 : decode cX1_showMean 56 = .ok (.isub, 1) := by decide +kernel
theorem dX1_showMean_57 : decode cX1_showMean 57 = .ok (.if_icmp .ge 19, 3) := by decide +kernel
theorem dX1_showMean_60 : decode cX1_showMean 60 = .ok (.lload 5, 2) := by decide +kernel
theorem dX1_showMean_62 : decode cX1_showMean 62 = .ok (.aload_n 0, 1) := by decide +kernel
theorem dX1_showMean_63 : decode cX1_showMean 63 = .ok (.iload 7, 2) := by decide +kernel
theorem dX1_showMean_65 : decode cX1_showMean 65 = .ok (.iaload, 1) := by decide +kernel
theorem dX1_showMean_66 : decode cX1_showMean 66 = .ok (.i2l, 1) := by decide +kernel
theorem dX1_showMean_67 : decode cX1_showMean 67 = .ok (.lsub, 1) := by decide +kernel
theorem dX1_showMean_68 : decode cX1_showMean 68 = .ok (.lstore 5, 2) := by decide +kernel
theorem dX1_showMean_70 : decode cX1_showMean 70 = .ok (.iinc 7 1, 3) := by decide +kernel
theorem dX1_showMean_73 : decode cX1_showMean 73 = .ok (.goto (-23), 3) := by decide +kernel
theorem dX1_showMean_76 : decode cX1_showMean 76 = .ok (.aload_n 1, 1) := by decide +kernel
theorem dX1_showMean_77 : decode cX1_showMean 77 = .ok (.iload 9, 2) := by decide +kernel
theorem dX1_showMean_79 : decode cX1_showMean 79 = .ok (.lload 5, 2) := by decide +kernel
theorem dX1_showMean_81 : decode cX1_showMean 81 = .ok (.iload 8, 2) := by decide +kernel
theorem dX1_showMean_83 : decode cX1_showMean 83 = .ok (.iload 7, 2) := by decide +kernel
theorem dX1_showMean_85 : decode cX1_showMean 85 = .ok (.isub, 1) := by decide +kernel
theorem dX1_showMean_86 : decode cX1_showMean 86 = .ok (.invokestatic 44, 3) := by decide +kernel
theorem dX1_showMean_89 : decode cX1_showMean 89 = .ok (.iastore, 1) := by decide +kernel
theorem dX1_showMean_90 : decode cX1_showMean 90 = .ok (.iinc 9 1, 3) := by decide +kernel
theorem dX1_showMean_93 : decode cX1_showMean 93 = .ok (.goto (-81), 3) := by decide +kernel
theorem dX1_showMean_96 : decode cX1_showMean 96 = .ok (.return_, 1) := by decide +kernel
theorem dX2_init_0 : decode cX2_init 0 = .ok (.aload_n 0, 1) := by decide +kernel
theorem dX2_init_1 : decode cX2_init 1 = .ok (.invokespecial 3, 3) := by decide +kernel
theorem dX2_init_4 : decode cX2_init 4 = .ok (.aload_n 0, 1) := by decide +kernel
theorem dX2_init_5 : decode cX2_init 5 = .ok (.sipush 300, 3) := by decide +kernel
theorem dX2_init_8 : decode cX2_init 8 = .ok (.newarray .int, 2) := by decide +kernel
theorem dX2_init_10 : decode cX2_init 10 = .ok (.putfield 9, 3) := by decide +kernel
theorem dX2_init_13 : decode cX2_init 13 = .ok (.aload_n 0, 1) := by decide +kernel
theorem dX2_init_14 : decode cX2_init 14 = .ok (.sipush 300, 3) := by decide +kernel
theorem dX2_init_17 : decode cX2_init 17 = .ok (.newarray .int, 2) := by decide +kernel
theorem dX2_init_19 : decode cX2_init 19 = .ok (.putfield 15, 3) := by decide +kernel
theorem dX2_init_22 : decode cX2_init 22 = .ok (.return_, 1) := by decide +kernel
theorem dX2_partOf_0 : decode cX2_partOf 0 = .ok (.iload_n 0, 1) := by decide +kernel
theorem dX2_partOf_1 : decode cX2_partOf 1 = .ok (.iconst 1, 1) := by decide +kernel
theorem dX2_partOf_2 : decode cX2_partOf 2 = .ok (.if_icmp .lt 8, 3) := by decide +kernel
theorem dX2_partOf_5 : decode cX2_partOf 5 = .ok (.iload_n 1, 1) := by decide +kernel
theorem dX2_partOf_6 : decode cX2_partOf 6 = .ok (.iconst 1, 1) := by decide +kernel
theorem dX2_partOf_7 : decode cX2_partOf 7 = .ok (.if_icmp .ge 7, 3) := by decide +kernel
theorem dX2_partOf_10 : decode cX2_partOf 10 = .ok (.iconst 0, 1) := by decide +kernel
theorem dX2_partOf_11 : decode cX2_partOf 11 = .ok (.goto 10, 3) := by decide +kernel
theorem dX2_partOf_14 : decode cX2_partOf 14 = .ok (.iconst 1, 1) := by decide +kernel
theorem dX2_partOf_15 : decode cX2_partOf 15 = .ok (.iload_n 0, 1) := by decide +kernel
theorem dX2_partOf_16 : decode cX2_partOf 16 = .ok (.iload_n 1, 1) := by decide +kernel
theorem dX2_partOf_17 : decode cX2_partOf 17 = .ok (.idiv, 1) := by decide +kernel
theorem dX2_partOf_18 : decode cX2_partOf 18 = .ok (.invokestatic 18, 3) := by decide +kernel
theorem dX2_partOf_21 : decode cX2_partOf 21 = .ok (.ireturn, 1) := by decide +kernel
theorem dX2_rank_0 : decode cX2_rank 0 = .ok (.aload_n 2, 1) := by decide +kernel
theorem dX2_rank_1 : decode cX2_rank 1 = .ok (.invokevirtual 24, 3) := by decide +kernel
theorem dX2_rank_4 : decode cX2_rank 4 = .ok (.iconst 0, 1) := by decide +kernel
theorem dX2_rank_5 : decode cX2_rank 5 = .ok (.istore_n 3, 1) := by decide +kernel
theorem dX2_rank_6 : decode cX2_rank 6 = .ok (.iload_n 3, 1) := by decide +kernel
theorem dX2_rank_7 : decode cX2_rank 7 = .ok (.aload_n 1, 1) := by decide +kernel
theorem dX2_rank_8 : decode cX2_rank 8 = .ok (.getfield 29, 3) := by decide +kernel
theorem dX2_rank_11 : decode cX2_rank 11 = .ok (.if_icmp .ge 28, 3) := by decide +kernel
theorem dX2_rank_14 : decode cX2_rank 14 = .ok (.aload_n 2, 1) := by decide +kernel
theorem dX2_rank_15 : decode cX2_rank 15 = .ok (.aload_n 1, 1) := by decide +kernel
theorem dX2_rank_16 : decode cX2_rank 16 = .ok (.getfield 35, 3) := by decide +kernel
theorem dX2_rank_19 : decode cX2_rank 19 = .ok (.iload_n 3, 1) := by decide +kernel
theorem dX2_rank_20 : decode cX2_rank 20 = .ok (.iaload, 1) := by decide +kernel
theorem dX2_rank_21 : decode cX2_rank 21 = .ok (.ineg, 1) := by decide +kernel
theorem dX2_rank_22 : decode cX2_rank 22 = .ok (.i2l, 1) := by decide +kernel
theorem dX2_rank_23 : decode cX2_rank 23 = .ok (.ldc2_w 38, 3) := by decide +kernel
theorem dX2_rank_26 : decode cX2_rank 26 = .ok (.lmul, 1) := by decide +kernel
theorem dX2_rank_27 : decode cX2_rank 27 = .ok (.iload_n 3, 1) := by decide +kernel
theorem dX2_rank_28 : decode cX2_rank 28 = .ok (.i2l, 1) := by decide +kernel
theorem dX2_rank_29 : decode cX2_rank 29 = .ok (.ladd, 1) := by decide +kernel
theorem dX2_rank_30 : decode cX2_rank 30 = .ok (.invokevirtual 40, 3) := by decide +kernel
theorem dX2_rank_33 : decode cX2_rank 33 = .ok (.iinc 3 1, 3) := by decide +kernel
theorem dX2_rank_36 : decode cX2_rank 36 = .ok (.goto (-30), 3) := by decide +kernel
theorem dX2_rank_39 : decode cX2_rank 39 = .ok (.aload_n 2, 1) := by decide +kernel
theorem dX2_rank_40 : decode cX2_rank 40 = .ok (.invokevirtual 44, 3) := by decide +kernel
theorem dX2_rank_43 : decode cX2_rank 43 = .ok (.iconst 0, 1) := by decide +kernel
theorem dX2_rank_44 : decode cX2_rank 44 = .ok (.istore_n 3, 1) := by decide +kernel
theorem dX2_rank_45 : decode cX2_rank 45 = .ok (.iload_n 3, 1) := by decide +kernel
theorem dX2_rank_46 : decode cX2_rank 46 = .ok (.aload_n 1, 1) := by decide +kernel
theorem dX2_rank_47 : decode cX2_rank 47 = .ok (.getfield 29, 3) := by decide +kernel
theorem dX2_rank_50 : decode cX2_rank 50 = .ok (.if_icmp .ge 39, 3) := by decide +kernel
theorem dX2_rank_53 : decode cX2_rank 53 = .ok (.aload_n 2, 1) := by decide +kernel
theorem dX2_rank_54 : decode cX2_rank 54 = .ok (.iload_n 3, 1) := by decide +kernel
theorem dX2_rank_55 : decode cX2_rank 55 = .ok (.invokevirtual 47, 3) := by decide +kernel
theorem dX2_rank_58 : decode cX2_rank 58 = .ok (.ldc2_w 38, 3) := by decide +kernel
theorem dX2_rank_61 : decode cX2_rank 61 = .ok (.invokestatic 51, 3) := by decide +kernel
theorem dX2_rank_64 : decode cX2_rank 64 = .ok (.l2i, 1) := by decide +kernel
theorem dX2_rank_65 : decode cX2_rank 65 = .ok (.istore 4, 2) := by decide +kernel
theorem dX2_rank_67 : decode cX2_rank 67 = .ok (.aload_n 0, 1) := by decide +kernel
theorem dX2_rank_68 : decode cX2_rank 68 = .ok (.getfield 9, 3) := by decide +kernel
theorem dX2_rank_71 : decode cX2_rank 71 = .ok (.iload_n 3, 1) := by decide +kernel
theorem dX2_rank_72 : decode cX2_rank 72 = .ok (.iload 4, 2) := by decide +kernel
theorem dX2_rank_74 : decode cX2_rank 74 = .ok (.iastore, 1) := by decide +kernel
theorem dX2_rank_75 : decode cX2_rank 75 = .ok (.aload_n 0, 1) := by decide +kernel
theorem dX2_rank_76 : decode cX2_rank 76 = .ok (.getfield 15, 3) := by decide +kernel
theorem dX2_rank_79 : decode cX2_rank 79 = .ok (.iload 4, 2) := by decide +kernel
theorem dX2_rank_81 : decode cX2_rank 81 = .ok (.iload_n 3, 1) := by decide +kernel
theorem dX2_rank_82 : decode cX2_rank 82 = .ok (.iastore, 1) := by decide +kernel
theorem dX2_rank_83 : decode cX2_rank 83 = .ok (.iinc 3 1, 3) := by decide +kernel
theorem dX2_rank_86 : decode cX2_rank 86 = .ok (.goto (-41), 3) := by decide +kernel
theorem dX2_rank_89 : decode cX2_rank 89 = .ok (.return_, 1) := by decide +kernel
theorem dX2_weigh_0 : decode cX2_weigh 0 = .ok (.aload_n 0, 1) := by decide +kernel
theorem dX2_weigh_1 : decode cX2_weigh 1 = .ok (.aload_n 1, 1) := by decide +kernel
theorem dX2_weigh_2 : decode cX2_weigh 2 = .ok (.getfield 29, 3) := by decide +kernel
theorem dX2_weigh_5 : decode cX2_weigh 5 = .ok (.iconst 3, 1) := by decide +kernel
theorem dX2_weigh_6 : decode cX2_weigh 6 = .ok (.invokestatic 55, 3) := by decide +kernel
theorem dX2_weigh_9 : decode cX2_weigh 9 = .ok (.putfield 58, 3) := by decide +kernel
theorem dX2_weigh_12 : decode cX2_weigh 12 = .ok (.aload_n 0, 1) := by decide +kernel
theorem dX2_weigh_13 : decode cX2_weigh 13 = .ok (.aload_n 0, 1) := by decide +kernel
theorem dX2_weigh_14 : decode cX2_weigh 14 = .ok (.aload_n 1, 1) := by decide +kernel
theorem dX2_weigh_15 : decode cX2_weigh 15 = .ok (.aload_n 0, 1) := by decide +kernel
theorem dX2_weigh_16 : decode cX2_weigh 16 = .ok (.getfield 58, 3) := by decide +kernel
theorem dX2_weigh_19 : decode cX2_weigh 19 = .ok (.invokevirtual 61, 3) := by decide +kernel
theorem dX2_weigh_22 : decode cX2_weigh 22 = .ok (.i2l, 1) := by decide +kernel
theorem dX2_weigh_23 : decode cX2_weigh 23 = .ok (.putfield 65, 3) := by decide +kernel
theorem dX2_weigh_26 : decode cX2_weigh 26 = .ok (.aload_n 0, 1) := by decide +kernel
theorem dX2_weigh_27 : decode cX2_weigh 27 = .ok (.aload_n 0, 1) := by decide +kernel
theorem dX2_weigh_28 : decode cX2_weigh 28 = .ok (.aload_n 1, 1) := by decide +kernel
theorem dX2_weigh_29 : decode cX2_weigh 29 = .ok (.aload_n 1, 1) := by decide +kernel
theorem dX2_weigh_30 : decode cX2_weigh 30 = .ok (.getfield 29, 3) := by decide +kernel
theorem dX2_weigh_33 : decode cX2_weigh 33 = .ok (.invokevirtual 61, 3) := by decide +kernel
theorem dX2_weigh_36 : decode cX2_weigh 36 = .ok (.i2l, 1) := by decide +kernel
theorem dX2_weigh_37 : decode cX2_weigh 37 = .ok (.putfield 69, 3) := by decide +kernel
theorem dX2_weigh_40 : decode cX2_weigh 40 = .ok (.aload_n 0, 1) := by decide +kernel
theorem dX2_weigh_41 : decode cX2_weigh 41 = .ok (.aload_n 1, 1) := by decide +kernel
theorem dX2_weigh_42 : decode cX2_weigh 42 = .ok (.getfield 29, 3) := by decide +kernel
theorem dX2_weigh_45 : decode cX2_weigh 45 = .ok (.iconst 1, 1) := by decide +kernel
theorem dX2_weigh_46 : decode cX2_weigh 46 = .ok (.if_icmp .ge 7, 3) := by decide +kernel
theorem dX2_weigh_49 : decode cX2_weigh 49 = .ok (.iconst 0, 1) := by decide +kernel
theorem dX2_weigh_50 : decode cX2_weigh 50 = .ok (.goto 19, 3) := by decide +kernel
theorem dX2_weigh_53 : decode cX2_weigh 53 = .ok (.aload_n 1, 1) := by decide +kernel
theorem dX2_weigh_54 : decode cX2_weigh 54 = .ok (.getfield 35, 3) := by decide +kernel
theorem dX2_weigh_57 : decode cX2_weigh 57 = .ok (.aload_n 0, 1) := by decide +kernel
theorem dX2_weigh_58 : decode cX2_weigh 58 = .ok (.getfield 9, 3) := by decide +kernel
theorem dX2_weigh_61 : decode cX2_weigh 61 = .ok (.aload_n 1, 1) := by decide +kernel
theorem dX2_weigh_62 : decode cX2_weigh 62 = .ok (.getfield 29, 3) := by decide +kernel
theorem dX2_weigh_65 : decode cX2_weigh 65 = .ok (.iconst 2, 1) := by decide +kernel
theorem dX2_weigh_66 : decode cX2_weigh 66 = .ok (.idiv, 1) := by decide +kernel
theorem dX2_weigh_67 : decode cX2_weigh 67 = .ok (.iaload, 1) := by decide +kernel
theorem dX2_weigh_68 : decode cX2_weigh 68 = .ok (.iaload, 1) := by decide +kernel
theorem dX2_weigh_69 : decode cX2_weigh 69 = .ok (.putfield 72, 3) := by decide +kernel
theorem dX2_weigh_72 : decode cX2_weigh 72 = .ok (.aload_n 0, 1) := by decide +kernel
theorem dX2_weigh_73 : decode cX2_weigh 73 = .ok (.iconst 0, 1) := by decide +kernel
theorem dX2_weigh_74 : decode cX2_weigh 74 = .ok (.putfield 75, 3) := by decide +kernel
theorem dX2_weigh_77 : decode cX2_weigh 77 = .ok (.iconst 0, 1) := by decide +kernel
theorem dX2_weigh_78 : decode cX2_weigh 78 = .ok (.istore_n 3, 1) := by decide +kernel
theorem dX2_weigh_79 : decode cX2_weigh 79 = .ok (.iload_n 3, 1) := by decide +kernel
theorem dX2_weigh_80 : decode cX2_weigh 80 = .ok (.aload_n 1, 1) := by decide +kernel
theorem dX2_weigh_81 : decode cX2_weigh 81 = .ok (.getfield 29, 3) := by decide +kernel
theorem dX2_weigh_84 : decode cX2_weigh 84 = .ok (.if_icmp .ge 50, 3) := by decide +kernel
theorem dX2_weigh_87 : decode cX2_weigh 87 = .ok (.ldc2_w 78, 3) := by decide +kernel
theorem dX2_weigh_90 : decode cX2_weigh 90 = .ok (.aload_n 1, 1) := by decide +kernel
theorem dX2_weigh_91 : decode cX2_weigh 91 = .ok (.getfield 35, 3) := by decide +kernel
theorem dX2_weigh_94 : decode cX2_weigh 94 = .ok (.iload_n 3, 1) := by decide +kernel
theorem dX2_weigh_95 : decode cX2_weigh 95 = .ok (.iaload, 1) := by decide +kernel
theorem dX2_weigh_96 : decode cX2_weigh 96 = .ok (.i2l, 1) := by decide +kernel
theorem dX2_weigh_97 : decode cX2_weigh 97 = .ok (.lmul, 1) := by decide +kernel
theorem dX2_weigh_98 : decode cX2_weigh 98 = .ok (.aload_n 0, 1) := by decide +kernel
theorem dX2_weigh_99 : decode cX2_weigh 99 = .ok (.getfield 58, 3) := by decide +kernel
theorem dX2_weigh_102 : decode cX2_weigh 102 = .ok (.i2l, 1) := by decide +kernel
theorem dX2_weigh_103 : decode cX2_weigh 103 = .ok (.lmul, 1) := by decide +kernel
theorem dX2_weigh_104 : decode cX2_weigh 104 = .ok (.aload_n 2, 1) := by decide +kernel
theorem dX2_weigh_105 : decode cX2_weigh 105 = .ok (.invokevirtual 80, 3) := by decide +kernel
theorem dX2_weigh_108 : decode cX2_weigh 108 = .ok (.i2l, 1) := by decide +kernel
theorem dX2_weigh_109 : decode cX2_weigh 109 = .ok (.aload_n 0, 1) := by decide +kernel
theorem dX2_weigh_110 : decode cX2_weigh 110 = .ok (.getfield 65, 3) := by decide +kernel
theorem dX2_weigh_113 : decode cX2_weigh 113 = .ok (.lmul, 1) := by decide +kernel
theorem dX2_weigh_114 : decode cX2_weigh 114 = .ok (.lcmp, 1) := by decide +kernel
theorem dX2_weigh_115 : decode cX2_weigh 115 = .ok (.ifCond .le 13, 3) := by decide +kernel
theorem dX2_weigh_118 : decode cX2_weigh 118 = .ok (.aload_n 0, 1) := by decide +kernel
theorem dX2_weigh_119 : decode cX2_weigh 119 = .ok (.dup, 1) := by decide +kernel
theorem dX2_weigh_120 : decode cX2_weigh 120 = .ok (.getfield 75, 3) := by decide +kernel
theorem dX2_weigh_123 : decode cX2_weigh 123 = .ok (.iconst 1, 1) := by decide +kernel
theorem dX2_weigh_124 : decode cX2_weigh 124 = .ok (.iadd, 1) := by decide +kernel
theorem dX2_weigh_125 : decode cX2_weigh 125 = .ok (.putfield 75, 3) := by decide +kernel
theorem dX2_weigh_128 : decode cX2_weigh 128 = .ok (.iinc 3 1, 3) := by decide +kernel
theorem dX2_weigh_131 : decode cX2_weigh 131 = .ok (.goto (-52), 3) := by decide +kernel
theorem dX2_weigh_134 : decode cX2_weigh 134 = .ok (.return_, 1) := by decide +kernel
theorem dX2_isHigh_0 : decode cX2_isHigh 0 = .ok (.aload_n 1, 1) := by decide +kernel
theorem dX2_isHigh_1 : decode cX2_isHigh 1 = .ok (.getfield 35, 3) := by decide +kernel
theorem dX2_isHigh_4 : decode cX2_isHigh 4 = .ok (.iload_n 2, 1) := by decide +kernel
theorem dX2_isHigh_5 : decode cX2_isHigh 5 = .ok (.iaload, 1) := by decide +kernel
theorem dX2_isHigh_6 : decode cX2_isHigh 6 = .ok (.i2l, 1) := by decide +kernel
theorem dX2_isHigh_7 : decode cX2_isHigh 7 = .ok (.lstore 4, 2) := by decide +kernel
theorem dX2_isHigh_9 : decode cX2_isHigh 9 = .ok (.aload_n 3, 1) := by decide +kernel
theorem dX2_isHigh_10 : decode cX2_isHigh 10 = .ok (.getfield 86, 3) := by decide +kernel
theorem dX2_isHigh_13 : decode cX2_isHigh 13 = .ok (.tableswitch 88 1 3 #[27, 49, 71], 27) := by decide +kernel
theorem dX2_isHigh_40 : decode cX2_isHigh 40 = .ok (.lload 4, 2) := by decide +kernel
theorem dX2_isHigh_42 : decode cX2_isHigh 42 = .ok (.aload_n 1, 1) := by decide +kernel
theorem dX2_isHigh_43 : decode cX2_isHigh 43 = .ok (.getfield 29, 3) := by decide +kernel
theorem dX2_isHigh_46 : decode cX2_isHigh 46 = .ok (.i2l, 1) := by decide +kernel
theorem dX2_isHigh_47 : decode cX2_isHigh 47 = .ok (.lmul, 1) := by decide +kernel
theorem dX2_isHigh_48 : decode cX2_isHigh 48 = .ok (.aload_n 0, 1) := by decide +kernel
theorem dX2_isHigh_49 : decode cX2_isHigh 49 = .ok (.getfield 69, 3) := by decide +kernel
theorem dX2_isHigh_52 : decode cX2_isHigh 52 = .ok (.lcmp, 1) := by decide +kernel
theorem dX2_isHigh_53 : decode cX2_isHigh 53 = .ok (.ifCond .le 7, 3) := by decide +kernel
theorem dX2_isHigh_56 : decode cX2_isHigh 56 = .ok (.iconst 1, 1) := by decide +kernel
theorem dX2_isHigh_57 : decode cX2_isHigh 57 = .ok (.goto 4, 3) := by decide +kernel
theorem dX2_isHigh_60 : decode cX2_isHigh 60 = .ok (.iconst 0, 1) := by decide +kernel
theorem dX2_isHigh_61 : decode cX2_isHigh 61 = .ok (.ireturn, 1) := by decide +kernel
theorem dX2_isHigh_62 : decode cX2_isHigh 62 = .ok (.lload 4, 2) := by decide +kernel
theorem dX2_isHigh_64 : decode cX2_isHigh 64 = .ok (.aload_n 0, 1) := by decide +kernel
theorem dX2_isHigh_65 : decode cX2_isHigh 65 = .ok (.getfield 58, 3) := by decide +kernel
theorem dX2_isHigh_68 : decode cX2_isHigh 68 = .ok (.i2l, 1) := by decide +kernel
theorem dX2_isHigh_69 : decode cX2_isHigh 69 = .ok (.lmul, 1) := by decide +kernel
theorem dX2_isHigh_70 : decode cX2_isHigh 70 = .ok (.aload_n 0, 1) := by decide +kernel
theorem dX2_isHigh_71 : decode cX2_isHigh 71 = .ok (.getfield 65, 3) := by decide +kernel
theorem dX2_isHigh_74 : decode cX2_isHigh 74 = .ok (.lcmp, 1) := by decide +kernel
theorem dX2_isHigh_75 : decode cX2_isHigh 75 = .ok (.ifCond .le 7, 3) := by decide +kernel
theorem dX2_isHigh_78 : decode cX2_isHigh 78 = .ok (.iconst 1, 1) := by decide +kernel
theorem dX2_isHigh_79 : decode cX2_isHigh 79 = .ok (.goto 4, 3) := by decide +kernel
theorem dX2_isHigh_82 : decode cX2_isHigh 82 = .ok (.iconst 0, 1) := by decide +kernel
theorem dX2_isHigh_83 : decode cX2_isHigh 83 = .ok (.ireturn, 1) := by decide +kernel
theorem dX2_isHigh_84 : decode cX2_isHigh 84 = .ok (.lload 4, 2) := by decide +kernel
theorem dX2_isHigh_86 : decode cX2_isHigh 86 = .ok (.aload_n 0, 1) := by decide +kernel
theorem dX2_isHigh_87 : decode cX2_isHigh 87 = .ok (.getfield 72, 3) := by decide +kernel
theorem dX2_isHigh_90 : decode cX2_isHigh 90 = .ok (.i2l, 1) := by decide +kernel
theorem dX2_isHigh_91 : decode cX2_isHigh 91 = .ok (.lcmp, 1) := by decide +kernel
theorem dX2_isHigh_92 : decode cX2_isHigh 92 = .ok (.ifCond .le 7, 3) := by decide +kernel
theorem dX2_isHigh_95 : decode cX2_isHigh 95 = .ok (.iconst 1, 1) := by decide +kernel
theorem dX2_isHigh_96 : decode cX2_isHigh 96 = .ok (.goto 4, 3) := by decide +kernel
theorem dX2_isHigh_99 : decode cX2_isHigh 99 = .ok (.iconst 0, 1) := by decide +kernel
theorem dX2_isHigh_100 : decode cX2_isHigh 100 = .ok (.ireturn, 1) := by decide +kernel
theorem dX2_isHigh_101 : decode cX2_isHigh 101 = .ok (.lload 4, 2) := by decide +kernel
theorem dX2_isHigh_103 : decode cX2_isHigh 103 = .ok (.aload_n 3, 1) := by decide +kernel
theorem dX2_isHigh_104 : decode cX2_isHigh 104 = .ok (.getfield 89, 3) := by decide +kernel
theorem dX2_isHigh_107 : decode cX2_isHigh 107 = .ok (.i2l, 1) := by decide +kernel
theorem dX2_isHigh_108 : decode cX2_isHigh 108 = .ok (.lcmp, 1) := by decide +kernel
theorem dX2_isHigh_109 : decode cX2_isHigh 109 = .ok (.ifCond .le 7, 3) := by decide +kernel
theorem dX2_isHigh_112 : decode cX2_isHigh 112 = .ok (.iconst 1, 1) := by decide +kernel
theorem dX2_isHigh_113 : decode cX2_isHigh 113 = .ok (.goto 4, 3) := by decide +kernel
theorem dX2_isHigh_116 : decode cX2_isHigh 116 = .ok (.iconst 0, 1) := by decide +kernel
theorem dX2_isHigh_117 : decode cX2_isHigh 117 = .ok (.ireturn, 1) := by decide +kernel
theorem dX2_heightsOfHighest_0 : decode cX2_heightsOfHighest 0 = .ok (.iconst 0, 1) := by decide +kernel
theorem dX2_heightsOfHighest_1 : decode cX2_heightsOfHighest 1 = .ok (.istore_n 3, 1) := by decide +kernel
theorem dX2_heightsOfHighest_2 : decode cX2_heightsOfHighest 2 = .ok (.iconst 0, 1) := by decide +kernel
theorem dX2_heightsOfHighest_3 : decode cX2_heightsOfHighest 3 = .ok (.istore 4, 2) := by decide +kernel
theorem dX2_heightsOfHighest_5 : decode cX2_heightsOfHighest 5 = .ok (.iload 4, 2) := by decide +kernel
theorem dX2_heightsOfHighest_7 : decode cX2_heightsOfHighest 7 = .ok (.iload_n 2, 1) := by decide +kernel
theorem dX2_heightsOfHighest_8 : decode cX2_heightsOfHighest 8 = .ok (.if_icmp .ge 24, 3) := by decide +kernel
theorem dX2_heightsOfHighest_11 : decode cX2_heightsOfHighest 11 = .ok (.iload_n 3, 1) := by decide +kernel
theorem dX2_heightsOfHighest_12 : decode cX2_heightsOfHighest 12 = .ok (.aload_n 1, 1) := by decide +kernel
theorem dX2_heightsOfHighest_13 : decode cX2_heightsOfHighest 13 = .ok (.getfield 35, 3) := by decide +kernel
theorem dX2_heightsOfHighest_16 : decode cX2_heightsOfHighest 16 = .ok (.aload_n 0, 1) := by decide +kernel
theorem dX2_heightsOfHighest_17 : decode cX2_heightsOfHighest 17 = .ok (.getfield 9, 3) := by decide +kernel
theorem dX2_heightsOfHighest_20 : decode cX2_heightsOfHighest 20 = .ok (.iload 4, 2) := by decide +kernel
theorem dX2_heightsOfHighest_22 : decode cX2_heightsOfHighest 22 = .ok (.iaload, 1) := by decide +kernel
theorem dX2_heightsOfHighest_23 : decode cX2_heightsOfHighest 23 = .ok (.iaload, 1) := by decide +kernel
theorem dX2_heightsOfHighest_24 : decode cX2_heightsOfHighest 24 = .ok (.iadd, 1) := by decide +kernel
theorem dX2_heightsOfHighest_25 : decode cX2_heightsOfHighest 25 = .ok (.istore_n 3, 1) := by decide +kernel
theorem dX2_heightsOfHighest_26 : decode cX2_heightsOfHighest 26 = .ok (.iinc 4 1, 3) := by decide +kernel
theorem dX2_heightsOfHighest_29 : decode cX2_heightsOfHighest 29 = .ok (.goto (-24), 3) := by decide +kernel
theorem dX2_heightsOfHighest_32 : decode cX2_heightsOfHighest 32 = .ok (.iload_n 3, 1) := by decide +kernel
theorem dX2_heightsOfHighest_33 : decode cX2_heightsOfHighest 33 = .ok (.ireturn, 1) := by decide +kernel
theorem dX2_periodsOfHighest_0 : decode cX2_periodsOfHighest 0 = .ok (.iconst 0, 1) := by decide +kernel
theorem dX2_periodsOfHighest_1 : decode cX2_periodsOfHighest 1 = .ok (.istore_n 3, 1) := by decide +kernel
theorem dX2_periodsOfHighest_2 : decode cX2_periodsOfHighest 2 = .ok (.iconst 0, 1) := by decide +kernel
theorem dX2_periodsOfHighest_3 : decode cX2_periodsOfHighest 3 = .ok (.istore 4, 2) := by decide +kernel
theorem dX2_periodsOfHighest_5 : decode cX2_periodsOfHighest 5 = .ok (.iload 4, 2) := by decide +kernel
theorem dX2_periodsOfHighest_7 : decode cX2_periodsOfHighest 7 = .ok (.iload_n 2, 1) := by decide +kernel
theorem dX2_periodsOfHighest_8 : decode cX2_periodsOfHighest 8 = .ok (.if_icmp .ge 24, 3) := by decide +kernel
theorem dX2_periodsOfHighest_11 : decode cX2_periodsOfHighest 11 = .ok (.iload_n 3, 1) := by decide +kernel
theorem dX2_periodsOfHighest_12 : decode cX2_periodsOfHighest 12 = .ok (.aload_n 1, 1) := by decide +kernel
theorem dX2_periodsOfHighest_13 : decode cX2_periodsOfHighest 13 = .ok (.getfield 92, 3) := by decide +kernel
theorem dX2_periodsOfHighest_16 : decode cX2_periodsOfHighest 16 = .ok (.aload_n 0, 1) := by decide +kernel
theorem dX2_periodsOfHighest_17 : decode cX2_periodsOfHighest 17 = .ok (.getfield 9, 3) := by decide +kernel
theorem dX2_periodsOfHighest_20 : decode cX2_periodsOfHighest 20 = .ok (.iload 4, 2) := by decide +kernel
theorem dX2_periodsOfHighest_22 : decode cX2_periodsOfHighest 22 = .ok (.iaload, 1) := by decide +kernel
theorem dX2_periodsOfHighest_23 : decode cX2_periodsOfHighest 23 = .ok (.iaload, 1) := by decide +kernel
theorem dX2_periodsOfHighest_24 : decode cX2_periodsOfHighest 24 = .ok (.iadd, 1) := by decide +kernel
theorem dX2_periodsOfHighest_25 : decode cX2_periodsOfHighest 25 = .ok (.istore_n 3, 1) := by decide +kernel
theorem dX2_periodsOfHighest_26 : decode cX2_periodsOfHighest 26 = .ok (.iinc 4 1, 3) := by decide +kernel
theorem dX2_periodsOfHighest_29 : decode cX2_periodsOfHighest 29 = .ok (.goto (-24), 3) := by decide +kernel
theorem dX2_periodsOfHighest_32 : decode cX2_periodsOfHighest 32 = .ok (.iload_n 3, 1) := by decide +kernel
theorem dX2_periodsOfHighest_33 : decode cX2_periodsOfHighest 33 = .ok (.ireturn, 1) := by decide +kernel
theorem dX2_leastRankIn_0 : decode cX2_leastRankIn 0 = .ok (.iload_n 1, 1) := by decide +kernel
theorem dX2_leastRankIn_1 : decode cX2_leastRankIn 1 = .ok (.istore_n 3, 1) := by decide +kernel
theorem dX2_leastRankIn_2 : decode cX2_leastRankIn 2 = .ok (.iload_n 1, 1) := by decide +kernel
theorem dX2_leastRankIn_3 : decode cX2_leastRankIn 3 = .ok (.istore 4, 2) := by decide +kernel
theorem dX2_leastRankIn_5 : decode cX2_leastRankIn 5 = .ok (.iload 4, 2) := by decide +kernel
theorem dX2_leastRankIn_7 : decode cX2_leastRankIn 7 = .ok (.iload_n 2, 1) := by decide +kernel
theorem dX2_leastRankIn_8 : decode cX2_leastRankIn 8 = .ok (.if_icmp .ge 28, 3) := by decide +kernel
theorem dX2_leastRankIn_11 : decode cX2_leastRankIn 11 = .ok (.aload_n 0, 1) := by decide +kernel
theorem dX2_leastRankIn_12 : decode cX2_leastRankIn 12 = .ok (.getfield 15, 3) := by decide +kernel
theorem dX2_leastRankIn_15 : decode cX2_leastRankIn 15 = .ok (.iload 4, 2) := by decide +kernel
theorem dX2_leastRankIn_17 : decode cX2_leastRankIn 17 = .ok (.iaload, 1) := by decide +kernel
theorem dX2_leastRankIn_18 : decode cX2_leastRankIn 18 = .ok (.aload_n 0, 1) := by decide +kernel
theorem dX2_leastRankIn_19 : decode cX2_leastRankIn 19 = .ok (.getfield 15, 3) := by decide +kernel
theorem dX2_leastRankIn_22 : decode cX2_leastRankIn 22 = .ok (.iload_n 3, 1) := by decide +kernel
theorem dX2_leastRankIn_23 : decode cX2_leastRankIn 23 = .ok (.iaload, 1) := by decide +kernel
theorem dX2_leastRankIn_24 : decode cX2_leastRankIn 24 = .ok (.if_icmp .ge 6, 3) := by decide +kernel
theorem dX2_leastRankIn_27 : decode cX2_leastRankIn 27 = .ok (.iload 4, 2) := by decide +kernel
theorem dX2_leastRankIn_29 : decode cX2_leastRankIn 29 = .ok (.istore_n 3, 1) := by decide +kernel
theorem dX2_leastRankIn_30 : decode cX2_leastRankIn 30 = .ok (.iinc 4 1, 3) := by decide +kernel
theorem dX2_leastRankIn_33 : decode cX2_leastRankIn 33 = .ok (.goto (-28), 3) := by decide +kernel
theorem dX2_leastRankIn_36 : decode cX2_leastRankIn 36 = .ok (.iload_n 3, 1) := by decide +kernel
theorem dX2_leastRankIn_37 : decode cX2_leastRankIn 37 = .ok (.ireturn, 1) := by decide +kernel
theorem dX3_init_0 : decode cX3_init 0 = .ok (.aload_n 0, 1) := by decide +kernel
theorem dX3_init_1 : decode cX3_init 1 = .ok (.invokespecial 3, 3) := by decide +kernel
theorem dX3_init_4 : decode cX3_init 4 = .ok (.aload_n 0, 1) := by decide +kernel
theorem dX3_init_5 : decode cX3_init 5 = .ok (.sipush 600, 3) := by decide +kernel
theorem dX3_init_8 : decode cX3_init 8 = .ok (.newarray .int, 2) := by decide +kernel
theorem dX3_init_10 : decode cX3_init 10 = .ok (.putfield 9, 3) := by decide +kernel
theorem dX3_init_13 : decode cX3_init 13 = .ok (.aload_n 0, 1) := by decide +kernel
theorem dX3_init_14 : decode cX3_init 14 = .ok (.sipush 600, 3) := by decide +kernel
theorem dX3_init_17 : decode cX3_init 17 = .ok (.newarray .int, 2) := by decide +kernel
theorem dX3_init_19 : decode cX3_init 19 = .ok (.putfield 15, 3) := by decide +kernel
theorem dX3_init_22 : decode cX3_init 22 = .ok (.return_, 1) := by decide +kernel
theorem dX3_canCome_0 : decode cX3_canCome 0 = .ok (.iload_n 0, 1) := by decide +kernel
theorem dX3_canCome_1 : decode cX3_canCome 1 = .ok (.sipush (-32768), 3) := by decide +kernel
theorem dX3_canCome_4 : decode cX3_canCome 4 = .ok (.if_icmp .eq 17, 3) := by decide +kernel
theorem dX3_canCome_7 : decode cX3_canCome 7 = .ok (.iload_n 0, 1) := by decide +kernel
theorem dX3_canCome_8 : decode cX3_canCome 8 = .ok (.sipush (-9999), 3) := by decide +kernel
theorem dX3_canCome_11 : decode cX3_canCome 11 = .ok (.if_icmp .lt 14, 3) := by decide +kernel
theorem dX3_canCome_14 : decode cX3_canCome 14 = .ok (.iload_n 0, 1) := by decide +kernel
theorem dX3_canCome_15 : decode cX3_canCome 15 = .ok (.sipush 9999, 3) := by decide +kernel
theorem dX3_canCome_18 : decode cX3_canCome 18 = .ok (.if_icmp .gt 7, 3) := by decide +kernel
theorem dX3_canCome_21 : decode cX3_canCome 21 = .ok (.iconst 1, 1) := by decide +kernel
theorem dX3_canCome_22 : decode cX3_canCome 22 = .ok (.goto 4, 3) := by decide +kernel
theorem dX3_canCome_25 : decode cX3_canCome 25 = .ok (.iconst 0, 1) := by decide +kernel
theorem dX3_canCome_26 : decode cX3_canCome 26 = .ok (.ireturn, 1) := by decide +kernel
theorem dX3_has_0 : decode cX3_has 0 = .ok (.iload_n 1, 1) := by decide +kernel
theorem dX3_has_1 : decode cX3_has 1 = .ok (.ifCond .lt 15, 3) := by decide +kernel
theorem dX3_has_4 : decode cX3_has 4 = .ok (.iload_n 1, 1) := by decide +kernel
theorem dX3_has_5 : decode cX3_has 5 = .ok (.aload_n 0, 1) := by decide +kernel
theorem dX3_has_6 : decode cX3_has 6 = .ok (.getfield 18, 3) := by decide +kernel
theorem dX3_has_9 : decode cX3_has 9 = .ok (.if_icmp .ge 7, 3) := by decide +kernel
theorem dX3_has_12 : decode cX3_has 12 = .ok (.iconst 1, 1) := by decide +kernel
theorem dX3_has_13 : decode cX3_has 13 = .ok (.goto 4, 3) := by decide +kernel
theorem dX3_has_16 : decode cX3_has 16 = .ok (.iconst 0, 1) := by decide +kernel
theorem dX3_has_17 : decode cX3_has 17 = .ok (.ireturn, 1) := by decide +kernel
theorem dX3_room_0 : decode cX3_room 0 = .ok (.aload_n 0, 1) := by decide +kernel
theorem dX3_room_1 : decode cX3_room 1 = .ok (.getfield 9, 3) := by decide +kernel
theorem dX3_room_4 : decode cX3_room 4 = .ok (.arraylength, 1) := by decide +kernel
theorem dX3_room_5 : decode cX3_room 5 = .ok (.aload_n 0, 1) := by decide +kernel
theorem dX3_room_6 : decode cX3_room 6 = .ok (.getfield 18, 3) := by decide +kernel
theorem dX3_room_9 : decode cX3_room 9 = .ok (.isub, 1) := by decide +kernel
theorem dX3_room_10 : decode cX3_room 10 = .ok (.ireturn, 1) := by decide +kernel
theorem dX3_add_0 : decode cX3_add 0 = .ok (.aload_n 0, 1) := by decide +kernel
theorem dX3_add_1 : decode cX3_add 1 = .ok (.getfield 18, 3) := by decide +kernel
theorem dX3_add_4 : decode cX3_add 4 = .ok (.aload_n 0, 1) := by decide +kernel
theorem dX3_add_5 : decode cX3_add 5 = .ok (.getfield 9, 3) := by decide +kernel
theorem dX3_add_8 : decode cX3_add 8 = .ok (.arraylength, 1) := by decide +kernel
theorem dX3_add_9 : decode cX3_add 9 = .ok (.if_icmp .lt 4, 3) := by decide +kernel
theorem dX3_add_12 : decode cX3_add 12 = .ok (.return_, 1) := by decide +kernel
theorem dX3_add_13 : decode cX3_add 13 = .ok (.aload_n 0, 1) := by decide +kernel
theorem dX3_add_14 : decode cX3_add 14 = .ok (.getfield 9, 3) := by decide +kernel
theorem dX3_add_17 : decode cX3_add 17 = .ok (.aload_n 0, 1) := by decide +kernel
theorem dX3_add_18 : decode cX3_add 18 = .ok (.getfield 18, 3) := by decide +kernel
theorem dX3_add_21 : decode cX3_add 21 = .ok (.iload_n 1, 1) := by decide +kernel
theorem dX3_add_22 : decode cX3_add 22 = .ok (.iastore, 1) := by decide +kernel
theorem dX3_add_23 : decode cX3_add 23 = .ok (.aload_n 0, 1) := by decide +kernel
theorem dX3_add_24 : decode cX3_add 24 = .ok (.getfield 15, 3) := by decide +kernel
theorem dX3_add_27 : decode cX3_add 27 = .ok (.aload_n 0, 1) := by decide +kernel
theorem dX3_add_28 : decode cX3_add 28 = .ok (.getfield 18, 3) := by decide +kernel
theorem dX3_add_31 : decode cX3_add 31 = .ok (.iconst 0, 1) := by decide +kernel
theorem dX3_add_32 : decode cX3_add 32 = .ok (.iastore, 1) := by decide +kernel
theorem dX3_add_33 : decode cX3_add 33 = .ok (.aload_n 0, 1) := by decide +kernel
theorem dX3_add_34 : decode cX3_add 34 = .ok (.dup, 1) := by decide +kernel
theorem dX3_add_35 : decode cX3_add 35 = .ok (.getfield 18, 3) := by decide +kernel
theorem dX3_add_38 : decode cX3_add 38 = .ok (.iconst 1, 1) := by decide +kernel
theorem dX3_add_39 : decode cX3_add 39 = .ok (.iadd, 1) := by decide +kernel
theorem dX3_add_40 : decode cX3_add 40 = .ok (.putfield 18, 3) := by decide +kernel
theorem dX3_add_43 : decode cX3_add 43 = .ok (.return_, 1) := by decide +kernel
theorem dX3_drop_0 : decode cX3_drop 0 = .ok (.iload_n 1, 1) := by decide +kernel
theorem dX3_drop_1 : decode cX3_drop 1 = .ok (.ifCond .lt 11, 3) := by decide +kernel
theorem dX3_drop_4 : decode cX3_drop 4 = .ok (.iload_n 1, 1) := by decide +kernel
theorem dX3_drop_5 : decode cX3_drop 5 = .ok (.aload_n 0, 1) := by decide +kernel
theorem dX3_drop_6 : decode cX3_drop 6 = .ok (.getfield 18, 3) := by decide +kernel
theorem dX3_drop_9 : decode cX3_drop 9 = .ok (.if_icmp .le 4, 3) := by decide +kernel
theorem dX3_drop_12 : decode cX3_drop 12 = .ok (.return_, 1) := by decide +kernel
theorem dX3_drop_13 : decode cX3_drop 13 = .ok (.iload_n 1, 1) := by decide +kernel
theorem dX3_drop_14 : decode cX3_drop 14 = .ok (.istore_n 2, 1) := by decide +kernel
theorem dX3_drop_15 : decode cX3_drop 15 = .ok (.iload_n 2, 1) := by decide +kernel
theorem dX3_drop_16 : decode cX3_drop 16 = .ok (.aload_n 0, 1) := by decide +kernel
theorem dX3_drop_17 : decode cX3_drop 17 = .ok (.getfield 18, 3) := by decide +kernel
theorem dX3_drop_20 : decode cX3_drop 20 = .ok (.if_icmp .ge 37, 3) := by decide +kernel
theorem dX3_drop_23 : decode cX3_drop 23 = .ok (.aload_n 0, 1) := by decide +kernel
theorem dX3_drop_24 : decode cX3_drop 24 = .ok (.getfield 9, 3) := by decide +kernel
theorem dX3_drop_27 : decode cX3_drop 27 = .ok (.iload_n 2, 1) := by decide +kernel
theorem dX3_drop_28 : decode cX3_drop 28 = .ok (.iload_n 1, 1) := by decide +kernel
theorem dX3_drop_29 : decode cX3_drop 29 = .ok (.isub, 1) := by decide +kernel
theorem dX3_drop_30 : decode cX3_drop 30 = .ok (.aload_n 0, 1) := by decide +kernel
theorem dX3_drop_31 : decode cX3_drop 31 = .ok (.getfield 9, 3) := by decide +kernel
theorem dX3_drop_34 : decode cX3_drop 34 = .ok (.iload_n 2, 1) := by decide +kernel
theorem dX3_drop_35 : decode cX3_drop 35 = .ok (.iaload, 1) := by decide +kernel
theorem dX3_drop_36 : decode cX3_drop 36 = .ok (.iastore, 1) := by decide +kernel
theorem dX3_drop_37 : decode cX3_drop 37 = .ok (.aload_n 0, 1) := by decide +kernel
theorem dX3_drop_38 : decode cX3_drop 38 = .ok (.getfield 15, 3) := by decide +kernel
theorem dX3_drop_41 : decode cX3_drop 41 = .ok (.iload_n 2, 1) := by decide +kernel
theorem dX3_drop_42 : decode cX3_drop 42 = .ok (.iload_n 1, 1) := by decide +kernel
theorem dX3_drop_43 : decode cX3_drop 43 = .ok (.isub, 1) := by decide +kernel
theorem dX3_drop_44 : decode cX3_drop 44 = .ok (.aload_n 0, 1) := by decide +kernel
theorem dX3_drop_45 : decode cX3_drop 45 = .ok (.getfield 15, 3) := by decide +kernel
theorem dX3_drop_48 : decode cX3_drop 48 = .ok (.iload_n 2, 1) := by decide +kernel
theorem dX3_drop_49 : decode cX3_drop 49 = .ok (.iaload, 1) := by decide +kernel
theorem dX3_drop_50 : decode cX3_drop 50 = .ok (.iastore, 1) := by decide +kernel
theorem dX3_drop_51 : decode cX3_drop 51 = .ok (.iinc 2 1, 3) := by decide +kernel
theorem dX3_drop_54 : decode cX3_drop 54 = .ok (.goto (-39), 3) := by decide +kernel
theorem dX3_drop_57 : decode cX3_drop 57 = .ok (.aload_n 0, 1) := by decide +kernel
theorem dX3_drop_58 : decode cX3_drop 58 = .ok (.dup, 1) := by decide +kernel
theorem dX3_drop_59 : decode cX3_drop 59 = .ok (.getfield 18, 3) := by decide +kernel
theorem dX3_drop_62 : decode cX3_drop 62 = .ok (.iload_n 1, 1) := by decide +kernel
theorem dX3_drop_63 : decode cX3_drop 63 = .ok (.isub, 1) := by decide +kernel
theorem dX3_drop_64 : decode cX3_drop 64 = .ok (.putfield 18, 3) := by decide +kernel
theorem dX3_drop_67 : decode cX3_drop 67 = .ok (.return_, 1) := by decide +kernel
theorem dX3_nameAt_0 : decode cX3_nameAt 0 = .ok (.aload_n 0, 1) := by decide +kernel
theorem dX3_nameAt_1 : decode cX3_nameAt 1 = .ok (.iload_n 1, 1) := by decide +kernel
theorem dX3_nameAt_2 : decode cX3_nameAt 2 = .ok (.invokevirtual 22, 3) := by decide +kernel
theorem dX3_nameAt_5 : decode cX3_nameAt 5 = .ok (.ifCond .eq 21, 3) := by decide +kernel
theorem dX3_nameAt_8 : decode cX3_nameAt 8 = .ok (.aload_n 0, 1) := by decide +kernel
theorem dX3_nameAt_9 : decode cX3_nameAt 9 = .ok (.getfield 15, 3) := by decide +kernel
theorem dX3_nameAt_12 : decode cX3_nameAt 12 = .ok (.iload_n 1, 1) := by decide +kernel
theorem dX3_nameAt_13 : decode cX3_nameAt 13 = .ok (.iaload, 1) := by decide +kernel
theorem dX3_nameAt_14 : decode cX3_nameAt 14 = .ok (.ifCond .eq 12, 3) := by decide +kernel
theorem dX3_nameAt_17 : decode cX3_nameAt 17 = .ok (.aload_n 0, 1) := by decide +kernel
theorem dX3_nameAt_18 : decode cX3_nameAt 18 = .ok (.getfield 15, 3) := by decide +kernel
theorem dX3_nameAt_21 : decode cX3_nameAt 21 = .ok (.iload_n 1, 1) := by decide +kernel
theorem dX3_nameAt_22 : decode cX3_nameAt 22 = .ok (.iaload, 1) := by decide +kernel
theorem dX3_nameAt_23 : decode cX3_nameAt 23 = .ok (.goto 4, 3) := by decide +kernel
theorem dX3_nameAt_26 : decode cX3_nameAt 26 = .ok (.iconst (-1), 1) := by decide +kernel
theorem dX3_nameAt_27 : decode cX3_nameAt 27 = .ok (.ireturn, 1) := by decide +kernel
theorem dX3_bearerOf_0 : decode cX3_bearerOf 0 = .ok (.iload_n 1, 1) := by decide +kernel
theorem dX3_bearerOf_1 : decode cX3_bearerOf 1 = .ok (.iconst 1, 1) := by decide +kernel
theorem dX3_bearerOf_2 : decode cX3_bearerOf 2 = .ok (.if_icmp .ge 5, 3) := by decide +kernel
theorem dX3_bearerOf_5 : decode cX3_bearerOf 5 = .ok (.iconst (-1), 1) := by decide +kernel
theorem dX3_bearerOf_6 : decode cX3_bearerOf 6 = .ok (.ireturn, 1) := by decide +kernel
theorem dX3_bearerOf_7 : decode cX3_bearerOf 7 = .ok (.iconst 0, 1) := by decide +kernel
theorem dX3_bearerOf_8 : decode cX3_bearerOf 8 = .ok (.istore_n 2, 1) := by decide +kernel
theorem dX3_bearerOf_9 : decode cX3_bearerOf 9 = .ok (.iload_n 2, 1) := by decide +kernel
theorem dX3_bearerOf_10 : decode cX3_bearerOf 10 = .ok (.aload_n 0, 1) := by decide +kernel
theorem dX3_bearerOf_11 : decode cX3_bearerOf 11 = .ok (.getfield 18, 3) := by decide +kernel
theorem dX3_bearerOf_14 : decode cX3_bearerOf 14 = .ok (.if_icmp .ge 21, 3) := by decide +kernel
theorem dX3_bearerOf_17 : decode cX3_bearerOf 17 = .ok (.aload_n 0, 1) := by decide +kernel
theorem dX3_bearerOf_18 : decode cX3_bearerOf 18 = .ok (.getfield 15, 3) := by decide +kernel
theorem dX3_bearerOf_21 : decode cX3_bearerOf 21 = .ok (.iload_n 2, 1) := by decide +kernel
theorem dX3_bearerOf_22 : decode cX3_bearerOf 22 = .ok (.iaload, 1) := by decide +kernel
theorem dX3_bearerOf_23 : decode cX3_bearerOf 23 = .ok (.iload_n 1, 1) := by decide +kernel
theorem dX3_bearerOf_24 : decode cX3_bearerOf 24 = .ok (.if_icmp .ne 5, 3) := by decide +kernel
theorem dX3_bearerOf_27 : decode cX3_bearerOf 27 = .ok (.iload_n 2, 1) := by decide +kernel
theorem dX3_bearerOf_28 : decode cX3_bearerOf 28 = .ok (.ireturn, 1) := by decide +kernel
theorem dX3_bearerOf_29 : decode cX3_bearerOf 29 = .ok (.iinc 2 1, 3) := by decide +kernel
theorem dX3_bearerOf_32 : decode cX3_bearerOf 32 = .ok (.goto (-23), 3) := by decide +kernel
theorem dX3_bearerOf_35 : decode cX3_bearerOf 35 = .ok (.iconst (-1), 1) := by decide +kernel
theorem dX3_bearerOf_36 : decode cX3_bearerOf 36 = .ok (.ireturn, 1) := by decide +kernel
theorem dX3_namesGiven_0 : decode cX3_namesGiven 0 = .ok (.iconst 0, 1) := by decide +kernel
theorem dX3_namesGiven_1 : decode cX3_namesGiven 1 = .ok (.istore_n 1, 1) := by decide +kernel
theorem dX3_namesGiven_2 : decode cX3_namesGiven 2 = .ok (.iconst 0, 1) := by decide +kernel
theorem dX3_namesGiven_3 : decode cX3_namesGiven 3 = .ok (.istore_n 2, 1) := by decide +kernel
theorem dX3_namesGiven_4 : decode cX3_namesGiven 4 = .ok (.iload_n 2, 1) := by decide +kernel
theorem dX3_namesGiven_5 : decode cX3_namesGiven 5 = .ok (.aload_n 0, 1) := by decide +kernel
theorem dX3_namesGiven_6 : decode cX3_namesGiven 6 = .ok (.getfield 18, 3) := by decide +kernel
theorem dX3_namesGiven_9 : decode cX3_namesGiven 9 = .ok (.if_icmp .ge 21, 3) := by decide +kernel
theorem dX3_namesGiven_12 : decode cX3_namesGiven 12 = .ok (.aload_n 0, 1) := by decide +kernel
theorem dX3_namesGiven_13 : decode cX3_namesGiven 13 = .ok (.getfield 15, 3) := by decide +kernel
theorem dX3_namesGiven_16 : decode cX3_namesGiven 16 = .ok (.iload_n 2, 1) := by decide +kernel
theorem dX3_namesGiven_17 : decode cX3_namesGiven 17 = .ok (.iaload, 1) := by decide +kernel
theorem dX3_namesGiven_18 : decode cX3_namesGiven 18 = .ok (.ifCond .eq 6, 3) := by decide +kernel
theorem dX3_namesGiven_21 : decode cX3_namesGiven 21 = .ok (.iinc 1 1, 3) := by decide +kernel
theorem dX3_namesGiven_24 : decode cX3_namesGiven 24 = .ok (.iinc 2 1, 3) := by decide +kernel
theorem dX3_namesGiven_27 : decode cX3_namesGiven 27 = .ok (.goto (-23), 3) := by decide +kernel
theorem dX3_namesGiven_30 : decode cX3_namesGiven 30 = .ok (.iload_n 1, 1) := by decide +kernel
theorem dX3_namesGiven_31 : decode cX3_namesGiven 31 = .ok (.ireturn, 1) := by decide +kernel
theorem dX3_leastNameIn_0 : decode cX3_leastNameIn 0 = .ok (.iconst (-1), 1) := by decide +kernel
theorem dX3_leastNameIn_1 : decode cX3_leastNameIn 1 = .ok (.istore_n 3, 1) := by decide +kernel
theorem dX3_leastNameIn_2 : decode cX3_leastNameIn 2 = .ok (.iload_n 1, 1) := by decide +kernel
theorem dX3_leastNameIn_3 : decode cX3_leastNameIn 3 = .ok (.istore 4, 2) := by decide +kernel
theorem dX3_leastNameIn_5 : decode cX3_leastNameIn 5 = .ok (.iload 4, 2) := by decide +kernel
theorem dX3_leastNameIn_7 : decode cX3_leastNameIn 7 = .ok (.iload_n 2, 1) := by decide +kernel
theorem dX3_leastNameIn_8 : decode cX3_leastNameIn 8 = .ok (.if_icmp .ge 37, 3) := by decide +kernel
theorem dX3_leastNameIn_11 : decode cX3_leastNameIn 11 = .ok (.aload_n 0, 1) := by decide +kernel
theorem dX3_leastNameIn_12 : decode cX3_leastNameIn 12 = .ok (.iload 4, 2) := by decide +kernel
theorem dX3_leastNameIn_14 : decode cX3_leastNameIn 14 = .ok (.invokevirtual 26, 3) := by decide +kernel
theorem dX3_leastNameIn_17 : decode cX3_leastNameIn 17 = .ok (.istore 5, 2) := by decide +kernel
theorem dX3_leastNameIn_19 : decode cX3_leastNameIn 19 = .ok (.iload 5, 2) := by decide +kernel
theorem dX3_leastNameIn_21 : decode cX3_leastNameIn 21 = .ok (.iconst (-1), 1) := by decide +kernel
theorem dX3_leastNameIn_22 : decode cX3_leastNameIn 22 = .ok (.if_icmp .eq 17, 3) := by decide +kernel
theorem dX3_leastNameIn_25 : decode cX3_leastNameIn 25 = .ok (.iload_n 3, 1) := by decide +kernel
theorem dX3_leastNameIn_26 : decode cX3_leastNameIn 26 = .ok (.iconst (-1), 1) := by decide +kernel
theorem dX3_leastNameIn_27 : decode cX3_leastNameIn 27 = .ok (.if_icmp .eq 9, 3) := by decide +kernel
theorem dX3_leastNameIn_30 : decode cX3_leastNameIn 30 = .ok (.iload 5, 2) := by decide +kernel
theorem dX3_leastNameIn_32 : decode cX3_leastNameIn 32 = .ok (.iload_n 3, 1) := by decide +kernel
theorem dX3_leastNameIn_33 : decode cX3_leastNameIn 33 = .ok (.if_icmp .ge 6, 3) := by decide +kernel
theorem dX3_leastNameIn_36 : decode cX3_leastNameIn 36 = .ok (.iload 5, 2) := by decide +kernel
theorem dX3_leastNameIn_38 : decode cX3_leastNameIn 38 = .ok (.istore_n 3, 1) := by decide +kernel
theorem dX3_leastNameIn_39 : decode cX3_leastNameIn 39 = .ok (.iinc 4 1, 3) := by decide +kernel
theorem dX3_leastNameIn_42 : decode cX3_leastNameIn 42 = .ok (.goto (-37), 3) := by decide +kernel
theorem dX3_leastNameIn_45 : decode cX3_leastNameIn 45 = .ok (.iload_n 3, 1) := by decide +kernel
theorem dX3_leastNameIn_46 : decode cX3_leastNameIn 46 = .ok (.ireturn, 1) := by decide +kernel
theorem dX4_init_0 : decode cX4_init 0 = .ok (.aload_n 0, 1) := by decide +kernel
theorem dX4_init_1 : decode cX4_init 1 = .ok (.invokespecial 3, 3) := by decide +kernel
theorem dX4_init_4 : decode cX4_init 4 = .ok (.aload_n 0, 1) := by decide +kernel
theorem dX4_init_5 : decode cX4_init 5 = .ok (.iconst 4, 1) := by decide +kernel
theorem dX4_init_6 : decode cX4_init 6 = .ok (.newarray .int, 2) := by decide +kernel
theorem dX4_init_8 : decode cX4_init 8 = .ok (.dup, 1) := by decide +kernel
theorem dX4_init_9 : decode cX4_init 9 = .ok (.iconst 0, 1) := by decide +kernel
theorem dX4_init_10 : decode cX4_init 10 = .ok (.iconst 2, 1) := by decide +kernel
theorem dX4_init_11 : decode cX4_init 11 = .ok (.iastore, 1) := by decide +kernel
theorem dX4_init_12 : decode cX4_init 12 = .ok (.dup, 1) := by decide +kernel
theorem dX4_init_13 : decode cX4_init 13 = .ok (.iconst 1, 1) := by decide +kernel
theorem dX4_init_14 : decode cX4_init 14 = .ok (.iconst 0, 1) := by decide +kernel
theorem dX4_init_15 : decode cX4_init 15 = .ok (.iastore, 1) := by decide +kernel
theorem dX4_init_16 : decode cX4_init 16 = .ok (.dup, 1) := by decide +kernel
theorem dX4_init_17 : decode cX4_init 17 = .ok (.iconst 2, 1) := by decide +kernel
theorem dX4_init_18 : decode cX4_init 18 = .ok (.bipush 20, 2) := by decide +kernel
theorem dX4_init_20 : decode cX4_init 20 = .ok (.iastore, 1) := by decide +kernel
theorem dX4_init_21 : decode cX4_init 21 = .ok (.dup, 1) := by decide +kernel
theorem dX4_init_22 : decode cX4_init 22 = .ok (.iconst 3, 1) := by decide +kernel
theorem dX4_init_23 : decode cX4_init 23 = .ok (.iconst 2, 1) := by decide +kernel
theorem dX4_init_24 : decode cX4_init 24 = .ok (.iastore, 1) := by decide +kernel
theorem dX4_init_25 : decode cX4_init 25 = .ok (.putfield 9, 3) := by decide +kernel
theorem dX4_init_28 : decode cX4_init 28 = .ok (.return_, 1) := by decide +kernel
theorem dX4_mend_0 : decode cX4_mend 0 = .ok (.aload_n 0, 1) := by decide +kernel
theorem dX4_mend_1 : decode cX4_mend 1 = .ok (.getfield 9, 3) := by decide +kernel
theorem dX4_mend_4 : decode cX4_mend 4 = .ok (.iconst 0, 1) := by decide +kernel
theorem dX4_mend_5 : decode cX4_mend 5 = .ok (.iaload, 1) := by decide +kernel
theorem dX4_mend_6 : decode cX4_mend 6 = .ok (.ireturn, 1) := by decide +kernel
theorem dX4_band_0 : decode cX4_band 0 = .ok (.aload_n 0, 1) := by decide +kernel
theorem dX4_band_1 : decode cX4_band 1 = .ok (.getfield 9, 3) := by decide +kernel
theorem dX4_band_4 : decode cX4_band 4 = .ok (.iconst 1, 1) := by decide +kernel
theorem dX4_band_5 : decode cX4_band 5 = .ok (.iaload, 1) := by decide +kernel
theorem dX4_band_6 : decode cX4_band 6 = .ok (.ireturn, 1) := by decide +kernel
theorem dX4_factor_0 : decode cX4_factor 0 = .ok (.aload_n 0, 1) := by decide +kernel
theorem dX4_factor_1 : decode cX4_factor 1 = .ok (.getfield 9, 3) := by decide +kernel
theorem dX4_factor_4 : decode cX4_factor 4 = .ok (.iconst 2, 1) := by decide +kernel
theorem dX4_factor_5 : decode cX4_factor 5 = .ok (.iaload, 1) := by decide +kernel
theorem dX4_factor_6 : decode cX4_factor 6 = .ok (.ireturn, 1) := by decide +kernel
theorem dX4_least_0 : decode cX4_least 0 = .ok (.aload_n 0, 1) := by decide +kernel
theorem dX4_least_1 : decode cX4_least 1 = .ok (.getfield 9, 3) := by decide +kernel
theorem dX4_least_4 : decode cX4_least 4 = .ok (.iconst 3, 1) := by decide +kernel
theorem dX4_least_5 : decode cX4_least 5 = .ok (.iaload, 1) := by decide +kernel
theorem dX4_least_6 : decode cX4_least 6 = .ok (.ireturn, 1) := by decide +kernel
theorem dX4_changeNumber_0 : decode cX4_changeNumber 0 = .ok (.iload_n 1, 1) := by decide +kernel
theorem dX4_changeNumber_1 : decode cX4_changeNumber 1 = .ok (.ifCond .lt 12, 3) := by decide +kernel
theorem dX4_changeNumber_4 : decode cX4_changeNumber 4 = .ok (.iload_n 1, 1) := by decide +kernel
theorem dX4_changeNumber_5 : decode cX4_changeNumber 5 = .ok (.aload_n 0, 1) := by decide +kernel
theorem dX4_changeNumber_6 : decode cX4_changeNumber 6 = .ok (.getfield 9, 3) := by decide +kernel
theorem dX4_changeNumber_9 : decode cX4_changeNumber 9 = .ok (.arraylength, 1) := by decide +kernel
theorem dX4_changeNumber_10 : decode cX4_changeNumber 10 = .ok (.if_icmp .lt 5, 3) := by decide +kernel
theorem dX4_changeNumber_13 : decode cX4_changeNumber 13 = .ok (.iconst 0, 1) := by decide +kernel
theorem dX4_changeNumber_14 : decode cX4_changeNumber 14 = .ok (.ireturn, 1) := by decide +kernel
theorem dX4_changeNumber_15 : decode cX4_changeNumber 15 = .ok (.iload_n 2, 1) := by decide +kernel
theorem dX4_changeNumber_16 : decode cX4_changeNumber 16 = .ok (.getstatic 15, 3) := by decide +kernel
theorem dX4_changeNumber_19 : decode cX4_changeNumber 19 = .ok (.iload_n 1, 1) := by decide +kernel
theorem dX4_changeNumber_20 : decode cX4_changeNumber 20 = .ok (.iaload, 1) := by decide +kernel
theorem dX4_changeNumber_21 : decode cX4_changeNumber 21 = .ok (.if_icmp .lt 22, 3) := by decide +kernel
theorem dX4_changeNumber_24 : decode cX4_changeNumber 24 = .ok (.iload_n 2, 1) := by decide +kernel
theorem dX4_changeNumber_25 : decode cX4_changeNumber 25 = .ok (.getstatic 18, 3) := by decide +kernel
theorem dX4_changeNumber_28 : decode cX4_changeNumber 28 = .ok (.iload_n 1, 1) := by decide +kernel
theorem dX4_changeNumber_29 : decode cX4_changeNumber 29 = .ok (.iaload, 1) := by decide +kernel
theorem dX4_changeNumber_30 : decode cX4_changeNumber 30 = .ok (.if_icmp .gt 13, 3) := by decide +kernel
theorem dX4_changeNumber_33 : decode cX4_changeNumber 33 = .ok (.iload_n 2, 1) := by decide +kernel
theorem dX4_changeNumber_34 : decode cX4_changeNumber 34 = .ok (.aload_n 0, 1) := by decide +kernel
theorem dX4_changeNumber_35 : decode cX4_changeNumber 35 = .ok (.getfield 9, 3) := by decide +kernel
theorem dX4_changeNumber_38 : decode cX4_changeNumber 38 = .ok (.iload_n 1, 1) := by decide +kernel
theorem dX4_changeNumber_39 : decode cX4_changeNumber 39 = .ok (.iaload, 1) := by decide +kernel
theorem dX4_changeNumber_40 : decode cX4_changeNumber 40 = .ok (.if_icmp .ne 5, 3) := by decide +kernel
theorem dX4_changeNumber_43 : decode cX4_changeNumber 43 = .ok (.iconst 0, 1) := by decide +kernel
theorem dX4_changeNumber_44 : decode cX4_changeNumber 44 = .ok (.ireturn, 1) := by decide +kernel
theorem dX4_changeNumber_45 : decode cX4_changeNumber 45 = .ok (.aload_n 0, 1) := by decide +kernel
theorem dX4_changeNumber_46 : decode cX4_changeNumber 46 = .ok (.getfield 9, 3) := by decide +kernel
theorem dX4_changeNumber_49 : decode cX4_changeNumber 49 = .ok (.iload_n 1, 1) := by decide +kernel
theorem dX4_changeNumber_50 : decode cX4_changeNumber 50 = .ok (.iload_n 2, 1) := by decide +kernel
theorem dX4_changeNumber_51 : decode cX4_changeNumber 51 = .ok (.iastore, 1) := by decide +kernel
theorem dX4_changeNumber_52 : decode cX4_changeNumber 52 = .ok (.iconst 1, 1) := by decide +kernel
theorem dX4_changeNumber_53 : decode cX4_changeNumber 53 = .ok (.ireturn, 1) := by decide +kernel
theorem dX4_changeRule_0 : decode cX4_changeRule 0 = .ok (.iload_n 1, 1) := by decide +kernel
theorem dX4_changeRule_1 : decode cX4_changeRule 1 = .ok (.ifCond .ne 25, 3) := by decide +kernel
theorem dX4_changeRule_4 : decode cX4_changeRule 4 = .ok (.iload_n 2, 1) := by decide +kernel
theorem dX4_changeRule_5 : decode cX4_changeRule 5 = .ok (.sipush (-9999), 3) := by decide +kernel
theorem dX4_changeRule_8 : decode cX4_changeRule 8 = .ok (.if_icmp .lt 14, 3) := by decide +kernel
theorem dX4_changeRule_11 : decode cX4_changeRule 11 = .ok (.iload_n 2, 1) := by decide +kernel
theorem dX4_changeRule_12 : decode cX4_changeRule 12 = .ok (.sipush 9999, 3) := by decide +kernel
theorem dX4_changeRule_15 : decode cX4_changeRule 15 = .ok (.if_icmp .gt 7, 3) := by decide +kernel
theorem dX4_changeRule_18 : decode cX4_changeRule 18 = .ok (.iconst 1, 1) := by decide +kernel
theorem dX4_changeRule_19 : decode cX4_changeRule 19 = .ok (.goto 16, 3) := by decide +kernel
theorem dX4_changeRule_22 : decode cX4_changeRule 22 = .ok (.iconst 0, 1) := by decide +kernel
theorem dX4_changeRule_23 : decode cX4_changeRule 23 = .ok (.goto 12, 3) := by decide +kernel
theorem dX4_changeRule_26 : decode cX4_changeRule 26 = .ok (.iload_n 2, 1) := by decide +kernel
theorem dX4_changeRule_27 : decode cX4_changeRule 27 = .ok (.ifCond .ne 7, 3) := by decide +kernel
theorem dX4_changeRule_30 : decode cX4_changeRule 30 = .ok (.iconst 1, 1) := by decide +kernel
theorem dX4_changeRule_31 : decode cX4_changeRule 31 = .ok (.goto 4, 3) := by decide +kernel
theorem dX4_changeRule_34 : decode cX4_changeRule 34 = .ok (.iconst 0, 1) := by decide +kernel
theorem dX4_changeRule_35 : decode cX4_changeRule 35 = .ok (.istore_n 3, 1) := by decide +kernel
theorem dX4_changeRule_36 : decode cX4_changeRule 36 = .ok (.iload_n 1, 1) := by decide +kernel
theorem dX4_changeRule_37 : decode cX4_changeRule 37 = .ok (.ifCond .lt 28, 3) := by decide +kernel
theorem dX4_changeRule_40 : decode cX4_changeRule 40 = .ok (.iload_n 1, 1) := by decide +kernel
theorem dX4_changeRule_41 : decode cX4_changeRule 41 = .ok (.iconst 2, 1) := by decide +kernel
theorem dX4_changeRule_42 : decode cX4_changeRule 42 = .ok (.if_icmp .gt 23, 3) := by decide +kernel
theorem dX4_changeRule_45 : decode cX4_changeRule 45 = .ok (.iload_n 3, 1) := by decide +kernel
theorem dX4_changeRule_46 : decode cX4_changeRule 46 = .ok (.ifCond .eq 19, 3) := by decide +kernel
theorem dX4_changeRule_49 : decode cX4_changeRule 49 = .ok (.iload_n 1, 1) := by decide +kernel
theorem dX4_changeRule_50 : decode cX4_changeRule 50 = .ok (.aload_n 0, 1) := by decide +kernel
theorem dX4_changeRule_51 : decode cX4_changeRule 51 = .ok (.getfield 21, 3) := by decide +kernel
theorem dX4_changeRule_54 : decode cX4_changeRule 54 = .ok (.if_icmp .ne 13, 3) := by decide +kernel
theorem dX4_changeRule_57 : decode cX4_changeRule 57 = .ok (.iload_n 2, 1) := by decide +kernel
theorem dX4_changeRule_58 : decode cX4_changeRule 58 = .ok (.aload_n 0, 1) := by decide +kernel
theorem dX4_changeRule_59 : decode cX4_changeRule 59 = .ok (.getfield 25, 3) := by decide +kernel
theorem dX4_changeRule_62 : decode cX4_changeRule 62 = .ok (.if_icmp .ne 5, 3) := by decide +kernel
theorem dX4_changeRule_65 : decode cX4_changeRule 65 = .ok (.iconst 0, 1) := by decide +kernel
theorem dX4_changeRule_66 : decode cX4_changeRule 66 = .ok (.ireturn, 1) := by decide +kernel
theorem dX4_changeRule_67 : decode cX4_changeRule 67 = .ok (.aload_n 0, 1) := by decide +kernel
theorem dX4_changeRule_68 : decode cX4_changeRule 68 = .ok (.iload_n 1, 1) := by decide +kernel
theorem dX4_changeRule_69 : decode cX4_changeRule 69 = .ok (.putfield 21, 3) := by decide +kernel
theorem dX4_changeRule_72 : decode cX4_changeRule 72 = .ok (.aload_n 0, 1) := by decide +kernel
theorem dX4_changeRule_73 : decode cX4_changeRule 73 = .ok (.iload_n 2, 1) := by decide +kernel
theorem dX4_changeRule_74 : decode cX4_changeRule 74 = .ok (.putfield 25, 3) := by decide +kernel
theorem dX4_changeRule_77 : decode cX4_changeRule 77 = .ok (.iconst 1, 1) := by decide +kernel
theorem dX4_changeRule_78 : decode cX4_changeRule 78 = .ok (.ireturn, 1) := by decide +kernel
theorem dX4_changeMark_0 : decode cX4_changeMark 0 = .ok (.iload_n 1, 1) := by decide +kernel
theorem dX4_changeMark_1 : decode cX4_changeMark 1 = .ok (.ifCond .ne 21, 3) := by decide +kernel
theorem dX4_changeMark_4 : decode cX4_changeMark 4 = .ok (.iload_n 2, 1) := by decide +kernel
theorem dX4_changeMark_5 : decode cX4_changeMark 5 = .ok (.ifCond .lt 13, 3) := by decide +kernel
theorem dX4_changeMark_8 : decode cX4_changeMark 8 = .ok (.iload_n 2, 1) := by decide +kernel
theorem dX4_changeMark_9 : decode cX4_changeMark 9 = .ok (.ldc 28, 2) := by decide +kernel
theorem dX4_changeMark_11 : decode cX4_changeMark 11 = .ok (.if_icmp .gt 7, 3) := by decide +kernel
theorem dX4_changeMark_14 : decode cX4_changeMark 14 = .ok (.iconst 1, 1) := by decide +kernel
theorem dX4_changeMark_15 : decode cX4_changeMark 15 = .ok (.goto 16, 3) := by decide +kernel
theorem dX4_changeMark_18 : decode cX4_changeMark 18 = .ok (.iconst 0, 1) := by decide +kernel
theorem dX4_changeMark_19 : decode cX4_changeMark 19 = .ok (.goto 12, 3) := by decide +kernel
theorem dX4_changeMark_22 : decode cX4_changeMark 22 = .ok (.iload_n 2, 1) := by decide +kernel
theorem dX4_changeMark_23 : decode cX4_changeMark 23 = .ok (.ifCond .ne 7, 3) := by decide +kernel
theorem dX4_changeMark_26 : decode cX4_changeMark 26 = .ok (.iconst 1, 1) := by decide +kernel
theorem dX4_changeMark_27 : decode cX4_changeMark 27 = .ok (.goto 4, 3) := by decide +kernel
theorem dX4_changeMark_30 : decode cX4_changeMark 30 = .ok (.iconst 0, 1) := by decide +kernel
theorem dX4_changeMark_31 : decode cX4_changeMark 31 = .ok (.istore_n 3, 1) := by decide +kernel
theorem dX4_changeMark_32 : decode cX4_changeMark 32 = .ok (.iload_n 1, 1) := by decide +kernel
theorem dX4_changeMark_33 : decode cX4_changeMark 33 = .ok (.ifCond .lt 28, 3) := by decide +kernel
theorem dX4_changeMark_36 : decode cX4_changeMark 36 = .ok (.iload_n 1, 1) := by decide +kernel
theorem dX4_changeMark_37 : decode cX4_changeMark 37 = .ok (.iconst 3, 1) := by decide +kernel
theorem dX4_changeMark_38 : decode cX4_changeMark 38 = .ok (.if_icmp .gt 23, 3) := by decide +kernel
theorem dX4_changeMark_41 : decode cX4_changeMark 41 = .ok (.iload_n 3, 1) := by decide +kernel
theorem dX4_changeMark_42 : decode cX4_changeMark 42 = .ok (.ifCond .eq 19, 3) := by decide +kernel
theorem dX4_changeMark_45 : decode cX4_changeMark 45 = .ok (.iload_n 1, 1) := by decide +kernel
theorem dX4_changeMark_46 : decode cX4_changeMark 46 = .ok (.aload_n 0, 1) := by decide +kernel
theorem dX4_changeMark_47 : decode cX4_changeMark 47 = .ok (.getfield 29, 3) := by decide +kernel
theorem dX4_changeMark_50 : decode cX4_changeMark 50 = .ok (.if_icmp .ne 13, 3) := by decide +kernel
theorem dX4_changeMark_53 : decode cX4_changeMark 53 = .ok (.iload_n 2, 1) := by decide +kernel
theorem dX4_changeMark_54 : decode cX4_changeMark 54 = .ok (.aload_n 0, 1) := by decide +kernel
theorem dX4_changeMark_55 : decode cX4_changeMark 55 = .ok (.getfield 32, 3) := by decide +kernel
theorem dX4_changeMark_58 : decode cX4_changeMark 58 = .ok (.if_icmp .ne 5, 3) := by decide +kernel
theorem dX4_changeMark_61 : decode cX4_changeMark 61 = .ok (.iconst 0, 1) := by decide +kernel
theorem dX4_changeMark_62 : decode cX4_changeMark 62 = .ok (.ireturn, 1) := by decide +kernel
theorem dX4_changeMark_63 : decode cX4_changeMark 63 = .ok (.aload_n 0, 1) := by decide +kernel
theorem dX4_changeMark_64 : decode cX4_changeMark 64 = .ok (.iload_n 1, 1) := by decide +kernel
theorem dX4_changeMark_65 : decode cX4_changeMark 65 = .ok (.putfield 29, 3) := by decide +kernel
theorem dX4_changeMark_68 : decode cX4_changeMark 68 = .ok (.aload_n 0, 1) := by decide +kernel
theorem dX4_changeMark_69 : decode cX4_changeMark 69 = .ok (.iload_n 2, 1) := by decide +kernel
theorem dX4_changeMark_70 : decode cX4_changeMark 70 = .ok (.putfield 32, 3) := by decide +kernel
theorem dX4_changeMark_73 : decode cX4_changeMark 73 = .ok (.iconst 1, 1) := by decide +kernel
theorem dX4_changeMark_74 : decode cX4_changeMark 74 = .ok (.ireturn, 1) := by decide +kernel
theorem dX5_init_0 : decode cX5_init 0 = .ok (.aload_n 0, 1) := by decide +kernel
theorem dX5_init_1 : decode cX5_init 1 = .ok (.invokespecial 3, 3) := by decide +kernel
theorem dX5_init_4 : decode cX5_init 4 = .ok (.aload_n 0, 1) := by decide +kernel
theorem dX5_init_5 : decode cX5_init 5 = .ok (.sipush 600, 3) := by decide +kernel
theorem dX5_init_8 : decode cX5_init 8 = .ok (.newarray .long, 2) := by decide +kernel
theorem dX5_init_10 : decode cX5_init 10 = .ok (.putfield 9, 3) := by decide +kernel
theorem dX5_init_13 : decode cX5_init 13 = .ok (.aload_n 0, 1) := by decide +kernel
theorem dX5_init_14 : decode cX5_init 14 = .ok (.sipush 600, 3) := by decide +kernel
theorem dX5_init_17 : decode cX5_init 17 = .ok (.newarray .long, 2) := by decide +kernel
theorem dX5_init_19 : decode cX5_init 19 = .ok (.putfield 15, 3) := by decide +kernel
theorem dX5_init_22 : decode cX5_init 22 = .ok (.return_, 1) := by decide +kernel
theorem dX5_clear_0 : decode cX5_clear 0 = .ok (.aload_n 0, 1) := by decide +kernel
theorem dX5_clear_1 : decode cX5_clear 1 = .ok (.iconst 0, 1) := by decide +kernel
theorem dX5_clear_2 : decode cX5_clear 2 = .ok (.putfield 18, 3) := by decide +kernel
theorem dX5_clear_5 : decode cX5_clear 5 = .ok (.return_, 1) := by decide +kernel
theorem dX5_add_0 : decode cX5_add 0 = .ok (.aload_n 0, 1) := by decide +kernel
theorem dX5_add_1 : decode cX5_add 1 = .ok (.getfield 18, 3) := by decide +kernel
theorem dX5_add_4 : decode cX5_add 4 = .ok (.aload_n 0, 1) := by decide +kernel
theorem dX5_add_5 : decode cX5_add 5 = .ok (.getfield 9, 3) := by decide +kernel
theorem dX5_add_8 : decode cX5_add 8 = .ok (.arraylength, 1) := by decide +kernel
theorem dX5_add_9 : decode cX5_add 9 = .ok (.if_icmp .lt 4, 3) := by decide +kernel
theorem dX5_add_12 : decode cX5_add 12 = .ok (.return_, 1) := by decide +kernel
theorem dX5_add_13 : decode cX5_add 13 = .ok (.aload_n 0, 1) := by decide +kernel
theorem dX5_add_14 : decode cX5_add 14 = .ok (.getfield 9, 3) := by decide +kernel
theorem dX5_add_17 : decode cX5_add 17 = .ok (.aload_n 0, 1) := by decide +kernel
theorem dX5_add_18 : decode cX5_add 18 = .ok (.getfield 18, 3) := by decide +kernel
theorem dX5_add_21 : decode cX5_add 21 = .ok (.lload_n 1, 1) := by decide +kernel
theorem dX5_add_22 : decode cX5_add 22 = .ok (.lastore, 1) := by decide +kernel
theorem dX5_add_23 : decode cX5_add 23 = .ok (.aload_n 0, 1) := by decide +kernel
theorem dX5_add_24 : decode cX5_add 24 = .ok (.dup, 1) := by decide +kernel
theorem dX5_add_25 : decode cX5_add 25 = .ok (.getfield 18, 3) := by decide +kernel
theorem dX5_add_28 : decode cX5_add 28 = .ok (.iconst 1, 1) := by decide +kernel
theorem dX5_add_29 : decode cX5_add 29 = .ok (.iadd, 1) := by decide +kernel
theorem dX5_add_30 : decode cX5_add 30 = .ok (.putfield 18, 3) := by decide +kernel
theorem dX5_add_33 : decode cX5_add 33 = .ok (.return_, 1) := by decide +kernel
theorem dX5_keyAt_0 : decode cX5_keyAt 0 = .ok (.iload_n 1, 1) := by decide +kernel
theorem dX5_keyAt_1 : decode cX5_keyAt 1 = .ok (.ifCond .lt 20, 3) := by decide +kernel
theorem dX5_keyAt_4 : decode cX5_keyAt 4 = .ok (.iload_n 1, 1) := by decide +kernel
theorem dX5_keyAt_5 : decode cX5_keyAt 5 = .ok (.aload_n 0, 1) := by decide +kernel
theorem dX5_keyAt_6 : decode cX5_keyAt 6 = .ok (.getfield 18, 3) := by decide +kernel
theorem dX5_keyAt_9 : decode cX5_keyAt 9 = .ok (.if_icmp .ge 12, 3) := by decide +kernel
theorem dX5_keyAt_12 : decode cX5_keyAt 12 = .ok (.aload_n 0, 1) := by decide +kernel
theorem dX5_keyAt_13 : decode cX5_keyAt 13 = .ok (.getfield 9, 3) := by decide +kernel
theorem dX5_keyAt_16 : decode cX5_keyAt 16 = .ok (.iload_n 1, 1) := by decide +kernel
theorem dX5_keyAt_17 : decode cX5_keyAt 17 = .ok (.laload, 1) := by decide +kernel
theorem dX5_keyAt_18 : decode cX5_keyAt 18 = .ok (.goto 4, 3) := by decide +kernel
theorem dX5_keyAt_21 : decode cX5_keyAt 21 = .ok (.lconst 0, 1) := by decide +kernel
theorem dX5_keyAt_22 : decode cX5_keyAt 22 = .ok (.lreturn, 1) := by decide +kernel
theorem dX5_sort_0 : decode cX5_sort 0 = .ok (.iconst 1, 1) := by decide +kernel
theorem dX5_sort_1 : decode cX5_sort 1 = .ok (.istore_n 1, 1) := by decide +kernel
theorem dX5_sort_2 : decode cX5_sort 2 = .ok (.iload_n 1, 1) := by decide +kernel
theorem dX5_sort_3 : decode cX5_sort 3 = .ok (.aload_n 0, 1) := by decide +kernel
theorem dX5_sort_4 : decode cX5_sort 4 = .ok (.getfield 18, 3) := by decide +kernel
theorem dX5_sort_7 : decode cX5_sort 7 = .ok (.if_icmp .ge 74, 3) := by decide +kernel
theorem dX5_sort_10 : decode cX5_sort 10 = .ok (.iconst 0, 1) := by decide +kernel
theorem dX5_sort_11 : decode cX5_sort 11 = .ok (.istore_n 2, 1) := by decide +kernel
theorem dX5_sort_12 : decode cX5_sort 12 = .ok (.iload_n 2, 1) := by decide +kernel
theorem dX5_sort_13 : decode cX5_sort 13 = .ok (.aload_n 0, 1) := by decide +kernel
theorem dX5_sort_14 : decode cX5_sort 14 = .ok (.getfield 18, 3) := by decide +kernel
theorem dX5_sort_17 : decode cX5_sort 17 = .ok (.if_icmp .ge 39, 3) := by decide +kernel
theorem dX5_sort_20 : decode cX5_sort 20 = .ok (.aload_n 0, 1) := by decide +kernel
theorem dX5_sort_21 : decode cX5_sort 21 = .ok (.iload_n 2, 1) := by decide +kernel
theorem dX5_sort_22 : decode cX5_sort 22 = .ok (.iload_n 2, 1) := by decide +kernel
theorem dX5_sort_23 : decode cX5_sort 23 = .ok (.iload_n 1, 1) := by decide +kernel
theorem dX5_sort_24 : decode cX5_sort 24 = .ok (.iadd, 1) := by decide +kernel
theorem dX5_sort_25 : decode cX5_sort 25 = .ok (.aload_n 0, 1) := by decide +kernel
theorem dX5_sort_26 : decode cX5_sort 26 = .ok (.getfield 18, 3) := by decide +kernel
theorem dX5_sort_29 : decode cX5_sort 29 = .ok (.invokestatic 22, 3) := by decide +kernel
theorem dX5_sort_32 : decode cX5_sort 32 = .ok (.iload_n 2, 1) := by decide +kernel
theorem dX5_sort_33 : decode cX5_sort 33 = .ok (.iconst 2, 1) := by decide +kernel
theorem dX5_sort_34 : decode cX5_sort 34 = .ok (.iload_n 1, 1) := by decide +kernel
theorem dX5_sort_35 : decode cX5_sort 35 = .ok (.imul, 1) := by decide +kernel
theorem dX5_sort_36 : decode cX5_sort 36 = .ok (.iadd, 1) := by decide +kernel
theorem dX5_sort_37 : decode cX5_sort 37 = .ok (.aload_n 0, 1) := by decide +kernel
theorem dX5_sort_38 : decode cX5_sort 38 = .ok (.getfield 18, 3) := by decide +kernel
theorem dX5_sort_41 : decode cX5_sort 41 = .ok (.invokestatic 22, 3) := by decide +kernel
theorem dX5_sort_44 : decode cX5_sort 44 = .ok (.invokevirtual 28, 3) := by decide +kernel
theorem dX5_sort_47 : decode cX5_sort 47 = .ok (.iload_n 2, 1) := by decide +kernel
theorem dX5_sort_48 : decode cX5_sort 48 = .ok (.iconst 2, 1) := by decide +kernel
theorem dX5_sort_49 : decode cX5_sort 49 = .ok (.iload_n 1, 1) := by decide +kernel
theorem dX5_sort_50 : decode cX5_sort 50 = .ok (.imul, 1) := by decide +kernel
theorem dX5_sort_51 : decode cX5_sort 51 = .ok (.iadd, 1) := by decide +kernel
theorem dX5_sort_52 : decode cX5_sort 52 = .ok (.istore_n 2, 1) := by decide +kernel
theorem dX5_sort_53 : decode cX5_sort 53 = .ok (.goto (-41), 3) := by decide +kernel
theorem dX5_sort_56 : decode cX5_sort 56 = .ok (.aload_n 0, 1) := by decide +kernel
theorem dX5_sort_57 : decode cX5_sort 57 = .ok (.getfield 15, 3) := by decide +kernel
theorem dX5_sort_60 : decode cX5_sort 60 = .ok (.astore_n 2, 1) := by decide +kernel
theorem dX5_sort_61 : decode cX5_sort 61 = .ok (.aload_n 0, 1) := by decide +kernel
theorem dX5_sort_62 : decode cX5_sort 62 = .ok (.aload_n 0, 1) := by decide +kernel
theorem dX5_sort_63 : decode cX5_sort 63 = .ok (.getfield 9, 3) := by decide +kernel
theorem dX5_sort_66 : decode cX5_sort 66 = .ok (.putfield 15, 3) := by decide +kernel
theorem dX5_sort_69 : decode cX5_sort 69 = .ok (.aload_n 0, 1) := by decide +kernel
theorem dX5_sort_70 : decode cX5_sort 70 = .ok (.aload_n 2, 1) := by decide +kernel
theorem dX5_sort_71 : decode cX5_sort 71 = .ok (.putfield 9, 3) := by decide +kernel
theorem dX5_sort_74 : decode cX5_sort 74 = .ok (.iload_n 1, 1) := by decide +kernel
theorem dX5_sort_75 : decode cX5_sort 75 = .ok (.iconst 2, 1) := by decide +kernel
theorem dX5_sort_76 : decode cX5_sort 76 = .ok (.imul, 1) := by decide +kernel
theorem dX5_sort_77 : decode cX5_sort 77 = .ok (.istore_n 1, 1) := by decide +kernel
theorem dX5_sort_78 : decode cX5_sort 78 = .ok (.goto (-76), 3) := by decide +kernel
theorem dX5_sort_81 : decode cX5_sort 81 = .ok (.return_, 1) := by decide +kernel
theorem dX5_merge_0 : decode cX5_merge 0 = .ok (.iload_n 1, 1) := by decide +kernel
theorem dX5_merge_1 : decode cX5_merge 1 = .ok (.istore 4, 2) := by decide +kernel
theorem dX5_merge_3 : decode cX5_merge 3 = .ok (.iload_n 2, 1) := by decide +kernel
theorem dX5_merge_4 : decode cX5_merge 4 = .ok (.istore 5, 2) := by decide +kernel
theorem dX5_merge_6 : decode cX5_merge 6 = .ok (.iload_n 1, 1) := by decide +kernel
theorem dX5_merge_7 : decode cX5_merge 7 = .ok (.istore 6, 2) := by decide +kernel
theorem dX5_merge_9 : decode cX5_merge 9 = .ok (.iload 6, 2) := by decide +kernel
theorem dX5_merge_11 : decode cX5_merge 11 = .ok (.iload_n 3, 1) := by decide +kernel
theorem dX5_merge_12 : decode cX5_merge 12 = .ok (.if_icmp .ge 88, 3) := by decide +kernel
theorem dX5_merge_15 : decode cX5_merge 15 = .ok (.iload 5, 2) := by decide +kernel
theorem dX5_merge_17 : decode cX5_merge 17 = .ok (.iload_n 3, 1) := by decide +kernel
theorem dX5_merge_18 : decode cX5_merge 18 = .ok (.if_icmp .ge 27, 3) := by decide +kernel
theorem dX5_merge_21 : decode cX5_merge 21 = .ok (.iload 4, 2) := by decide +kernel
theorem dX5_merge_23 : decode cX5_merge 23 = .ok (.iload_n 2, 1) := by decide +kernel
theorem dX5_merge_24 : decode cX5_merge 24 = .ok (.if_icmp .ge 25, 3) := by decide +kernel
theorem dX5_merge_27 : decode cX5_merge 27 = .ok (.aload_n 0, 1) := by decide +kernel
theorem dX5_merge_28 : decode cX5_merge 28 = .ok (.getfield 9, 3) := by decide +kernel
theorem dX5_merge_31 : decode cX5_merge 31 = .ok (.iload 4, 2) := by decide +kernel
theorem dX5_merge_33 : decode cX5_merge 33 = .ok (.laload, 1) := by decide +kernel
theorem dX5_merge_34 : decode cX5_merge 34 = .ok (.aload_n 0, 1) := by decide +kernel
theorem dX5_merge_35 : decode cX5_merge 35 = .ok (.getfield 9, 3) := by decide +kernel
theorem dX5_merge_38 : decode cX5_merge 38 = .ok (.iload 5, 2) := by decide +kernel
theorem dX5_merge_40 : decode cX5_merge 40 = .ok (.laload, 1) := by decide +kernel
theorem dX5_merge_41 : decode cX5_merge 41 = .ok (.lcmp, 1) := by decide +kernel
theorem dX5_merge_42 : decode cX5_merge 42 = .ok (.ifCond .gt 7, 3) := by decide +kernel
theorem dX5_merge_45 : decode cX5_merge 45 = .ok (.iconst 1, 1) := by decide +kernel
theorem dX5_merge_46 : decode cX5_merge 46 = .ok (.goto 4, 3) := by decide +kernel
theorem dX5_merge_49 : decode cX5_merge 49 = .ok (.iconst 0, 1) := by decide +kernel
theorem dX5_merge_50 : decode cX5_merge 50 = .ok (.istore 7, 2) := by decide +kernel
theorem dX5_merge_52 : decode cX5_merge 52 = .ok (.iload 7, 2) := by decide +kernel
theorem dX5_merge_54 : decode cX5_merge 54 = .ok (.ifCond .eq 23, 3) := by decide +kernel
theorem dX5_merge_57 : decode cX5_merge 57 = .ok (.aload_n 0, 1) := by decide +kernel
theorem dX5_merge_58 : decode cX5_merge 58 = .ok (.getfield 15, 3) := by decide +kernel
theorem dX5_merge_61 : decode cX5_merge 61 = .ok (.iload 6, 2) := by decide +kernel
theorem dX5_merge_63 : decode cX5_merge 63 = .ok (.aload_n 0, 1) := by decide +kernel
theorem dX5_merge_64 : decode cX5_merge 64 = .ok (.getfield 9, 3) := by decide +kernel
theorem dX5_merge_67 : decode cX5_merge 67 = .ok (.iload 4, 2) := by decide +kernel
theorem dX5_merge_69 : decode cX5_merge 69 = .ok (.laload, 1) := by decide +kernel
theorem dX5_merge_70 : decode cX5_merge 70 = .ok (.lastore, 1) := by decide +kernel
theorem dX5_merge_71 : decode cX5_merge 71 = .ok (.iinc 4 1, 3) := by decide +kernel
theorem dX5_merge_74 : decode cX5_merge 74 = .ok (.goto 20, 3) := by decide +kernel
theorem dX5_merge_77 : decode cX5_merge 77 = .ok (.aload_n 0, 1) := by decide +kernel
theorem dX5_merge_78 : decode cX5_merge 78 = .ok (.getfield 15, 3) := by decide +kernel
theorem dX5_merge_81 : decode cX5_merge 81 = .ok (.iload 6, 2) := by decide +kernel
theorem dX5_merge_83 : decode cX5_merge 83 = .ok (.aload_n 0, 1) := by decide +kernel
theorem dX5_merge_84 : decode cX5_merge 84 = .ok (.getfield 9, 3) := by decide +kernel
theorem dX5_merge_87 : decode cX5_merge 87 = .ok (.iload 5, 2) := by decide +kernel
theorem dX5_merge_89 : decode cX5_merge 89 = .ok (.laload, 1) := by decide +kernel
theorem dX5_merge_90 : decode cX5_merge 90 = .ok (.lastore, 1) := by decide +kernel
theorem dX5_merge_91 : decode cX5_merge 91 = .ok (.iinc 5 1, 3) := by decide +kernel
theorem dX5_merge_94 : decode cX5_merge 94 = .ok (.iinc 6 1, 3) := by decide +kernel
theorem dX5_merge_97 : decode cX5_merge 97 = .ok (.goto (-88), 3) := by decide +kernel
theorem dX5_merge_100 : decode cX5_merge 100 = .ok (.return_, 1) := by decide +kernel
theorem dX6_init_0 : decode cX6_init 0 = .ok (.aload_n 0, 1) := by decide +kernel
theorem dX6_init_1 : decode cX6_init 1 = .ok (.invokespecial 3, 3) := by decide +kernel
theorem dX6_init_4 : decode cX6_init 4 = .ok (.aload_n 0, 1) := by decide +kernel
theorem dX6_init_5 : decode cX6_init 5 = .ok (.iconst 5, 1) := by decide +kernel
theorem dX6_init_6 : decode cX6_init 6 = .ok (.sipush 600, 3) := by decide +kernel
theorem dX6_init_9 : decode cX6_init 9 = .ok (.multianewarray 9 2, 4) := by decide +kernel
theorem dX6_init_13 : decode cX6_init 13 = .ok (.putfield 11, 3) := by decide +kernel
theorem dX6_init_16 : decode cX6_init 16 = .ok (.aload_n 0, 1) := by decide +kernel
theorem dX6_init_17 : decode cX6_init 17 = .ok (.aload_n 0, 1) := by decide +kernel
theorem dX6_init_18 : decode cX6_init 18 = .ok (.getfield 11, 3) := by decide +kernel
theorem dX6_init_21 : decode cX6_init 21 = .ok (.iconst 0, 1) := by decide +kernel
theorem dX6_init_22 : decode cX6_init 22 = .ok (.aaload, 1) := by decide +kernel
theorem dX6_init_23 : decode cX6_init 23 = .ok (.putfield 16, 3) := by decide +kernel
theorem dX6_init_26 : decode cX6_init 26 = .ok (.aload_n 0, 1) := by decide +kernel
theorem dX6_init_27 : decode cX6_init 27 = .ok (.sipush 600, 3) := by decide +kernel
theorem dX6_init_30 : decode cX6_init 30 = .ok (.newarray .int, 2) := by decide +kernel
theorem dX6_init_32 : decode cX6_init 32 = .ok (.putfield 20, 3) := by decide +kernel
theorem dX6_init_35 : decode cX6_init 35 = .ok (.aload_n 0, 1) := by decide +kernel
theorem dX6_init_36 : decode cX6_init 36 = .ok (.sipush 300, 3) := by decide +kernel
theorem dX6_init_39 : decode cX6_init 39 = .ok (.newarray .int, 2) := by decide +kernel
theorem dX6_init_41 : decode cX6_init 41 = .ok (.putfield 23, 3) := by decide +kernel
theorem dX6_init_44 : decode cX6_init 44 = .ok (.aload_n 0, 1) := by decide +kernel
theorem dX6_init_45 : decode cX6_init 45 = .ok (.sipush 300, 3) := by decide +kernel
theorem dX6_init_48 : decode cX6_init 48 = .ok (.newarray .int, 2) := by decide +kernel
theorem dX6_init_50 : decode cX6_init 50 = .ok (.putfield 26, 3) := by decide +kernel
theorem dX6_init_53 : decode cX6_init 53 = .ok (.aload_n 0, 1) := by decide +kernel
theorem dX6_init_54 : decode cX6_init 54 = .ok (.sipush 300, 3) := by decide +kernel
theorem dX6_init_57 : decode cX6_init 57 = .ok (.newarray .int, 2) := by decide +kernel
theorem dX6_init_59 : decode cX6_init 59 = .ok (.putfield 29, 3) := by decide +kernel
theorem dX6_init_62 : decode cX6_init 62 = .ok (.return_, 1) := by decide +kernel
theorem dX6_has_0 : decode cX6_has 0 = .ok (.iload_n 1, 1) := by decide +kernel
theorem dX6_has_1 : decode cX6_has 1 = .ok (.ifCond .lt 15, 3) := by decide +kernel
theorem dX6_has_4 : decode cX6_has 4 = .ok (.iload_n 1, 1) := by decide +kernel
theorem dX6_has_5 : decode cX6_has 5 = .ok (.aload_n 0, 1) := by decide +kernel
theorem dX6_has_6 : decode cX6_has 6 = .ok (.getfield 32, 3) := by decide +kernel
theorem dX6_has_9 : decode cX6_has 9 = .ok (.if_icmp .ge 7, 3) := by decide +kernel
theorem dX6_has_12 : decode cX6_has 12 = .ok (.iconst 1, 1) := by decide +kernel
theorem dX6_has_13 : decode cX6_has 13 = .ok (.goto 4, 3) := by decide +kernel
theorem dX6_has_16 : decode cX6_has 16 = .ok (.iconst 0, 1) := by decide +kernel
theorem dX6_has_17 : decode cX6_has 17 = .ok (.ireturn, 1) := by decide +kernel
theorem dX6_endOf_0 : decode cX6_endOf 0 = .ok (.aload_n 0, 1) := by decide +kernel
theorem dX6_endOf_1 : decode cX6_endOf 1 = .ok (.getfield 23, 3) := by decide +kernel
theorem dX6_endOf_4 : decode cX6_endOf 4 = .ok (.iload_n 1, 1) := by decide +kernel
theorem dX6_endOf_5 : decode cX6_endOf 5 = .ok (.iaload, 1) := by decide +kernel
theorem dX6_endOf_6 : decode cX6_endOf 6 = .ok (.aload_n 0, 1) := by decide +kernel
theorem dX6_endOf_7 : decode cX6_endOf 7 = .ok (.getfield 26, 3) := by decide +kernel
theorem dX6_endOf_10 : decode cX6_endOf 10 = .ok (.iload_n 1, 1) := by decide +kernel
theorem dX6_endOf_11 : decode cX6_endOf 11 = .ok (.iaload, 1) := by decide +kernel
theorem dX6_endOf_12 : decode cX6_endOf 12 = .ok (.iadd, 1) := by decide +kernel
theorem dX6_endOf_13 : decode cX6_endOf 13 = .ok (.ireturn, 1) := by decide +kernel
theorem dX6_shownBehind_0 : decode cX6_shownBehind 0 = .ok (.aload_n 0, 1) := by decide +kernel
theorem dX6_shownBehind_1 : decode cX6_shownBehind 1 = .ok (.getfield 20, 3) := by decide +kernel
theorem dX6_shownBehind_4 : decode cX6_shownBehind 4 = .ok (.iload_n 1, 1) := by decide +kernel
theorem dX6_shownBehind_5 : decode cX6_shownBehind 5 = .ok (.iaload, 1) := by decide +kernel
theorem dX6_shownBehind_6 : decode cX6_shownBehind 6 = .ok (.iconst (-1), 1) := by decide +kernel
theorem dX6_shownBehind_7 : decode cX6_shownBehind 7 = .ok (.if_icmp .ne 9, 3) := by decide +kernel
theorem dX6_shownBehind_10 : decode cX6_shownBehind 10 = .ok (.sipush (-32768), 3) := by decide +kernel
theorem dX6_shownBehind_13 : decode cX6_shownBehind 13 = .ok (.goto 11, 3) := by decide +kernel
theorem dX6_shownBehind_16 : decode cX6_shownBehind 16 = .ok (.aload_n 0, 1) := by decide +kernel
theorem dX6_shownBehind_17 : decode cX6_shownBehind 17 = .ok (.getfield 11, 3) := by decide +kernel
theorem dX6_shownBehind_20 : decode cX6_shownBehind 20 = .ok (.iload_n 2, 1) := by decide +kernel
theorem dX6_shownBehind_21 : decode cX6_shownBehind 21 = .ok (.aaload, 1) := by decide +kernel
theorem dX6_shownBehind_22 : decode cX6_shownBehind 22 = .ok (.iload_n 1, 1) := by decide +kernel
theorem dX6_shownBehind_23 : decode cX6_shownBehind 23 = .ok (.iaload, 1) := by decide +kernel
theorem dX6_shownBehind_24 : decode cX6_shownBehind 24 = .ok (.ireturn, 1) := by decide +kernel
theorem dX6_mendGaps_0 : decode cX6_mendGaps 0 = .ok (.aload_n 0, 1) := by decide +kernel
theorem dX6_mendGaps_1 : decode cX6_mendGaps 1 = .ok (.iconst 0, 1) := by decide +kernel
theorem dX6_mendGaps_2 : decode cX6_mendGaps 2 = .ok (.putfield 36, 3) := by decide +kernel
theorem dX6_mendGaps_5 : decode cX6_mendGaps 5 = .ok (.aload_n 0, 1) := by decide +kernel
theorem dX6_mendGaps_6 : decode cX6_mendGaps 6 = .ok (.iconst 0, 1) := by decide +kernel
theorem dX6_mendGaps_7 : decode cX6_mendGaps 7 = .ok (.putfield 39, 3) := by decide +kernel
theorem dX6_mendGaps_10 : decode cX6_mendGaps 10 = .ok (.iconst (-1), 1) := by decide +kernel
theorem dX6_mendGaps_11 : decode cX6_mendGaps 11 = .ok (.istore_n 3, 1) := by decide +kernel
theorem dX6_mendGaps_12 : decode cX6_mendGaps 12 = .ok (.iconst 0, 1) := by decide +kernel
theorem dX6_mendGaps_13 : decode cX6_mendGaps 13 = .ok (.istore 4, 2) := by decide +kernel
theorem dX6_mendGaps_15 : decode cX6_mendGaps 15 = .ok (.iload 4, 2) := by decide +kernel
theorem dX6_mendGaps_17 : decode cX6_mendGaps 17 = .ok (.aload_n 1, 1) := by decide +kernel
theorem dX6_mendGaps_18 : decode cX6_mendGaps 18 = .ok (.getfield 42, 3) := by decide +kernel
theorem dX6_mendGaps_21 : decode cX6_mendGaps 21 = .ok (.if_icmp .ge 81, 3) := by decide +kernel
theorem dX6_mendGaps_24 : decode cX6_mendGaps 24 = .ok (.aload_n 1, 1) := by decide +kernel
theorem dX6_mendGaps_25 : decode cX6_mendGaps 25 = .ok (.getfield 45, 3) := by decide +kernel
theorem dX6_mendGaps_28 : decode cX6_mendGaps 28 = .ok (.iload 4, 2) := by decide +kernel
theorem dX6_mendGaps_30 : decode cX6_mendGaps 30 = .ok (.iaload, 1) := by decide +kernel
theorem dX6_mendGaps_31 : decode cX6_mendGaps 31 = .ok (.sipush (-32768), 3) := by decide +kernel
theorem dX6_mendGaps_34 : decode cX6_mendGaps 34 = .ok (.if_icmp .ne 24, 3) := by decide +kernel
theorem dX6_mendGaps_37 : decode cX6_mendGaps 37 = .ok (.aload_n 0, 1) := by decide +kernel
theorem dX6_mendGaps_38 : decode cX6_mendGaps 38 = .ok (.dup, 1) := by decide +kernel
theorem dX6_mendGaps_39 : decode cX6_mendGaps 39 = .ok (.getfield 36, 3) := by decide +kernel
theorem dX6_mendGaps_42 : decode cX6_mendGaps 42 = .ok (.iconst 1, 1) := by decide +kernel
theorem dX6_mendGaps_43 : decode cX6_mendGaps 43 = .ok (.iadd, 1) := by decide +kernel
theorem dX6_mendGaps_44 : decode cX6_mendGaps 44 = .ok (.putfield 36, 3) := by decide +kernel
theorem dX6_mendGaps_47 : decode cX6_mendGaps 47 = .ok (.aload_n 0, 1) := by decide +kernel
theorem dX6_mendGaps_48 : decode cX6_mendGaps 48 = .ok (.getfield 20, 3) := by decide +kernel
theorem dX6_mendGaps_51 : decode cX6_mendGaps 51 = .ok (.iload 4, 2) := by decide +kernel
theorem dX6_mendGaps_53 : decode cX6_mendGaps 53 = .ok (.iconst (-1), 1) := by decide +kernel
theorem dX6_mendGaps_54 : decode cX6_mendGaps 54 = .ok (.iastore, 1) := by decide +kernel
theorem dX6_mendGaps_55 : decode cX6_mendGaps 55 = .ok (.goto 41, 3) := by decide +kernel
theorem dX6_mendGaps_58 : decode cX6_mendGaps 58 = .ok (.aload_n 0, 1) := by decide +kernel
theorem dX6_mendGaps_59 : decode cX6_mendGaps 59 = .ok (.iload 4, 2) := by decide +kernel
theorem dX6_mendGaps_61 : decode cX6_mendGaps 61 = .ok (.aload_n 1, 1) := by decide +kernel
theorem dX6_mendGaps_62 : decode cX6_mendGaps 62 = .ok (.getfield 45, 3) := by decide +kernel
theorem dX6_mendGaps_65 : decode cX6_mendGaps 65 = .ok (.iload 4, 2) := by decide +kernel
theorem dX6_mendGaps_67 : decode cX6_mendGaps 67 = .ok (.iaload, 1) := by decide +kernel
theorem dX6_mendGaps_68 : decode cX6_mendGaps 68 = .ok (.invokevirtual 48, 3) := by decide +kernel
theorem dX6_mendGaps_71 : decode cX6_mendGaps 71 = .ok (.iload_n 3, 1) := by decide +kernel
theorem dX6_mendGaps_72 : decode cX6_mendGaps 72 = .ok (.iconst (-1), 1) := by decide +kernel
theorem dX6_mendGaps_73 : decode cX6_mendGaps 73 = .ok (.if_icmp .eq 20, 3) := by decide +kernel
theorem dX6_mendGaps_76 : decode cX6_mendGaps 76 = .ok (.iload 4, 2) := by decide +kernel
theorem dX6_mendGaps_78 : decode cX6_mendGaps 78 = .ok (.iload_n 3, 1) := by decide +kernel
theorem dX6_mendGaps_79 : decode cX6_mendGaps 79 = .ok (.isub, 1) := by decide +kernel
theorem dX6_mendGaps_80 : decode cX6_mendGaps 80 = .ok (.iconst 1, 1) := by decide +kernel
theorem dX6_mendGaps_81 : decode cX6_mendGaps 81 = .ok (.isub, 1) := by decide +kernel
theorem dX6_mendGaps_82 : decode cX6_mendGaps 82 = .ok (.iload_n 2, 1) := by decide +kernel
theorem dX6_mendGaps_83 : decode cX6_mendGaps 83 = .ok (.if_icmp .gt 10, 3) := by decide +kernel
theorem dX6_mendGaps_86 : decode cX6_mendGaps 86 = .ok (.aload_n 0, 1) := by decide +kernel
theorem dX6_mendGaps_87 : decode cX6_mendGaps 87 = .ok (.iload_n 3, 1) := by decide +kernel
theorem dX6_mendGaps_88 : decode cX6_mendGaps 88 = .ok (.iload 4, 2) := by decide +kernel
theorem dX6_mendGaps_90 : decode cX6_mendGaps 90 = .ok (.invokevirtual 52, 3) := by decide +kernel
theorem dX6_mendGaps_93 : decode cX6_mendGaps 93 = .ok (.iload 4, 2) := by decide +kernel
theorem dX6_mendGaps_95 : decode cX6_mendGaps 95 = .ok (.istore_n 3, 1) := by decide +kernel
theorem dX6_mendGaps_96 : decode cX6_mendGaps 96 = .ok (.iinc 4 1, 3) := by decide +kernel
theorem dX6_mendGaps_99 : decode cX6_mendGaps 99 = .ok (.goto (-84), 3) := by decide +kernel
theorem dX6_mendGaps_102 : decode cX6_mendGaps 102 = .ok (.return_, 1) := by decide +kernel
theorem dX6_mendBetween_0 : decode cX6_mendBetween 0 = .ok (.iload_n 2, 1) := by decide +kernel
theorem dX6_mendBetween_1 : decode cX6_mendBetween 1 = .ok (.iload_n 1, 1) := by decide +kernel
theorem dX6_mendBetween_2 : decode cX6_mendBetween 2 = .ok (.isub, 1) := by decide +kernel
theorem dX6_mendBetween_3 : decode cX6_mendBetween 3 = .ok (.istore_n 3, 1) := by decide +kernel
theorem dX6_mendBetween_4 : decode cX6_mendBetween 4 = .ok (.aload_n 0, 1) := by decide +kernel
theorem dX6_mendBetween_5 : decode cX6_mendBetween 5 = .ok (.getfield 11, 3) := by decide +kernel
theorem dX6_mendBetween_8 : decode cX6_mendBetween 8 = .ok (.iconst 0, 1) := by decide +kernel
theorem dX6_mendBetween_9 : decode cX6_mendBetween 9 = .ok (.aaload, 1) := by decide +kernel
theorem dX6_mendBetween_10 : decode cX6_mendBetween 10 = .ok (.iload_n 1, 1) := by decide +kernel
theorem dX6_mendBetween_11 : decode cX6_mendBetween 11 = .ok (.iaload, 1) := by decide +kernel
theorem dX6_mendBetween_12 : decode cX6_mendBetween 12 = .ok (.istore 4, 2) := by decide +kernel
theorem dX6_mendBetween_14 : decode cX6_mendBetween 14 = .ok (.aload_n 0, 1) := by decide +kernel
theorem dX6_mendBetween_15 : decode cX6_mendBetween 15 = .ok (.getfield 11, 3) := by decide +kernel
theorem dX6_mendBetween_18 : decode cX6_mendBetween 18 = .ok (.iconst 0, 1) := by decide +kernel
theorem dX6_mendBetween_19 : decode cX6_mendBetween 19 = .ok (.aaload, 1) := by decide +kernel
theorem dX6_mendBetween_20 : decode cX6_mendBetween 20 = .ok (.iload_n 2, 1) := by decide +kernel
theorem dX6_mendBetween_21 : decode cX6_mendBetween 21 = .ok (.iaload, 1) := by decide +kernel
theorem dX6_mendBetween_22 : decode cX6_mendBetween 22 = .ok (.istore 5, 2) := by decide +kernel
theorem dX6_mendBetween_24 : decode cX6_mendBetween 24 = .ok (.iconst 1, 1) := by decide +kernel
theorem dX6_mendBetween_25 : decode cX6_mendBetween 25 = .ok (.istore 6, 2) := by decide +kernel
theorem dX6_mendBetween_27 : decode cX6_mendBetween 27 = .ok (.iload 6, 2) := by decide +kernel
theorem dX6_mendBetween_29 : decode cX6_mendBetween 29 = .ok (.iload_n 3, 1) := by decide +kernel
theorem dX6_mendBetween_30 : decode cX6_mendBetween 30 = .ok (.if_icmp .ge 48, 3) := by decide +kernel
theorem dX6_mendBetween_33 : decode cX6_mendBetween 33 = .ok (.aload_n 0, 1) := by decide +kernel
theorem dX6_mendBetween_34 : decode cX6_mendBetween 34 = .ok (.iload_n 1, 1) := by decide +kernel
theorem dX6_mendBetween_35 : decode cX6_mendBetween 35 = .ok (.iload 6, 2) := by decide +kernel
theorem dX6_mendBetween_37 : decode cX6_mendBetween 37 = .ok (.iadd, 1) := by decide +kernel
theorem dX6_mendBetween_38 : decode cX6_mendBetween 38 = .ok (.iload 4, 2) := by decide +kernel
theorem dX6_mendBetween_40 : decode cX6_mendBetween 40 = .ok (.i2l, 1) := by decide +kernel
theorem dX6_mendBetween_41 : decode cX6_mendBetween 41 = .ok (.iload_n 3, 1) := by decide +kernel
theorem dX6_mendBetween_42 : decode cX6_mendBetween 42 = .ok (.iload 6, 2) := by decide +kernel
theorem dX6_mendBetween_44 : decode cX6_mendBetween 44 = .ok (.isub, 1) := by decide +kernel
theorem dX6_mendBetween_45 : decode cX6_mendBetween 45 = .ok (.i2l, 1) := by decide +kernel
theorem dX6_mendBetween_46 : decode cX6_mendBetween 46 = .ok (.lmul, 1) := by decide +kernel
theorem dX6_mendBetween_47 : decode cX6_mendBetween 47 = .ok (.iload 5, 2) := by decide +kernel
theorem dX6_mendBetween_49 : decode cX6_mendBetween 49 = .ok (.i2l, 1) := by decide +kernel
theorem dX6_mendBetween_50 : decode cX6_mendBetween 50 = .ok (.iload 6, 2) := by decide +kernel
theorem dX6_mendBetween_52 : decode cX6_mendBetween 52 = .ok (.i2l, 1) := by decide +kernel
theorem dX6_mendBetween_53 : decode cX6_mendBetween 53 = .ok (.lmul, 1) := by decide +kernel
theorem dX6_mendBetween_54 : decode cX6_mendBetween 54 = .ok (.ladd, 1) := by decide +kernel
theorem dX6_mendBetween_55 : decode cX6_mendBetween 55 = .ok (.iload_n 3, 1) := by decide +kernel
theorem dX6_mendBetween_56 : decode cX6_mendBetween 56 = .ok (.invokestatic 55, 3) := by decide +kernel
theorem dX6_mendBetween_59 : decode cX6_mendBetween 59 = .ok (.invokevirtual 48, 3) := by decide +kernel
theorem dX6_mendBetween_62 : decode cX6_mendBetween 62 = .ok (.aload_n 0, 1) := by decide +kernel
theorem dX6_mendBetween_63 : decode cX6_mendBetween 63 = .ok (.dup, 1) := by decide +kernel
theorem dX6_mendBetween_64 : decode cX6_mendBetween 64 = .ok (.getfield 39, 3) := by decide +kernel
theorem dX6_mendBetween_67 : decode cX6_mendBetween 67 = .ok (.iconst 1, 1) := by decide +kernel
theorem dX6_mendBetween_68 : decode cX6_mendBetween 68 = .ok (.iadd, 1) := by decide +kernel
theorem dX6_mendBetween_69 : decode cX6_mendBetween 69 = .ok (.putfield 39, 3) := by decide +kernel
theorem dX6_mendBetween_72 : decode cX6_mendBetween 72 = .ok (.iinc 6 1, 3) := by decide +kernel
theorem dX6_mendBetween_75 : decode cX6_mendBetween 75 = .ok (.goto (-48), 3) := by decide +kernel
theorem dX6_mendBetween_78 : decode cX6_mendBetween 78 = .ok (.return_, 1) := by decide +kernel
theorem dX6_keep_0 : decode cX6_keep 0 = .ok (.aload_n 0, 1) := by decide +kernel
theorem dX6_keep_1 : decode cX6_keep 1 = .ok (.getfield 11, 3) := by decide +kernel
theorem dX6_keep_4 : decode cX6_keep 4 = .ok (.iconst 0, 1) := by decide +kernel
theorem dX6_keep_5 : decode cX6_keep 5 = .ok (.aaload, 1) := by decide +kernel
theorem dX6_keep_6 : decode cX6_keep 6 = .ok (.iload_n 1, 1) := by decide +kernel
theorem dX6_keep_7 : decode cX6_keep 7 = .ok (.iload_n 2, 1) := by decide +kernel
theorem dX6_keep_8 : decode cX6_keep 8 = .ok (.iastore, 1) := by decide +kernel
theorem dX6_keep_9 : decode cX6_keep 9 = .ok (.aload_n 0, 1) := by decide +kernel
theorem dX6_keep_10 : decode cX6_keep 10 = .ok (.getfield 20, 3) := by decide +kernel
theorem dX6_keep_13 : decode cX6_keep 13 = .ok (.iload_n 1, 1) := by decide +kernel
theorem dX6_keep_14 : decode cX6_keep 14 = .ok (.iconst 0, 1) := by decide +kernel
theorem dX6_keep_15 : decode cX6_keep 15 = .ok (.iastore, 1) := by decide +kernel
theorem dX6_keep_16 : decode cX6_keep 16 = .ok (.return_, 1) := by decide +kernel
theorem dX6_split_0 : decode cX6_split 0 = .ok (.aload_n 0, 1) := by decide +kernel
theorem dX6_split_1 : decode cX6_split 1 = .ok (.iconst 0, 1) := by decide +kernel
theorem dX6_split_2 : decode cX6_split 2 = .ok (.putfield 32, 3) := by decide +kernel
theorem dX6_split_5 : decode cX6_split 5 = .ok (.iconst 0, 1) := by decide +kernel
theorem dX6_split_6 : decode cX6_split 6 = .ok (.istore_n 2, 1) := by decide +kernel
theorem dX6_split_7 : decode cX6_split 7 = .ok (.iconst 0, 1) := by decide +kernel
theorem dX6_split_8 : decode cX6_split 8 = .ok (.istore_n 3, 1) := by decide +kernel
theorem dX6_split_9 : decode cX6_split 9 = .ok (.iload_n 3, 1) := by decide +kernel
theorem dX6_split_10 : decode cX6_split 10 = .ok (.iload_n 1, 1) := by decide +kernel
theorem dX6_split_11 : decode cX6_split 11 = .ok (.if_icmp .ge 99, 3) := by decide +kernel
theorem dX6_split_14 : decode cX6_split 14 = .ok (.aload_n 0, 1) := by decide +kernel
theorem dX6_split_15 : decode cX6_split 15 = .ok (.getfield 20, 3) := by decide +kernel
theorem dX6_split_18 : decode cX6_split 18 = .ok (.iload_n 3, 1) := by decide +kernel
theorem dX6_split_19 : decode cX6_split 19 = .ok (.iaload, 1) := by decide +kernel
theorem dX6_split_20 : decode cX6_split 20 = .ok (.iconst (-1), 1) := by decide +kernel
theorem dX6_split_21 : decode cX6_split 21 = .ok (.if_icmp .ne 8, 3) := by decide +kernel
theorem dX6_split_24 : decode cX6_split 24 = .ok (.iconst 0, 1) := by decide +kernel
theorem dX6_split_25 : decode cX6_split 25 = .ok (.istore_n 2, 1) := by decide +kernel
theorem dX6_split_26 : decode cX6_split 26 = .ok (.goto 78, 3) := by decide +kernel
theorem dX6_split_29 : decode cX6_split 29 = .ok (.iload_n 2, 1) := by decide +kernel
theorem dX6_split_30 : decode cX6_split 30 = .ok (.ifCond .ne 47, 3) := by decide +kernel
theorem dX6_split_33 : decode cX6_split 33 = .ok (.aload_n 0, 1) := by decide +kernel
theorem dX6_split_34 : decode cX6_split 34 = .ok (.getfield 32, 3) := by decide +kernel
theorem dX6_split_37 : decode cX6_split 37 = .ok (.aload_n 0, 1) := by decide +kernel
theorem dX6_split_38 : decode cX6_split 38 = .ok (.getfield 23, 3) := by decide +kernel
theorem dX6_split_41 : decode cX6_split 41 = .ok (.arraylength, 1) := by decide +kernel
theorem dX6_split_42 : decode cX6_split 42 = .ok (.if_icmp .ge 35, 3) := by decide +kernel
theorem dX6_split_45 : decode cX6_split 45 = .ok (.aload_n 0, 1) := by decide +kernel
theorem dX6_split_46 : decode cX6_split 46 = .ok (.getfield 23, 3) := by decide +kernel
theorem dX6_split_49 : decode cX6_split 49 = .ok (.aload_n 0, 1) := by decide +kernel
theorem dX6_split_50 : decode cX6_split 50 = .ok (.getfield 32, 3) := by decide +kernel
theorem dX6_split_53 : decode cX6_split 53 = .ok (.iload_n 3, 1) := by decide +kernel
theorem dX6_split_54 : decode cX6_split 54 = .ok (.iastore, 1) := by decide +kernel
theorem dX6_split_55 : decode cX6_split 55 = .ok (.aload_n 0, 1) := by decide +kernel
theorem dX6_split_56 : decode cX6_split 56 = .ok (.getfield 26, 3) := by decide +kernel
theorem dX6_split_59 : decode cX6_split 59 = .ok (.aload_n 0, 1) := by decide +kernel
theorem dX6_split_60 : decode cX6_split 60 = .ok (.getfield 32, 3) := by decide +kernel
theorem dX6_split_63 : decode cX6_split 63 = .ok (.iconst 0, 1) := by decide +kernel
theorem dX6_split_64 : decode cX6_split 64 = .ok (.iastore, 1) := by decide +kernel
theorem dX6_split_65 : decode cX6_split 65 = .ok (.aload_n 0, 1) := by decide +kernel
theorem dX6_split_66 : decode cX6_split 66 = .ok (.dup, 1) := by decide +kernel
theorem dX6_split_67 : decode cX6_split 67 = .ok (.getfield 32, 3) := by decide +kernel
theorem dX6_split_70 : decode cX6_split 70 = .ok (.iconst 1, 1) := by decide +kernel
theorem dX6_split_71 : decode cX6_split 71 = .ok (.iadd, 1) := by decide +kernel
theorem dX6_split_72 : decode cX6_split 72 = .ok (.putfield 32, 3) := by decide +kernel
theorem dX6_split_75 : decode cX6_split 75 = .ok (.iconst 1, 1) := by decide +kernel
theorem dX6_split_76 : decode cX6_split 76 = .ok (.istore_n 2, 1) := by decide +kernel
theorem dX6_split_77 : decode cX6_split 77 = .ok (.aload_n 0, 1) := by decide +kernel
theorem dX6_split_78 : decode cX6_split 78 = .ok (.getfield 20, 3) := by decide +kernel
theorem dX6_split_81 : decode cX6_split 81 = .ok (.iload_n 3, 1) := by decide +kernel
theorem dX6_split_82 : decode cX6_split 82 = .ok (.aload_n 0, 1) := by decide +kernel
theorem dX6_split_83 : decode cX6_split 83 = .ok (.getfield 32, 3) := by decide +kernel
theorem dX6_split_86 : decode cX6_split 86 = .ok (.iconst 1, 1) := by decide +kernel
theorem dX6_split_87 : decode cX6_split 87 = .ok (.isub, 1) := by decide +kernel
theorem dX6_split_88 : decode cX6_split 88 = .ok (.iastore, 1) := by decide +kernel
theorem dX6_split_89 : decode cX6_split 89 = .ok (.aload_n 0, 1) := by decide +kernel
theorem dX6_split_90 : decode cX6_split 90 = .ok (.getfield 26, 3) := by decide +kernel
theorem dX6_split_93 : decode cX6_split 93 = .ok (.aload_n 0, 1) := by decide +kernel
theorem dX6_split_94 : decode cX6_split 94 = .ok (.getfield 32, 3) := by decide +kernel
theorem dX6_split_97 : decode cX6_split 97 = .ok (.iconst 1, 1) := by decide +kernel
theorem dX6_split_98 : decode cX6_split 98 = .ok (.isub, 1) := by decide +kernel
theorem dX6_split_99 : decode cX6_split 99 = .ok (.dup2, 1) := by decide +kernel
theorem dX6_split_100 : decode cX6_split 100 = .ok (.iaload, 1) := by decide +kernel
theorem dX6_split_101 : decode cX6_split 101 = .ok (.iconst 1, 1) := by decide +kernel
theorem dX6_split_102 : decode cX6_split 102 = .ok (.iadd, 1) := by decide +kernel
theorem dX6_split_103 : decode cX6_split 103 = .ok (.iastore, 1) := by decide +kernel
theorem dX6_split_104 : decode cX6_split 104 = .ok (.iinc 3 1, 3) := by decide +kernel
theorem dX6_split_107 : decode cX6_split 107 = .ok (.goto (-98), 3) := by decide +kernel
theorem dX6_split_110 : decode cX6_split 110 = .ok (.return_, 1) := by decide +kernel
theorem dX6_lookThrough_0 : decode cX6_lookThrough 0 = .ok (.iconst 0, 1) := by decide +kernel
theorem dX6_lookThrough_1 : decode cX6_lookThrough 1 = .ok (.istore_n 2, 1) := by decide +kernel
theorem dX6_lookThrough_2 : decode cX6_lookThrough 2 = .ok (.iload_n 2, 1) := by decide +kernel
theorem dX6_lookThrough_3 : decode cX6_lookThrough 3 = .ok (.aload_n 1, 1) := by decide +kernel
theorem dX6_lookThrough_4 : decode cX6_lookThrough 4 = .ok (.getfield 59, 3) := by decide +kernel
theorem dX6_lookThrough_7 : decode cX6_lookThrough 7 = .ok (.if_icmp .ge 55, 3) := by decide +kernel
theorem dX6_lookThrough_10 : decode cX6_lookThrough 10 = .ok (.iconst 0, 1) := by decide +kernel
theorem dX6_lookThrough_11 : decode cX6_lookThrough 11 = .ok (.istore_n 3, 1) := by decide +kernel
theorem dX6_lookThrough_12 : decode cX6_lookThrough 12 = .ok (.iload_n 3, 1) := by decide +kernel
theorem dX6_lookThrough_13 : decode cX6_lookThrough 13 = .ok (.aload_n 0, 1) := by decide +kernel
theorem dX6_lookThrough_14 : decode cX6_lookThrough 14 = .ok (.getfield 32, 3) := by decide +kernel
theorem dX6_lookThrough_17 : decode cX6_lookThrough 17 = .ok (.if_icmp .ge 39, 3) := by decide +kernel
theorem dX6_lookThrough_20 : decode cX6_lookThrough 20 = .ok (.aload_n 1, 1) := by decide +kernel
theorem dX6_lookThrough_21 : decode cX6_lookThrough 21 = .ok (.iload_n 2, 1) := by decide +kernel
theorem dX6_lookThrough_22 : decode cX6_lookThrough 22 = .ok (.aload_n 0, 1) := by decide +kernel
theorem dX6_lookThrough_23 : decode cX6_lookThrough 23 = .ok (.getfield 11, 3) := by decide +kernel
theorem dX6_lookThrough_26 : decode cX6_lookThrough 26 = .ok (.iload_n 2, 1) := by decide +kernel
theorem dX6_lookThrough_27 : decode cX6_lookThrough 27 = .ok (.aaload, 1) := by decide +kernel
theorem dX6_lookThrough_28 : decode cX6_lookThrough 28 = .ok (.aload_n 0, 1) := by decide +kernel
theorem dX6_lookThrough_29 : decode cX6_lookThrough 29 = .ok (.getfield 11, 3) := by decide +kernel
theorem dX6_lookThrough_32 : decode cX6_lookThrough 32 = .ok (.iload_n 2, 1) := by decide +kernel
theorem dX6_lookThrough_33 : decode cX6_lookThrough 33 = .ok (.iconst 1, 1) := by decide +kernel
theorem dX6_lookThrough_34 : decode cX6_lookThrough 34 = .ok (.iadd, 1) := by decide +kernel
theorem dX6_lookThrough_35 : decode cX6_lookThrough 35 = .ok (.aaload, 1) := by decide +kernel
theorem dX6_lookThrough_36 : decode cX6_lookThrough 36 = .ok (.aload_n 0, 1) := by decide +kernel
theorem dX6_lookThrough_37 : decode cX6_lookThrough 37 = .ok (.getfield 23, 3) := by decide +kernel
theorem dX6_lookThrough_40 : decode cX6_lookThrough 40 = .ok (.iload_n 3, 1) := by decide +kernel
theorem dX6_lookThrough_41 : decode cX6_lookThrough 41 = .ok (.iaload, 1) := by decide +kernel
theorem dX6_lookThrough_42 : decode cX6_lookThrough 42 = .ok (.aload_n 0, 1) := by decide +kernel
theorem dX6_lookThrough_43 : decode cX6_lookThrough 43 = .ok (.iload_n 3, 1) := by decide +kernel
theorem dX6_lookThrough_44 : decode cX6_lookThrough 44 = .ok (.invokevirtual 62, 3) := by decide +kernel
theorem dX6_lookThrough_47 : decode cX6_lookThrough 47 = .ok (.invokevirtual 66, 3) := by decide +kernel
theorem dX6_lookThrough_50 : decode cX6_lookThrough 50 = .ok (.iinc 3 1, 3) := by decide +kernel
theorem dX6_lookThrough_53 : decode cX6_lookThrough 53 = .ok (.goto (-41), 3) := by decide +kernel
theorem dX6_lookThrough_56 : decode cX6_lookThrough 56 = .ok (.iinc 2 1, 3) := by decide +kernel
theorem dX6_lookThrough_59 : decode cX6_lookThrough 59 = .ok (.goto (-57), 3) := by decide +kernel
theorem dX6_lookThrough_62 : decode cX6_lookThrough 62 = .ok (.aload_n 0, 1) := by decide +kernel
theorem dX6_lookThrough_63 : decode cX6_lookThrough 63 = .ok (.aload_n 0, 1) := by decide +kernel
theorem dX6_lookThrough_64 : decode cX6_lookThrough 64 = .ok (.getfield 11, 3) := by decide +kernel
theorem dX6_lookThrough_67 : decode cX6_lookThrough 67 = .ok (.aload_n 1, 1) := by decide +kernel
theorem dX6_lookThrough_68 : decode cX6_lookThrough 68 = .ok (.getfield 59, 3) := by decide +kernel
theorem dX6_lookThrough_71 : decode cX6_lookThrough 71 = .ok (.aaload, 1) := by decide +kernel
theorem dX6_lookThrough_72 : decode cX6_lookThrough 72 = .ok (.putfield 16, 3) := by decide +kernel
theorem dX6_lookThrough_75 : decode cX6_lookThrough 75 = .ok (.return_, 1) := by decide +kernel
theorem dX6_findLevels_0 : decode cX6_findLevels 0 = .ok (.iconst 0, 1) := by decide +kernel
theorem dX6_findLevels_1 : decode cX6_findLevels 1 = .ok (.istore_n 3, 1) := by decide +kernel
theorem dX6_findLevels_2 : decode cX6_findLevels 2 = .ok (.iload_n 3, 1) := by decide +kernel
theorem dX6_findLevels_3 : decode cX6_findLevels 3 = .ok (.aload_n 0, 1) := by decide +kernel
theorem dX6_findLevels_4 : decode cX6_findLevels 4 = .ok (.getfield 32, 3) := by decide +kernel
theorem dX6_findLevels_7 : decode cX6_findLevels 7 = .ok (.if_icmp .ge 78, 3) := by decide +kernel
theorem dX6_findLevels_10 : decode cX6_findLevels 10 = .ok (.aload_n 1, 1) := by decide +kernel
theorem dX6_findLevels_11 : decode cX6_findLevels 11 = .ok (.getfield 70, 3) := by decide +kernel
theorem dX6_findLevels_14 : decode cX6_findLevels 14 = .ok (.lookupswitch 55 #[(1, 26), (2, 40)], 26) := by decide +kernel
theorem dX6_findLevels_40 : decode cX6_findLevels 40 = .ok (.aload_n 0, 1) := by decide +kernel
theorem dX6_findLevels_41 : decode cX6_findLevels 41 = .ok (.getfield 29, 3) := by decide +kernel
theorem dX6_findLevels_44 : decode cX6_findLevels 44 = .ok (.iload_n 3, 1) := by decide +kernel
theorem dX6_findLevels_45 : decode cX6_findLevels 45 = .ok (.aload_n 0, 1) := by decide +kernel
theorem dX6_findLevels_46 : decode cX6_findLevels 46 = .ok (.iload_n 3, 1) := by decide +kernel
theorem dX6_findLevels_47 : decode cX6_findLevels 47 = .ok (.invokevirtual 75, 3) := by decide +kernel
theorem dX6_findLevels_50 : decode cX6_findLevels 50 = .ok (.iastore, 1) := by decide +kernel
theorem dX6_findLevels_51 : decode cX6_findLevels 51 = .ok (.goto 28, 3) := by decide +kernel
theorem dX6_findLevels_54 : decode cX6_findLevels 54 = .ok (.aload_n 0, 1) := by decide +kernel
theorem dX6_findLevels_55 : decode cX6_findLevels 55 = .ok (.getfield 29, 3) := by decide +kernel
theorem dX6_findLevels_58 : decode cX6_findLevels 58 = .ok (.iload_n 3, 1) := by decide +kernel
theorem dX6_findLevels_59 : decode cX6_findLevels 59 = .ok (.aload_n 0, 1) := by decide +kernel
theorem dX6_findLevels_60 : decode cX6_findLevels 60 = .ok (.iload_n 3, 1) := by decide +kernel
theorem dX6_findLevels_61 : decode cX6_findLevels 61 = .ok (.aload_n 2, 1) := by decide +kernel
theorem dX6_findLevels_62 : decode cX6_findLevels 62 = .ok (.invokevirtual 78, 3) := by decide +kernel
theorem dX6_findLevels_65 : decode cX6_findLevels 65 = .ok (.iastore, 1) := by decide +kernel
theorem dX6_findLevels_66 : decode cX6_findLevels 66 = .ok (.goto 13, 3) := by decide +kernel
theorem dX6_findLevels_69 : decode cX6_findLevels 69 = .ok (.aload_n 0, 1) := by decide +kernel
theorem dX6_findLevels_70 : decode cX6_findLevels 70 = .ok (.getfield 29, 3) := by decide +kernel
theorem dX6_findLevels_73 : decode cX6_findLevels 73 = .ok (.iload_n 3, 1) := by decide +kernel
theorem dX6_findLevels_74 : decode cX6_findLevels 74 = .ok (.aload_n 1, 1) := by decide +kernel
theorem dX6_findLevels_75 : decode cX6_findLevels 75 = .ok (.getfield 82, 3) := by decide +kernel
theorem dX6_findLevels_78 : decode cX6_findLevels 78 = .ok (.iastore, 1) := by decide +kernel
theorem dX6_findLevels_79 : decode cX6_findLevels 79 = .ok (.iinc 3 1, 3) := by decide +kernel
theorem dX6_findLevels_82 : decode cX6_findLevels 82 = .ok (.goto (-80), 3) := by decide +kernel
theorem dX6_findLevels_85 : decode cX6_findLevels 85 = .ok (.return_, 1) := by decide +kernel
theorem dX6_meanOf_0 : decode cX6_meanOf 0 = .ok (.lconst 0, 1) := by decide +kernel
theorem dX6_meanOf_1 : decode cX6_meanOf 1 = .ok (.lstore_n 2, 1) := by decide +kernel
theorem dX6_meanOf_2 : decode cX6_meanOf 2 = .ok (.aload_n 0, 1) := by decide +kernel
theorem dX6_meanOf_3 : decode cX6_meanOf 3 = .ok (.iload_n 1, 1) := by decide +kernel
theorem dX6_meanOf_4 : decode cX6_meanOf 4 = .ok (.invokevirtual 62, 3) := by decide +kernel
theorem dX6_meanOf_7 : decode cX6_meanOf 7 = .ok (.istore 4, 2) := by decide +kernel
theorem dX6_meanOf_9 : decode cX6_meanOf 9 = .ok (.aload_n 0, 1) := by decide +kernel
theorem dX6_meanOf_10 : decode cX6_meanOf 10 = .ok (.getfield 23, 3) := by decide +kernel
theorem dX6_meanOf_13 : decode cX6_meanOf 13 = .ok (.iload_n 1, 1) := by decide +kernel
theorem dX6_meanOf_14 : decode cX6_meanOf 14 = .ok (.iaload, 1) := by decide +kernel
theorem dX6_meanOf_15 : decode cX6_meanOf 15 = .ok (.istore 5, 2) := by decide +kernel
theorem dX6_meanOf_17 : decode cX6_meanOf 17 = .ok (.iload 5, 2) := by decide +kernel
theorem dX6_meanOf_19 : decode cX6_meanOf 19 = .ok (.iload 4, 2) := by decide +kernel
theorem dX6_meanOf_21 : decode cX6_meanOf 21 = .ok (.if_icmp .ge 20, 3) := by decide +kernel
theorem dX6_meanOf_24 : decode cX6_meanOf 24 = .ok (.lload_n 2, 1) := by decide +kernel
theorem dX6_meanOf_25 : decode cX6_meanOf 25 = .ok (.aload_n 0, 1) := by decide +kernel
theorem dX6_meanOf_26 : decode cX6_meanOf 26 = .ok (.getfield 16, 3) := by decide +kernel
theorem dX6_meanOf_29 : decode cX6_meanOf 29 = .ok (.iload 5, 2) := by decide +kernel
theorem dX6_meanOf_31 : decode cX6_meanOf 31 = .ok (.iaload, 1) := by decide +kernel
theorem dX6_meanOf_32 : decode cX6_meanOf 32 = .ok (.i2l, 1) := by decide +kernel
theorem dX6_meanOf_33 : decode cX6_meanOf 33 = .ok (.ladd, 1) := by decide +kernel
theorem dX6_meanOf_34 : decode cX6_meanOf 34 = .ok (.lstore_n 2, 1) := by decide +kernel
theorem dX6_meanOf_35 : decode cX6_meanOf 35 = .ok (.iinc 5 1, 3) := by decide +kernel
theorem dX6_meanOf_38 : decode cX6_meanOf 38 = .ok (.goto (-21), 3) := by decide +kernel
theorem dX6_meanOf_41 : decode cX6_meanOf 41 = .ok (.lload_n 2, 1) := by decide +kernel
theorem dX6_meanOf_42 : decode cX6_meanOf 42 = .ok (.aload_n 0, 1) := by decide +kernel
theorem dX6_meanOf_43 : decode cX6_meanOf 43 = .ok (.getfield 26, 3) := by decide +kernel
theorem dX6_meanOf_46 : decode cX6_meanOf 46 = .ok (.iload_n 1, 1) := by decide +kernel
theorem dX6_meanOf_47 : decode cX6_meanOf 47 = .ok (.iaload, 1) := by decide +kernel
theorem dX6_meanOf_48 : decode cX6_meanOf 48 = .ok (.invokestatic 55, 3) := by decide +kernel
theorem dX6_meanOf_51 : decode cX6_meanOf 51 = .ok (.ireturn, 1) := by decide +kernel
theorem dX6_middleOf_0 : decode cX6_middleOf 0 = .ok (.aload_n 2, 1) := by decide +kernel
theorem dX6_middleOf_1 : decode cX6_middleOf 1 = .ok (.invokevirtual 85, 3) := by decide +kernel
theorem dX6_middleOf_4 : decode cX6_middleOf 4 = .ok (.aload_n 0, 1) := by decide +kernel
theorem dX6_middleOf_5 : decode cX6_middleOf 5 = .ok (.iload_n 1, 1) := by decide +kernel
theorem dX6_middleOf_6 : decode cX6_middleOf 6 = .ok (.invokevirtual 62, 3) := by decide +kernel
theorem dX6_middleOf_9 : decode cX6_middleOf 9 = .ok (.istore_n 3, 1) := by decide +kernel
theorem dX6_middleOf_10 : decode cX6_middleOf 10 = .ok (.aload_n 0, 1) := by decide +kernel
theorem dX6_middleOf_11 : decode cX6_middleOf 11 = .ok (.getfield 23, 3) := by decide +kernel
theorem dX6_middleOf_14 : decode cX6_middleOf 14 = .ok (.iload_n 1, 1) := by decide +kernel
theorem dX6_middleOf_15 : decode cX6_middleOf 15 = .ok (.iaload, 1) := by decide +kernel
theorem dX6_middleOf_16 : decode cX6_middleOf 16 = .ok (.istore 4, 2) := by decide +kernel
theorem dX6_middleOf_18 : decode cX6_middleOf 18 = .ok (.iload 4, 2) := by decide +kernel
theorem dX6_middleOf_20 : decode cX6_middleOf 20 = .ok (.iload_n 3, 1) := by decide +kernel
theorem dX6_middleOf_21 : decode cX6_middleOf 21 = .ok (.if_icmp .ge 21, 3) := by decide +kernel
theorem dX6_middleOf_24 : decode cX6_middleOf 24 = .ok (.aload_n 2, 1) := by decide +kernel
theorem dX6_middleOf_25 : decode cX6_middleOf 25 = .ok (.aload_n 0, 1) := by decide +kernel
theorem dX6_middleOf_26 : decode cX6_middleOf 26 = .ok (.getfield 16, 3) := by decide +kernel
theorem dX6_middleOf_29 : decode cX6_middleOf 29 = .ok (.iload 4, 2) := by decide +kernel
theorem dX6_middleOf_31 : decode cX6_middleOf 31 = .ok (.iaload, 1) := by decide +kernel
theorem dX6_middleOf_32 : decode cX6_middleOf 32 = .ok (.i2l, 1) := by decide +kernel
theorem dX6_middleOf_33 : decode cX6_middleOf 33 = .ok (.invokevirtual 90, 3) := by decide +kernel
theorem dX6_middleOf_36 : decode cX6_middleOf 36 = .ok (.iinc 4 1, 3) := by decide +kernel
theorem dX6_middleOf_39 : decode cX6_middleOf 39 = .ok (.goto (-21), 3) := by decide +kernel
theorem dX6_middleOf_42 : decode cX6_middleOf 42 = .ok (.aload_n 2, 1) := by decide +kernel
theorem dX6_middleOf_43 : decode cX6_middleOf 43 = .ok (.invokevirtual 94, 3) := by decide +kernel
theorem dX6_middleOf_46 : decode cX6_middleOf 46 = .ok (.aload_n 2, 1) := by decide +kernel
theorem dX6_middleOf_47 : decode cX6_middleOf 47 = .ok (.aload_n 0, 1) := by decide +kernel
theorem dX6_middleOf_48 : decode cX6_middleOf 48 = .ok (.getfield 26, 3) := by decide +kernel
theorem dX6_middleOf_51 : decode cX6_middleOf 51 = .ok (.iload_n 1, 1) := by decide +kernel
theorem dX6_middleOf_52 : decode cX6_middleOf 52 = .ok (.iaload, 1) := by decide +kernel
theorem dX6_middleOf_53 : decode cX6_middleOf 53 = .ok (.iconst 1, 1) := by decide +kernel
theorem dX6_middleOf_54 : decode cX6_middleOf 54 = .ok (.isub, 1) := by decide +kernel
theorem dX6_middleOf_55 : decode cX6_middleOf 55 = .ok (.iconst 2, 1) := by decide +kernel
theorem dX6_middleOf_56 : decode cX6_middleOf 56 = .ok (.idiv, 1) := by decide +kernel
theorem dX6_middleOf_57 : decode cX6_middleOf 57 = .ok (.invokevirtual 97, 3) := by decide +kernel
theorem dX6_middleOf_60 : decode cX6_middleOf 60 = .ok (.l2i, 1) := by decide +kernel
theorem dX6_middleOf_61 : decode cX6_middleOf 61 = .ok (.ireturn, 1) := by decide +kernel
theorem dX6_topIn_0 : decode cX6_topIn 0 = .ok (.iload_n 1, 1) := by decide +kernel
theorem dX6_topIn_1 : decode cX6_topIn 1 = .ok (.istore_n 3, 1) := by decide +kernel
theorem dX6_topIn_2 : decode cX6_topIn 2 = .ok (.iload_n 1, 1) := by decide +kernel
theorem dX6_topIn_3 : decode cX6_topIn 3 = .ok (.istore 4, 2) := by decide +kernel
theorem dX6_topIn_5 : decode cX6_topIn 5 = .ok (.iload 4, 2) := by decide +kernel
theorem dX6_topIn_7 : decode cX6_topIn 7 = .ok (.iload_n 2, 1) := by decide +kernel
theorem dX6_topIn_8 : decode cX6_topIn 8 = .ok (.if_icmp .ge 28, 3) := by decide +kernel
theorem dX6_topIn_11 : decode cX6_topIn 11 = .ok (.aload_n 0, 1) := by decide +kernel
theorem dX6_topIn_12 : decode cX6_topIn 12 = .ok (.getfield 16, 3) := by decide +kernel
theorem dX6_topIn_15 : decode cX6_topIn 15 = .ok (.iload 4, 2) := by decide +kernel
theorem dX6_topIn_17 : decode cX6_topIn 17 = .ok (.iaload, 1) := by decide +kernel
theorem dX6_topIn_18 : decode cX6_topIn 18 = .ok (.aload_n 0, 1) := by decide +kernel
theorem dX6_topIn_19 : decode cX6_topIn 19 = .ok (.getfield 16, 3) := by decide +kernel
theorem dX6_topIn_22 : decode cX6_topIn 22 = .ok (.iload_n 3, 1) := by decide +kernel
theorem dX6_topIn_23 : decode cX6_topIn 23 = .ok (.iaload, 1) := by decide +kernel
theorem dX6_topIn_24 : decode cX6_topIn 24 = .ok (.if_icmp .le 6, 3) := by decide +kernel
theorem dX6_topIn_27 : decode cX6_topIn 27 = .ok (.iload 4, 2) := by decide +kernel
theorem dX6_topIn_29 : decode cX6_topIn 29 = .ok (.istore_n 3, 1) := by decide +kernel
theorem dX6_topIn_30 : decode cX6_topIn 30 = .ok (.iinc 4 1, 3) := by decide +kernel
theorem dX6_topIn_33 : decode cX6_topIn 33 = .ok (.goto (-28), 3) := by decide +kernel
theorem dX6_topIn_36 : decode cX6_topIn 36 = .ok (.iload_n 3, 1) := by decide +kernel
theorem dX6_topIn_37 : decode cX6_topIn 37 = .ok (.ireturn, 1) := by decide +kernel
theorem dX6_leastIn_0 : decode cX6_leastIn 0 = .ok (.aload_n 0, 1) := by decide +kernel
theorem dX6_leastIn_1 : decode cX6_leastIn 1 = .ok (.getfield 16, 3) := by decide +kernel
theorem dX6_leastIn_4 : decode cX6_leastIn 4 = .ok (.iload_n 1, 1) := by decide +kernel
theorem dX6_leastIn_5 : decode cX6_leastIn 5 = .ok (.iaload, 1) := by decide +kernel
theorem dX6_leastIn_6 : decode cX6_leastIn 6 = .ok (.istore_n 3, 1) := by decide +kernel
theorem dX6_leastIn_7 : decode cX6_leastIn 7 = .ok (.iload_n 1, 1) := by decide +kernel
theorem dX6_leastIn_8 : decode cX6_leastIn 8 = .ok (.istore 4, 2) := by decide +kernel
theorem dX6_leastIn_10 : decode cX6_leastIn 10 = .ok (.iload 4, 2) := by decide +kernel
theorem dX6_leastIn_12 : decode cX6_leastIn 12 = .ok (.iload_n 2, 1) := by decide +kernel
theorem dX6_leastIn_13 : decode cX6_leastIn 13 = .ok (.if_icmp .ge 21, 3) := by decide +kernel
theorem dX6_leastIn_16 : decode cX6_leastIn 16 = .ok (.iload_n 3, 1) := by decide +kernel
theorem dX6_leastIn_17 : decode cX6_leastIn 17 = .ok (.aload_n 0, 1) := by decide +kernel
theorem dX6_leastIn_18 : decode cX6_leastIn 18 = .ok (.getfield 16, 3) := by decide +kernel
theorem dX6_leastIn_21 : decode cX6_leastIn 21 = .ok (.iload 4, 2) := by decide +kernel
theorem dX6_leastIn_23 : decode cX6_leastIn 23 = .ok (.iaload, 1) := by decide +kernel
theorem dX6_leastIn_24 : decode cX6_leastIn 24 = .ok (.invokestatic 101, 3) := by decide +kernel
theorem dX6_leastIn_27 : decode cX6_leastIn 27 = .ok (.istore_n 3, 1) := by decide +kernel
theorem dX6_leastIn_28 : decode cX6_leastIn 28 = .ok (.iinc 4 1, 3) := by decide +kernel
theorem dX6_leastIn_31 : decode cX6_leastIn 31 = .ok (.goto (-21), 3) := by decide +kernel
theorem dX6_leastIn_34 : decode cX6_leastIn 34 = .ok (.iload_n 3, 1) := by decide +kernel
theorem dX6_leastIn_35 : decode cX6_leastIn 35 = .ok (.ireturn, 1) := by decide +kernel
theorem dX6_nextCrossing_0 : decode cX6_nextCrossing 0 = .ok (.iconst 0, 1) := by decide +kernel
theorem dX6_nextCrossing_1 : decode cX6_nextCrossing 1 = .ok (.istore 4, 2) := by decide +kernel
theorem dX6_nextCrossing_3 : decode cX6_nextCrossing 3 = .ok (.aload_n 0, 1) := by decide +kernel
theorem dX6_nextCrossing_4 : decode cX6_nextCrossing 4 = .ok (.iload_n 1, 1) := by decide +kernel
theorem dX6_nextCrossing_5 : decode cX6_nextCrossing 5 = .ok (.invokevirtual 62, 3) := by decide +kernel
theorem dX6_nextCrossing_8 : decode cX6_nextCrossing 8 = .ok (.istore 5, 2) := by decide +kernel
theorem dX6_nextCrossing_10 : decode cX6_nextCrossing 10 = .ok (.iload_n 2, 1) := by decide +kernel
theorem dX6_nextCrossing_11 : decode cX6_nextCrossing 11 = .ok (.istore 6, 2) := by decide +kernel
theorem dX6_nextCrossing_13 : decode cX6_nextCrossing 13 = .ok (.iload 6, 2) := by decide +kernel
theorem dX6_nextCrossing_15 : decode cX6_nextCrossing 15 = .ok (.iload 5, 2) := by decide +kernel
theorem dX6_nextCrossing_17 : decode cX6_nextCrossing 17 = .ok (.if_icmp .ge 52, 3) := by decide +kernel
theorem dX6_nextCrossing_20 : decode cX6_nextCrossing 20 = .ok (.aload_n 0, 1) := by decide +kernel
theorem dX6_nextCrossing_21 : decode cX6_nextCrossing 21 = .ok (.getfield 16, 3) := by decide +kernel
theorem dX6_nextCrossing_24 : decode cX6_nextCrossing 24 = .ok (.iload 6, 2) := by decide +kernel
theorem dX6_nextCrossing_26 : decode cX6_nextCrossing 26 = .ok (.iaload, 1) := by decide +kernel
theorem dX6_nextCrossing_27 : decode cX6_nextCrossing 27 = .ok (.aload_n 0, 1) := by decide +kernel
theorem dX6_nextCrossing_28 : decode cX6_nextCrossing 28 = .ok (.getfield 29, 3) := by decide +kernel
theorem dX6_nextCrossing_31 : decode cX6_nextCrossing 31 = .ok (.iload_n 1, 1) := by decide +kernel
theorem dX6_nextCrossing_32 : decode cX6_nextCrossing 32 = .ok (.iaload, 1) := by decide +kernel
theorem dX6_nextCrossing_33 : decode cX6_nextCrossing 33 = .ok (.isub, 1) := by decide +kernel
theorem dX6_nextCrossing_34 : decode cX6_nextCrossing 34 = .ok (.istore 7, 2) := by decide +kernel
theorem dX6_nextCrossing_36 : decode cX6_nextCrossing 36 = .ok (.iload 7, 2) := by decide +kernel
theorem dX6_nextCrossing_38 : decode cX6_nextCrossing 38 = .ok (.iload_n 3, 1) := by decide +kernel
theorem dX6_nextCrossing_39 : decode cX6_nextCrossing 39 = .ok (.ineg, 1) := by decide +kernel
theorem dX6_nextCrossing_40 : decode cX6_nextCrossing 40 = .ok (.if_icmp .ge 9, 3) := by decide +kernel
theorem dX6_nextCrossing_43 : decode cX6_nextCrossing 43 = .ok (.iconst 1, 1) := by decide +kernel
theorem dX6_nextCrossing_44 : decode cX6_nextCrossing 44 = .ok (.istore 4, 2) := by decide +kernel
theorem dX6_nextCrossing_46 : decode cX6_nextCrossing 46 = .ok (.goto 17, 3) := by decide +kernel
theorem dX6_nextCrossing_49 : decode cX6_nextCrossing 49 = .ok (.iload 4, 2) := by decide +kernel
theorem dX6_nextCrossing_51 : decode cX6_nextCrossing 51 = .ok (.ifCond .eq 12, 3) := by decide +kernel
theorem dX6_nextCrossing_54 : decode cX6_nextCrossing 54 = .ok (.iload 7, 2) := by decide +kernel
theorem dX6_nextCrossing_56 : decode cX6_nextCrossing 56 = .ok (.iload_n 3, 1) := by decide +kernel
theorem dX6_nextCrossing_57 : decode cX6_nextCrossing 57 = .ok (.if_icmp .le 6, 3) := by decide +kernel
theorem dX6_nextCrossing_60 : decode cX6_nextCrossing 60 = .ok (.iload 6, 2) := by decide +kernel
theorem dX6_nextCrossing_62 : decode cX6_nextCrossing 62 = .ok (.ireturn, 1) := by decide +kernel
theorem dX6_nextCrossing_63 : decode cX6_nextCrossing 63 = .ok (.iinc 6 1, 3) := by decide +kernel
theorem dX6_nextCrossing_66 : decode cX6_nextCrossing 66 = .ok (.goto (-53), 3) := by decide +kernel
theorem dX6_nextCrossing_69 : decode cX6_nextCrossing 69 = .ok (.iconst (-1), 1) := by decide +kernel
theorem dX6_nextCrossing_70 : decode cX6_nextCrossing 70 = .ok (.ireturn, 1) := by decide +kernel
theorem dX6_wavesBy_0 : decode cX6_wavesBy 0 = .ok (.iconst 0, 1) := by decide +kernel
theorem dX6_wavesBy_1 : decode cX6_wavesBy 1 = .ok (.istore_n 2, 1) := by decide +kernel
theorem dX6_wavesBy_2 : decode cX6_wavesBy 2 = .ok (.iconst 0, 1) := by decide +kernel
theorem dX6_wavesBy_3 : decode cX6_wavesBy 3 = .ok (.istore_n 3, 1) := by decide +kernel
theorem dX6_wavesBy_4 : decode cX6_wavesBy 4 = .ok (.iload_n 3, 1) := by decide +kernel
theorem dX6_wavesBy_5 : decode cX6_wavesBy 5 = .ok (.aload_n 0, 1) := by decide +kernel
theorem dX6_wavesBy_6 : decode cX6_wavesBy 6 = .ok (.getfield 32, 3) := by decide +kernel
theorem dX6_wavesBy_9 : decode cX6_wavesBy 9 = .ok (.if_icmp .ge 78, 3) := by decide +kernel
theorem dX6_wavesBy_12 : decode cX6_wavesBy 12 = .ok (.iconst 0, 1) := by decide +kernel
theorem dX6_wavesBy_13 : decode cX6_wavesBy 13 = .ok (.istore 4, 2) := by decide +kernel
theorem dX6_wavesBy_15 : decode cX6_wavesBy 15 = .ok (.aload_n 0, 1) := by decide +kernel
theorem dX6_wavesBy_16 : decode cX6_wavesBy 16 = .ok (.iload_n 3, 1) := by decide +kernel
theorem dX6_wavesBy_17 : decode cX6_wavesBy 17 = .ok (.aload_n 0, 1) := by decide +kernel
theorem dX6_wavesBy_18 : decode cX6_wavesBy 18 = .ok (.getfield 23, 3) := by decide +kernel
theorem dX6_wavesBy_21 : decode cX6_wavesBy 21 = .ok (.iload_n 3, 1) := by decide +kernel
theorem dX6_wavesBy_22 : decode cX6_wavesBy 22 = .ok (.iaload, 1) := by decide +kernel
theorem dX6_wavesBy_23 : decode cX6_wavesBy 23 = .ok (.iload_n 1, 1) := by decide +kernel
theorem dX6_wavesBy_24 : decode cX6_wavesBy 24 = .ok (.invokevirtual 107, 3) := by decide +kernel
theorem dX6_wavesBy_27 : decode cX6_wavesBy 27 = .ok (.istore 5, 2) := by decide +kernel
theorem dX6_wavesBy_29 : decode cX6_wavesBy 29 = .ok (.iconst 0, 1) := by decide +kernel
theorem dX6_wavesBy_30 : decode cX6_wavesBy 30 = .ok (.istore 6, 2) := by decide +kernel
theorem dX6_wavesBy_32 : decode cX6_wavesBy 32 = .ok (.iload 6, 2) := by decide +kernel
theorem dX6_wavesBy_34 : decode cX6_wavesBy 34 = .ok (.aload_n 0, 1) := by decide +kernel
theorem dX6_wavesBy_35 : decode cX6_wavesBy 35 = .ok (.getfield 26, 3) := by decide +kernel
theorem dX6_wavesBy_38 : decode cX6_wavesBy 38 = .ok (.iload_n 3, 1) := by decide +kernel
theorem dX6_wavesBy_39 : decode cX6_wavesBy 39 = .ok (.iaload, 1) := by decide +kernel
theorem dX6_wavesBy_40 : decode cX6_wavesBy 40 = .ok (.if_icmp .ge 30, 3) := by decide +kernel
theorem dX6_wavesBy_43 : decode cX6_wavesBy 43 = .ok (.iload 5, 2) := by decide +kernel
theorem dX6_wavesBy_45 : decode cX6_wavesBy 45 = .ok (.iconst (-1), 1) := by decide +kernel
theorem dX6_wavesBy_46 : decode cX6_wavesBy 46 = .ok (.if_icmp .eq 24, 3) := by decide +kernel
theorem dX6_wavesBy_49 : decode cX6_wavesBy 49 = .ok (.iinc 4 1, 3) := by decide +kernel
theorem dX6_wavesBy_52 : decode cX6_wavesBy 52 = .ok (.aload_n 0, 1) := by decide +kernel
theorem dX6_wavesBy_53 : decode cX6_wavesBy 53 = .ok (.iload_n 3, 1) := by decide +kernel
theorem dX6_wavesBy_54 : decode cX6_wavesBy 54 = .ok (.iload 5, 2) := by decide +kernel
theorem dX6_wavesBy_56 : decode cX6_wavesBy 56 = .ok (.iconst 1, 1) := by decide +kernel
theorem dX6_wavesBy_57 : decode cX6_wavesBy 57 = .ok (.iadd, 1) := by decide +kernel
theorem dX6_wavesBy_58 : decode cX6_wavesBy 58 = .ok (.iload_n 1, 1) := by decide +kernel
theorem dX6_wavesBy_59 : decode cX6_wavesBy 59 = .ok (.invokevirtual 107, 3) := by decide +kernel
theorem dX6_wavesBy_62 : decode cX6_wavesBy 62 = .ok (.istore 5, 2) := by decide +kernel
theorem dX6_wavesBy_64 : decode cX6_wavesBy 64 = .ok (.iinc 6 1, 3) := by decide +kernel
theorem dX6_wavesBy_67 : decode cX6_wavesBy 67 = .ok (.goto (-35), 3) := by decide +kernel
theorem dX6_wavesBy_70 : decode cX6_wavesBy 70 = .ok (.iload_n 2, 1) := by decide +kernel
theorem dX6_wavesBy_71 : decode cX6_wavesBy 71 = .ok (.iconst 0, 1) := by decide +kernel
theorem dX6_wavesBy_72 : decode cX6_wavesBy 72 = .ok (.iload 4, 2) := by decide +kernel
theorem dX6_wavesBy_74 : decode cX6_wavesBy 74 = .ok (.iconst 1, 1) := by decide +kernel
theorem dX6_wavesBy_75 : decode cX6_wavesBy 75 = .ok (.isub, 1) := by decide +kernel
theorem dX6_wavesBy_76 : decode cX6_wavesBy 76 = .ok (.invokestatic 111, 3) := by decide +kernel
theorem dX6_wavesBy_79 : decode cX6_wavesBy 79 = .ok (.iadd, 1) := by decide +kernel
theorem dX6_wavesBy_80 : decode cX6_wavesBy 80 = .ok (.istore_n 2, 1) := by decide +kernel
theorem dX6_wavesBy_81 : decode cX6_wavesBy 81 = .ok (.iinc 3 1, 3) := by decide +kernel
theorem dX6_wavesBy_84 : decode cX6_wavesBy 84 = .ok (.goto (-80), 3) := by decide +kernel
theorem dX6_wavesBy_87 : decode cX6_wavesBy 87 = .ok (.iload_n 2, 1) := by decide +kernel
theorem dX6_wavesBy_88 : decode cX6_wavesBy 88 = .ok (.ireturn, 1) := by decide +kernel
theorem dX6_bandAgainst_0 : decode cX6_bandAgainst 0 = .ok (.aload_n 0, 1) := by decide +kernel
theorem dX6_bandAgainst_1 : decode cX6_bandAgainst 1 = .ok (.iload_n 1, 1) := by decide +kernel
theorem dX6_bandAgainst_2 : decode cX6_bandAgainst 2 = .ok (.iload_n 2, 1) := by decide +kernel
theorem dX6_bandAgainst_3 : decode cX6_bandAgainst 3 = .ok (.iload 4, 2) := by decide +kernel
theorem dX6_bandAgainst_5 : decode cX6_bandAgainst 5 = .ok (.invokevirtual 114, 3) := by decide +kernel
theorem dX6_bandAgainst_8 : decode cX6_bandAgainst 8 = .ok (.istore 5, 2) := by decide +kernel
theorem dX6_bandAgainst_10 : decode cX6_bandAgainst 10 = .ok (.iload_n 2, 1) := by decide +kernel
theorem dX6_bandAgainst_11 : decode cX6_bandAgainst 11 = .ok (.istore 6, 2) := by decide +kernel
theorem dX6_bandAgainst_13 : decode cX6_bandAgainst 13 = .ok (.iload 6, 2) := by decide +kernel
theorem dX6_bandAgainst_15 : decode cX6_bandAgainst 15 = .ok (.iload_n 3, 1) := by decide +kernel
theorem dX6_bandAgainst_16 : decode cX6_bandAgainst 16 = .ok (.if_icmp .ge 65, 3) := by decide +kernel
theorem dX6_bandAgainst_19 : decode cX6_bandAgainst 19 = .ok (.aload_n 0, 1) := by decide +kernel
theorem dX6_bandAgainst_20 : decode cX6_bandAgainst 20 = .ok (.getfield 16, 3) := by decide +kernel
theorem dX6_bandAgainst_23 : decode cX6_bandAgainst 23 = .ok (.iload 6, 2) := by decide +kernel
theorem dX6_bandAgainst_25 : decode cX6_bandAgainst 25 = .ok (.iaload, 1) := by decide +kernel
theorem dX6_bandAgainst_26 : decode cX6_bandAgainst 26 = .ok (.aload_n 0, 1) := by decide +kernel
theorem dX6_bandAgainst_27 : decode cX6_bandAgainst 27 = .ok (.getfield 29, 3) := by decide +kernel
theorem dX6_bandAgainst_30 : decode cX6_bandAgainst 30 = .ok (.iload_n 1, 1) := by decide +kernel
theorem dX6_bandAgainst_31 : decode cX6_bandAgainst 31 = .ok (.iaload, 1) := by decide +kernel
theorem dX6_bandAgainst_32 : decode cX6_bandAgainst 32 = .ok (.isub, 1) := by decide +kernel
theorem dX6_bandAgainst_33 : decode cX6_bandAgainst 33 = .ok (.istore 7, 2) := by decide +kernel
theorem dX6_bandAgainst_35 : decode cX6_bandAgainst 35 = .ok (.iload 7, 2) := by decide +kernel
theorem dX6_bandAgainst_37 : decode cX6_bandAgainst 37 = .ok (.iload 4, 2) := by decide +kernel
theorem dX6_bandAgainst_39 : decode cX6_bandAgainst 39 = .ok (.if_icmp .le 17, 3) := by decide +kernel
theorem dX6_bandAgainst_42 : decode cX6_bandAgainst 42 = .ok (.iload 5, 2) := by decide +kernel
theorem dX6_bandAgainst_44 : decode cX6_bandAgainst 44 = .ok (.ifCond .ge 12, 3) := by decide +kernel
theorem dX6_bandAgainst_47 : decode cX6_bandAgainst 47 = .ok (.iload 7, 2) := by decide +kernel
theorem dX6_bandAgainst_49 : decode cX6_bandAgainst 49 = .ok (.iload 5, 2) := by decide +kernel
theorem dX6_bandAgainst_51 : decode cX6_bandAgainst 51 = .ok (.ineg, 1) := by decide +kernel
theorem dX6_bandAgainst_52 : decode cX6_bandAgainst 52 = .ok (.invokestatic 101, 3) := by decide +kernel
theorem dX6_bandAgainst_55 : decode cX6_bandAgainst 55 = .ok (.ireturn, 1) := by decide +kernel
theorem dX6_bandAgainst_56 : decode cX6_bandAgainst 56 = .ok (.iload 7, 2) := by decide +kernel
theorem dX6_bandAgainst_58 : decode cX6_bandAgainst 58 = .ok (.iload 4, 2) := by decide +kernel
theorem dX6_bandAgainst_60 : decode cX6_bandAgainst 60 = .ok (.if_icmp .gt 11, 3) := by decide +kernel
theorem dX6_bandAgainst_63 : decode cX6_bandAgainst 63 = .ok (.iload 7, 2) := by decide +kernel
theorem dX6_bandAgainst_65 : decode cX6_bandAgainst 65 = .ok (.iload 4, 2) := by decide +kernel
theorem dX6_bandAgainst_67 : decode cX6_bandAgainst 67 = .ok (.ineg, 1) := by decide +kernel
theorem dX6_bandAgainst_68 : decode cX6_bandAgainst 68 = .ok (.if_icmp .ge 7, 3) := by decide +kernel
theorem dX6_bandAgainst_71 : decode cX6_bandAgainst 71 = .ok (.iload 7, 2) := by decide +kernel
theorem dX6_bandAgainst_73 : decode cX6_bandAgainst 73 = .ok (.istore 5, 2) := by decide +kernel
theorem dX6_bandAgainst_75 : decode cX6_bandAgainst 75 = .ok (.iinc 6 1, 3) := by decide +kernel
theorem dX6_bandAgainst_78 : decode cX6_bandAgainst 78 = .ok (.goto (-65), 3) := by decide +kernel
theorem dX6_bandAgainst_81 : decode cX6_bandAgainst 81 = .ok (.iload 4, 2) := by decide +kernel
theorem dX6_bandAgainst_83 : decode cX6_bandAgainst 83 = .ok (.ireturn, 1) := by decide +kernel
theorem dX6_latestOutside_0 : decode cX6_latestOutside 0 = .ok (.iload_n 2, 1) := by decide +kernel
theorem dX6_latestOutside_1 : decode cX6_latestOutside 1 = .ok (.iconst 1, 1) := by decide +kernel
theorem dX6_latestOutside_2 : decode cX6_latestOutside 2 = .ok (.isub, 1) := by decide +kernel
theorem dX6_latestOutside_3 : decode cX6_latestOutside 3 = .ok (.istore 4, 2) := by decide +kernel
theorem dX6_latestOutside_5 : decode cX6_latestOutside 5 = .ok (.iload 4, 2) := by decide +kernel
theorem dX6_latestOutside_7 : decode cX6_latestOutside 7 = .ok (.aload_n 0, 1) := by decide +kernel
theorem dX6_latestOutside_8 : decode cX6_latestOutside 8 = .ok (.getfield 23, 3) := by decide +kernel
theorem dX6_latestOutside_11 : decode cX6_latestOutside 11 = .ok (.iload_n 1, 1) := by decide +kernel
theorem dX6_latestOutside_12 : decode cX6_latestOutside 12 = .ok (.iaload, 1) := by decide +kernel
theorem dX6_latestOutside_13 : decode cX6_latestOutside 13 = .ok (.if_icmp .lt 41, 3) := by decide +kernel
theorem dX6_latestOutside_16 : decode cX6_latestOutside 16 = .ok (.aload_n 0, 1) := by decide +kernel
theorem dX6_latestOutside_17 : decode cX6_latestOutside 17 = .ok (.getfield 16, 3) := by decide +kernel
theorem dX6_latestOutside_20 : decode cX6_latestOutside 20 = .ok (.iload 4, 2) := by decide +kernel
theorem dX6_latestOutside_22 : decode cX6_latestOutside 22 = .ok (.iaload, 1) := by decide +kernel
theorem dX6_latestOutside_23 : decode cX6_latestOutside 23 = .ok (.aload_n 0, 1) := by decide +kernel
theorem dX6_latestOutside_24 : decode cX6_latestOutside 24 = .ok (.getfield 29, 3) := by decide +kernel
theorem dX6_latestOutside_27 : decode cX6_latestOutside 27 = .ok (.iload_n 1, 1) := by decide +kernel
theorem dX6_latestOutside_28 : decode cX6_latestOutside 28 = .ok (.iaload, 1) := by decide +kernel
theorem dX6_latestOutside_29 : decode cX6_latestOutside 29 = .ok (.isub, 1) := by decide +kernel
theorem dX6_latestOutside_30 : decode cX6_latestOutside 30 = .ok (.istore 5, 2) := by decide +kernel
theorem dX6_latestOutside_32 : decode cX6_latestOutside 32 = .ok (.iload 5, 2) := by decide +kernel
theorem dX6_latestOutside_34 : decode cX6_latestOutside 34 = .ok (.iload_n 3, 1) := by decide +kernel
theorem dX6_latestOutside_35 : decode cX6_latestOutside 35 = .ok (.if_icmp .gt 10, 3) := by decide +kernel
theorem dX6_latestOutside_38 : decode cX6_latestOutside 38 = .ok (.iload 5, 2) := by decide +kernel
theorem dX6_latestOutside_40 : decode cX6_latestOutside 40 = .ok (.iload_n 3, 1) := by decide +kernel
theorem dX6_latestOutside_41 : decode cX6_latestOutside 41 = .ok (.ineg, 1) := by decide +kernel
theorem dX6_latestOutside_42 : decode cX6_latestOutside 42 = .ok (.if_icmp .ge 6, 3) := by decide +kernel
theorem dX6_latestOutside_45 : decode cX6_latestOutside 45 = .ok (.iload 5, 2) := by decide +kernel
theorem dX6_latestOutside_47 : decode cX6_latestOutside 47 = .ok (.ireturn, 1) := by decide +kernel
theorem dX6_latestOutside_48 : decode cX6_latestOutside 48 = .ok (.iinc 4 (-1), 3) := by decide +kernel
theorem dX6_latestOutside_51 : decode cX6_latestOutside 51 = .ok (.goto (-46), 3) := by decide +kernel
theorem dX6_latestOutside_54 : decode cX6_latestOutside 54 = .ok (.iconst 0, 1) := by decide +kernel
theorem dX6_latestOutside_55 : decode cX6_latestOutside 55 = .ok (.ireturn, 1) := by decide +kernel
theorem dX7_init_0 : decode cX7_init 0 = .ok (.aload_n 0, 1) := by decide +kernel
theorem dX7_init_1 : decode cX7_init 1 = .ok (.invokespecial 3, 3) := by decide +kernel
theorem dX7_init_4 : decode cX7_init 4 = .ok (.aload_n 0, 1) := by decide +kernel
theorem dX7_init_5 : decode cX7_init 5 = .ok (.sipush 600, 3) := by decide +kernel
theorem dX7_init_8 : decode cX7_init 8 = .ok (.newarray .int, 2) := by decide +kernel
theorem dX7_init_10 : decode cX7_init 10 = .ok (.putfield 9, 3) := by decide +kernel
theorem dX7_init_13 : decode cX7_init 13 = .ok (.aload_n 0, 1) := by decide +kernel
theorem dX7_init_14 : decode cX7_init 14 = .ok (.sipush 300, 3) := by decide +kernel
theorem dX7_init_17 : decode cX7_init 17 = .ok (.newarray .int, 2) := by decide +kernel
theorem dX7_init_19 : decode cX7_init 19 = .ok (.putfield 15, 3) := by decide +kernel
theorem dX7_init_22 : decode cX7_init 22 = .ok (.aload_n 0, 1) := by decide +kernel
theorem dX7_init_23 : decode cX7_init 23 = .ok (.sipush 300, 3) := by decide +kernel
theorem dX7_init_26 : decode cX7_init 26 = .ok (.newarray .int, 2) := by decide +kernel
theorem dX7_init_28 : decode cX7_init 28 = .ok (.putfield 18, 3) := by decide +kernel
theorem dX7_init_31 : decode cX7_init 31 = .ok (.aload_n 0, 1) := by decide +kernel
theorem dX7_init_32 : decode cX7_init 32 = .ok (.sipush 300, 3) := by decide +kernel
theorem dX7_init_35 : decode cX7_init 35 = .ok (.newarray .int, 2) := by decide +kernel
theorem dX7_init_37 : decode cX7_init 37 = .ok (.putfield 21, 3) := by decide +kernel
theorem dX7_init_40 : decode cX7_init 40 = .ok (.aload_n 0, 1) := by decide +kernel
theorem dX7_init_41 : decode cX7_init 41 = .ok (.sipush 300, 3) := by decide +kernel
theorem dX7_init_44 : decode cX7_init 44 = .ok (.newarray .int, 2) := by decide +kernel
theorem dX7_init_46 : decode cX7_init 46 = .ok (.putfield 24, 3) := by decide +kernel
theorem dX7_init_49 : decode cX7_init 49 = .ok (.aload_n 0, 1) := by decide +kernel
theorem dX7_init_50 : decode cX7_init 50 = .ok (.sipush 300, 3) := by decide +kernel
theorem dX7_init_53 : decode cX7_init 53 = .ok (.newarray .int, 2) := by decide +kernel
theorem dX7_init_55 : decode cX7_init 55 = .ok (.putfield 27, 3) := by decide +kernel
theorem dX7_init_58 : decode cX7_init 58 = .ok (.aload_n 0, 1) := by decide +kernel
theorem dX7_init_59 : decode cX7_init 59 = .ok (.sipush 300, 3) := by decide +kernel
theorem dX7_init_62 : decode cX7_init 62 = .ok (.newarray .int, 2) := by decide +kernel
theorem dX7_init_64 : decode cX7_init 64 = .ok (.putfield 30, 3) := by decide +kernel
theorem dX7_init_67 : decode cX7_init 67 = .ok (.aload_n 0, 1) := by decide +kernel
theorem dX7_init_68 : decode cX7_init 68 = .ok (.sipush 300, 3) := by decide +kernel
theorem dX7_init_71 : decode cX7_init 71 = .ok (.newarray .int, 2) := by decide +kernel
theorem dX7_init_73 : decode cX7_init 73 = .ok (.putfield 33, 3) := by decide +kernel
theorem dX7_init_76 : decode cX7_init 76 = .ok (.aload_n 0, 1) := by decide +kernel
theorem dX7_init_77 : decode cX7_init 77 = .ok (.sipush 300, 3) := by decide +kernel
theorem dX7_init_80 : decode cX7_init 80 = .ok (.newarray .int, 2) := by decide +kernel
theorem dX7_init_82 : decode cX7_init 82 = .ok (.putfield 36, 3) := by decide +kernel
theorem dX7_init_85 : decode cX7_init 85 = .ok (.aload_n 0, 1) := by decide +kernel
theorem dX7_init_86 : decode cX7_init 86 = .ok (.sipush 300, 3) := by decide +kernel
theorem dX7_init_89 : decode cX7_init 89 = .ok (.newarray .int, 2) := by decide +kernel
theorem dX7_init_91 : decode cX7_init 91 = .ok (.putfield 39, 3) := by decide +kernel
theorem dX7_init_94 : decode cX7_init 94 = .ok (.return_, 1) := by decide +kernel
theorem dX7_has_0 : decode cX7_has 0 = .ok (.iload_n 1, 1) := by decide +kernel
theorem dX7_has_1 : decode cX7_has 1 = .ok (.ifCond .lt 15, 3) := by decide +kernel
theorem dX7_has_4 : decode cX7_has 4 = .ok (.iload_n 1, 1) := by decide +kernel
theorem dX7_has_5 : decode cX7_has 5 = .ok (.aload_n 0, 1) := by decide +kernel
theorem dX7_has_6 : decode cX7_has 6 = .ok (.getfield 42, 3) := by decide +kernel
theorem dX7_has_9 : decode cX7_has 9 = .ok (.if_icmp .ge 7, 3) := by decide +kernel
theorem dX7_has_12 : decode cX7_has 12 = .ok (.iconst 1, 1) := by decide +kernel
theorem dX7_has_13 : decode cX7_has 13 = .ok (.goto 4, 3) := by decide +kernel
theorem dX7_has_16 : decode cX7_has 16 = .ok (.iconst 0, 1) := by decide +kernel
theorem dX7_has_17 : decode cX7_has 17 = .ok (.ireturn, 1) := by decide +kernel
theorem dX7_endOf_0 : decode cX7_endOf 0 = .ok (.aload_n 0, 1) := by decide +kernel
theorem dX7_endOf_1 : decode cX7_endOf 1 = .ok (.getfield 15, 3) := by decide +kernel
theorem dX7_endOf_4 : decode cX7_endOf 4 = .ok (.iload_n 1, 1) := by decide +kernel
theorem dX7_endOf_5 : decode cX7_endOf 5 = .ok (.iaload, 1) := by decide +kernel
theorem dX7_endOf_6 : decode cX7_endOf 6 = .ok (.aload_n 0, 1) := by decide +kernel
theorem dX7_endOf_7 : decode cX7_endOf 7 = .ok (.getfield 18, 3) := by decide +kernel
theorem dX7_endOf_10 : decode cX7_endOf 10 = .ok (.iload_n 1, 1) := by decide +kernel
theorem dX7_endOf_11 : decode cX7_endOf 11 = .ok (.iaload, 1) := by decide +kernel
theorem dX7_endOf_12 : decode cX7_endOf 12 = .ok (.iadd, 1) := by decide +kernel
theorem dX7_endOf_13 : decode cX7_endOf 13 = .ok (.ireturn, 1) := by decide +kernel
theorem dX7_find_0 : decode cX7_find 0 = .ok (.aload_n 0, 1) := by decide +kernel
theorem dX7_find_1 : decode cX7_find 1 = .ok (.iconst 0, 1) := by decide +kernel
theorem dX7_find_2 : decode cX7_find 2 = .ok (.putfield 42, 3) := by decide +kernel
theorem dX7_find_5 : decode cX7_find 5 = .ok (.iconst 0, 1) := by decide +kernel
theorem dX7_find_6 : decode cX7_find 6 = .ok (.istore 4, 2) := by decide +kernel
theorem dX7_find_8 : decode cX7_find 8 = .ok (.iload 4, 2) := by decide +kernel
theorem dX7_find_10 : decode cX7_find 10 = .ok (.iload_n 2, 1) := by decide +kernel
theorem dX7_find_11 : decode cX7_find 11 = .ok (.if_icmp .ge 17, 3) := by decide +kernel
theorem dX7_find_14 : decode cX7_find 14 = .ok (.aload_n 0, 1) := by decide +kernel
theorem dX7_find_15 : decode cX7_find 15 = .ok (.getfield 9, 3) := by decide +kernel
theorem dX7_find_18 : decode cX7_find 18 = .ok (.iload 4, 2) := by decide +kernel
theorem dX7_find_20 : decode cX7_find 20 = .ok (.iconst (-1), 1) := by decide +kernel
theorem dX7_find_21 : decode cX7_find 21 = .ok (.iastore, 1) := by decide +kernel
theorem dX7_find_22 : decode cX7_find 22 = .ok (.iinc 4 1, 3) := by decide +kernel
theorem dX7_find_25 : decode cX7_find 25 = .ok (.goto (-17), 3) := by decide +kernel
theorem dX7_find_28 : decode cX7_find 28 = .ok (.iconst 0, 1) := by decide +kernel
theorem dX7_find_29 : decode cX7_find 29 = .ok (.istore 4, 2) := by decide +kernel
theorem dX7_find_31 : decode cX7_find 31 = .ok (.iload 4, 2) := by decide +kernel
theorem dX7_find_33 : decode cX7_find 33 = .ok (.aload_n 1, 1) := by decide +kernel
theorem dX7_find_34 : decode cX7_find 34 = .ok (.getfield 46, 3) := by decide +kernel
theorem dX7_find_37 : decode cX7_find 37 = .ok (.if_icmp .ge 17, 3) := by decide +kernel
theorem dX7_find_40 : decode cX7_find 40 = .ok (.aload_n 0, 1) := by decide +kernel
theorem dX7_find_41 : decode cX7_find 41 = .ok (.aload_n 1, 1) := by decide +kernel
theorem dX7_find_42 : decode cX7_find 42 = .ok (.iload 4, 2) := by decide +kernel
theorem dX7_find_44 : decode cX7_find 44 = .ok (.iload_n 3, 1) := by decide +kernel
theorem dX7_find_45 : decode cX7_find 45 = .ok (.invokevirtual 49, 3) := by decide +kernel
theorem dX7_find_48 : decode cX7_find 48 = .ok (.iinc 4 1, 3) := by decide +kernel
theorem dX7_find_51 : decode cX7_find 51 = .ok (.goto (-20), 3) := by decide +kernel
theorem dX7_find_54 : decode cX7_find 54 = .ok (.return_, 1) := by decide +kernel
theorem dX7_findIn_0 : decode cX7_findIn 0 = .ok (.aload_n 1, 1) := by decide +kernel
theorem dX7_findIn_1 : decode cX7_findIn 1 = .ok (.getfield 53, 3) := by decide +kernel
theorem dX7_findIn_4 : decode cX7_findIn 4 = .ok (.iload_n 2, 1) := by decide +kernel
theorem dX7_findIn_5 : decode cX7_findIn 5 = .ok (.iaload, 1) := by decide +kernel
theorem dX7_findIn_6 : decode cX7_findIn 6 = .ok (.istore 4, 2) := by decide +kernel
theorem dX7_findIn_8 : decode cX7_findIn 8 = .ok (.aload_n 1, 1) := by decide +kernel
theorem dX7_findIn_9 : decode cX7_findIn 9 = .ok (.iload_n 2, 1) := by decide +kernel
theorem dX7_findIn_10 : decode cX7_findIn 10 = .ok (.invokevirtual 54, 3) := by decide +kernel
theorem dX7_findIn_13 : decode cX7_findIn 13 = .ok (.istore 5, 2) := by decide +kernel
theorem dX7_findIn_15 : decode cX7_findIn 15 = .ok (.aload_n 0, 1) := by decide +kernel
theorem dX7_findIn_16 : decode cX7_findIn 16 = .ok (.getfield 42, 3) := by decide +kernel
theorem dX7_findIn_19 : decode cX7_findIn 19 = .ok (.istore 6, 2) := by decide +kernel
theorem dX7_findIn_21 : decode cX7_findIn 21 = .ok (.aload_n 1, 1) := by decide +kernel
theorem dX7_findIn_22 : decode cX7_findIn 22 = .ok (.iload_n 2, 1) := by decide +kernel
theorem dX7_findIn_23 : decode cX7_findIn 23 = .ok (.iload 4, 2) := by decide +kernel
theorem dX7_findIn_25 : decode cX7_findIn 25 = .ok (.iload_n 3, 1) := by decide +kernel
theorem dX7_findIn_26 : decode cX7_findIn 26 = .ok (.invokevirtual 58, 3) := by decide +kernel
theorem dX7_findIn_29 : decode cX7_findIn 29 = .ok (.istore 7, 2) := by decide +kernel
theorem dX7_findIn_31 : decode cX7_findIn 31 = .ok (.aload_n 0, 1) := by decide +kernel
theorem dX7_findIn_32 : decode cX7_findIn 32 = .ok (.getfield 36, 3) := by decide +kernel
theorem dX7_findIn_35 : decode cX7_findIn 35 = .ok (.iload_n 2, 1) := by decide +kernel
theorem dX7_findIn_36 : decode cX7_findIn 36 = .ok (.iload 7, 2) := by decide +kernel
theorem dX7_findIn_38 : decode cX7_findIn 38 = .ok (.iconst (-1), 1) := by decide +kernel
theorem dX7_findIn_39 : decode cX7_findIn 39 = .ok (.if_icmp .ne 11, 3) := by decide +kernel
theorem dX7_findIn_42 : decode cX7_findIn 42 = .ok (.iload 5, 2) := by decide +kernel
theorem dX7_findIn_44 : decode cX7_findIn 44 = .ok (.iload 4, 2) := by decide +kernel
theorem dX7_findIn_46 : decode cX7_findIn 46 = .ok (.isub, 1) := by decide +kernel
theorem dX7_findIn_47 : decode cX7_findIn 47 = .ok (.goto 8, 3) := by decide +kernel
theorem dX7_findIn_50 : decode cX7_findIn 50 = .ok (.iload 7, 2) := by decide +kernel
theorem dX7_findIn_52 : decode cX7_findIn 52 = .ok (.iload 4, 2) := by decide +kernel
theorem dX7_findIn_54 : decode cX7_findIn 54 = .ok (.isub, 1) := by decide +kernel
theorem dX7_findIn_55 : decode cX7_findIn 55 = .ok (.iastore, 1) := by decide +kernel
theorem dX7_findIn_56 : decode cX7_findIn 56 = .ok (.aload_n 0, 1) := by decide +kernel
theorem dX7_findIn_57 : decode cX7_findIn 57 = .ok (.getfield 39, 3) := by decide +kernel
theorem dX7_findIn_60 : decode cX7_findIn 60 = .ok (.iload_n 2, 1) := by decide +kernel
theorem dX7_findIn_61 : decode cX7_findIn 61 = .ok (.iconst 0, 1) := by decide +kernel
theorem dX7_findIn_62 : decode cX7_findIn 62 = .ok (.iastore, 1) := by decide +kernel
theorem dX7_findIn_63 : decode cX7_findIn 63 = .ok (.iload 4, 2) := by decide +kernel
theorem dX7_findIn_65 : decode cX7_findIn 65 = .ok (.istore 8, 2) := by decide +kernel
theorem dX7_findIn_67 : decode cX7_findIn 67 = .ok (.iload 8, 2) := by decide +kernel
theorem dX7_findIn_69 : decode cX7_findIn 69 = .ok (.iload 5, 2) := by decide +kernel
theorem dX7_findIn_71 : decode cX7_findIn 71 = .ok (.if_icmp .ge 61, 3) := by decide +kernel
theorem dX7_findIn_74 : decode cX7_findIn 74 = .ok (.iload 7, 2) := by decide +kernel
theorem dX7_findIn_76 : decode cX7_findIn 76 = .ok (.iconst (-1), 1) := by decide +kernel
theorem dX7_findIn_77 : decode cX7_findIn 77 = .ok (.if_icmp .eq 55, 3) := by decide +kernel
theorem dX7_findIn_80 : decode cX7_findIn 80 = .ok (.aload_n 1, 1) := by decide +kernel
theorem dX7_findIn_81 : decode cX7_findIn 81 = .ok (.iload_n 2, 1) := by decide +kernel
theorem dX7_findIn_82 : decode cX7_findIn 82 = .ok (.iload 7, 2) := by decide +kernel
theorem dX7_findIn_84 : decode cX7_findIn 84 = .ok (.iconst 1, 1) := by decide +kernel
theorem dX7_findIn_85 : decode cX7_findIn 85 = .ok (.iadd, 1) := by decide +kernel
theorem dX7_findIn_86 : decode cX7_findIn 86 = .ok (.iload_n 3, 1) := by decide +kernel
theorem dX7_findIn_87 : decode cX7_findIn 87 = .ok (.invokevirtual 58, 3) := by decide +kernel
theorem dX7_findIn_90 : decode cX7_findIn 90 = .ok (.istore 9, 2) := by decide +kernel
theorem dX7_findIn_92 : decode cX7_findIn 92 = .ok (.iload 9, 2) := by decide +kernel
theorem dX7_findIn_94 : decode cX7_findIn 94 = .ok (.iconst (-1), 1) := by decide +kernel
theorem dX7_findIn_95 : decode cX7_findIn 95 = .ok (.if_icmp .ne 17, 3) := by decide +kernel
theorem dX7_findIn_98 : decode cX7_findIn 98 = .ok (.aload_n 0, 1) := by decide +kernel
theorem dX7_findIn_99 : decode cX7_findIn 99 = .ok (.getfield 39, 3) := by decide +kernel
theorem dX7_findIn_102 : decode cX7_findIn 102 = .ok (.iload_n 2, 1) := by decide +kernel
theorem dX7_findIn_103 : decode cX7_findIn 103 = .ok (.iload 5, 2) := by decide +kernel
theorem dX7_findIn_105 : decode cX7_findIn 105 = .ok (.iload 7, 2) := by decide +kernel
theorem dX7_findIn_107 : decode cX7_findIn 107 = .ok (.isub, 1) := by decide +kernel
theorem dX7_findIn_108 : decode cX7_findIn 108 = .ok (.iastore, 1) := by decide +kernel
theorem dX7_findIn_109 : decode cX7_findIn 109 = .ok (.goto 13, 3) := by decide +kernel
theorem dX7_findIn_112 : decode cX7_findIn 112 = .ok (.aload_n 0, 1) := by decide +kernel
theorem dX7_findIn_113 : decode cX7_findIn 113 = .ok (.aload_n 1, 1) := by decide +kernel
theorem dX7_findIn_114 : decode cX7_findIn 114 = .ok (.iload_n 2, 1) := by decide +kernel
theorem dX7_findIn_115 : decode cX7_findIn 115 = .ok (.iload 7, 2) := by decide +kernel
theorem dX7_findIn_117 : decode cX7_findIn 117 = .ok (.iload 9, 2) := by decide +kernel
theorem dX7_findIn_119 : decode cX7_findIn 119 = .ok (.invokevirtual 62, 3) := by decide +kernel
theorem dX7_findIn_122 : decode cX7_findIn 122 = .ok (.iload 9, 2) := by decide +kernel
theorem dX7_findIn_124 : decode cX7_findIn 124 = .ok (.istore 7, 2) := by decide +kernel
theorem dX7_findIn_126 : decode cX7_findIn 126 = .ok (.iinc 8 1, 3) := by decide +kernel
theorem dX7_findIn_129 : decode cX7_findIn 129 = .ok (.goto (-62), 3) := by decide +kernel
theorem dX7_findIn_132 : decode cX7_findIn 132 = .ok (.aload_n 0, 1) := by decide +kernel
theorem dX7_findIn_133 : decode cX7_findIn 133 = .ok (.getfield 33, 3) := by decide +kernel
theorem dX7_findIn_136 : decode cX7_findIn 136 = .ok (.iload_n 2, 1) := by decide +kernel
theorem dX7_findIn_137 : decode cX7_findIn 137 = .ok (.aload_n 0, 1) := by decide +kernel
theorem dX7_findIn_138 : decode cX7_findIn 138 = .ok (.getfield 42, 3) := by decide +kernel
theorem dX7_findIn_141 : decode cX7_findIn 141 = .ok (.iload 6, 2) := by decide +kernel
theorem dX7_findIn_143 : decode cX7_findIn 143 = .ok (.isub, 1) := by decide +kernel
theorem dX7_findIn_144 : decode cX7_findIn 144 = .ok (.iastore, 1) := by decide +kernel
theorem dX7_findIn_145 : decode cX7_findIn 145 = .ok (.return_, 1) := by decide +kernel
theorem dX7_add_0 : decode cX7_add 0 = .ok (.aload_n 0, 1) := by decide +kernel
theorem dX7_add_1 : decode cX7_add 1 = .ok (.getfield 42, 3) := by decide +kernel
theorem dX7_add_4 : decode cX7_add 4 = .ok (.aload_n 0, 1) := by decide +kernel
theorem dX7_add_5 : decode cX7_add 5 = .ok (.getfield 15, 3) := by decide +kernel
theorem dX7_add_8 : decode cX7_add 8 = .ok (.arraylength, 1) := by decide +kernel
theorem dX7_add_9 : decode cX7_add 9 = .ok (.if_icmp .lt 4, 3) := by decide +kernel
theorem dX7_add_12 : decode cX7_add 12 = .ok (.return_, 1) := by decide +kernel
theorem dX7_add_13 : decode cX7_add 13 = .ok (.aload_n 1, 1) := by decide +kernel
theorem dX7_add_14 : decode cX7_add 14 = .ok (.iload_n 3, 1) := by decide +kernel
theorem dX7_add_15 : decode cX7_add 15 = .ok (.iload 4, 2) := by decide +kernel
theorem dX7_add_17 : decode cX7_add 17 = .ok (.invokevirtual 66, 3) := by decide +kernel
theorem dX7_add_20 : decode cX7_add 20 = .ok (.istore 5, 2) := by decide +kernel
theorem dX7_add_22 : decode cX7_add 22 = .ok (.aload_n 0, 1) := by decide +kernel
theorem dX7_add_23 : decode cX7_add 23 = .ok (.getfield 15, 3) := by decide +kernel
theorem dX7_add_26 : decode cX7_add 26 = .ok (.aload_n 0, 1) := by decide +kernel
theorem dX7_add_27 : decode cX7_add 27 = .ok (.getfield 42, 3) := by decide +kernel
theorem dX7_add_30 : decode cX7_add 30 = .ok (.iload_n 3, 1) := by decide +kernel
theorem dX7_add_31 : decode cX7_add 31 = .ok (.iastore, 1) := by decide +kernel
theorem dX7_add_32 : decode cX7_add 32 = .ok (.aload_n 0, 1) := by decide +kernel
theorem dX7_add_33 : decode cX7_add 33 = .ok (.getfield 18, 3) := by decide +kernel
theorem dX7_add_36 : decode cX7_add 36 = .ok (.aload_n 0, 1) := by decide +kernel
theorem dX7_add_37 : decode cX7_add 37 = .ok (.getfield 42, 3) := by decide +kernel
theorem dX7_add_40 : decode cX7_add 40 = .ok (.iload 4, 2) := by decide +kernel
theorem dX7_add_42 : decode cX7_add 42 = .ok (.iload_n 3, 1) := by decide +kernel
theorem dX7_add_43 : decode cX7_add 43 = .ok (.isub, 1) := by decide +kernel
theorem dX7_add_44 : decode cX7_add 44 = .ok (.iastore, 1) := by decide +kernel
theorem dX7_add_45 : decode cX7_add 45 = .ok (.aload_n 0, 1) := by decide +kernel
theorem dX7_add_46 : decode cX7_add 46 = .ok (.getfield 21, 3) := by decide +kernel
theorem dX7_add_49 : decode cX7_add 49 = .ok (.aload_n 0, 1) := by decide +kernel
theorem dX7_add_50 : decode cX7_add 50 = .ok (.getfield 42, 3) := by decide +kernel
theorem dX7_add_53 : decode cX7_add 53 = .ok (.aload_n 1, 1) := by decide +kernel
theorem dX7_add_54 : decode cX7_add 54 = .ok (.getfield 70, 3) := by decide +kernel
theorem dX7_add_57 : decode cX7_add 57 = .ok (.iload 5, 2) := by decide +kernel
theorem dX7_add_59 : decode cX7_add 59 = .ok (.iaload, 1) := by decide +kernel
theorem dX7_add_60 : decode cX7_add 60 = .ok (.aload_n 1, 1) := by decide +kernel
theorem dX7_add_61 : decode cX7_add 61 = .ok (.iload_n 3, 1) := by decide +kernel
theorem dX7_add_62 : decode cX7_add 62 = .ok (.iload 4, 2) := by decide +kernel
theorem dX7_add_64 : decode cX7_add 64 = .ok (.invokevirtual 73, 3) := by decide +kernel
theorem dX7_add_67 : decode cX7_add 67 = .ok (.isub, 1) := by decide +kernel
theorem dX7_add_68 : decode cX7_add 68 = .ok (.iastore, 1) := by decide +kernel
theorem dX7_add_69 : decode cX7_add 69 = .ok (.aload_n 0, 1) := by decide +kernel
theorem dX7_add_70 : decode cX7_add 70 = .ok (.getfield 24, 3) := by decide +kernel
theorem dX7_add_73 : decode cX7_add 73 = .ok (.aload_n 0, 1) := by decide +kernel
theorem dX7_add_74 : decode cX7_add 74 = .ok (.getfield 42, 3) := by decide +kernel
theorem dX7_add_77 : decode cX7_add 77 = .ok (.aload_n 1, 1) := by decide +kernel
theorem dX7_add_78 : decode cX7_add 78 = .ok (.getfield 70, 3) := by decide +kernel
theorem dX7_add_81 : decode cX7_add 81 = .ok (.iload 5, 2) := by decide +kernel
theorem dX7_add_83 : decode cX7_add 83 = .ok (.iaload, 1) := by decide +kernel
theorem dX7_add_84 : decode cX7_add 84 = .ok (.aload_n 1, 1) := by decide +kernel
theorem dX7_add_85 : decode cX7_add 85 = .ok (.getfield 76, 3) := by decide +kernel
theorem dX7_add_88 : decode cX7_add 88 = .ok (.iload_n 2, 1) := by decide +kernel
theorem dX7_add_89 : decode cX7_add 89 = .ok (.iaload, 1) := by decide +kernel
theorem dX7_add_90 : decode cX7_add 90 = .ok (.isub, 1) := by decide +kernel
theorem dX7_add_91 : decode cX7_add 91 = .ok (.iastore, 1) := by decide +kernel
theorem dX7_add_92 : decode cX7_add 92 = .ok (.aload_n 0, 1) := by decide +kernel
theorem dX7_add_93 : decode cX7_add 93 = .ok (.getfield 27, 3) := by decide +kernel
theorem dX7_add_96 : decode cX7_add 96 = .ok (.aload_n 0, 1) := by decide +kernel
theorem dX7_add_97 : decode cX7_add 97 = .ok (.getfield 42, 3) := by decide +kernel
theorem dX7_add_100 : decode cX7_add 100 = .ok (.iload 5, 2) := by decide +kernel
theorem dX7_add_102 : decode cX7_add 102 = .ok (.iastore, 1) := by decide +kernel
theorem dX7_add_103 : decode cX7_add 103 = .ok (.aload_n 0, 1) := by decide +kernel
theorem dX7_add_104 : decode cX7_add 104 = .ok (.getfield 30, 3) := by decide +kernel
theorem dX7_add_107 : decode cX7_add 107 = .ok (.aload_n 0, 1) := by decide +kernel
theorem dX7_add_108 : decode cX7_add 108 = .ok (.getfield 42, 3) := by decide +kernel
theorem dX7_add_111 : decode cX7_add 111 = .ok (.iload_n 2, 1) := by decide +kernel
theorem dX7_add_112 : decode cX7_add 112 = .ok (.iastore, 1) := by decide +kernel
theorem dX7_add_113 : decode cX7_add 113 = .ok (.iload_n 3, 1) := by decide +kernel
theorem dX7_add_114 : decode cX7_add 114 = .ok (.istore 6, 2) := by decide +kernel
theorem dX7_add_116 : decode cX7_add 116 = .ok (.iload 6, 2) := by decide +kernel
theorem dX7_add_118 : decode cX7_add 118 = .ok (.iload 4, 2) := by decide +kernel
theorem dX7_add_120 : decode cX7_add 120 = .ok (.if_icmp .ge 20, 3) := by decide +kernel
theorem dX7_add_123 : decode cX7_add 123 = .ok (.aload_n 0, 1) := by decide +kernel
theorem dX7_add_124 : decode cX7_add 124 = .ok (.getfield 9, 3) := by decide +kernel
theorem dX7_add_127 : decode cX7_add 127 = .ok (.iload 6, 2) := by decide +kernel
theorem dX7_add_129 : decode cX7_add 129 = .ok (.aload_n 0, 1) := by decide +kernel
theorem dX7_add_130 : decode cX7_add 130 = .ok (.getfield 42, 3) := by decide +kernel
theorem dX7_add_133 : decode cX7_add 133 = .ok (.iastore, 1) := by decide +kernel
theorem dX7_add_134 : decode cX7_add 134 = .ok (.iinc 6 1, 3) := by decide +kernel
theorem dX7_add_137 : decode cX7_add 137 = .ok (.goto (-21), 3) := by decide +kernel
theorem dX7_add_140 : decode cX7_add 140 = .ok (.aload_n 0, 1) := by decide +kernel
theorem dX7_add_141 : decode cX7_add 141 = .ok (.dup, 1) := by decide +kernel
theorem dX7_add_142 : decode cX7_add 142 = .ok (.getfield 42, 3) := by decide +kernel
theorem dX7_add_145 : decode cX7_add 145 = .ok (.iconst 1, 1) := by decide +kernel
theorem dX7_add_146 : decode cX7_add 146 = .ok (.iadd, 1) := by decide +kernel
theorem dX7_add_147 : decode cX7_add 147 = .ok (.putfield 42, 3) := by decide +kernel
theorem dX7_add_150 : decode cX7_add 150 = .ok (.return_, 1) := by decide +kernel
theorem dX7_periodsFrom_0 : decode cX7_periodsFrom 0 = .ok (.iconst 0, 1) := by decide +kernel
theorem dX7_periodsFrom_1 : decode cX7_periodsFrom 1 = .ok (.istore_n 3, 1) := by decide +kernel
theorem dX7_periodsFrom_2 : decode cX7_periodsFrom 2 = .ok (.iload_n 1, 1) := by decide +kernel
theorem dX7_periodsFrom_3 : decode cX7_periodsFrom 3 = .ok (.istore 4, 2) := by decide +kernel
theorem dX7_periodsFrom_5 : decode cX7_periodsFrom 5 = .ok (.iload 4, 2) := by decide +kernel
theorem dX7_periodsFrom_7 : decode cX7_periodsFrom 7 = .ok (.iload_n 2, 1) := by decide +kernel
theorem dX7_periodsFrom_8 : decode cX7_periodsFrom 8 = .ok (.if_icmp .ge 19, 3) := by decide +kernel
theorem dX7_periodsFrom_11 : decode cX7_periodsFrom 11 = .ok (.iload_n 3, 1) := by decide +kernel
theorem dX7_periodsFrom_12 : decode cX7_periodsFrom 12 = .ok (.aload_n 0, 1) := by decide +kernel
theorem dX7_periodsFrom_13 : decode cX7_periodsFrom 13 = .ok (.getfield 18, 3) := by decide +kernel
theorem dX7_periodsFrom_16 : decode cX7_periodsFrom 16 = .ok (.iload 4, 2) := by decide +kernel
theorem dX7_periodsFrom_18 : decode cX7_periodsFrom 18 = .ok (.iaload, 1) := by decide +kernel
theorem dX7_periodsFrom_19 : decode cX7_periodsFrom 19 = .ok (.iadd, 1) := by decide +kernel
theorem dX7_periodsFrom_20 : decode cX7_periodsFrom 20 = .ok (.istore_n 3, 1) := by decide +kernel
theorem dX7_periodsFrom_21 : decode cX7_periodsFrom 21 = .ok (.iinc 4 1, 3) := by decide +kernel
theorem dX7_periodsFrom_24 : decode cX7_periodsFrom 24 = .ok (.goto (-19), 3) := by decide +kernel
theorem dX7_periodsFrom_27 : decode cX7_periodsFrom 27 = .ok (.iload_n 3, 1) := by decide +kernel
theorem dX7_periodsFrom_28 : decode cX7_periodsFrom 28 = .ok (.ireturn, 1) := by decide +kernel
theorem dX7_squaresFrom_0 : decode cX7_squaresFrom 0 = .ok (.lconst 0, 1) := by decide +kernel
theorem dX7_squaresFrom_1 : decode cX7_squaresFrom 1 = .ok (.lstore_n 3, 1) := by decide +kernel
theorem dX7_squaresFrom_2 : decode cX7_squaresFrom 2 = .ok (.iload_n 1, 1) := by decide +kernel
theorem dX7_squaresFrom_3 : decode cX7_squaresFrom 3 = .ok (.istore 5, 2) := by decide +kernel
theorem dX7_squaresFrom_5 : decode cX7_squaresFrom 5 = .ok (.iload 5, 2) := by decide +kernel
theorem dX7_squaresFrom_7 : decode cX7_squaresFrom 7 = .ok (.iload_n 2, 1) := by decide +kernel
theorem dX7_squaresFrom_8 : decode cX7_squaresFrom 8 = .ok (.if_icmp .ge 29, 3) := by decide +kernel
theorem dX7_squaresFrom_11 : decode cX7_squaresFrom 11 = .ok (.lload_n 3, 1) := by decide +kernel
theorem dX7_squaresFrom_12 : decode cX7_squaresFrom 12 = .ok (.aload_n 0, 1) := by decide +kernel
theorem dX7_squaresFrom_13 : decode cX7_squaresFrom 13 = .ok (.getfield 21, 3) := by decide +kernel
theorem dX7_squaresFrom_16 : decode cX7_squaresFrom 16 = .ok (.iload 5, 2) := by decide +kernel
theorem dX7_squaresFrom_18 : decode cX7_squaresFrom 18 = .ok (.iaload, 1) := by decide +kernel
theorem dX7_squaresFrom_19 : decode cX7_squaresFrom 19 = .ok (.i2l, 1) := by decide +kernel
theorem dX7_squaresFrom_20 : decode cX7_squaresFrom 20 = .ok (.aload_n 0, 1) := by decide +kernel
theorem dX7_squaresFrom_21 : decode cX7_squaresFrom 21 = .ok (.getfield 21, 3) := by decide +kernel
theorem dX7_squaresFrom_24 : decode cX7_squaresFrom 24 = .ok (.iload 5, 2) := by decide +kernel
theorem dX7_squaresFrom_26 : decode cX7_squaresFrom 26 = .ok (.iaload, 1) := by decide +kernel
theorem dX7_squaresFrom_27 : decode cX7_squaresFrom 27 = .ok (.i2l, 1) := by decide +kernel
theorem dX7_squaresFrom_28 : decode cX7_squaresFrom 28 = .ok (.lmul, 1) := by decide +kernel
theorem dX7_squaresFrom_29 : decode cX7_squaresFrom 29 = .ok (.ladd, 1) := by decide +kernel
theorem dX7_squaresFrom_30 : decode cX7_squaresFrom 30 = .ok (.lstore_n 3, 1) := by decide +kernel
theorem dX7_squaresFrom_31 : decode cX7_squaresFrom 31 = .ok (.iinc 5 1, 3) := by decide +kernel
theorem dX7_squaresFrom_34 : decode cX7_squaresFrom 34 = .ok (.goto (-29), 3) := by decide +kernel
theorem dX7_squaresFrom_37 : decode cX7_squaresFrom 37 = .ok (.lload_n 3, 1) := by decide +kernel
theorem dX7_squaresFrom_38 : decode cX7_squaresFrom 38 = .ok (.lreturn, 1) := by decide +kernel
theorem dX8_init_0 : decode cX8_init 0 = .ok (.aload_n 0, 1) := by decide +kernel
theorem dX8_init_1 : decode cX8_init 1 = .ok (.invokespecial 1, 3) := by decide +kernel
theorem dX8_init_4 : decode cX8_init 4 = .ok (.aload_n 0, 1) := by decide +kernel
theorem dX8_init_5 : decode cX8_init 5 = .ok (.new 7, 3) := by decide +kernel
theorem dX8_init_8 : decode cX8_init 8 = .ok (.dup, 1) := by decide +kernel
theorem dX8_init_9 : decode cX8_init 9 = .ok (.invokespecial 9, 3) := by decide +kernel
theorem dX8_init_12 : decode cX8_init 12 = .ok (.putfield 10, 3) := by decide +kernel
theorem dX8_init_15 : decode cX8_init 15 = .ok (.aload_n 0, 1) := by decide +kernel
theorem dX8_init_16 : decode cX8_init 16 = .ok (.new 16, 3) := by decide +kernel
theorem dX8_init_19 : decode cX8_init 19 = .ok (.dup, 1) := by decide +kernel
theorem dX8_init_20 : decode cX8_init 20 = .ok (.invokespecial 18, 3) := by decide +kernel
theorem dX8_init_23 : decode cX8_init 23 = .ok (.putfield 19, 3) := by decide +kernel
theorem dX8_init_26 : decode cX8_init 26 = .ok (.aload_n 0, 1) := by decide +kernel
theorem dX8_init_27 : decode cX8_init 27 = .ok (.new 23, 3) := by decide +kernel
theorem dX8_init_30 : decode cX8_init 30 = .ok (.dup, 1) := by decide +kernel
theorem dX8_init_31 : decode cX8_init 31 = .ok (.invokespecial 25, 3) := by decide +kernel
theorem dX8_init_34 : decode cX8_init 34 = .ok (.putfield 26, 3) := by decide +kernel
theorem dX8_init_37 : decode cX8_init 37 = .ok (.aload_n 0, 1) := by decide +kernel
theorem dX8_init_38 : decode cX8_init 38 = .ok (.new 30, 3) := by decide +kernel
theorem dX8_init_41 : decode cX8_init 41 = .ok (.dup, 1) := by decide +kernel
theorem dX8_init_42 : decode cX8_init 42 = .ok (.invokespecial 32, 3) := by decide +kernel
theorem dX8_init_45 : decode cX8_init 45 = .ok (.putfield 33, 3) := by decide +kernel
theorem dX8_init_48 : decode cX8_init 48 = .ok (.aload_n 0, 1) := by decide +kernel
theorem dX8_init_49 : decode cX8_init 49 = .ok (.new 37, 3) := by decide +kernel
theorem dX8_init_52 : decode cX8_init 52 = .ok (.dup, 1) := by decide +kernel
theorem dX8_init_53 : decode cX8_init 53 = .ok (.invokespecial 39, 3) := by decide +kernel
theorem dX8_init_56 : decode cX8_init 56 = .ok (.putfield 40, 3) := by decide +kernel
theorem dX8_init_59 : decode cX8_init 59 = .ok (.aload_n 0, 1) := by decide +kernel
theorem dX8_init_60 : decode cX8_init 60 = .ok (.new 44, 3) := by decide +kernel
theorem dX8_init_63 : decode cX8_init 63 = .ok (.dup, 1) := by decide +kernel
theorem dX8_init_64 : decode cX8_init 64 = .ok (.invokespecial 46, 3) := by decide +kernel
theorem dX8_init_67 : decode cX8_init 67 = .ok (.putfield 47, 3) := by decide +kernel
theorem dX8_init_70 : decode cX8_init 70 = .ok (.aload_n 0, 1) := by decide +kernel
theorem dX8_init_71 : decode cX8_init 71 = .ok (.new 51, 3) := by decide +kernel
theorem dX8_init_74 : decode cX8_init 74 = .ok (.dup, 1) := by decide +kernel
theorem dX8_init_75 : decode cX8_init 75 = .ok (.invokespecial 53, 3) := by decide +kernel
theorem dX8_init_78 : decode cX8_init 78 = .ok (.putfield 54, 3) := by decide +kernel
theorem dX8_init_81 : decode cX8_init 81 = .ok (.aload_n 0, 1) := by decide +kernel
theorem dX8_init_82 : decode cX8_init 82 = .ok (.new 58, 3) := by decide +kernel
theorem dX8_init_85 : decode cX8_init 85 = .ok (.dup, 1) := by decide +kernel
theorem dX8_init_86 : decode cX8_init 86 = .ok (.invokespecial 60, 3) := by decide +kernel
theorem dX8_init_89 : decode cX8_init 89 = .ok (.putfield 61, 3) := by decide +kernel
theorem dX8_init_92 : decode cX8_init 92 = .ok (.aload_n 0, 1) := by decide +kernel
theorem dX8_init_93 : decode cX8_init 93 = .ok (.iconst 1, 1) := by decide +kernel
theorem dX8_init_94 : decode cX8_init 94 = .ok (.putfield 65, 3) := by decide +kernel
theorem dX8_init_97 : decode cX8_init 97 = .ok (.return_, 1) := by decide +kernel
theorem dX8_heave_0 : decode cX8_heave 0 = .ok (.iload_n 1, 1) := by decide +kernel
theorem dX8_heave_1 : decode cX8_heave 1 = .ok (.invokestatic 69, 3) := by decide +kernel
theorem dX8_heave_4 : decode cX8_heave 4 = .ok (.ifCond .eq 14, 3) := by decide +kernel
theorem dX8_heave_7 : decode cX8_heave 7 = .ok (.aload_n 0, 1) := by decide +kernel
theorem dX8_heave_8 : decode cX8_heave 8 = .ok (.getfield 26, 3) := by decide +kernel
theorem dX8_heave_11 : decode cX8_heave 11 = .ok (.invokevirtual 73, 3) := by decide +kernel
theorem dX8_heave_14 : decode cX8_heave 14 = .ok (.iconst 1, 1) := by decide +kernel
theorem dX8_heave_15 : decode cX8_heave 15 = .ok (.if_icmp .ge 5, 3) := by decide +kernel
theorem dX8_heave_18 : decode cX8_heave 18 = .ok (.iconst (-1), 1) := by decide +kernel
theorem dX8_heave_19 : decode cX8_heave 19 = .ok (.ireturn, 1) := by decide +kernel
theorem dX8_heave_20 : decode cX8_heave 20 = .ok (.aload_n 0, 1) := by decide +kernel
theorem dX8_heave_21 : decode cX8_heave 21 = .ok (.getfield 26, 3) := by decide +kernel
theorem dX8_heave_24 : decode cX8_heave 24 = .ok (.iload_n 1, 1) := by decide +kernel
theorem dX8_heave_25 : decode cX8_heave 25 = .ok (.invokevirtual 77, 3) := by decide +kernel
theorem dX8_heave_28 : decode cX8_heave 28 = .ok (.aload_n 0, 1) := by decide +kernel
theorem dX8_heave_29 : decode cX8_heave 29 = .ok (.iconst 1, 1) := by decide +kernel
theorem dX8_heave_30 : decode cX8_heave 30 = .ok (.putfield 65, 3) := by decide +kernel
theorem dX8_heave_33 : decode cX8_heave 33 = .ok (.aload_n 0, 1) := by decide +kernel
theorem dX8_heave_34 : decode cX8_heave 34 = .ok (.getfield 26, 3) := by decide +kernel
theorem dX8_heave_37 : decode cX8_heave 37 = .ok (.getfield 81, 3) := by decide +kernel
theorem dX8_heave_40 : decode cX8_heave 40 = .ok (.ireturn, 1) := by decide +kernel
theorem dX8_four_0 : decode cX8_four 0 = .ok (.lload_n 1, 1) := by decide +kernel
theorem dX8_four_1 : decode cX8_four 1 = .ok (.bipush 48, 2) := by decide +kernel
theorem dX8_four_3 : decode cX8_four 3 = .ok (.lshr, 1) := by decide +kernel
theorem dX8_four_4 : decode cX8_four 4 = .ok (.l2i, 1) := by decide +kernel
theorem dX8_four_5 : decode cX8_four 5 = .ok (.i2s, 1) := by decide +kernel
theorem dX8_four_6 : decode cX8_four 6 = .ok (.istore_n 3, 1) := by decide +kernel
theorem dX8_four_7 : decode cX8_four 7 = .ok (.lload_n 1, 1) := by decide +kernel
theorem dX8_four_8 : decode cX8_four 8 = .ok (.bipush 32, 2) := by decide +kernel
theorem dX8_four_10 : decode cX8_four 10 = .ok (.lshr, 1) := by decide +kernel
theorem dX8_four_11 : decode cX8_four 11 = .ok (.l2i, 1) := by decide +kernel
theorem dX8_four_12 : decode cX8_four 12 = .ok (.i2s, 1) := by decide +kernel
theorem dX8_four_13 : decode cX8_four 13 = .ok (.istore 4, 2) := by decide +kernel
theorem dX8_four_15 : decode cX8_four 15 = .ok (.lload_n 1, 1) := by decide +kernel
theorem dX8_four_16 : decode cX8_four 16 = .ok (.bipush 16, 2) := by decide +kernel
theorem dX8_four_18 : decode cX8_four 18 = .ok (.lshr, 1) := by decide +kernel
theorem dX8_four_19 : decode cX8_four 19 = .ok (.l2i, 1) := by decide +kernel
theorem dX8_four_20 : decode cX8_four 20 = .ok (.i2s, 1) := by decide +kernel
theorem dX8_four_21 : decode cX8_four 21 = .ok (.istore 5, 2) := by decide +kernel
theorem dX8_four_23 : decode cX8_four 23 = .ok (.lload_n 1, 1) := by decide +kernel
theorem dX8_four_24 : decode cX8_four 24 = .ok (.l2i, 1) := by decide +kernel
theorem dX8_four_25 : decode cX8_four 25 = .ok (.i2s, 1) := by decide +kernel
theorem dX8_four_26 : decode cX8_four 26 = .ok (.istore 6, 2) := by decide +kernel
theorem dX8_four_28 : decode cX8_four 28 = .ok (.iload_n 3, 1) := by decide +kernel
theorem dX8_four_29 : decode cX8_four 29 = .ok (.invokestatic 69, 3) := by decide +kernel
theorem dX8_four_32 : decode cX8_four 32 = .ok (.ifCond .eq 31, 3) := by decide +kernel
theorem dX8_four_35 : decode cX8_four 35 = .ok (.iload 4, 2) := by decide +kernel
theorem dX8_four_37 : decode cX8_four 37 = .ok (.invokestatic 69, 3) := by decide +kernel
theorem dX8_four_40 : decode cX8_four 40 = .ok (.ifCond .eq 23, 3) := by decide +kernel
theorem dX8_four_43 : decode cX8_four 43 = .ok (.iload 5, 2) := by decide +kernel
theorem dX8_four_45 : decode cX8_four 45 = .ok (.invokestatic 69, 3) := by decide +kernel
theorem dX8_four_48 : decode cX8_four 48 = .ok (.ifCond .eq 15, 3) := by decide +kernel
theorem dX8_four_51 : decode cX8_four 51 = .ok (.iload 6, 2) := by decide +kernel
theorem dX8_four_53 : decode cX8_four 53 = .ok (.invokestatic 69, 3) := by decide +kernel
theorem dX8_four_56 : decode cX8_four 56 = .ok (.ifCond .eq 7, 3) := by decide +kernel
theorem dX8_four_59 : decode cX8_four 59 = .ok (.iconst 1, 1) := by decide +kernel
theorem dX8_four_60 : decode cX8_four 60 = .ok (.goto 4, 3) := by decide +kernel
