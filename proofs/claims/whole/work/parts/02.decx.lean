theorem dX0_init_0 : decode cX0_init 0 = .ok (.aload_n 0, 1) := by decide +kernel
theorem dX0_init_1 : decode cX0_init 1 = .ok (.invokespecial 3, 3) := by decide +kernel
theorem dX0_init_4 : decode cX0_init 4 = .ok (.aload_n 0, 1) := by decide +kernel
theorem dX0_init_5 : decode cX0_init 5 = .ok (.iconst 0, 1) := by decide +kernel
theorem dX0_init_6 : decode cX0_init 6 = .ok (.putfield 9, 3) := by decide +kernel
theorem dX0_init_9 : decode cX0_init 9 = .ok (.aload_n 0, 1) := by decide +kernel
theorem dX0_init_10 : decode cX0_init 10 = .ok (.iconst 0, 1) := by decide +kernel
theorem dX0_init_11 : decode cX0_init 11 = .ok (.putfield 15, 3) := by decide +kernel
theorem dX0_init_14 : decode cX0_init 14 = .ok (.aload_n 0, 1) := by decide +kernel
theorem dX0_init_15 : decode cX0_init 15 = .ok (.iconst (-1), 1) := by decide +kernel
theorem dX0_init_16 : decode cX0_init 16 = .ok (.putfield 18, 3) := by decide +kernel
theorem dX0_init_19 : decode cX0_init 19 = .ok (.aload_n 0, 1) := by decide +kernel
theorem dX0_init_20 : decode cX0_init 20 = .ok (.iconst (-1), 1) := by decide +kernel
theorem dX0_init_21 : decode cX0_init 21 = .ok (.putfield 21, 3) := by decide +kernel
theorem dX0_init_24 : decode cX0_init 24 = .ok (.aload_n 0, 1) := by decide +kernel
theorem dX0_init_25 : decode cX0_init 25 = .ok (.iconst (-1), 1) := by decide +kernel
theorem dX0_init_26 : decode cX0_init 26 = .ok (.putfield 24, 3) := by decide +kernel
theorem dX0_init_29 : decode cX0_init 29 = .ok (.aload_n 0, 1) := by decide +kernel
theorem dX0_init_30 : decode cX0_init 30 = .ok (.aload_n 1, 1) := by decide +kernel
theorem dX0_init_31 : decode cX0_init 31 = .ok (.putfield 27, 3) := by decide +kernel
theorem dX0_init_34 : decode cX0_init 34 = .ok (.aload_n 0, 1) := by decide +kernel
theorem dX0_init_35 : decode cX0_init 35 = .ok (.aload_n 2, 1) := by decide +kernel
theorem dX0_init_36 : decode cX0_init 36 = .ok (.putfield 31, 3) := by decide +kernel
theorem dX0_init_39 : decode cX0_init 39 = .ok (.return_, 1) := by decide +kernel
theorem dX0_seekWarmest_0 : decode cX0_seekWarmest 0 = .ok (.aload_n 0, 1) := by decide +kernel
theorem dX0_seekWarmest_1 : decode cX0_seekWarmest 1 = .ok (.iconst (-1), 1) := by decide +kernel
theorem dX0_seekWarmest_2 : decode cX0_seekWarmest 2 = .ok (.putfield 9, 3) := by decide +kernel
theorem dX0_seekWarmest_5 : decode cX0_seekWarmest 5 = .ok (.aload_n 0, 1) := by decide +kernel
theorem dX0_seekWarmest_6 : decode cX0_seekWarmest 6 = .ok (.iconst 0, 1) := by decide +kernel
theorem dX0_seekWarmest_7 : decode cX0_seekWarmest 7 = .ok (.putfield 15, 3) := by decide +kernel
theorem dX0_seekWarmest_10 : decode cX0_seekWarmest 10 = .ok (.aload_n 0, 1) := by decide +kernel
theorem dX0_seekWarmest_11 : decode cX0_seekWarmest 11 = .ok (.getfield 31, 3) := by decide +kernel
theorem dX0_seekWarmest_14 : decode cX0_seekWarmest 14 = .ok (.invokevirtual 35, 3) := by decide +kernel
theorem dX0_seekWarmest_17 : decode cX0_seekWarmest 17 = .ok (.aload_n 0, 1) := by decide +kernel
theorem dX0_seekWarmest_18 : decode cX0_seekWarmest 18 = .ok (.iconst 0, 1) := by decide +kernel
theorem dX0_seekWarmest_19 : decode cX0_seekWarmest 19 = .ok (.aload_n 0, 1) := by decide +kernel
theorem dX0_seekWarmest_20 : decode cX0_seekWarmest 20 = .ok (.getfield 27, 3) := by decide +kernel
theorem dX0_seekWarmest_23 : decode cX0_seekWarmest 23 = .ok (.iload_n 1, 1) := by decide +kernel
theorem dX0_seekWarmest_24 : decode cX0_seekWarmest 24 = .ok (.invokevirtual 40, 3) := by decide +kernel
theorem dX0_seekWarmest_27 : decode cX0_seekWarmest 27 = .ok (.ifCond .eq 15, 3) := by decide +kernel
theorem dX0_seekWarmest_30 : decode cX0_seekWarmest 30 = .ok (.aload_n 0, 1) := by decide +kernel
theorem dX0_seekWarmest_31 : decode cX0_seekWarmest 31 = .ok (.getfield 27, 3) := by decide +kernel
theorem dX0_seekWarmest_34 : decode cX0_seekWarmest 34 = .ok (.getfield 46, 3) := by decide +kernel
theorem dX0_seekWarmest_37 : decode cX0_seekWarmest 37 = .ok (.iconst 1, 1) := by decide +kernel
theorem dX0_seekWarmest_38 : decode cX0_seekWarmest 38 = .ok (.isub, 1) := by decide +kernel
theorem dX0_seekWarmest_39 : decode cX0_seekWarmest 39 = .ok (.goto 10, 3) := by decide +kernel
theorem dX0_seekWarmest_42 : decode cX0_seekWarmest 42 = .ok (.aload_n 0, 1) := by decide +kernel
theorem dX0_seekWarmest_43 : decode cX0_seekWarmest 43 = .ok (.getfield 27, 3) := by decide +kernel
theorem dX0_seekWarmest_46 : decode cX0_seekWarmest 46 = .ok (.getfield 46, 3) := by decide +kernel
theorem dX0_seekWarmest_49 : decode cX0_seekWarmest 49 = .ok (.iload_n 1, 1) := by decide +kernel
theorem dX0_seekWarmest_50 : decode cX0_seekWarmest 50 = .ok (.invokevirtual 49, 3) := by decide +kernel
theorem dX0_seekWarmest_53 : decode cX0_seekWarmest 53 = .ok (.return_, 1) := by decide +kernel
theorem dX0_seekWarmestBehind_0 : decode cX0_seekWarmestBehind 0 = .ok (.iload_n 1, 1) := by decide +kernel
theorem dX0_seekWarmestBehind_1 : decode cX0_seekWarmestBehind 1 = .ok (.iload_n 2, 1) := by decide +kernel
theorem dX0_seekWarmestBehind_2 : decode cX0_seekWarmestBehind 2 = .ok (.if_icmp .lt 40, 3) := by decide +kernel
theorem dX0_seekWarmestBehind_5 : decode cX0_seekWarmestBehind 5 = .ok (.aload_n 0, 1) := by decide +kernel
theorem dX0_seekWarmestBehind_6 : decode cX0_seekWarmestBehind 6 = .ok (.getfield 31, 3) := by decide +kernel
theorem dX0_seekWarmestBehind_9 : decode cX0_seekWarmestBehind 9 = .ok (.invokevirtual 53, 3) := by decide +kernel
theorem dX0_seekWarmestBehind_12 : decode cX0_seekWarmestBehind 12 = .ok (.aload_n 0, 1) := by decide +kernel
theorem dX0_seekWarmestBehind_13 : decode cX0_seekWarmestBehind 13 = .ok (.getfield 9, 3) := by decide +kernel
theorem dX0_seekWarmestBehind_16 : decode cX0_seekWarmestBehind 16 = .ok (.if_icmp .le 25, 3) := by decide +kernel
theorem dX0_seekWarmestBehind_19 : decode cX0_seekWarmestBehind 19 = .ok (.aload_n 0, 1) := by decide +kernel
theorem dX0_seekWarmestBehind_20 : decode cX0_seekWarmestBehind 20 = .ok (.aload_n 0, 1) := by decide +kernel
theorem dX0_seekWarmestBehind_21 : decode cX0_seekWarmestBehind 21 = .ok (.getfield 31, 3) := by decide +kernel
theorem dX0_seekWarmestBehind_24 : decode cX0_seekWarmestBehind 24 = .ok (.invokevirtual 53, 3) := by decide +kernel
theorem dX0_seekWarmestBehind_27 : decode cX0_seekWarmestBehind 27 = .ok (.putfield 9, 3) := by decide +kernel
theorem dX0_seekWarmestBehind_30 : decode cX0_seekWarmestBehind 30 = .ok (.aload_n 0, 1) := by decide +kernel
theorem dX0_seekWarmestBehind_31 : decode cX0_seekWarmestBehind 31 = .ok (.aload_n 0, 1) := by decide +kernel
theorem dX0_seekWarmestBehind_32 : decode cX0_seekWarmestBehind 32 = .ok (.getfield 31, 3) := by decide +kernel
theorem dX0_seekWarmestBehind_35 : decode cX0_seekWarmestBehind 35 = .ok (.invokevirtual 57, 3) := by decide +kernel
theorem dX0_seekWarmestBehind_38 : decode cX0_seekWarmestBehind 38 = .ok (.putfield 15, 3) := by decide +kernel
theorem dX0_seekWarmestBehind_41 : decode cX0_seekWarmestBehind 41 = .ok (.return_, 1) := by decide +kernel
theorem dX0_seekWarmestBehind_42 : decode cX0_seekWarmestBehind 42 = .ok (.iconst 0, 1) := by decide +kernel
theorem dX0_seekWarmestBehind_43 : decode cX0_seekWarmestBehind 43 = .ok (.istore 4, 2) := by decide +kernel
theorem dX0_seekWarmestBehind_45 : decode cX0_seekWarmestBehind 45 = .ok (.iload 4, 2) := by decide +kernel
theorem dX0_seekWarmestBehind_47 : decode cX0_seekWarmestBehind 47 = .ok (.aload_n 0, 1) := by decide +kernel
theorem dX0_seekWarmestBehind_48 : decode cX0_seekWarmestBehind 48 = .ok (.getfield 27, 3) := by decide +kernel
theorem dX0_seekWarmestBehind_51 : decode cX0_seekWarmestBehind 51 = .ok (.getfield 46, 3) := by decide +kernel
theorem dX0_seekWarmestBehind_54 : decode cX0_seekWarmestBehind 54 = .ok (.if_icmp .ge 43, 3) := by decide +kernel
theorem dX0_seekWarmestBehind_57 : decode cX0_seekWarmestBehind 57 = .ok (.iload 4, 2) := by decide +kernel
theorem dX0_seekWarmestBehind_59 : decode cX0_seekWarmestBehind 59 = .ok (.iload_n 3, 1) := by decide +kernel
theorem dX0_seekWarmestBehind_60 : decode cX0_seekWarmestBehind 60 = .ok (.if_icmp .eq 31, 3) := by decide +kernel
theorem dX0_seekWarmestBehind_63 : decode cX0_seekWarmestBehind 63 = .ok (.aload_n 0, 1) := by decide +kernel
theorem dX0_seekWarmestBehind_64 : decode cX0_seekWarmestBehind 64 = .ok (.getfield 31, 3) := by decide +kernel
theorem dX0_seekWarmestBehind_67 : decode cX0_seekWarmestBehind 67 = .ok (.iload 4, 2) := by decide +kernel
theorem dX0_seekWarmestBehind_69 : decode cX0_seekWarmestBehind 69 = .ok (.invokevirtual 60, 3) := by decide +kernel
theorem dX0_seekWarmestBehind_72 : decode cX0_seekWarmestBehind 72 = .ok (.ifCond .eq 19, 3) := by decide +kernel
theorem dX0_seekWarmestBehind_75 : decode cX0_seekWarmestBehind 75 = .ok (.aload_n 0, 1) := by decide +kernel
theorem dX0_seekWarmestBehind_76 : decode cX0_seekWarmestBehind 76 = .ok (.iload_n 1, 1) := by decide +kernel
theorem dX0_seekWarmestBehind_77 : decode cX0_seekWarmestBehind 77 = .ok (.iconst 1, 1) := by decide +kernel
theorem dX0_seekWarmestBehind_78 : decode cX0_seekWarmestBehind 78 = .ok (.iadd, 1) := by decide +kernel
theorem dX0_seekWarmestBehind_79 : decode cX0_seekWarmestBehind 79 = .ok (.iload_n 2, 1) := by decide +kernel
theorem dX0_seekWarmestBehind_80 : decode cX0_seekWarmestBehind 80 = .ok (.iload_n 3, 1) := by decide +kernel
theorem dX0_seekWarmestBehind_81 : decode cX0_seekWarmestBehind 81 = .ok (.invokevirtual 49, 3) := by decide +kernel
theorem dX0_seekWarmestBehind_84 : decode cX0_seekWarmestBehind 84 = .ok (.aload_n 0, 1) := by decide +kernel
theorem dX0_seekWarmestBehind_85 : decode cX0_seekWarmestBehind 85 = .ok (.getfield 31, 3) := by decide +kernel
theorem dX0_seekWarmestBehind_88 : decode cX0_seekWarmestBehind 88 = .ok (.invokevirtual 63, 3) := by decide +kernel
theorem dX0_seekWarmestBehind_91 : decode cX0_seekWarmestBehind 91 = .ok (.iinc 4 1, 3) := by decide +kernel
theorem dX0_seekWarmestBehind_94 : decode cX0_seekWarmestBehind 94 = .ok (.goto (-49), 3) := by decide +kernel
theorem dX0_seekWarmestBehind_97 : decode cX0_seekWarmestBehind 97 = .ok (.return_, 1) := by decide +kernel
theorem dX0_seekSoonest_0 : decode cX0_seekSoonest 0 = .ok (.aload_n 0, 1) := by decide +kernel
theorem dX0_seekSoonest_1 : decode cX0_seekSoonest 1 = .ok (.iconst (-1), 1) := by decide +kernel
theorem dX0_seekSoonest_2 : decode cX0_seekSoonest 2 = .ok (.putfield 15, 3) := by decide +kernel
theorem dX0_seekSoonest_5 : decode cX0_seekSoonest 5 = .ok (.aload_n 0, 1) := by decide +kernel
theorem dX0_seekSoonest_6 : decode cX0_seekSoonest 6 = .ok (.iconst (-1), 1) := by decide +kernel
theorem dX0_seekSoonest_7 : decode cX0_seekSoonest 7 = .ok (.putfield 18, 3) := by decide +kernel
theorem dX0_seekSoonest_10 : decode cX0_seekSoonest 10 = .ok (.aload_n 0, 1) := by decide +kernel
theorem dX0_seekSoonest_11 : decode cX0_seekSoonest 11 = .ok (.iconst (-1), 1) := by decide +kernel
theorem dX0_seekSoonest_12 : decode cX0_seekSoonest 12 = .ok (.putfield 21, 3) := by decide +kernel
theorem dX0_seekSoonest_15 : decode cX0_seekSoonest 15 = .ok (.aload_n 0, 1) := by decide +kernel
theorem dX0_seekSoonest_16 : decode cX0_seekSoonest 16 = .ok (.getfield 31, 3) := by decide +kernel
theorem dX0_seekSoonest_19 : decode cX0_seekSoonest 19 = .ok (.invokevirtual 35, 3) := by decide +kernel
theorem dX0_seekSoonest_22 : decode cX0_seekSoonest 22 = .ok (.aload_n 0, 1) := by decide +kernel
theorem dX0_seekSoonest_23 : decode cX0_seekSoonest 23 = .ok (.iconst 0, 1) := by decide +kernel
theorem dX0_seekSoonest_24 : decode cX0_seekSoonest 24 = .ok (.invokevirtual 66, 3) := by decide +kernel
theorem dX0_seekSoonest_27 : decode cX0_seekSoonest 27 = .ok (.return_, 1) := by decide +kernel
theorem dX0_seekSoonestBehind_0 : decode cX0_seekSoonestBehind 0 = .ok (.iconst 0, 1) := by decide +kernel
theorem dX0_seekSoonestBehind_1 : decode cX0_seekSoonestBehind 1 = .ok (.istore_n 2, 1) := by decide +kernel
theorem dX0_seekSoonestBehind_2 : decode cX0_seekSoonestBehind 2 = .ok (.iload_n 2, 1) := by decide +kernel
theorem dX0_seekSoonestBehind_3 : decode cX0_seekSoonestBehind 3 = .ok (.aload_n 0, 1) := by decide +kernel
theorem dX0_seekSoonestBehind_4 : decode cX0_seekSoonestBehind 4 = .ok (.getfield 27, 3) := by decide +kernel
theorem dX0_seekSoonestBehind_7 : decode cX0_seekSoonestBehind 7 = .ok (.getfield 46, 3) := by decide +kernel
theorem dX0_seekSoonestBehind_10 : decode cX0_seekSoonestBehind 10 = .ok (.if_icmp .ge 86, 3) := by decide +kernel
theorem dX0_seekSoonestBehind_13 : decode cX0_seekSoonestBehind 13 = .ok (.aload_n 0, 1) := by decide +kernel
theorem dX0_seekSoonestBehind_14 : decode cX0_seekSoonestBehind 14 = .ok (.iload_n 1, 1) := by decide +kernel
theorem dX0_seekSoonestBehind_15 : decode cX0_seekSoonestBehind 15 = .ok (.invokevirtual 70, 3) := by decide +kernel
theorem dX0_seekSoonestBehind_18 : decode cX0_seekSoonestBehind 18 = .ok (.ifCond .eq 78, 3) := by decide +kernel
theorem dX0_seekSoonestBehind_21 : decode cX0_seekSoonestBehind 21 = .ok (.aload_n 0, 1) := by decide +kernel
theorem dX0_seekSoonestBehind_22 : decode cX0_seekSoonestBehind 22 = .ok (.getfield 31, 3) := by decide +kernel
theorem dX0_seekSoonestBehind_25 : decode cX0_seekSoonestBehind 25 = .ok (.iload_n 2, 1) := by decide +kernel
theorem dX0_seekSoonestBehind_26 : decode cX0_seekSoonestBehind 26 = .ok (.invokevirtual 60, 3) := by decide +kernel
theorem dX0_seekSoonestBehind_29 : decode cX0_seekSoonestBehind 29 = .ok (.ifCond .ne 6, 3) := by decide +kernel
theorem dX0_seekSoonestBehind_32 : decode cX0_seekSoonestBehind 32 = .ok (.goto 58, 3) := by decide +kernel
theorem dX0_seekSoonestBehind_35 : decode cX0_seekSoonestBehind 35 = .ok (.aload_n 0, 1) := by decide +kernel
theorem dX0_seekSoonestBehind_36 : decode cX0_seekSoonestBehind 36 = .ok (.getfield 31, 3) := by decide +kernel
theorem dX0_seekSoonestBehind_39 : decode cX0_seekSoonestBehind 39 = .ok (.invokevirtual 73, 3) := by decide +kernel
theorem dX0_seekSoonestBehind_42 : decode cX0_seekSoonestBehind 42 = .ok (.iconst (-1), 1) := by decide +kernel
theorem dX0_seekSoonestBehind_43 : decode cX0_seekSoonestBehind 43 = .ok (.if_icmp .ne 13, 3) := by decide +kernel
theorem dX0_seekSoonestBehind_46 : decode cX0_seekSoonestBehind 46 = .ok (.aload_n 0, 1) := by decide +kernel
theorem dX0_seekSoonestBehind_47 : decode cX0_seekSoonestBehind 47 = .ok (.iload_n 1, 1) := by decide +kernel
theorem dX0_seekSoonestBehind_48 : decode cX0_seekSoonestBehind 48 = .ok (.iconst 1, 1) := by decide +kernel
theorem dX0_seekSoonestBehind_49 : decode cX0_seekSoonestBehind 49 = .ok (.iadd, 1) := by decide +kernel
theorem dX0_seekSoonestBehind_50 : decode cX0_seekSoonestBehind 50 = .ok (.invokevirtual 66, 3) := by decide +kernel
theorem dX0_seekSoonestBehind_53 : decode cX0_seekSoonestBehind 53 = .ok (.goto 30, 3) := by decide +kernel
theorem dX0_seekSoonestBehind_56 : decode cX0_seekSoonestBehind 56 = .ok (.aload_n 0, 1) := by decide +kernel
theorem dX0_seekSoonestBehind_57 : decode cX0_seekSoonestBehind 57 = .ok (.iload_n 1, 1) := by decide +kernel
theorem dX0_seekSoonestBehind_58 : decode cX0_seekSoonestBehind 58 = .ok (.putfield 18, 3) := by decide +kernel
theorem dX0_seekSoonestBehind_61 : decode cX0_seekSoonestBehind 61 = .ok (.aload_n 0, 1) := by decide +kernel
theorem dX0_seekSoonestBehind_62 : decode cX0_seekSoonestBehind 62 = .ok (.aload_n 0, 1) := by decide +kernel
theorem dX0_seekSoonestBehind_63 : decode cX0_seekSoonestBehind 63 = .ok (.getfield 31, 3) := by decide +kernel
theorem dX0_seekSoonestBehind_66 : decode cX0_seekSoonestBehind 66 = .ok (.invokevirtual 57, 3) := by decide +kernel
theorem dX0_seekSoonestBehind_69 : decode cX0_seekSoonestBehind 69 = .ok (.putfield 21, 3) := by decide +kernel
theorem dX0_seekSoonestBehind_72 : decode cX0_seekSoonestBehind 72 = .ok (.aload_n 0, 1) := by decide +kernel
theorem dX0_seekSoonestBehind_73 : decode cX0_seekSoonestBehind 73 = .ok (.aload_n 0, 1) := by decide +kernel
theorem dX0_seekSoonestBehind_74 : decode cX0_seekSoonestBehind 74 = .ok (.getfield 31, 3) := by decide +kernel
theorem dX0_seekSoonestBehind_77 : decode cX0_seekSoonestBehind 77 = .ok (.invokevirtual 76, 3) := by decide +kernel
theorem dX0_seekSoonestBehind_80 : decode cX0_seekSoonestBehind 80 = .ok (.putfield 15, 3) := by decide +kernel
theorem dX0_seekSoonestBehind_83 : decode cX0_seekSoonestBehind 83 = .ok (.aload_n 0, 1) := by decide +kernel
theorem dX0_seekSoonestBehind_84 : decode cX0_seekSoonestBehind 84 = .ok (.getfield 31, 3) := by decide +kernel
theorem dX0_seekSoonestBehind_87 : decode cX0_seekSoonestBehind 87 = .ok (.invokevirtual 63, 3) := by decide +kernel
theorem dX0_seekSoonestBehind_90 : decode cX0_seekSoonestBehind 90 = .ok (.iinc 2 1, 3) := by decide +kernel
theorem dX0_seekSoonestBehind_93 : decode cX0_seekSoonestBehind 93 = .ok (.goto (-91), 3) := by decide +kernel
theorem dX0_seekSoonestBehind_96 : decode cX0_seekSoonestBehind 96 = .ok (.return_, 1) := by decide +kernel
theorem dX0_isSooner_0 : decode cX0_isSooner 0 = .ok (.iload_n 1, 1) := by decide +kernel
theorem dX0_isSooner_1 : decode cX0_isSooner 1 = .ok (.aload_n 0, 1) := by decide +kernel
theorem dX0_isSooner_2 : decode cX0_isSooner 2 = .ok (.getfield 27, 3) := by decide +kernel
theorem dX0_isSooner_5 : decode cX0_isSooner 5 = .ok (.getfield 46, 3) := by decide +kernel
theorem dX0_isSooner_8 : decode cX0_isSooner 8 = .ok (.if_icmp .ge 23, 3) := by decide +kernel
theorem dX0_isSooner_11 : decode cX0_isSooner 11 = .ok (.aload_n 0, 1) := by decide +kernel
theorem dX0_isSooner_12 : decode cX0_isSooner 12 = .ok (.getfield 18, 3) := by decide +kernel
theorem dX0_isSooner_15 : decode cX0_isSooner 15 = .ok (.iconst (-1), 1) := by decide +kernel
theorem dX0_isSooner_16 : decode cX0_isSooner 16 = .ok (.if_icmp .eq 11, 3) := by decide +kernel
theorem dX0_isSooner_19 : decode cX0_isSooner 19 = .ok (.iload_n 1, 1) := by decide +kernel
theorem dX0_isSooner_20 : decode cX0_isSooner 20 = .ok (.aload_n 0, 1) := by decide +kernel
theorem dX0_isSooner_21 : decode cX0_isSooner 21 = .ok (.getfield 18, 3) := by decide +kernel
theorem dX0_isSooner_24 : decode cX0_isSooner 24 = .ok (.if_icmp .ge 7, 3) := by decide +kernel
theorem dX0_isSooner_27 : decode cX0_isSooner 27 = .ok (.iconst 1, 1) := by decide +kernel
theorem dX0_isSooner_28 : decode cX0_isSooner 28 = .ok (.goto 4, 3) := by decide +kernel
theorem dX0_isSooner_31 : decode cX0_isSooner 31 = .ok (.iconst 0, 1) := by decide +kernel
theorem dX0_isSooner_32 : decode cX0_isSooner 32 = .ok (.ireturn, 1) := by decide +kernel
theorem dX0_seekByTurns_0 : decode cX0_seekByTurns 0 = .ok (.aload_n 0, 1) := by decide +kernel
theorem dX0_seekByTurns_1 : decode cX0_seekByTurns 1 = .ok (.iconst (-1), 1) := by decide +kernel
theorem dX0_seekByTurns_2 : decode cX0_seekByTurns 2 = .ok (.putfield 24, 3) := by decide +kernel
theorem dX0_seekByTurns_5 : decode cX0_seekByTurns 5 = .ok (.aload_n 0, 1) := by decide +kernel
theorem dX0_seekByTurns_6 : decode cX0_seekByTurns 6 = .ok (.getfield 31, 3) := by decide +kernel
theorem dX0_seekByTurns_9 : decode cX0_seekByTurns 9 = .ok (.invokevirtual 35, 3) := by decide +kernel
theorem dX0_seekByTurns_12 : decode cX0_seekByTurns 12 = .ok (.aload_n 0, 1) := by decide +kernel
theorem dX0_seekByTurns_13 : decode cX0_seekByTurns 13 = .ok (.aload_n 0, 1) := by decide +kernel
theorem dX0_seekByTurns_14 : decode cX0_seekByTurns 14 = .ok (.iconst 0, 1) := by decide +kernel
theorem dX0_seekByTurns_15 : decode cX0_seekByTurns 15 = .ok (.invokevirtual 79, 3) := by decide +kernel
theorem dX0_seekByTurns_18 : decode cX0_seekByTurns 18 = .ok (.putfield 9, 3) := by decide +kernel
theorem dX0_seekByTurns_21 : decode cX0_seekByTurns 21 = .ok (.return_, 1) := by decide +kernel
theorem dX0_warmthByTurns_0 : decode cX0_warmthByTurns 0 = .ok (.iload_n 1, 1) := by decide +kernel
theorem dX0_warmthByTurns_1 : decode cX0_warmthByTurns 1 = .ok (.aload_n 0, 1) := by decide +kernel
theorem dX0_warmthByTurns_2 : decode cX0_warmthByTurns 2 = .ok (.getfield 27, 3) := by decide +kernel
theorem dX0_warmthByTurns_5 : decode cX0_warmthByTurns 5 = .ok (.getfield 46, 3) := by decide +kernel
theorem dX0_warmthByTurns_8 : decode cX0_warmthByTurns 8 = .ok (.if_icmp .lt 11, 3) := by decide +kernel
theorem dX0_warmthByTurns_11 : decode cX0_warmthByTurns 11 = .ok (.aload_n 0, 1) := by decide +kernel
theorem dX0_warmthByTurns_12 : decode cX0_warmthByTurns 12 = .ok (.getfield 31, 3) := by decide +kernel
theorem dX0_warmthByTurns_15 : decode cX0_warmthByTurns 15 = .ok (.invokevirtual 53, 3) := by decide +kernel
theorem dX0_warmthByTurns_18 : decode cX0_warmthByTurns 18 = .ok (.ireturn, 1) := by decide +kernel
theorem dX0_warmthByTurns_19 : decode cX0_warmthByTurns 19 = .ok (.iload_n 1, 1) := by decide +kernel
theorem dX0_warmthByTurns_20 : decode cX0_warmthByTurns 20 = .ok (.iconst 2, 1) := by decide +kernel
theorem dX0_warmthByTurns_21 : decode cX0_warmthByTurns 21 = .ok (.irem, 1) := by decide +kernel
theorem dX0_warmthByTurns_22 : decode cX0_warmthByTurns 22 = .ok (.ifCond .ne 7, 3) := by decide +kernel
theorem dX0_warmthByTurns_25 : decode cX0_warmthByTurns 25 = .ok (.iconst 1, 1) := by decide +kernel
theorem dX0_warmthByTurns_26 : decode cX0_warmthByTurns 26 = .ok (.goto 4, 3) := by decide +kernel
theorem dX0_warmthByTurns_29 : decode cX0_warmthByTurns 29 = .ok (.iconst 0, 1) := by decide +kernel
theorem dX0_warmthByTurns_30 : decode cX0_warmthByTurns 30 = .ok (.istore_n 2, 1) := by decide +kernel
theorem dX0_warmthByTurns_31 : decode cX0_warmthByTurns 31 = .ok (.iconst (-1), 1) := by decide +kernel
theorem dX0_warmthByTurns_32 : decode cX0_warmthByTurns 32 = .ok (.istore_n 3, 1) := by decide +kernel
theorem dX0_warmthByTurns_33 : decode cX0_warmthByTurns 33 = .ok (.iconst 0, 1) := by decide +kernel
theorem dX0_warmthByTurns_34 : decode cX0_warmthByTurns 34 = .ok (.istore 4, 2) := by decide +kernel
theorem dX0_warmthByTurns_36 : decode cX0_warmthByTurns 36 = .ok (.iload 4, 2) := by decide +kernel
theorem dX0_warmthByTurns_38 : decode cX0_warmthByTurns 38 = .ok (.aload_n 0, 1) := by decide +kernel
theorem dX0_warmthByTurns_39 : decode cX0_warmthByTurns 39 = .ok (.getfield 27, 3) := by decide +kernel
theorem dX0_warmthByTurns_42 : decode cX0_warmthByTurns 42 = .ok (.getfield 46, 3) := by decide +kernel
theorem dX0_warmthByTurns_45 : decode cX0_warmthByTurns 45 = .ok (.if_icmp .ge 77, 3) := by decide +kernel
theorem dX0_warmthByTurns_48 : decode cX0_warmthByTurns 48 = .ok (.aload_n 0, 1) := by decide +kernel
theorem dX0_warmthByTurns_49 : decode cX0_warmthByTurns 49 = .ok (.getfield 31, 3) := by decide +kernel
theorem dX0_warmthByTurns_52 : decode cX0_warmthByTurns 52 = .ok (.iload 4, 2) := by decide +kernel
theorem dX0_warmthByTurns_54 : decode cX0_warmthByTurns 54 = .ok (.invokevirtual 60, 3) := by decide +kernel
theorem dX0_warmthByTurns_57 : decode cX0_warmthByTurns 57 = .ok (.ifCond .ne 6, 3) := by decide +kernel
theorem dX0_warmthByTurns_60 : decode cX0_warmthByTurns 60 = .ok (.goto 56, 3) := by decide +kernel
theorem dX0_warmthByTurns_63 : decode cX0_warmthByTurns 63 = .ok (.aload_n 0, 1) := by decide +kernel
theorem dX0_warmthByTurns_64 : decode cX0_warmthByTurns 64 = .ok (.iload_n 1, 1) := by decide +kernel
theorem dX0_warmthByTurns_65 : decode cX0_warmthByTurns 65 = .ok (.iconst 1, 1) := by decide +kernel
theorem dX0_warmthByTurns_66 : decode cX0_warmthByTurns 66 = .ok (.iadd, 1) := by decide +kernel
theorem dX0_warmthByTurns_67 : decode cX0_warmthByTurns 67 = .ok (.invokevirtual 79, 3) := by decide +kernel
theorem dX0_warmthByTurns_70 : decode cX0_warmthByTurns 70 = .ok (.istore 5, 2) := by decide +kernel
theorem dX0_warmthByTurns_72 : decode cX0_warmthByTurns 72 = .ok (.aload_n 0, 1) := by decide +kernel
theorem dX0_warmthByTurns_73 : decode cX0_warmthByTurns 73 = .ok (.getfield 31, 3) := by decide +kernel
theorem dX0_warmthByTurns_76 : decode cX0_warmthByTurns 76 = .ok (.invokevirtual 63, 3) := by decide +kernel
theorem dX0_warmthByTurns_79 : decode cX0_warmthByTurns 79 = .ok (.iload_n 3, 1) := by decide +kernel
theorem dX0_warmthByTurns_80 : decode cX0_warmthByTurns 80 = .ok (.iconst (-1), 1) := by decide +kernel
theorem dX0_warmthByTurns_81 : decode cX0_warmthByTurns 81 = .ok (.if_icmp .eq 22, 3) := by decide +kernel
theorem dX0_warmthByTurns_84 : decode cX0_warmthByTurns 84 = .ok (.iload_n 2, 1) := by decide +kernel
theorem dX0_warmthByTurns_85 : decode cX0_warmthByTurns 85 = .ok (.ifCond .eq 12, 3) := by decide +kernel
theorem dX0_warmthByTurns_88 : decode cX0_warmthByTurns 88 = .ok (.iload 5, 2) := by decide +kernel
theorem dX0_warmthByTurns_90 : decode cX0_warmthByTurns 90 = .ok (.iload_n 3, 1) := by decide +kernel
theorem dX0_warmthByTurns_91 : decode cX0_warmthByTurns 91 = .ok (.if_icmp .le 25, 3) := by decide +kernel
theorem dX0_warmthByTurns_94 : decode cX0_warmthByTurns 94 = .ok (.goto 9, 3) := by decide +kernel
theorem dX0_warmthByTurns_97 : decode cX0_warmthByTurns 97 = .ok (.iload 5, 2) := by decide +kernel
theorem dX0_warmthByTurns_99 : decode cX0_warmthByTurns 99 = .ok (.iload_n 3, 1) := by decide +kernel
theorem dX0_warmthByTurns_100 : decode cX0_warmthByTurns 100 = .ok (.if_icmp .ge 16, 3) := by decide +kernel
theorem dX0_warmthByTurns_103 : decode cX0_warmthByTurns 103 = .ok (.iload 5, 2) := by decide +kernel
theorem dX0_warmthByTurns_105 : decode cX0_warmthByTurns 105 = .ok (.istore_n 3, 1) := by decide +kernel
theorem dX0_warmthByTurns_106 : decode cX0_warmthByTurns 106 = .ok (.iload_n 1, 1) := by decide +kernel
theorem dX0_warmthByTurns_107 : decode cX0_warmthByTurns 107 = .ok (.ifCond .ne 9, 3) := by decide +kernel
theorem dX0_warmthByTurns_110 : decode cX0_warmthByTurns 110 = .ok (.aload_n 0, 1) := by decide +kernel
theorem dX0_warmthByTurns_111 : decode cX0_warmthByTurns 111 = .ok (.iload 4, 2) := by decide +kernel
theorem dX0_warmthByTurns_113 : decode cX0_warmthByTurns 113 = .ok (.putfield 24, 3) := by decide +kernel
theorem dX0_warmthByTurns_116 : decode cX0_warmthByTurns 116 = .ok (.iinc 4 1, 3) := by decide +kernel
theorem dX0_warmthByTurns_119 : decode cX0_warmthByTurns 119 = .ok (.goto (-83), 3) := by decide +kernel
theorem dX0_warmthByTurns_122 : decode cX0_warmthByTurns 122 = .ok (.iload_n 3, 1) := by decide +kernel
theorem dX0_warmthByTurns_123 : decode cX0_warmthByTurns 123 = .ok (.ireturn, 1) := by decide +kernel
theorem dX1_init_0 : decode cX1_init 0 = .ok (.aload_n 0, 1) := by decide +kernel
theorem dX1_init_1 : decode cX1_init 1 = .ok (.invokespecial 3, 3) := by decide +kernel
theorem dX1_init_4 : decode cX1_init 4 = .ok (.aload_n 0, 1) := by decide +kernel
theorem dX1_init_5 : decode cX1_init 5 = .ok (.new 9, 3) := by decide +kernel
theorem dX1_init_8 : decode cX1_init 8 = .ok (.dup, 1) := by decide +kernel
theorem dX1_init_9 : decode cX1_init 9 = .ok (.invokespecial 11, 3) := by decide +kernel
theorem dX1_init_12 : decode cX1_init 12 = .ok (.putfield 12, 3) := by decide +kernel
theorem dX1_init_15 : decode cX1_init 15 = .ok (.aload_n 0, 1) := by decide +kernel
theorem dX1_init_16 : decode cX1_init 16 = .ok (.iconst 5, 1) := by decide +kernel
theorem dX1_init_17 : decode cX1_init 17 = .ok (.newarray .int, 2) := by decide +kernel
theorem dX1_init_19 : decode cX1_init 19 = .ok (.putfield 18, 3) := by decide +kernel
theorem dX1_init_22 : decode cX1_init 22 = .ok (.aload_n 0, 1) := by decide +kernel
theorem dX1_init_23 : decode cX1_init 23 = .ok (.iconst 5, 1) := by decide +kernel
theorem dX1_init_24 : decode cX1_init 24 = .ok (.newarray .int, 2) := by decide +kernel
theorem dX1_init_26 : decode cX1_init 26 = .ok (.putfield 22, 3) := by decide +kernel
theorem dX1_init_29 : decode cX1_init 29 = .ok (.aload_n 0, 1) := by decide +kernel
theorem dX1_init_30 : decode cX1_init 30 = .ok (.iconst 5, 1) := by decide +kernel
theorem dX1_init_31 : decode cX1_init 31 = .ok (.newarray .int, 2) := by decide +kernel
theorem dX1_init_33 : decode cX1_init 33 = .ok (.putfield 25, 3) := by decide +kernel
theorem dX1_init_36 : decode cX1_init 36 = .ok (.aload_n 0, 1) := by decide +kernel
theorem dX1_init_37 : decode cX1_init 37 = .ok (.iconst 5, 1) := by decide +kernel
theorem dX1_init_38 : decode cX1_init 38 = .ok (.newarray .boolean, 2) := by decide +kernel
theorem dX1_init_40 : decode cX1_init 40 = .ok (.putfield 28, 3) := by decide +kernel
theorem dX1_init_43 : decode cX1_init 43 = .ok (.aload_n 0, 1) := by decide +kernel
theorem dX1_init_44 : decode cX1_init 44 = .ok (.iconst 5, 1) := by decide +kernel
theorem dX1_init_45 : decode cX1_init 45 = .ok (.newarray .boolean, 2) := by decide +kernel
theorem dX1_init_47 : decode cX1_init 47 = .ok (.putfield 32, 3) := by decide +kernel
theorem dX1_init_50 : decode cX1_init 50 = .ok (.aload_n 0, 1) := by decide +kernel
theorem dX1_init_51 : decode cX1_init 51 = .ok (.iconst 0, 1) := by decide +kernel
theorem dX1_init_52 : decode cX1_init 52 = .ok (.putfield 35, 3) := by decide +kernel
theorem dX1_init_55 : decode cX1_init 55 = .ok (.aload_n 0, 1) := by decide +kernel
theorem dX1_init_56 : decode cX1_init 56 = .ok (.iconst 0, 1) := by decide +kernel
theorem dX1_init_57 : decode cX1_init 57 = .ok (.putfield 39, 3) := by decide +kernel
theorem dX1_init_60 : decode cX1_init 60 = .ok (.aload_n 0, 1) := by decide +kernel
theorem dX1_init_61 : decode cX1_init 61 = .ok (.aload_n 1, 1) := by decide +kernel
theorem dX1_init_62 : decode cX1_init 62 = .ok (.putfield 42, 3) := by decide +kernel
theorem dX1_init_65 : decode cX1_init 65 = .ok (.aload_n 0, 1) := by decide +kernel
theorem dX1_init_66 : decode cX1_init 66 = .ok (.aload_n 2, 1) := by decide +kernel
theorem dX1_init_67 : decode cX1_init 67 = .ok (.putfield 46, 3) := by decide +kernel
theorem dX1_init_70 : decode cX1_init 70 = .ok (.return_, 1) := by decide +kernel
theorem dX1_begin_0 : decode cX1_begin 0 = .ok (.aload_n 0, 1) := by decide +kernel
theorem dX1_begin_1 : decode cX1_begin 1 = .ok (.iconst 0, 1) := by decide +kernel
theorem dX1_begin_2 : decode cX1_begin 2 = .ok (.putfield 35, 3) := by decide +kernel
theorem dX1_begin_5 : decode cX1_begin 5 = .ok (.aload_n 0, 1) := by decide +kernel
theorem dX1_begin_6 : decode cX1_begin 6 = .ok (.iconst 0, 1) := by decide +kernel
theorem dX1_begin_7 : decode cX1_begin 7 = .ok (.putfield 39, 3) := by decide +kernel
theorem dX1_begin_10 : decode cX1_begin 10 = .ok (.return_, 1) := by decide +kernel
theorem dX1_hasCome_0 : decode cX1_hasCome 0 = .ok (.aload_n 0, 1) := by decide +kernel
theorem dX1_hasCome_1 : decode cX1_hasCome 1 = .ok (.getfield 42, 3) := by decide +kernel
theorem dX1_hasCome_4 : decode cX1_hasCome 4 = .ok (.iload_n 1, 1) := by decide +kernel
theorem dX1_hasCome_5 : decode cX1_hasCome 5 = .ok (.invokevirtual 50, 3) := by decide +kernel
theorem dX1_hasCome_8 : decode cX1_hasCome 8 = .ok (.ifCond .eq 18, 3) := by decide +kernel
theorem dX1_hasCome_11 : decode cX1_hasCome 11 = .ok (.aload_n 0, 1) := by decide +kernel
theorem dX1_hasCome_12 : decode cX1_hasCome 12 = .ok (.getfield 39, 3) := by decide +kernel
theorem dX1_hasCome_15 : decode cX1_hasCome 15 = .ok (.iload_n 1, 1) := by decide +kernel
theorem dX1_hasCome_16 : decode cX1_hasCome 16 = .ok (.ishr, 1) := by decide +kernel
theorem dX1_hasCome_17 : decode cX1_hasCome 17 = .ok (.iconst 1, 1) := by decide +kernel
theorem dX1_hasCome_18 : decode cX1_hasCome 18 = .ok (.iand, 1) := by decide +kernel
theorem dX1_hasCome_19 : decode cX1_hasCome 19 = .ok (.ifCond .eq 7, 3) := by decide +kernel
theorem dX1_hasCome_22 : decode cX1_hasCome 22 = .ok (.iconst 1, 1) := by decide +kernel
theorem dX1_hasCome_23 : decode cX1_hasCome 23 = .ok (.goto 4, 3) := by decide +kernel
theorem dX1_hasCome_26 : decode cX1_hasCome 26 = .ok (.iconst 0, 1) := by decide +kernel
theorem dX1_hasCome_27 : decode cX1_hasCome 27 = .ok (.ireturn, 1) := by decide +kernel
theorem dX1_comeUp_0 : decode cX1_comeUp 0 = .ok (.aload_n 0, 1) := by decide +kernel
theorem dX1_comeUp_1 : decode cX1_comeUp 1 = .ok (.getfield 42, 3) := by decide +kernel
theorem dX1_comeUp_4 : decode cX1_comeUp 4 = .ok (.iload_n 1, 1) := by decide +kernel
theorem dX1_comeUp_5 : decode cX1_comeUp 5 = .ok (.invokevirtual 50, 3) := by decide +kernel
theorem dX1_comeUp_8 : decode cX1_comeUp 8 = .ok (.ifCond .eq 26, 3) := by decide +kernel
theorem dX1_comeUp_11 : decode cX1_comeUp 11 = .ok (.aload_n 0, 1) := by decide +kernel
theorem dX1_comeUp_12 : decode cX1_comeUp 12 = .ok (.iload_n 1, 1) := by decide +kernel
theorem dX1_comeUp_13 : decode cX1_comeUp 13 = .ok (.invokevirtual 56, 3) := by decide +kernel
theorem dX1_comeUp_16 : decode cX1_comeUp 16 = .ok (.ifCond .ne 18, 3) := by decide +kernel
theorem dX1_comeUp_19 : decode cX1_comeUp 19 = .ok (.aload_n 0, 1) := by decide +kernel
theorem dX1_comeUp_20 : decode cX1_comeUp 20 = .ok (.getfield 35, 3) := by decide +kernel
theorem dX1_comeUp_23 : decode cX1_comeUp 23 = .ok (.ifCond .lt 11, 3) := by decide +kernel
theorem dX1_comeUp_26 : decode cX1_comeUp 26 = .ok (.aload_n 0, 1) := by decide +kernel
theorem dX1_comeUp_27 : decode cX1_comeUp 27 = .ok (.getfield 35, 3) := by decide +kernel
theorem dX1_comeUp_30 : decode cX1_comeUp 30 = .ok (.iconst 5, 1) := by decide +kernel
theorem dX1_comeUp_31 : decode cX1_comeUp 31 = .ok (.if_icmp .lt 5, 3) := by decide +kernel
theorem dX1_comeUp_34 : decode cX1_comeUp 34 = .ok (.iconst 0, 1) := by decide +kernel
theorem dX1_comeUp_35 : decode cX1_comeUp 35 = .ok (.ireturn, 1) := by decide +kernel
theorem dX1_comeUp_36 : decode cX1_comeUp 36 = .ok (.aload_n 0, 1) := by decide +kernel
theorem dX1_comeUp_37 : decode cX1_comeUp 37 = .ok (.iload_n 1, 1) := by decide +kernel
theorem dX1_comeUp_38 : decode cX1_comeUp 38 = .ok (.invokevirtual 59, 3) := by decide +kernel
theorem dX1_comeUp_41 : decode cX1_comeUp 41 = .ok (.aload_n 0, 1) := by decide +kernel
theorem dX1_comeUp_42 : decode cX1_comeUp 42 = .ok (.invokevirtual 63, 3) := by decide +kernel
theorem dX1_comeUp_45 : decode cX1_comeUp 45 = .ok (.istore_n 2, 1) := by decide +kernel
theorem dX1_comeUp_46 : decode cX1_comeUp 46 = .ok (.aload_n 0, 1) := by decide +kernel
theorem dX1_comeUp_47 : decode cX1_comeUp 47 = .ok (.invokevirtual 67, 3) := by decide +kernel
theorem dX1_comeUp_50 : decode cX1_comeUp 50 = .ok (.istore_n 3, 1) := by decide +kernel
theorem dX1_comeUp_51 : decode cX1_comeUp 51 = .ok (.aload_n 0, 1) := by decide +kernel
theorem dX1_comeUp_52 : decode cX1_comeUp 52 = .ok (.getfield 12, 3) := by decide +kernel
theorem dX1_comeUp_55 : decode cX1_comeUp 55 = .ok (.aload_n 0, 1) := by decide +kernel
theorem dX1_comeUp_56 : decode cX1_comeUp 56 = .ok (.getfield 12, 3) := by decide +kernel
theorem dX1_comeUp_59 : decode cX1_comeUp 59 = .ok (.getfield 70, 3) := by decide +kernel
theorem dX1_comeUp_62 : decode cX1_comeUp 62 = .ok (.iload_n 2, 1) := by decide +kernel
theorem dX1_comeUp_63 : decode cX1_comeUp 63 = .ok (.isub, 1) := by decide +kernel
theorem dX1_comeUp_64 : decode cX1_comeUp 64 = .ok (.iconst 0, 1) := by decide +kernel
theorem dX1_comeUp_65 : decode cX1_comeUp 65 = .ok (.bipush 99, 2) := by decide +kernel
theorem dX1_comeUp_67 : decode cX1_comeUp 67 = .ok (.invokestatic 73, 3) := by decide +kernel
theorem dX1_comeUp_70 : decode cX1_comeUp 70 = .ok (.iload_n 3, 1) := by decide +kernel
theorem dX1_comeUp_71 : decode cX1_comeUp 71 = .ok (.iadd, 1) := by decide +kernel
theorem dX1_comeUp_72 : decode cX1_comeUp 72 = .ok (.iconst 0, 1) := by decide +kernel
theorem dX1_comeUp_73 : decode cX1_comeUp 73 = .ok (.bipush 99, 2) := by decide +kernel
theorem dX1_comeUp_75 : decode cX1_comeUp 75 = .ok (.invokestatic 73, 3) := by decide +kernel
theorem dX1_comeUp_78 : decode cX1_comeUp 78 = .ok (.putfield 70, 3) := by decide +kernel
theorem dX1_comeUp_81 : decode cX1_comeUp 81 = .ok (.aload_n 0, 1) := by decide +kernel
theorem dX1_comeUp_82 : decode cX1_comeUp 82 = .ok (.getfield 12, 3) := by decide +kernel
theorem dX1_comeUp_85 : decode cX1_comeUp 85 = .ok (.getfield 70, 3) := by decide +kernel
theorem dX1_comeUp_88 : decode cX1_comeUp 88 = .ok (.aload_n 0, 1) := by decide +kernel
theorem dX1_comeUp_89 : decode cX1_comeUp 89 = .ok (.getfield 42, 3) := by decide +kernel
theorem dX1_comeUp_92 : decode cX1_comeUp 92 = .ok (.getfield 77, 3) := by decide +kernel
theorem dX1_comeUp_95 : decode cX1_comeUp 95 = .ok (.if_icmp .lt 7, 3) := by decide +kernel
theorem dX1_comeUp_98 : decode cX1_comeUp 98 = .ok (.iconst 1, 1) := by decide +kernel
theorem dX1_comeUp_99 : decode cX1_comeUp 99 = .ok (.goto 4, 3) := by decide +kernel
theorem dX1_comeUp_102 : decode cX1_comeUp 102 = .ok (.iconst 0, 1) := by decide +kernel
theorem dX1_comeUp_103 : decode cX1_comeUp 103 = .ok (.istore 4, 2) := by decide +kernel
theorem dX1_comeUp_105 : decode cX1_comeUp 105 = .ok (.iload 4, 2) := by decide +kernel
theorem dX1_comeUp_107 : decode cX1_comeUp 107 = .ok (.ifCond .eq 30, 3) := by decide +kernel
theorem dX1_comeUp_110 : decode cX1_comeUp 110 = .ok (.aload_n 0, 1) := by decide +kernel
theorem dX1_comeUp_111 : decode cX1_comeUp 111 = .ok (.getfield 46, 3) := by decide +kernel
theorem dX1_comeUp_114 : decode cX1_comeUp 114 = .ok (.aload_n 0, 1) := by decide +kernel
theorem dX1_comeUp_115 : decode cX1_comeUp 115 = .ok (.getfield 42, 3) := by decide +kernel
theorem dX1_comeUp_118 : decode cX1_comeUp 118 = .ok (.getfield 80, 3) := by decide +kernel
theorem dX1_comeUp_121 : decode cX1_comeUp 121 = .ok (.bipush (-18), 2) := by decide +kernel
theorem dX1_comeUp_123 : decode cX1_comeUp 123 = .ok (.aload_n 0, 1) := by decide +kernel
theorem dX1_comeUp_124 : decode cX1_comeUp 124 = .ok (.getfield 12, 3) := by decide +kernel
theorem dX1_comeUp_127 : decode cX1_comeUp 127 = .ok (.invokevirtual 83, 3) := by decide +kernel
theorem dX1_comeUp_130 : decode cX1_comeUp 130 = .ok (.ifCond .eq 7, 3) := by decide +kernel
theorem dX1_comeUp_133 : decode cX1_comeUp 133 = .ok (.iconst 1, 1) := by decide +kernel
theorem dX1_comeUp_134 : decode cX1_comeUp 134 = .ok (.goto 4, 3) := by decide +kernel
theorem dX1_comeUp_137 : decode cX1_comeUp 137 = .ok (.iconst 0, 1) := by decide +kernel
theorem dX1_comeUp_138 : decode cX1_comeUp 138 = .ok (.istore 5, 2) := by decide +kernel
theorem dX1_comeUp_140 : decode cX1_comeUp 140 = .ok (.aload_n 0, 1) := by decide +kernel
theorem dX1_comeUp_141 : decode cX1_comeUp 141 = .ok (.getfield 18, 3) := by decide +kernel
theorem dX1_comeUp_144 : decode cX1_comeUp 144 = .ok (.aload_n 0, 1) := by decide +kernel
theorem dX1_comeUp_145 : decode cX1_comeUp 145 = .ok (.getfield 35, 3) := by decide +kernel
theorem dX1_comeUp_148 : decode cX1_comeUp 148 = .ok (.iload_n 1, 1) := by decide +kernel
theorem dX1_comeUp_149 : decode cX1_comeUp 149 = .ok (.iastore, 1) := by decide +kernel
theorem dX1_comeUp_150 : decode cX1_comeUp 150 = .ok (.aload_n 0, 1) := by decide +kernel
theorem dX1_comeUp_151 : decode cX1_comeUp 151 = .ok (.getfield 22, 3) := by decide +kernel
theorem dX1_comeUp_154 : decode cX1_comeUp 154 = .ok (.aload_n 0, 1) := by decide +kernel
theorem dX1_comeUp_155 : decode cX1_comeUp 155 = .ok (.getfield 35, 3) := by decide +kernel
theorem dX1_comeUp_158 : decode cX1_comeUp 158 = .ok (.aload_n 0, 1) := by decide +kernel
theorem dX1_comeUp_159 : decode cX1_comeUp 159 = .ok (.getfield 12, 3) := by decide +kernel
theorem dX1_comeUp_162 : decode cX1_comeUp 162 = .ok (.getfield 89, 3) := by decide +kernel
theorem dX1_comeUp_165 : decode cX1_comeUp 165 = .ok (.iastore, 1) := by decide +kernel
theorem dX1_comeUp_166 : decode cX1_comeUp 166 = .ok (.aload_n 0, 1) := by decide +kernel
theorem dX1_comeUp_167 : decode cX1_comeUp 167 = .ok (.getfield 25, 3) := by decide +kernel
theorem dX1_comeUp_170 : decode cX1_comeUp 170 = .ok (.aload_n 0, 1) := by decide +kernel
theorem dX1_comeUp_171 : decode cX1_comeUp 171 = .ok (.getfield 35, 3) := by decide +kernel
theorem dX1_comeUp_174 : decode cX1_comeUp 174 = .ok (.iload 5, 2) := by decide +kernel
theorem dX1_comeUp_176 : decode cX1_comeUp 176 = .ok (.ifCond .eq 15, 3) := by decide +kernel
theorem dX1_comeUp_179 : decode cX1_comeUp 179 = .ok (.aload_n 0, 1) := by decide +kernel
theorem dX1_comeUp_180 : decode cX1_comeUp 180 = .ok (.getfield 12, 3) := by decide +kernel
theorem dX1_comeUp_183 : decode cX1_comeUp 183 = .ok (.getfield 70, 3) := by decide +kernel
theorem dX1_comeUp_186 : decode cX1_comeUp 186 = .ok (.iconst 2, 1) := by decide +kernel
theorem dX1_comeUp_187 : decode cX1_comeUp 187 = .ok (.idiv, 1) := by decide +kernel
theorem dX1_comeUp_188 : decode cX1_comeUp 188 = .ok (.goto 10, 3) := by decide +kernel
theorem dX1_comeUp_191 : decode cX1_comeUp 191 = .ok (.aload_n 0, 1) := by decide +kernel
theorem dX1_comeUp_192 : decode cX1_comeUp 192 = .ok (.getfield 12, 3) := by decide +kernel
theorem dX1_comeUp_195 : decode cX1_comeUp 195 = .ok (.getfield 70, 3) := by decide +kernel
theorem dX1_comeUp_198 : decode cX1_comeUp 198 = .ok (.iastore, 1) := by decide +kernel
theorem dX1_comeUp_199 : decode cX1_comeUp 199 = .ok (.aload_n 0, 1) := by decide +kernel
theorem dX1_comeUp_200 : decode cX1_comeUp 200 = .ok (.getfield 28, 3) := by decide +kernel
theorem dX1_comeUp_203 : decode cX1_comeUp 203 = .ok (.aload_n 0, 1) := by decide +kernel
theorem dX1_comeUp_204 : decode cX1_comeUp 204 = .ok (.getfield 35, 3) := by decide +kernel
theorem dX1_comeUp_207 : decode cX1_comeUp 207 = .ok (.iload 4, 2) := by decide +kernel
theorem dX1_comeUp_209 : decode cX1_comeUp 209 = .ok (.bastore, 1) := by decide +kernel
theorem dX1_comeUp_210 : decode cX1_comeUp 210 = .ok (.aload_n 0, 1) := by decide +kernel
theorem dX1_comeUp_211 : decode cX1_comeUp 211 = .ok (.getfield 32, 3) := by decide +kernel
theorem dX1_comeUp_214 : decode cX1_comeUp 214 = .ok (.aload_n 0, 1) := by decide +kernel
theorem dX1_comeUp_215 : decode cX1_comeUp 215 = .ok (.getfield 35, 3) := by decide +kernel
theorem dX1_comeUp_218 : decode cX1_comeUp 218 = .ok (.iload 5, 2) := by decide +kernel
theorem dX1_comeUp_220 : decode cX1_comeUp 220 = .ok (.bastore, 1) := by decide +kernel
theorem dX1_comeUp_221 : decode cX1_comeUp 221 = .ok (.aload_n 0, 1) := by decide +kernel
theorem dX1_comeUp_222 : decode cX1_comeUp 222 = .ok (.dup, 1) := by decide +kernel
theorem dX1_comeUp_223 : decode cX1_comeUp 223 = .ok (.getfield 35, 3) := by decide +kernel
theorem dX1_comeUp_226 : decode cX1_comeUp 226 = .ok (.iconst 1, 1) := by decide +kernel
theorem dX1_comeUp_227 : decode cX1_comeUp 227 = .ok (.iadd, 1) := by decide +kernel
theorem dX1_comeUp_228 : decode cX1_comeUp 228 = .ok (.putfield 35, 3) := by decide +kernel
theorem dX1_comeUp_231 : decode cX1_comeUp 231 = .ok (.aload_n 0, 1) := by decide +kernel
theorem dX1_comeUp_232 : decode cX1_comeUp 232 = .ok (.dup, 1) := by decide +kernel
theorem dX1_comeUp_233 : decode cX1_comeUp 233 = .ok (.getfield 39, 3) := by decide +kernel
theorem dX1_comeUp_236 : decode cX1_comeUp 236 = .ok (.iconst 1, 1) := by decide +kernel
theorem dX1_comeUp_237 : decode cX1_comeUp 237 = .ok (.iload_n 1, 1) := by decide +kernel
theorem dX1_comeUp_238 : decode cX1_comeUp 238 = .ok (.ishl, 1) := by decide +kernel
theorem dX1_comeUp_239 : decode cX1_comeUp 239 = .ok (.ior, 1) := by decide +kernel
theorem dX1_comeUp_240 : decode cX1_comeUp 240 = .ok (.putfield 39, 3) := by decide +kernel
theorem dX1_comeUp_243 : decode cX1_comeUp 243 = .ok (.iconst 1, 1) := by decide +kernel
theorem dX1_comeUp_244 : decode cX1_comeUp 244 = .ok (.ireturn, 1) := by decide +kernel
theorem dX1_goBack_0 : decode cX1_goBack 0 = .ok (.aload_n 0, 1) := by decide +kernel
theorem dX1_goBack_1 : decode cX1_goBack 1 = .ok (.getfield 35, 3) := by decide +kernel
theorem dX1_goBack_4 : decode cX1_goBack 4 = .ok (.ifCond .le 43, 3) := by decide +kernel
theorem dX1_goBack_7 : decode cX1_goBack 7 = .ok (.aload_n 0, 1) := by decide +kernel
theorem dX1_goBack_8 : decode cX1_goBack 8 = .ok (.getfield 35, 3) := by decide +kernel
theorem dX1_goBack_11 : decode cX1_goBack 11 = .ok (.iconst 5, 1) := by decide +kernel
theorem dX1_goBack_12 : decode cX1_goBack 12 = .ok (.if_icmp .gt 35, 3) := by decide +kernel
theorem dX1_goBack_15 : decode cX1_goBack 15 = .ok (.aload_n 0, 1) := by decide +kernel
theorem dX1_goBack_16 : decode cX1_goBack 16 = .ok (.dup, 1) := by decide +kernel
theorem dX1_goBack_17 : decode cX1_goBack 17 = .ok (.getfield 35, 3) := by decide +kernel
theorem dX1_goBack_20 : decode cX1_goBack 20 = .ok (.iconst 1, 1) := by decide +kernel
theorem dX1_goBack_21 : decode cX1_goBack 21 = .ok (.isub, 1) := by decide +kernel
theorem dX1_goBack_22 : decode cX1_goBack 22 = .ok (.putfield 35, 3) := by decide +kernel
theorem dX1_goBack_25 : decode cX1_goBack 25 = .ok (.aload_n 0, 1) := by decide +kernel
theorem dX1_goBack_26 : decode cX1_goBack 26 = .ok (.dup, 1) := by decide +kernel
theorem dX1_goBack_27 : decode cX1_goBack 27 = .ok (.getfield 39, 3) := by decide +kernel
theorem dX1_goBack_30 : decode cX1_goBack 30 = .ok (.iconst 1, 1) := by decide +kernel
theorem dX1_goBack_31 : decode cX1_goBack 31 = .ok (.aload_n 0, 1) := by decide +kernel
theorem dX1_goBack_32 : decode cX1_goBack 32 = .ok (.getfield 18, 3) := by decide +kernel
theorem dX1_goBack_35 : decode cX1_goBack 35 = .ok (.aload_n 0, 1) := by decide +kernel
theorem dX1_goBack_36 : decode cX1_goBack 36 = .ok (.getfield 35, 3) := by decide +kernel
theorem dX1_goBack_39 : decode cX1_goBack 39 = .ok (.iaload, 1) := by decide +kernel
theorem dX1_goBack_40 : decode cX1_goBack 40 = .ok (.ishl, 1) := by decide +kernel
theorem dX1_goBack_41 : decode cX1_goBack 41 = .ok (.iconst (-1), 1) := by decide +kernel
theorem dX1_goBack_42 : decode cX1_goBack 42 = .ok (.ixor, 1) := by decide +kernel
theorem dX1_goBack_43 : decode cX1_goBack 43 = .ok (.iand, 1) := by decide +kernel
theorem dX1_goBack_44 : decode cX1_goBack 44 = .ok (.putfield 39, 3) := by decide +kernel
theorem dX1_goBack_47 : decode cX1_goBack 47 = .ok (.return_, 1) := by decide +kernel
theorem dX1_comeBy_0 : decode cX1_comeBy 0 = .ok (.aload_n 0, 1) := by decide +kernel
theorem dX1_comeBy_1 : decode cX1_comeBy 1 = .ok (.invokevirtual 92, 3) := by decide +kernel
theorem dX1_comeBy_4 : decode cX1_comeBy 4 = .ok (.iconst 0, 1) := by decide +kernel
theorem dX1_comeBy_5 : decode cX1_comeBy 5 = .ok (.istore_n 2, 1) := by decide +kernel
theorem dX1_comeBy_6 : decode cX1_comeBy 6 = .ok (.iload_n 2, 1) := by decide +kernel
theorem dX1_comeBy_7 : decode cX1_comeBy 7 = .ok (.aload_n 1, 1) := by decide +kernel
theorem dX1_comeBy_8 : decode cX1_comeBy 8 = .ok (.getfield 95, 3) := by decide +kernel
theorem dX1_comeBy_11 : decode cX1_comeBy 11 = .ok (.if_icmp .ge 23, 3) := by decide +kernel
theorem dX1_comeBy_14 : decode cX1_comeBy 14 = .ok (.aload_n 0, 1) := by decide +kernel
theorem dX1_comeBy_15 : decode cX1_comeBy 15 = .ok (.aload_n 1, 1) := by decide +kernel
theorem dX1_comeBy_16 : decode cX1_comeBy 16 = .ok (.iload_n 2, 1) := by decide +kernel
theorem dX1_comeBy_17 : decode cX1_comeBy 17 = .ok (.invokevirtual 100, 3) := by decide +kernel
theorem dX1_comeBy_20 : decode cX1_comeBy 20 = .ok (.invokevirtual 104, 3) := by decide +kernel
theorem dX1_comeBy_23 : decode cX1_comeBy 23 = .ok (.ifCond .ne 5, 3) := by decide +kernel
theorem dX1_comeBy_26 : decode cX1_comeBy 26 = .ok (.iconst 0, 1) := by decide +kernel
theorem dX1_comeBy_27 : decode cX1_comeBy 27 = .ok (.ireturn, 1) := by decide +kernel
theorem dX1_comeBy_28 : decode cX1_comeBy 28 = .ok (.iinc 2 1, 3) := by decide +kernel
theorem dX1_comeBy_31 : decode cX1_comeBy 31 = .ok (.goto (-25), 3) := by decide +kernel
theorem dX1_comeBy_34 : decode cX1_comeBy 34 = .ok (.iconst 1, 1) := by decide +kernel
theorem dX1_comeBy_35 : decode cX1_comeBy 35 = .ok (.ireturn, 1) := by decide +kernel
theorem dX1_comeByNumber_0 : decode cX1_comeByNumber 0 = .ok (.aload_n 0, 1) := by decide +kernel
theorem dX1_comeByNumber_1 : decode cX1_comeByNumber 1 = .ok (.invokevirtual 92, 3) := by decide +kernel
theorem dX1_comeByNumber_4 : decode cX1_comeByNumber 4 = .ok (.iconst 0, 1) := by decide +kernel
theorem dX1_comeByNumber_5 : decode cX1_comeByNumber 5 = .ok (.istore_n 1, 1) := by decide +kernel
theorem dX1_comeByNumber_6 : decode cX1_comeByNumber 6 = .ok (.iload_n 1, 1) := by decide +kernel
theorem dX1_comeByNumber_7 : decode cX1_comeByNumber 7 = .ok (.aload_n 0, 1) := by decide +kernel
theorem dX1_comeByNumber_8 : decode cX1_comeByNumber 8 = .ok (.getfield 42, 3) := by decide +kernel
theorem dX1_comeByNumber_11 : decode cX1_comeByNumber 11 = .ok (.getfield 107, 3) := by decide +kernel
theorem dX1_comeByNumber_14 : decode cX1_comeByNumber 14 = .ok (.if_icmp .ge 15, 3) := by decide +kernel
theorem dX1_comeByNumber_17 : decode cX1_comeByNumber 17 = .ok (.aload_n 0, 1) := by decide +kernel
theorem dX1_comeByNumber_18 : decode cX1_comeByNumber 18 = .ok (.iload_n 1, 1) := by decide +kernel
theorem dX1_comeByNumber_19 : decode cX1_comeByNumber 19 = .ok (.invokevirtual 104, 3) := by decide +kernel
theorem dX1_comeByNumber_22 : decode cX1_comeByNumber 22 = .ok (.pop, 1) := by decide +kernel
theorem dX1_comeByNumber_23 : decode cX1_comeByNumber 23 = .ok (.iinc 1 1, 3) := by decide +kernel
theorem dX1_comeByNumber_26 : decode cX1_comeByNumber 26 = .ok (.goto (-20), 3) := by decide +kernel
theorem dX1_comeByNumber_29 : decode cX1_comeByNumber 29 = .ok (.return_, 1) := by decide +kernel
theorem dX1_hear_0 : decode cX1_hear 0 = .ok (.aload_n 0, 1) := by decide +kernel
theorem dX1_hear_1 : decode cX1_hear 1 = .ok (.getfield 42, 3) := by decide +kernel
theorem dX1_hear_4 : decode cX1_hear 4 = .ok (.iload_n 1, 1) := by decide +kernel
theorem dX1_hear_5 : decode cX1_hear 5 = .ok (.invokevirtual 50, 3) := by decide +kernel
theorem dX1_hear_8 : decode cX1_hear 8 = .ok (.ifCond .ne 4, 3) := by decide +kernel
theorem dX1_hear_11 : decode cX1_hear 11 = .ok (.return_, 1) := by decide +kernel
theorem dX1_hear_12 : decode cX1_hear 12 = .ok (.aload_n 0, 1) := by decide +kernel
theorem dX1_hear_13 : decode cX1_hear 13 = .ok (.getfield 12, 3) := by decide +kernel
theorem dX1_hear_16 : decode cX1_hear 16 = .ok (.aload_n 0, 1) := by decide +kernel
theorem dX1_hear_17 : decode cX1_hear 17 = .ok (.getfield 42, 3) := by decide +kernel
theorem dX1_hear_20 : decode cX1_hear 20 = .ok (.getfield 110, 3) := by decide +kernel
theorem dX1_hear_23 : decode cX1_hear 23 = .ok (.iload_n 1, 1) := by decide +kernel
theorem dX1_hear_24 : decode cX1_hear 24 = .ok (.iaload, 1) := by decide +kernel
theorem dX1_hear_25 : decode cX1_hear 25 = .ok (.putfield 113, 3) := by decide +kernel
theorem dX1_hear_28 : decode cX1_hear 28 = .ok (.aload_n 0, 1) := by decide +kernel
theorem dX1_hear_29 : decode cX1_hear 29 = .ok (.getfield 12, 3) := by decide +kernel
theorem dX1_hear_32 : decode cX1_hear 32 = .ok (.aload_n 0, 1) := by decide +kernel
theorem dX1_hear_33 : decode cX1_hear 33 = .ok (.getfield 42, 3) := by decide +kernel
theorem dX1_hear_36 : decode cX1_hear 36 = .ok (.getfield 116, 3) := by decide +kernel
theorem dX1_hear_39 : decode cX1_hear 39 = .ok (.iload_n 1, 1) := by decide +kernel
theorem dX1_hear_40 : decode cX1_hear 40 = .ok (.iaload, 1) := by decide +kernel
theorem dX1_hear_41 : decode cX1_hear 41 = .ok (.putfield 119, 3) := by decide +kernel
theorem dX1_hear_44 : decode cX1_hear 44 = .ok (.aload_n 0, 1) := by decide +kernel
theorem dX1_hear_45 : decode cX1_hear 45 = .ok (.getfield 12, 3) := by decide +kernel
theorem dX1_hear_48 : decode cX1_hear 48 = .ok (.aload_n 0, 1) := by decide +kernel
theorem dX1_hear_49 : decode cX1_hear 49 = .ok (.getfield 42, 3) := by decide +kernel
theorem dX1_hear_52 : decode cX1_hear 52 = .ok (.getfield 122, 3) := by decide +kernel
theorem dX1_hear_55 : decode cX1_hear 55 = .ok (.iload_n 1, 1) := by decide +kernel
theorem dX1_hear_56 : decode cX1_hear 56 = .ok (.iaload, 1) := by decide +kernel
theorem dX1_hear_57 : decode cX1_hear 57 = .ok (.putfield 89, 3) := by decide +kernel
theorem dX1_hear_60 : decode cX1_hear 60 = .ok (.aload_n 0, 1) := by decide +kernel
theorem dX1_hear_61 : decode cX1_hear 61 = .ok (.getfield 12, 3) := by decide +kernel
theorem dX1_hear_64 : decode cX1_hear 64 = .ok (.aload_n 0, 1) := by decide +kernel
theorem dX1_hear_65 : decode cX1_hear 65 = .ok (.getfield 42, 3) := by decide +kernel
theorem dX1_hear_68 : decode cX1_hear 68 = .ok (.getfield 125, 3) := by decide +kernel
theorem dX1_hear_71 : decode cX1_hear 71 = .ok (.iload_n 1, 1) := by decide +kernel
theorem dX1_hear_72 : decode cX1_hear 72 = .ok (.iaload, 1) := by decide +kernel
theorem dX1_hear_73 : decode cX1_hear 73 = .ok (.ifCond .eq 7, 3) := by decide +kernel
theorem dX1_hear_76 : decode cX1_hear 76 = .ok (.iconst 1, 1) := by decide +kernel
theorem dX1_hear_77 : decode cX1_hear 77 = .ok (.goto 4, 3) := by decide +kernel
theorem dX1_hear_80 : decode cX1_hear 80 = .ok (.iconst 0, 1) := by decide +kernel
theorem dX1_hear_81 : decode cX1_hear 81 = .ok (.putfield 128, 3) := by decide +kernel
theorem dX1_hear_84 : decode cX1_hear 84 = .ok (.aload_n 0, 1) := by decide +kernel
theorem dX1_hear_85 : decode cX1_hear 85 = .ok (.getfield 12, 3) := by decide +kernel
theorem dX1_hear_88 : decode cX1_hear 88 = .ok (.aload_n 0, 1) := by decide +kernel
theorem dX1_hear_89 : decode cX1_hear 89 = .ok (.getfield 42, 3) := by decide +kernel
theorem dX1_hear_92 : decode cX1_hear 92 = .ok (.getfield 132, 3) := by decide +kernel
theorem dX1_hear_95 : decode cX1_hear 95 = .ok (.iconst 2, 1) := by decide +kernel
theorem dX1_hear_96 : decode cX1_hear 96 = .ok (.irem, 1) := by decide +kernel
theorem dX1_hear_97 : decode cX1_hear 97 = .ok (.ifCond .eq 7, 3) := by decide +kernel
theorem dX1_hear_100 : decode cX1_hear 100 = .ok (.iconst 1, 1) := by decide +kernel
theorem dX1_hear_101 : decode cX1_hear 101 = .ok (.goto 4, 3) := by decide +kernel
theorem dX1_hear_104 : decode cX1_hear 104 = .ok (.iconst 0, 1) := by decide +kernel
theorem dX1_hear_105 : decode cX1_hear 105 = .ok (.putfield 135, 3) := by decide +kernel
theorem dX1_hear_108 : decode cX1_hear 108 = .ok (.aload_n 0, 1) := by decide +kernel
theorem dX1_hear_109 : decode cX1_hear 109 = .ok (.getfield 12, 3) := by decide +kernel
theorem dX1_hear_112 : decode cX1_hear 112 = .ok (.aload_n 0, 1) := by decide +kernel
theorem dX1_hear_113 : decode cX1_hear 113 = .ok (.invokevirtual 138, 3) := by decide +kernel
theorem dX1_hear_116 : decode cX1_hear 116 = .ok (.putfield 70, 3) := by decide +kernel
theorem dX1_hear_119 : decode cX1_hear 119 = .ok (.aload_n 0, 1) := by decide +kernel
theorem dX1_hear_120 : decode cX1_hear 120 = .ok (.getfield 12, 3) := by decide +kernel
theorem dX1_hear_123 : decode cX1_hear 123 = .ok (.aload_n 0, 1) := by decide +kernel
theorem dX1_hear_124 : decode cX1_hear 124 = .ok (.getfield 35, 3) := by decide +kernel
theorem dX1_hear_127 : decode cX1_hear 127 = .ok (.putfield 141, 3) := by decide +kernel
theorem dX1_hear_130 : decode cX1_hear 130 = .ok (.aload_n 0, 1) := by decide +kernel
theorem dX1_hear_131 : decode cX1_hear 131 = .ok (.getfield 12, 3) := by decide +kernel
theorem dX1_hear_134 : decode cX1_hear 134 = .ok (.bipush 8, 2) := by decide +kernel
theorem dX1_hear_136 : decode cX1_hear 136 = .ok (.putfield 144, 3) := by decide +kernel
theorem dX1_hear_139 : decode cX1_hear 139 = .ok (.aload_n 0, 1) := by decide +kernel
theorem dX1_hear_140 : decode cX1_hear 140 = .ok (.getfield 12, 3) := by decide +kernel
theorem dX1_hear_143 : decode cX1_hear 143 = .ok (.iconst 0, 1) := by decide +kernel
theorem dX1_hear_144 : decode cX1_hear 144 = .ok (.putfield 147, 3) := by decide +kernel
theorem dX1_hear_147 : decode cX1_hear 147 = .ok (.iconst 0, 1) := by decide +kernel
theorem dX1_hear_148 : decode cX1_hear 148 = .ok (.istore_n 2, 1) := by decide +kernel
theorem dX1_hear_149 : decode cX1_hear 149 = .ok (.iload_n 2, 1) := by decide +kernel
theorem dX1_hear_150 : decode cX1_hear 150 = .ok (.aload_n 0, 1) := by decide +kernel
theorem dX1_hear_151 : decode cX1_hear 151 = .ok (.getfield 35, 3) := by decide +kernel
theorem dX1_hear_154 : decode cX1_hear 154 = .ok (.if_icmp .ge 57, 3) := by decide +kernel
theorem dX1_hear_157 : decode cX1_hear 157 = .ok (.iload_n 2, 1) := by decide +kernel
theorem dX1_hear_158 : decode cX1_hear 158 = .ok (.iconst 5, 1) := by decide +kernel
theorem dX1_hear_159 : decode cX1_hear 159 = .ok (.if_icmp .ge 52, 3) := by decide +kernel
theorem dX1_hear_162 : decode cX1_hear 162 = .ok (.aload_n 0, 1) := by decide +kernel
theorem dX1_hear_163 : decode cX1_hear 163 = .ok (.getfield 12, 3) := by decide +kernel
theorem dX1_hear_166 : decode cX1_hear 166 = .ok (.aload_n 0, 1) := by decide +kernel
theorem dX1_hear_167 : decode cX1_hear 167 = .ok (.getfield 22, 3) := by decide +kernel
theorem dX1_hear_170 : decode cX1_hear 170 = .ok (.iload_n 2, 1) := by decide +kernel
theorem dX1_hear_171 : decode cX1_hear 171 = .ok (.iaload, 1) := by decide +kernel
theorem dX1_hear_172 : decode cX1_hear 172 = .ok (.putfield 144, 3) := by decide +kernel
theorem dX1_hear_175 : decode cX1_hear 175 = .ok (.aload_n 0, 1) := by decide +kernel
theorem dX1_hear_176 : decode cX1_hear 176 = .ok (.getfield 12, 3) := by decide +kernel
theorem dX1_hear_179 : decode cX1_hear 179 = .ok (.getfield 144, 3) := by decide +kernel
theorem dX1_hear_182 : decode cX1_hear 182 = .ok (.aload_n 0, 1) := by decide +kernel
theorem dX1_hear_183 : decode cX1_hear 183 = .ok (.getfield 12, 3) := by decide +kernel
theorem dX1_hear_186 : decode cX1_hear 186 = .ok (.getfield 89, 3) := by decide +kernel
theorem dX1_hear_189 : decode cX1_hear 189 = .ok (.if_icmp .ne 16, 3) := by decide +kernel
theorem dX1_hear_192 : decode cX1_hear 192 = .ok (.aload_n 0, 1) := by decide +kernel
theorem dX1_hear_193 : decode cX1_hear 193 = .ok (.getfield 12, 3) := by decide +kernel
theorem dX1_hear_196 : decode cX1_hear 196 = .ok (.dup, 1) := by decide +kernel
theorem dX1_hear_197 : decode cX1_hear 197 = .ok (.getfield 147, 3) := by decide +kernel
theorem dX1_hear_200 : decode cX1_hear 200 = .ok (.iconst 1, 1) := by decide +kernel
theorem dX1_hear_201 : decode cX1_hear 201 = .ok (.iadd, 1) := by decide +kernel
theorem dX1_hear_202 : decode cX1_hear 202 = .ok (.putfield 147, 3) := by decide +kernel
theorem dX1_hear_205 : decode cX1_hear 205 = .ok (.iinc 2 1, 3) := by decide +kernel
theorem dX1_hear_208 : decode cX1_hear 208 = .ok (.goto (-59), 3) := by decide +kernel
theorem dX1_hear_211 : decode cX1_hear 211 = .ok (.return_, 1) := by decide +kernel
theorem dX1_warms_0 : decode cX1_warms 0 = .ok (.aload_n 0, 1) := by decide +kernel
theorem dX1_warms_1 : decode cX1_warms 1 = .ok (.getfield 12, 3) := by decide +kernel
theorem dX1_warms_4 : decode cX1_warms 4 = .ok (.aload_n 0, 1) := by decide +kernel
theorem dX1_warms_5 : decode cX1_warms 5 = .ok (.getfield 46, 3) := by decide +kernel
theorem dX1_warms_8 : decode cX1_warms 8 = .ok (.aload_n 0, 1) := by decide +kernel
theorem dX1_warms_9 : decode cX1_warms 9 = .ok (.getfield 42, 3) := by decide +kernel
theorem dX1_warms_12 : decode cX1_warms 12 = .ok (.getfield 80, 3) := by decide +kernel
theorem dX1_warms_15 : decode cX1_warms 15 = .ok (.bipush (-16), 2) := by decide +kernel
theorem dX1_warms_17 : decode cX1_warms 17 = .ok (.aload_n 0, 1) := by decide +kernel
theorem dX1_warms_18 : decode cX1_warms 18 = .ok (.getfield 12, 3) := by decide +kernel
theorem dX1_warms_21 : decode cX1_warms 21 = .ok (.invokevirtual 83, 3) := by decide +kernel
theorem dX1_warms_24 : decode cX1_warms 24 = .ok (.bipush (-99), 2) := by decide +kernel
theorem dX1_warms_26 : decode cX1_warms 26 = .ok (.bipush 99, 2) := by decide +kernel
theorem dX1_warms_28 : decode cX1_warms 28 = .ok (.invokestatic 73, 3) := by decide +kernel
theorem dX1_warms_31 : decode cX1_warms 31 = .ok (.invokevirtual 150, 3) := by decide +kernel
theorem dX1_warms_34 : decode cX1_warms 34 = .ok (.ireturn, 1) := by decide +kernel
theorem dX1_cools_0 : decode cX1_cools 0 = .ok (.aload_n 0, 1) := by decide +kernel
theorem dX1_cools_1 : decode cX1_cools 1 = .ok (.getfield 12, 3) := by decide +kernel
theorem dX1_cools_4 : decode cX1_cools 4 = .ok (.aload_n 0, 1) := by decide +kernel
theorem dX1_cools_5 : decode cX1_cools 5 = .ok (.getfield 46, 3) := by decide +kernel
theorem dX1_cools_8 : decode cX1_cools 8 = .ok (.aload_n 0, 1) := by decide +kernel
theorem dX1_cools_9 : decode cX1_cools 9 = .ok (.getfield 42, 3) := by decide +kernel
theorem dX1_cools_12 : decode cX1_cools 12 = .ok (.getfield 80, 3) := by decide +kernel
theorem dX1_cools_15 : decode cX1_cools 15 = .ok (.bipush (-17), 2) := by decide +kernel
theorem dX1_cools_17 : decode cX1_cools 17 = .ok (.aload_n 0, 1) := by decide +kernel
theorem dX1_cools_18 : decode cX1_cools 18 = .ok (.getfield 12, 3) := by decide +kernel
theorem dX1_cools_21 : decode cX1_cools 21 = .ok (.invokevirtual 83, 3) := by decide +kernel
theorem dX1_cools_24 : decode cX1_cools 24 = .ok (.bipush (-99), 2) := by decide +kernel
theorem dX1_cools_26 : decode cX1_cools 26 = .ok (.bipush 99, 2) := by decide +kernel
theorem dX1_cools_28 : decode cX1_cools 28 = .ok (.invokestatic 73, 3) := by decide +kernel
theorem dX1_cools_31 : decode cX1_cools 31 = .ok (.invokevirtual 152, 3) := by decide +kernel
theorem dX1_cools_34 : decode cX1_cools 34 = .ok (.ireturn, 1) := by decide +kernel
theorem dX1_warmthNow_0 : decode cX1_warmthNow 0 = .ok (.aload_n 0, 1) := by decide +kernel
theorem dX1_warmthNow_1 : decode cX1_warmthNow 1 = .ok (.getfield 35, 3) := by decide +kernel
theorem dX1_warmthNow_4 : decode cX1_warmthNow 4 = .ok (.ifCond .le 16, 3) := by decide +kernel
theorem dX1_warmthNow_7 : decode cX1_warmthNow 7 = .ok (.aload_n 0, 1) := by decide +kernel
theorem dX1_warmthNow_8 : decode cX1_warmthNow 8 = .ok (.aload_n 0, 1) := by decide +kernel
theorem dX1_warmthNow_9 : decode cX1_warmthNow 9 = .ok (.getfield 35, 3) := by decide +kernel
theorem dX1_warmthNow_12 : decode cX1_warmthNow 12 = .ok (.iconst 1, 1) := by decide +kernel
theorem dX1_warmthNow_13 : decode cX1_warmthNow 13 = .ok (.isub, 1) := by decide +kernel
theorem dX1_warmthNow_14 : decode cX1_warmthNow 14 = .ok (.invokevirtual 154, 3) := by decide +kernel
theorem dX1_warmthNow_17 : decode cX1_warmthNow 17 = .ok (.goto 10, 3) := by decide +kernel
theorem dX1_warmthNow_20 : decode cX1_warmthNow 20 = .ok (.aload_n 0, 1) := by decide +kernel
theorem dX1_warmthNow_21 : decode cX1_warmthNow 21 = .ok (.getfield 42, 3) := by decide +kernel
theorem dX1_warmthNow_24 : decode cX1_warmthNow 24 = .ok (.getfield 157, 3) := by decide +kernel
theorem dX1_warmthNow_27 : decode cX1_warmthNow 27 = .ok (.ireturn, 1) := by decide +kernel
theorem dX1_warmthBehind_0 : decode cX1_warmthBehind 0 = .ok (.iload_n 1, 1) := by decide +kernel
theorem dX1_warmthBehind_1 : decode cX1_warmthBehind 1 = .ok (.ifCond .lt 29, 3) := by decide +kernel
theorem dX1_warmthBehind_4 : decode cX1_warmthBehind 4 = .ok (.iload_n 1, 1) := by decide +kernel
theorem dX1_warmthBehind_5 : decode cX1_warmthBehind 5 = .ok (.aload_n 0, 1) := by decide +kernel
theorem dX1_warmthBehind_6 : decode cX1_warmthBehind 6 = .ok (.getfield 35, 3) := by decide +kernel
theorem dX1_warmthBehind_9 : decode cX1_warmthBehind 9 = .ok (.if_icmp .ge 21, 3) := by decide +kernel
theorem dX1_warmthBehind_12 : decode cX1_warmthBehind 12 = .ok (.iload_n 1, 1) := by decide +kernel
theorem dX1_warmthBehind_13 : decode cX1_warmthBehind 13 = .ok (.aload_n 0, 1) := by decide +kernel
theorem dX1_warmthBehind_14 : decode cX1_warmthBehind 14 = .ok (.getfield 25, 3) := by decide +kernel
theorem dX1_warmthBehind_17 : decode cX1_warmthBehind 17 = .ok (.arraylength, 1) := by decide +kernel
theorem dX1_warmthBehind_18 : decode cX1_warmthBehind 18 = .ok (.if_icmp .ge 12, 3) := by decide +kernel
theorem dX1_warmthBehind_21 : decode cX1_warmthBehind 21 = .ok (.aload_n 0, 1) := by decide +kernel
theorem dX1_warmthBehind_22 : decode cX1_warmthBehind 22 = .ok (.getfield 25, 3) := by decide +kernel
theorem dX1_warmthBehind_25 : decode cX1_warmthBehind 25 = .ok (.iload_n 1, 1) := by decide +kernel
theorem dX1_warmthBehind_26 : decode cX1_warmthBehind 26 = .ok (.iaload, 1) := by decide +kernel
theorem dX1_warmthBehind_27 : decode cX1_warmthBehind 27 = .ok (.goto 4, 3) := by decide +kernel
theorem dX1_warmthBehind_30 : decode cX1_warmthBehind 30 = .ok (.iconst (-1), 1) := by decide +kernel
theorem dX1_warmthBehind_31 : decode cX1_warmthBehind 31 = .ok (.ireturn, 1) := by decide +kernel
theorem dX1_guestAt_0 : decode cX1_guestAt 0 = .ok (.iload_n 1, 1) := by decide +kernel
theorem dX1_guestAt_1 : decode cX1_guestAt 1 = .ok (.ifCond .lt 29, 3) := by decide +kernel
theorem dX1_guestAt_4 : decode cX1_guestAt 4 = .ok (.iload_n 1, 1) := by decide +kernel
theorem dX1_guestAt_5 : decode cX1_guestAt 5 = .ok (.aload_n 0, 1) := by decide +kernel
theorem dX1_guestAt_6 : decode cX1_guestAt 6 = .ok (.getfield 35, 3) := by decide +kernel
theorem dX1_guestAt_9 : decode cX1_guestAt 9 = .ok (.if_icmp .ge 21, 3) := by decide +kernel
theorem dX1_guestAt_12 : decode cX1_guestAt 12 = .ok (.iload_n 1, 1) := by decide +kernel
theorem dX1_guestAt_13 : decode cX1_guestAt 13 = .ok (.aload_n 0, 1) := by decide +kernel
theorem dX1_guestAt_14 : decode cX1_guestAt 14 = .ok (.getfield 18, 3) := by decide +kernel
theorem dX1_guestAt_17 : decode cX1_guestAt 17 = .ok (.arraylength, 1) := by decide +kernel
theorem dX1_guestAt_18 : decode cX1_guestAt 18 = .ok (.if_icmp .ge 12, 3) := by decide +kernel
theorem dX1_guestAt_21 : decode cX1_guestAt 21 = .ok (.aload_n 0, 1) := by decide +kernel
theorem dX1_guestAt_22 : decode cX1_guestAt 22 = .ok (.getfield 18, 3) := by decide +kernel
theorem dX1_guestAt_25 : decode cX1_guestAt 25 = .ok (.iload_n 1, 1) := by decide +kernel
theorem dX1_guestAt_26 : decode cX1_guestAt 26 = .ok (.iaload, 1) := by decide +kernel
theorem dX1_guestAt_27 : decode cX1_guestAt 27 = .ok (.goto 4, 3) := by decide +kernel
theorem dX1_guestAt_30 : decode cX1_guestAt 30 = .ok (.iconst (-1), 1) := by decide +kernel
theorem dX1_guestAt_31 : decode cX1_guestAt 31 = .ok (.ireturn, 1) := by decide +kernel
theorem dX1_firstBoil_0 : decode cX1_firstBoil 0 = .ok (.iconst 0, 1) := by decide +kernel
theorem dX1_firstBoil_1 : decode cX1_firstBoil 1 = .ok (.istore_n 1, 1) := by decide +kernel
theorem dX1_firstBoil_2 : decode cX1_firstBoil 2 = .ok (.iload_n 1, 1) := by decide +kernel
theorem dX1_firstBoil_3 : decode cX1_firstBoil 3 = .ok (.aload_n 0, 1) := by decide +kernel
theorem dX1_firstBoil_4 : decode cX1_firstBoil 4 = .ok (.getfield 35, 3) := by decide +kernel
theorem dX1_firstBoil_7 : decode cX1_firstBoil 7 = .ok (.if_icmp .ge 29, 3) := by decide +kernel
theorem dX1_firstBoil_10 : decode cX1_firstBoil 10 = .ok (.iload_n 1, 1) := by decide +kernel
theorem dX1_firstBoil_11 : decode cX1_firstBoil 11 = .ok (.aload_n 0, 1) := by decide +kernel
theorem dX1_firstBoil_12 : decode cX1_firstBoil 12 = .ok (.getfield 28, 3) := by decide +kernel
theorem dX1_firstBoil_15 : decode cX1_firstBoil 15 = .ok (.arraylength, 1) := by decide +kernel
theorem dX1_firstBoil_16 : decode cX1_firstBoil 16 = .ok (.if_icmp .ge 20, 3) := by decide +kernel
theorem dX1_firstBoil_19 : decode cX1_firstBoil 19 = .ok (.aload_n 0, 1) := by decide +kernel
theorem dX1_firstBoil_20 : decode cX1_firstBoil 20 = .ok (.getfield 28, 3) := by decide +kernel
theorem dX1_firstBoil_23 : decode cX1_firstBoil 23 = .ok (.iload_n 1, 1) := by decide +kernel
theorem dX1_firstBoil_24 : decode cX1_firstBoil 24 = .ok (.baload, 1) := by decide +kernel
theorem dX1_firstBoil_25 : decode cX1_firstBoil 25 = .ok (.ifCond .eq 5, 3) := by decide +kernel
theorem dX1_firstBoil_28 : decode cX1_firstBoil 28 = .ok (.iload_n 1, 1) := by decide +kernel
theorem dX1_firstBoil_29 : decode cX1_firstBoil 29 = .ok (.ireturn, 1) := by decide +kernel
theorem dX1_firstBoil_30 : decode cX1_firstBoil 30 = .ok (.iinc 1 1, 3) := by decide +kernel
theorem dX1_firstBoil_33 : decode cX1_firstBoil 33 = .ok (.goto (-31), 3) := by decide +kernel
theorem dX1_firstBoil_36 : decode cX1_firstBoil 36 = .ok (.iconst (-1), 1) := by decide +kernel
theorem dX1_firstBoil_37 : decode cX1_firstBoil 37 = .ok (.ireturn, 1) := by decide +kernel
theorem dX1_screamsSoFar_0 : decode cX1_screamsSoFar 0 = .ok (.iconst 0, 1) := by decide +kernel
theorem dX1_screamsSoFar_1 : decode cX1_screamsSoFar 1 = .ok (.istore_n 1, 1) := by decide +kernel
theorem dX1_screamsSoFar_2 : decode cX1_screamsSoFar 2 = .ok (.iconst 0, 1) := by decide +kernel
theorem dX1_screamsSoFar_3 : decode cX1_screamsSoFar 3 = .ok (.istore_n 2, 1) := by decide +kernel
theorem dX1_screamsSoFar_4 : decode cX1_screamsSoFar 4 = .ok (.iload_n 2, 1) := by decide +kernel
theorem dX1_screamsSoFar_5 : decode cX1_screamsSoFar 5 = .ok (.aload_n 0, 1) := by decide +kernel
theorem dX1_screamsSoFar_6 : decode cX1_screamsSoFar 6 = .ok (.getfield 35, 3) := by decide +kernel
theorem dX1_screamsSoFar_9 : decode cX1_screamsSoFar 9 = .ok (.if_icmp .ge 30, 3) := by decide +kernel
theorem dX1_screamsSoFar_12 : decode cX1_screamsSoFar 12 = .ok (.iload_n 2, 1) := by decide +kernel
theorem dX1_screamsSoFar_13 : decode cX1_screamsSoFar 13 = .ok (.aload_n 0, 1) := by decide +kernel
theorem dX1_screamsSoFar_14 : decode cX1_screamsSoFar 14 = .ok (.getfield 32, 3) := by decide +kernel
theorem dX1_screamsSoFar_17 : decode cX1_screamsSoFar 17 = .ok (.arraylength, 1) := by decide +kernel
theorem dX1_screamsSoFar_18 : decode cX1_screamsSoFar 18 = .ok (.if_icmp .ge 21, 3) := by decide +kernel
theorem dX1_screamsSoFar_21 : decode cX1_screamsSoFar 21 = .ok (.aload_n 0, 1) := by decide +kernel
theorem dX1_screamsSoFar_22 : decode cX1_screamsSoFar 22 = .ok (.getfield 32, 3) := by decide +kernel
theorem dX1_screamsSoFar_25 : decode cX1_screamsSoFar 25 = .ok (.iload_n 2, 1) := by decide +kernel
theorem dX1_screamsSoFar_26 : decode cX1_screamsSoFar 26 = .ok (.baload, 1) := by decide +kernel
theorem dX1_screamsSoFar_27 : decode cX1_screamsSoFar 27 = .ok (.ifCond .eq 6, 3) := by decide +kernel
theorem dX1_screamsSoFar_30 : decode cX1_screamsSoFar 30 = .ok (.iinc 1 1, 3) := by decide +kernel
theorem dX1_screamsSoFar_33 : decode cX1_screamsSoFar 33 = .ok (.iinc 2 1, 3) := by decide +kernel
theorem dX1_screamsSoFar_36 : decode cX1_screamsSoFar 36 = .ok (.goto (-32), 3) := by decide +kernel
theorem dX1_screamsSoFar_39 : decode cX1_screamsSoFar 39 = .ok (.iload_n 1, 1) := by decide +kernel
theorem dX1_screamsSoFar_40 : decode cX1_screamsSoFar 40 = .ok (.ireturn, 1) := by decide +kernel
theorem dX1_digits_0 : decode cX1_digits 0 = .ok (.iconst 0, 1) := by decide +kernel
theorem dX1_digits_1 : decode cX1_digits 1 = .ok (.istore_n 1, 1) := by decide +kernel
theorem dX1_digits_2 : decode cX1_digits 2 = .ok (.iconst 0, 1) := by decide +kernel
theorem dX1_digits_3 : decode cX1_digits 3 = .ok (.istore_n 2, 1) := by decide +kernel
theorem dX1_digits_4 : decode cX1_digits 4 = .ok (.iload_n 2, 1) := by decide +kernel
theorem dX1_digits_5 : decode cX1_digits 5 = .ok (.aload_n 0, 1) := by decide +kernel
theorem dX1_digits_6 : decode cX1_digits 6 = .ok (.getfield 35, 3) := by decide +kernel
theorem dX1_digits_9 : decode cX1_digits 9 = .ok (.if_icmp .ge 32, 3) := by decide +kernel
theorem dX1_digits_12 : decode cX1_digits 12 = .ok (.iload_n 2, 1) := by decide +kernel
theorem dX1_digits_13 : decode cX1_digits 13 = .ok (.aload_n 0, 1) := by decide +kernel
theorem dX1_digits_14 : decode cX1_digits 14 = .ok (.getfield 18, 3) := by decide +kernel
theorem dX1_digits_17 : decode cX1_digits 17 = .ok (.arraylength, 1) := by decide +kernel
theorem dX1_digits_18 : decode cX1_digits 18 = .ok (.if_icmp .ge 23, 3) := by decide +kernel
theorem dX1_digits_21 : decode cX1_digits 21 = .ok (.iload_n 1, 1) := by decide +kernel
theorem dX1_digits_22 : decode cX1_digits 22 = .ok (.bipush 10, 2) := by decide +kernel
theorem dX1_digits_24 : decode cX1_digits 24 = .ok (.imul, 1) := by decide +kernel
theorem dX1_digits_25 : decode cX1_digits 25 = .ok (.aload_n 0, 1) := by decide +kernel
theorem dX1_digits_26 : decode cX1_digits 26 = .ok (.getfield 18, 3) := by decide +kernel
theorem dX1_digits_29 : decode cX1_digits 29 = .ok (.iload_n 2, 1) := by decide +kernel
theorem dX1_digits_30 : decode cX1_digits 30 = .ok (.iaload, 1) := by decide +kernel
theorem dX1_digits_31 : decode cX1_digits 31 = .ok (.iadd, 1) := by decide +kernel
theorem dX1_digits_32 : decode cX1_digits 32 = .ok (.iconst 1, 1) := by decide +kernel
theorem dX1_digits_33 : decode cX1_digits 33 = .ok (.iadd, 1) := by decide +kernel
theorem dX1_digits_34 : decode cX1_digits 34 = .ok (.istore_n 1, 1) := by decide +kernel
theorem dX1_digits_35 : decode cX1_digits 35 = .ok (.iinc 2 1, 3) := by decide +kernel
theorem dX1_digits_38 : decode cX1_digits 38 = .ok (.goto (-34), 3) := by decide +kernel
theorem dX1_digits_41 : decode cX1_digits 41 = .ok (.iload_n 1, 1) := by decide +kernel
theorem dX1_digits_42 : decode cX1_digits 42 = .ok (.ireturn, 1) := by decide +kernel
theorem dX1_digitsOfAll_0 : decode cX1_digitsOfAll 0 = .ok (.aload_n 0, 1) := by decide +kernel
theorem dX1_digitsOfAll_1 : decode cX1_digitsOfAll 1 = .ok (.invokevirtual 158, 3) := by decide +kernel
theorem dX1_digitsOfAll_4 : decode cX1_digitsOfAll 4 = .ok (.istore_n 1, 1) := by decide +kernel
theorem dX1_digitsOfAll_5 : decode cX1_digitsOfAll 5 = .ok (.iconst 0, 1) := by decide +kernel
theorem dX1_digitsOfAll_6 : decode cX1_digitsOfAll 6 = .ok (.istore_n 2, 1) := by decide +kernel
theorem dX1_digitsOfAll_7 : decode cX1_digitsOfAll 7 = .ok (.iload_n 2, 1) := by decide +kernel
theorem dX1_digitsOfAll_8 : decode cX1_digitsOfAll 8 = .ok (.aload_n 0, 1) := by decide +kernel
theorem dX1_digitsOfAll_9 : decode cX1_digitsOfAll 9 = .ok (.getfield 42, 3) := by decide +kernel
theorem dX1_digitsOfAll_12 : decode cX1_digitsOfAll 12 = .ok (.getfield 107, 3) := by decide +kernel
theorem dX1_digitsOfAll_15 : decode cX1_digitsOfAll 15 = .ok (.if_icmp .ge 26, 3) := by decide +kernel
theorem dX1_digitsOfAll_18 : decode cX1_digitsOfAll 18 = .ok (.aload_n 0, 1) := by decide +kernel
theorem dX1_digitsOfAll_19 : decode cX1_digitsOfAll 19 = .ok (.iload_n 2, 1) := by decide +kernel
theorem dX1_digitsOfAll_20 : decode cX1_digitsOfAll 20 = .ok (.invokevirtual 56, 3) := by decide +kernel
theorem dX1_digitsOfAll_23 : decode cX1_digitsOfAll 23 = .ok (.ifCond .ne 12, 3) := by decide +kernel
theorem dX1_digitsOfAll_26 : decode cX1_digitsOfAll 26 = .ok (.iload_n 1, 1) := by decide +kernel
theorem dX1_digitsOfAll_27 : decode cX1_digitsOfAll 27 = .ok (.bipush 10, 2) := by decide +kernel
theorem dX1_digitsOfAll_29 : decode cX1_digitsOfAll 29 = .ok (.imul, 1) := by decide +kernel
theorem dX1_digitsOfAll_30 : decode cX1_digitsOfAll 30 = .ok (.iload_n 2, 1) := by decide +kernel
theorem dX1_digitsOfAll_31 : decode cX1_digitsOfAll 31 = .ok (.iadd, 1) := by decide +kernel
theorem dX1_digitsOfAll_32 : decode cX1_digitsOfAll 32 = .ok (.iconst 1, 1) := by decide +kernel
theorem dX1_digitsOfAll_33 : decode cX1_digitsOfAll 33 = .ok (.iadd, 1) := by decide +kernel
theorem dX1_digitsOfAll_34 : decode cX1_digitsOfAll 34 = .ok (.istore_n 1, 1) := by decide +kernel
theorem dX1_digitsOfAll_35 : decode cX1_digitsOfAll 35 = .ok (.iinc 2 1, 3) := by decide +kernel
theorem dX1_digitsOfAll_38 : decode cX1_digitsOfAll 38 = .ok (.goto (-31), 3) := by decide +kernel
theorem dX1_digitsOfAll_41 : decode cX1_digitsOfAll 41 = .ok (.iload_n 1, 1) := by decide +kernel
theorem dX1_digitsOfAll_42 : decode cX1_digitsOfAll 42 = .ok (.ireturn, 1) := by decide +kernel
theorem dX2_init_0 : decode cX2_init 0 = .ok (.aload_n 0, 1) := by decide +kernel
theorem dX2_init_1 : decode cX2_init 1 = .ok (.invokespecial 3, 3) := by decide +kernel
theorem dX2_init_4 : decode cX2_init 4 = .ok (.aload_n 0, 1) := by decide +kernel
theorem dX2_init_5 : decode cX2_init 5 = .ok (.aload_n 1, 1) := by decide +kernel
theorem dX2_init_6 : decode cX2_init 6 = .ok (.putfield 9, 3) := by decide +kernel
theorem dX2_init_9 : decode cX2_init 9 = .ok (.aload_n 0, 1) := by decide +kernel
theorem dX2_init_10 : decode cX2_init 10 = .ok (.aload_n 2, 1) := by decide +kernel
theorem dX2_init_11 : decode cX2_init 11 = .ok (.putfield 15, 3) := by decide +kernel
theorem dX2_init_14 : decode cX2_init 14 = .ok (.return_, 1) := by decide +kernel
theorem dX2_read_0 : decode cX2_read 0 = .ok (.aload_n 0, 1) := by decide +kernel
theorem dX2_read_1 : decode cX2_read 1 = .ok (.getfield 15, 3) := by decide +kernel
theorem dX2_read_4 : decode cX2_read 4 = .ok (.invokevirtual 19, 3) := by decide +kernel
theorem dX2_read_7 : decode cX2_read 7 = .ok (.aload_n 0, 1) := by decide +kernel
theorem dX2_read_8 : decode cX2_read 8 = .ok (.getfield 9, 3) := by decide +kernel
theorem dX2_read_11 : decode cX2_read 11 = .ok (.invokevirtual 24, 3) := by decide +kernel
theorem dX2_read_14 : decode cX2_read 14 = .ok (.aload_n 0, 1) := by decide +kernel
theorem dX2_read_15 : decode cX2_read 15 = .ok (.bipush (-16), 2) := by decide +kernel
theorem dX2_read_17 : decode cX2_read 17 = .ok (.invokevirtual 29, 3) := by decide +kernel
theorem dX2_read_20 : decode cX2_read 20 = .ok (.ifCond .eq 37, 3) := by decide +kernel
theorem dX2_read_23 : decode cX2_read 23 = .ok (.aload_n 0, 1) := by decide +kernel
theorem dX2_read_24 : decode cX2_read 24 = .ok (.bipush (-17), 2) := by decide +kernel
theorem dX2_read_26 : decode cX2_read 26 = .ok (.invokevirtual 29, 3) := by decide +kernel
theorem dX2_read_29 : decode cX2_read 29 = .ok (.ifCond .eq 28, 3) := by decide +kernel
theorem dX2_read_32 : decode cX2_read 32 = .ok (.aload_n 0, 1) := by decide +kernel
theorem dX2_read_33 : decode cX2_read 33 = .ok (.bipush (-18), 2) := by decide +kernel
theorem dX2_read_35 : decode cX2_read 35 = .ok (.invokevirtual 29, 3) := by decide +kernel
theorem dX2_read_38 : decode cX2_read 38 = .ok (.ifCond .eq 19, 3) := by decide +kernel
theorem dX2_read_41 : decode cX2_read 41 = .ok (.aload_n 0, 1) := by decide +kernel
theorem dX2_read_42 : decode cX2_read 42 = .ok (.getfield 9, 3) := by decide +kernel
theorem dX2_read_45 : decode cX2_read 45 = .ok (.getfield 33, 3) := by decide +kernel
theorem dX2_read_48 : decode cX2_read 48 = .ok (.bipush (-22), 2) := by decide +kernel
theorem dX2_read_50 : decode cX2_read 50 = .ok (.if_icmp .ne 7, 3) := by decide +kernel
theorem dX2_read_53 : decode cX2_read 53 = .ok (.iconst 1, 1) := by decide +kernel
theorem dX2_read_54 : decode cX2_read 54 = .ok (.goto 4, 3) := by decide +kernel
theorem dX2_read_57 : decode cX2_read 57 = .ok (.iconst 0, 1) := by decide +kernel
theorem dX2_read_58 : decode cX2_read 58 = .ok (.istore_n 1, 1) := by decide +kernel
theorem dX2_read_59 : decode cX2_read 59 = .ok (.aload_n 0, 1) := by decide +kernel
theorem dX2_read_60 : decode cX2_read 60 = .ok (.getfield 9, 3) := by decide +kernel
theorem dX2_read_63 : decode cX2_read 63 = .ok (.invokevirtual 37, 3) := by decide +kernel
theorem dX2_read_66 : decode cX2_read 66 = .ok (.iload_n 1, 1) := by decide +kernel
theorem dX2_read_67 : decode cX2_read 67 = .ok (.ifCond .eq 13, 3) := by decide +kernel
theorem dX2_read_70 : decode cX2_read 70 = .ok (.aload_n 0, 1) := by decide +kernel
theorem dX2_read_71 : decode cX2_read 71 = .ok (.getfield 15, 3) := by decide +kernel
theorem dX2_read_74 : decode cX2_read 74 = .ok (.invokevirtual 40, 3) := by decide +kernel
theorem dX2_read_77 : decode cX2_read 77 = .ok (.goto 13, 3) := by decide +kernel
theorem dX2_read_80 : decode cX2_read 80 = .ok (.bipush (-100), 2) := by decide +kernel
theorem dX2_read_82 : decode cX2_read 82 = .ok (.aload_n 0, 1) := by decide +kernel
theorem dX2_read_83 : decode cX2_read 83 = .ok (.getfield 9, 3) := by decide +kernel
theorem dX2_read_86 : decode cX2_read 86 = .ok (.getfield 44, 3) := by decide +kernel
theorem dX2_read_89 : decode cX2_read 89 = .ok (.isub, 1) := by decide +kernel
theorem dX2_read_90 : decode cX2_read 90 = .ok (.ireturn, 1) := by decide +kernel
theorem dX2_readPart_0 : decode cX2_readPart 0 = .ok (.aload_n 0, 1) := by decide +kernel
theorem dX2_readPart_1 : decode cX2_readPart 1 = .ok (.getfield 15, 3) := by decide +kernel
theorem dX2_readPart_4 : decode cX2_readPart 4 = .ok (.iload_n 1, 1) := by decide +kernel
theorem dX2_readPart_5 : decode cX2_readPart 5 = .ok (.invokevirtual 47, 3) := by decide +kernel
theorem dX2_readPart_8 : decode cX2_readPart 8 = .ok (.aload_n 0, 1) := by decide +kernel
theorem dX2_readPart_9 : decode cX2_readPart 9 = .ok (.iload_n 1, 1) := by decide +kernel
theorem dX2_readPart_10 : decode cX2_readPart 10 = .ok (.invokevirtual 51, 3) := by decide +kernel
theorem dX2_readPart_13 : decode cX2_readPart 13 = .ok (.ifCond .eq 24, 3) := by decide +kernel
theorem dX2_readPart_16 : decode cX2_readPart 16 = .ok (.aload_n 0, 1) := by decide +kernel
theorem dX2_readPart_17 : decode cX2_readPart 17 = .ok (.iconst 0, 1) := by decide +kernel
theorem dX2_readPart_18 : decode cX2_readPart 18 = .ok (.invokevirtual 54, 3) := by decide +kernel
theorem dX2_readPart_21 : decode cX2_readPart 21 = .ok (.ifCond .eq 16, 3) := by decide +kernel
theorem dX2_readPart_24 : decode cX2_readPart 24 = .ok (.aload_n 0, 1) := by decide +kernel
theorem dX2_readPart_25 : decode cX2_readPart 25 = .ok (.bipush (-21), 2) := by decide +kernel
theorem dX2_readPart_27 : decode cX2_readPart 27 = .ok (.invokevirtual 51, 3) := by decide +kernel
theorem dX2_readPart_30 : decode cX2_readPart 30 = .ok (.ifCond .eq 7, 3) := by decide +kernel
theorem dX2_readPart_33 : decode cX2_readPart 33 = .ok (.iconst 1, 1) := by decide +kernel
theorem dX2_readPart_34 : decode cX2_readPart 34 = .ok (.goto 4, 3) := by decide +kernel
theorem dX2_readPart_37 : decode cX2_readPart 37 = .ok (.iconst 0, 1) := by decide +kernel
theorem dX2_readPart_38 : decode cX2_readPart 38 = .ok (.ireturn, 1) := by decide +kernel
theorem dX2_readToken_0 : decode cX2_readToken 0 = .ok (.aload_n 0, 1) := by decide +kernel
theorem dX2_readToken_1 : decode cX2_readToken 1 = .ok (.getfield 9, 3) := by decide +kernel
theorem dX2_readToken_4 : decode cX2_readToken 4 = .ok (.getfield 33, 3) := by decide +kernel
theorem dX2_readToken_7 : decode cX2_readToken 7 = .ok (.iload_n 1, 1) := by decide +kernel
theorem dX2_readToken_8 : decode cX2_readToken 8 = .ok (.if_icmp .eq 5, 3) := by decide +kernel
theorem dX2_readToken_11 : decode cX2_readToken 11 = .ok (.iconst 0, 1) := by decide +kernel
theorem dX2_readToken_12 : decode cX2_readToken 12 = .ok (.ireturn, 1) := by decide +kernel
theorem dX2_readToken_13 : decode cX2_readToken 13 = .ok (.aload_n 0, 1) := by decide +kernel
theorem dX2_readToken_14 : decode cX2_readToken 14 = .ok (.getfield 9, 3) := by decide +kernel
theorem dX2_readToken_17 : decode cX2_readToken 17 = .ok (.invokevirtual 57, 3) := by decide +kernel
theorem dX2_readToken_20 : decode cX2_readToken 20 = .ok (.iconst 1, 1) := by decide +kernel
theorem dX2_readToken_21 : decode cX2_readToken 21 = .ok (.ireturn, 1) := by decide +kernel
theorem dX2_readOr_0 : decode cX2_readOr 0 = .ok (.aload_n 0, 1) := by decide +kernel
theorem dX2_readOr_1 : decode cX2_readOr 1 = .ok (.iload_n 1, 1) := by decide +kernel
theorem dX2_readOr_2 : decode cX2_readOr 2 = .ok (.invokevirtual 60, 3) := by decide +kernel
theorem dX2_readOr_5 : decode cX2_readOr 5 = .ok (.ifCond .ne 5, 3) := by decide +kernel
theorem dX2_readOr_8 : decode cX2_readOr 8 = .ok (.iconst 0, 1) := by decide +kernel
theorem dX2_readOr_9 : decode cX2_readOr 9 = .ok (.ireturn, 1) := by decide +kernel
theorem dX2_readOr_10 : decode cX2_readOr 10 = .ok (.iconst 0, 1) := by decide +kernel
theorem dX2_readOr_11 : decode cX2_readOr 11 = .ok (.istore_n 2, 1) := by decide +kernel
theorem dX2_readOr_12 : decode cX2_readOr 12 = .ok (.iload_n 2, 1) := by decide +kernel
theorem dX2_readOr_13 : decode cX2_readOr 13 = .ok (.sipush 160, 3) := by decide +kernel
theorem dX2_readOr_16 : decode cX2_readOr 16 = .ok (.if_icmp .ge 50, 3) := by decide +kernel
theorem dX2_readOr_19 : decode cX2_readOr 19 = .ok (.aload_n 0, 1) := by decide +kernel
theorem dX2_readOr_20 : decode cX2_readOr 20 = .ok (.getfield 9, 3) := by decide +kernel
theorem dX2_readOr_23 : decode cX2_readOr 23 = .ok (.getfield 33, 3) := by decide +kernel
theorem dX2_readOr_26 : decode cX2_readOr 26 = .ok (.bipush (-7), 2) := by decide +kernel
theorem dX2_readOr_28 : decode cX2_readOr 28 = .ok (.if_icmp .ne 38, 3) := by decide +kernel
theorem dX2_readOr_31 : decode cX2_readOr 31 = .ok (.aload_n 0, 1) := by decide +kernel
theorem dX2_readOr_32 : decode cX2_readOr 32 = .ok (.getfield 9, 3) := by decide +kernel
theorem dX2_readOr_35 : decode cX2_readOr 35 = .ok (.invokevirtual 57, 3) := by decide +kernel
theorem dX2_readOr_38 : decode cX2_readOr 38 = .ok (.aload_n 0, 1) := by decide +kernel
theorem dX2_readOr_39 : decode cX2_readOr 39 = .ok (.iload_n 1, 1) := by decide +kernel
theorem dX2_readOr_40 : decode cX2_readOr 40 = .ok (.invokevirtual 60, 3) := by decide +kernel
theorem dX2_readOr_43 : decode cX2_readOr 43 = .ok (.ifCond .eq 15, 3) := by decide +kernel
theorem dX2_readOr_46 : decode cX2_readOr 46 = .ok (.aload_n 0, 1) := by decide +kernel
theorem dX2_readOr_47 : decode cX2_readOr 47 = .ok (.getfield 15, 3) := by decide +kernel
theorem dX2_readOr_50 : decode cX2_readOr 50 = .ok (.bipush (-7), 2) := by decide +kernel
theorem dX2_readOr_52 : decode cX2_readOr 52 = .ok (.invokevirtual 63, 3) := by decide +kernel
theorem dX2_readOr_55 : decode cX2_readOr 55 = .ok (.ifCond .ne 5, 3) := by decide +kernel
theorem dX2_readOr_58 : decode cX2_readOr 58 = .ok (.iconst 0, 1) := by decide +kernel
theorem dX2_readOr_59 : decode cX2_readOr 59 = .ok (.ireturn, 1) := by decide +kernel
theorem dX2_readOr_60 : decode cX2_readOr 60 = .ok (.iinc 2 1, 3) := by decide +kernel
theorem dX2_readOr_63 : decode cX2_readOr 63 = .ok (.goto (-51), 3) := by decide +kernel
theorem dX2_readOr_66 : decode cX2_readOr 66 = .ok (.iconst 1, 1) := by decide +kernel
theorem dX2_readOr_67 : decode cX2_readOr 67 = .ok (.ireturn, 1) := by decide +kernel
theorem dX2_readAnd_0 : decode cX2_readAnd 0 = .ok (.aload_n 0, 1) := by decide +kernel
theorem dX2_readAnd_1 : decode cX2_readAnd 1 = .ok (.iload_n 1, 1) := by decide +kernel
theorem dX2_readAnd_2 : decode cX2_readAnd 2 = .ok (.invokevirtual 66, 3) := by decide +kernel
theorem dX2_readAnd_5 : decode cX2_readAnd 5 = .ok (.ifCond .ne 5, 3) := by decide +kernel
theorem dX2_readAnd_8 : decode cX2_readAnd 8 = .ok (.iconst 0, 1) := by decide +kernel
theorem dX2_readAnd_9 : decode cX2_readAnd 9 = .ok (.ireturn, 1) := by decide +kernel
theorem dX2_readAnd_10 : decode cX2_readAnd 10 = .ok (.iconst 0, 1) := by decide +kernel
theorem dX2_readAnd_11 : decode cX2_readAnd 11 = .ok (.istore_n 2, 1) := by decide +kernel
theorem dX2_readAnd_12 : decode cX2_readAnd 12 = .ok (.iload_n 2, 1) := by decide +kernel
theorem dX2_readAnd_13 : decode cX2_readAnd 13 = .ok (.sipush 160, 3) := by decide +kernel
theorem dX2_readAnd_16 : decode cX2_readAnd 16 = .ok (.if_icmp .ge 50, 3) := by decide +kernel
theorem dX2_readAnd_19 : decode cX2_readAnd 19 = .ok (.aload_n 0, 1) := by decide +kernel
theorem dX2_readAnd_20 : decode cX2_readAnd 20 = .ok (.getfield 9, 3) := by decide +kernel
theorem dX2_readAnd_23 : decode cX2_readAnd 23 = .ok (.getfield 33, 3) := by decide +kernel
theorem dX2_readAnd_26 : decode cX2_readAnd 26 = .ok (.bipush (-8), 2) := by decide +kernel
theorem dX2_readAnd_28 : decode cX2_readAnd 28 = .ok (.if_icmp .ne 38, 3) := by decide +kernel
theorem dX2_readAnd_31 : decode cX2_readAnd 31 = .ok (.aload_n 0, 1) := by decide +kernel
theorem dX2_readAnd_32 : decode cX2_readAnd 32 = .ok (.getfield 9, 3) := by decide +kernel
theorem dX2_readAnd_35 : decode cX2_readAnd 35 = .ok (.invokevirtual 57, 3) := by decide +kernel
theorem dX2_readAnd_38 : decode cX2_readAnd 38 = .ok (.aload_n 0, 1) := by decide +kernel
theorem dX2_readAnd_39 : decode cX2_readAnd 39 = .ok (.iload_n 1, 1) := by decide +kernel
theorem dX2_readAnd_40 : decode cX2_readAnd 40 = .ok (.invokevirtual 66, 3) := by decide +kernel
theorem dX2_readAnd_43 : decode cX2_readAnd 43 = .ok (.ifCond .eq 15, 3) := by decide +kernel
theorem dX2_readAnd_46 : decode cX2_readAnd 46 = .ok (.aload_n 0, 1) := by decide +kernel
theorem dX2_readAnd_47 : decode cX2_readAnd 47 = .ok (.getfield 15, 3) := by decide +kernel
theorem dX2_readAnd_50 : decode cX2_readAnd 50 = .ok (.bipush (-8), 2) := by decide +kernel
theorem dX2_readAnd_52 : decode cX2_readAnd 52 = .ok (.invokevirtual 63, 3) := by decide +kernel
theorem dX2_readAnd_55 : decode cX2_readAnd 55 = .ok (.ifCond .ne 5, 3) := by decide +kernel
theorem dX2_readAnd_58 : decode cX2_readAnd 58 = .ok (.iconst 0, 1) := by decide +kernel
theorem dX2_readAnd_59 : decode cX2_readAnd 59 = .ok (.ireturn, 1) := by decide +kernel
theorem dX2_readAnd_60 : decode cX2_readAnd 60 = .ok (.iinc 2 1, 3) := by decide +kernel
theorem dX2_readAnd_63 : decode cX2_readAnd 63 = .ok (.goto (-51), 3) := by decide +kernel
theorem dX2_readAnd_66 : decode cX2_readAnd 66 = .ok (.iconst 1, 1) := by decide +kernel
theorem dX2_readAnd_67 : decode cX2_readAnd 67 = .ok (.ireturn, 1) := by decide +kernel
theorem dX2_readNot_0 : decode cX2_readNot 0 = .ok (.aload_n 0, 1) := by decide +kernel
theorem dX2_readNot_1 : decode cX2_readNot 1 = .ok (.getfield 9, 3) := by decide +kernel
theorem dX2_readNot_4 : decode cX2_readNot 4 = .ok (.getfield 33, 3) := by decide +kernel
theorem dX2_readNot_7 : decode cX2_readNot 7 = .ok (.bipush (-9), 2) := by decide +kernel
theorem dX2_readNot_9 : decode cX2_readNot 9 = .ok (.if_icmp .ne 45, 3) := by decide +kernel
theorem dX2_readNot_12 : decode cX2_readNot 12 = .ok (.iload_n 1, 1) := by decide +kernel
theorem dX2_readNot_13 : decode cX2_readNot 13 = .ok (.iconst 5, 1) := by decide +kernel
theorem dX2_readNot_14 : decode cX2_readNot 14 = .ok (.if_icmp .lt 5, 3) := by decide +kernel
theorem dX2_readNot_17 : decode cX2_readNot 17 = .ok (.iconst 0, 1) := by decide +kernel
theorem dX2_readNot_18 : decode cX2_readNot 18 = .ok (.ireturn, 1) := by decide +kernel
theorem dX2_readNot_19 : decode cX2_readNot 19 = .ok (.aload_n 0, 1) := by decide +kernel
theorem dX2_readNot_20 : decode cX2_readNot 20 = .ok (.getfield 9, 3) := by decide +kernel
theorem dX2_readNot_23 : decode cX2_readNot 23 = .ok (.invokevirtual 57, 3) := by decide +kernel
theorem dX2_readNot_26 : decode cX2_readNot 26 = .ok (.aload_n 0, 1) := by decide +kernel
theorem dX2_readNot_27 : decode cX2_readNot 27 = .ok (.iload_n 1, 1) := by decide +kernel
theorem dX2_readNot_28 : decode cX2_readNot 28 = .ok (.iconst 1, 1) := by decide +kernel
theorem dX2_readNot_29 : decode cX2_readNot 29 = .ok (.iadd, 1) := by decide +kernel
theorem dX2_readNot_30 : decode cX2_readNot 30 = .ok (.invokevirtual 66, 3) := by decide +kernel
theorem dX2_readNot_33 : decode cX2_readNot 33 = .ok (.ifCond .eq 19, 3) := by decide +kernel
theorem dX2_readNot_36 : decode cX2_readNot 36 = .ok (.aload_n 0, 1) := by decide +kernel
theorem dX2_readNot_37 : decode cX2_readNot 37 = .ok (.getfield 15, 3) := by decide +kernel
theorem dX2_readNot_40 : decode cX2_readNot 40 = .ok (.bipush (-9), 2) := by decide +kernel
theorem dX2_readNot_42 : decode cX2_readNot 42 = .ok (.invokevirtual 63, 3) := by decide +kernel
theorem dX2_readNot_45 : decode cX2_readNot 45 = .ok (.ifCond .eq 7, 3) := by decide +kernel
theorem dX2_readNot_48 : decode cX2_readNot 48 = .ok (.iconst 1, 1) := by decide +kernel
theorem dX2_readNot_49 : decode cX2_readNot 49 = .ok (.goto 4, 3) := by decide +kernel
theorem dX2_readNot_52 : decode cX2_readNot 52 = .ok (.iconst 0, 1) := by decide +kernel
theorem dX2_readNot_53 : decode cX2_readNot 53 = .ok (.ireturn, 1) := by decide +kernel
theorem dX2_readNot_54 : decode cX2_readNot 54 = .ok (.aload_n 0, 1) := by decide +kernel
theorem dX2_readNot_55 : decode cX2_readNot 55 = .ok (.iload_n 1, 1) := by decide +kernel
theorem dX2_readNot_56 : decode cX2_readNot 56 = .ok (.invokevirtual 69, 3) := by decide +kernel
theorem dX2_readNot_59 : decode cX2_readNot 59 = .ok (.ifCond .ne 5, 3) := by decide +kernel
theorem dX2_readNot_62 : decode cX2_readNot 62 = .ok (.iconst 0, 1) := by decide +kernel
theorem dX2_readNot_63 : decode cX2_readNot 63 = .ok (.ireturn, 1) := by decide +kernel
theorem dX2_readNot_64 : decode cX2_readNot 64 = .ok (.aload_n 0, 1) := by decide +kernel
theorem dX2_readNot_65 : decode cX2_readNot 65 = .ok (.getfield 9, 3) := by decide +kernel
theorem dX2_readNot_68 : decode cX2_readNot 68 = .ok (.getfield 33, 3) := by decide +kernel
theorem dX2_readNot_71 : decode cX2_readNot 71 = .ok (.istore_n 2, 1) := by decide +kernel
theorem dX2_readNot_72 : decode cX2_readNot 72 = .ok (.iload_n 2, 1) := by decide +kernel
theorem dX2_readNot_73 : decode cX2_readNot 73 = .ok (.bipush (-10), 2) := by decide +kernel
theorem dX2_readNot_75 : decode cX2_readNot 75 = .ok (.if_icmp .eq 11, 3) := by decide +kernel
theorem dX2_readNot_78 : decode cX2_readNot 78 = .ok (.iload_n 2, 1) := by decide +kernel
theorem dX2_readNot_79 : decode cX2_readNot 79 = .ok (.bipush (-11), 2) := by decide +kernel
theorem dX2_readNot_81 : decode cX2_readNot 81 = .ok (.if_icmp .eq 5, 3) := by decide +kernel
theorem dX2_readNot_84 : decode cX2_readNot 84 = .ok (.iconst 1, 1) := by decide +kernel
theorem dX2_readNot_85 : decode cX2_readNot 85 = .ok (.ireturn, 1) := by decide +kernel
theorem dX2_readNot_86 : decode cX2_readNot 86 = .ok (.aload_n 0, 1) := by decide +kernel
theorem dX2_readNot_87 : decode cX2_readNot 87 = .ok (.getfield 9, 3) := by decide +kernel
theorem dX2_readNot_90 : decode cX2_readNot 90 = .ok (.invokevirtual 57, 3) := by decide +kernel
theorem dX2_readNot_93 : decode cX2_readNot 93 = .ok (.aload_n 0, 1) := by decide +kernel
theorem dX2_readNot_94 : decode cX2_readNot 94 = .ok (.iload_n 1, 1) := by decide +kernel
theorem dX2_readNot_95 : decode cX2_readNot 95 = .ok (.invokevirtual 69, 3) := by decide +kernel
theorem dX2_readNot_98 : decode cX2_readNot 98 = .ok (.ifCond .eq 18, 3) := by decide +kernel
theorem dX2_readNot_101 : decode cX2_readNot 101 = .ok (.aload_n 0, 1) := by decide +kernel
theorem dX2_readNot_102 : decode cX2_readNot 102 = .ok (.getfield 15, 3) := by decide +kernel
theorem dX2_readNot_105 : decode cX2_readNot 105 = .ok (.iload_n 2, 1) := by decide +kernel
theorem dX2_readNot_106 : decode cX2_readNot 106 = .ok (.invokevirtual 63, 3) := by decide +kernel
theorem dX2_readNot_109 : decode cX2_readNot 109 = .ok (.ifCond .eq 7, 3) := by decide +kernel
theorem dX2_readNot_112 : decode cX2_readNot 112 = .ok (.iconst 1, 1) := by decide +kernel
theorem dX2_readNot_113 : decode cX2_readNot 113 = .ok (.goto 4, 3) := by decide +kernel
theorem dX2_readNot_116 : decode cX2_readNot 116 = .ok (.iconst 0, 1) := by decide +kernel
theorem dX2_readNot_117 : decode cX2_readNot 117 = .ok (.ireturn, 1) := by decide +kernel
theorem dX2_readSum_0 : decode cX2_readSum 0 = .ok (.aload_n 0, 1) := by decide +kernel
theorem dX2_readSum_1 : decode cX2_readSum 1 = .ok (.iload_n 1, 1) := by decide +kernel
theorem dX2_readSum_2 : decode cX2_readSum 2 = .ok (.invokevirtual 72, 3) := by decide +kernel
theorem dX2_readSum_5 : decode cX2_readSum 5 = .ok (.ifCond .ne 5, 3) := by decide +kernel
theorem dX2_readSum_8 : decode cX2_readSum 8 = .ok (.iconst 0, 1) := by decide +kernel
theorem dX2_readSum_9 : decode cX2_readSum 9 = .ok (.ireturn, 1) := by decide +kernel
theorem dX2_readSum_10 : decode cX2_readSum 10 = .ok (.iconst 0, 1) := by decide +kernel
theorem dX2_readSum_11 : decode cX2_readSum 11 = .ok (.istore_n 2, 1) := by decide +kernel
theorem dX2_readSum_12 : decode cX2_readSum 12 = .ok (.iload_n 2, 1) := by decide +kernel
theorem dX2_readSum_13 : decode cX2_readSum 13 = .ok (.sipush 160, 3) := by decide +kernel
theorem dX2_readSum_16 : decode cX2_readSum 16 = .ok (.if_icmp .ge 69, 3) := by decide +kernel
theorem dX2_readSum_19 : decode cX2_readSum 19 = .ok (.aload_n 0, 1) := by decide +kernel
theorem dX2_readSum_20 : decode cX2_readSum 20 = .ok (.getfield 9, 3) := by decide +kernel
theorem dX2_readSum_23 : decode cX2_readSum 23 = .ok (.getfield 33, 3) := by decide +kernel
theorem dX2_readSum_26 : decode cX2_readSum 26 = .ok (.bipush (-12), 2) := by decide +kernel
theorem dX2_readSum_28 : decode cX2_readSum 28 = .ok (.if_icmp .eq 15, 3) := by decide +kernel
theorem dX2_readSum_31 : decode cX2_readSum 31 = .ok (.aload_n 0, 1) := by decide +kernel
theorem dX2_readSum_32 : decode cX2_readSum 32 = .ok (.getfield 9, 3) := by decide +kernel
theorem dX2_readSum_35 : decode cX2_readSum 35 = .ok (.getfield 33, 3) := by decide +kernel
theorem dX2_readSum_38 : decode cX2_readSum 38 = .ok (.bipush (-13), 2) := by decide +kernel
theorem dX2_readSum_40 : decode cX2_readSum 40 = .ok (.if_icmp .ne 45, 3) := by decide +kernel
theorem dX2_readSum_43 : decode cX2_readSum 43 = .ok (.aload_n 0, 1) := by decide +kernel
theorem dX2_readSum_44 : decode cX2_readSum 44 = .ok (.getfield 9, 3) := by decide +kernel
theorem dX2_readSum_47 : decode cX2_readSum 47 = .ok (.getfield 33, 3) := by decide +kernel
theorem dX2_readSum_50 : decode cX2_readSum 50 = .ok (.istore_n 3, 1) := by decide +kernel
theorem dX2_readSum_51 : decode cX2_readSum 51 = .ok (.aload_n 0, 1) := by decide +kernel
theorem dX2_readSum_52 : decode cX2_readSum 52 = .ok (.getfield 9, 3) := by decide +kernel
theorem dX2_readSum_55 : decode cX2_readSum 55 = .ok (.invokevirtual 57, 3) := by decide +kernel
theorem dX2_readSum_58 : decode cX2_readSum 58 = .ok (.aload_n 0, 1) := by decide +kernel
theorem dX2_readSum_59 : decode cX2_readSum 59 = .ok (.iload_n 1, 1) := by decide +kernel
theorem dX2_readSum_60 : decode cX2_readSum 60 = .ok (.invokevirtual 72, 3) := by decide +kernel
theorem dX2_readSum_63 : decode cX2_readSum 63 = .ok (.ifCond .eq 14, 3) := by decide +kernel
theorem dX2_readSum_66 : decode cX2_readSum 66 = .ok (.aload_n 0, 1) := by decide +kernel
theorem dX2_readSum_67 : decode cX2_readSum 67 = .ok (.getfield 15, 3) := by decide +kernel
theorem dX2_readSum_70 : decode cX2_readSum 70 = .ok (.iload_n 3, 1) := by decide +kernel
theorem dX2_readSum_71 : decode cX2_readSum 71 = .ok (.invokevirtual 63, 3) := by decide +kernel
theorem dX2_readSum_74 : decode cX2_readSum 74 = .ok (.ifCond .ne 5, 3) := by decide +kernel
theorem dX2_readSum_77 : decode cX2_readSum 77 = .ok (.iconst 0, 1) := by decide +kernel
theorem dX2_readSum_78 : decode cX2_readSum 78 = .ok (.ireturn, 1) := by decide +kernel
theorem dX2_readSum_79 : decode cX2_readSum 79 = .ok (.iinc 2 1, 3) := by decide +kernel
theorem dX2_readSum_82 : decode cX2_readSum 82 = .ok (.goto (-70), 3) := by decide +kernel
theorem dX2_readSum_85 : decode cX2_readSum 85 = .ok (.iconst 1, 1) := by decide +kernel
theorem dX2_readSum_86 : decode cX2_readSum 86 = .ok (.ireturn, 1) := by decide +kernel
theorem dX2_readTerm_0 : decode cX2_readTerm 0 = .ok (.aload_n 0, 1) := by decide +kernel
theorem dX2_readTerm_1 : decode cX2_readTerm 1 = .ok (.iload_n 1, 1) := by decide +kernel
theorem dX2_readTerm_2 : decode cX2_readTerm 2 = .ok (.invokevirtual 75, 3) := by decide +kernel
theorem dX2_readTerm_5 : decode cX2_readTerm 5 = .ok (.ifCond .ne 5, 3) := by decide +kernel
theorem dX2_readTerm_8 : decode cX2_readTerm 8 = .ok (.iconst 0, 1) := by decide +kernel
theorem dX2_readTerm_9 : decode cX2_readTerm 9 = .ok (.ireturn, 1) := by decide +kernel
theorem dX2_readTerm_10 : decode cX2_readTerm 10 = .ok (.iconst 0, 1) := by decide +kernel
theorem dX2_readTerm_11 : decode cX2_readTerm 11 = .ok (.istore_n 2, 1) := by decide +kernel
theorem dX2_readTerm_12 : decode cX2_readTerm 12 = .ok (.iload_n 2, 1) := by decide +kernel
theorem dX2_readTerm_13 : decode cX2_readTerm 13 = .ok (.sipush 160, 3) := by decide +kernel
theorem dX2_readTerm_16 : decode cX2_readTerm 16 = .ok (.if_icmp .ge 50, 3) := by decide +kernel
theorem dX2_readTerm_19 : decode cX2_readTerm 19 = .ok (.aload_n 0, 1) := by decide +kernel
theorem dX2_readTerm_20 : decode cX2_readTerm 20 = .ok (.getfield 9, 3) := by decide +kernel
theorem dX2_readTerm_23 : decode cX2_readTerm 23 = .ok (.getfield 33, 3) := by decide +kernel
theorem dX2_readTerm_26 : decode cX2_readTerm 26 = .ok (.bipush (-14), 2) := by decide +kernel
theorem dX2_readTerm_28 : decode cX2_readTerm 28 = .ok (.if_icmp .ne 38, 3) := by decide +kernel
theorem dX2_readTerm_31 : decode cX2_readTerm 31 = .ok (.aload_n 0, 1) := by decide +kernel
theorem dX2_readTerm_32 : decode cX2_readTerm 32 = .ok (.getfield 9, 3) := by decide +kernel
theorem dX2_readTerm_35 : decode cX2_readTerm 35 = .ok (.invokevirtual 57, 3) := by decide +kernel
theorem dX2_readTerm_38 : decode cX2_readTerm 38 = .ok (.aload_n 0, 1) := by decide +kernel
theorem dX2_readTerm_39 : decode cX2_readTerm 39 = .ok (.iload_n 1, 1) := by decide +kernel
theorem dX2_readTerm_40 : decode cX2_readTerm 40 = .ok (.invokevirtual 75, 3) := by decide +kernel
theorem dX2_readTerm_43 : decode cX2_readTerm 43 = .ok (.ifCond .eq 15, 3) := by decide +kernel
theorem dX2_readTerm_46 : decode cX2_readTerm 46 = .ok (.aload_n 0, 1) := by decide +kernel
theorem dX2_readTerm_47 : decode cX2_readTerm 47 = .ok (.getfield 15, 3) := by decide +kernel
theorem dX2_readTerm_50 : decode cX2_readTerm 50 = .ok (.bipush (-14), 2) := by decide +kernel
theorem dX2_readTerm_52 : decode cX2_readTerm 52 = .ok (.invokevirtual 63, 3) := by decide +kernel
theorem dX2_readTerm_55 : decode cX2_readTerm 55 = .ok (.ifCond .ne 5, 3) := by decide +kernel
theorem dX2_readTerm_58 : decode cX2_readTerm 58 = .ok (.iconst 0, 1) := by decide +kernel
theorem dX2_readTerm_59 : decode cX2_readTerm 59 = .ok (.ireturn, 1) := by decide +kernel
theorem dX2_readTerm_60 : decode cX2_readTerm 60 = .ok (.iinc 2 1, 3) := by decide +kernel
theorem dX2_readTerm_63 : decode cX2_readTerm 63 = .ok (.goto (-51), 3) := by decide +kernel
theorem dX2_readTerm_66 : decode cX2_readTerm 66 = .ok (.iconst 1, 1) := by decide +kernel
theorem dX2_readTerm_67 : decode cX2_readTerm 67 = .ok (.ireturn, 1) := by decide +kernel
theorem dX2_readOne_0 : decode cX2_readOne 0 = .ok (.aload_n 0, 1) := by decide +kernel
theorem dX2_readOne_1 : decode cX2_readOne 1 = .ok (.getfield 9, 3) := by decide +kernel
theorem dX2_readOne_4 : decode cX2_readOne 4 = .ok (.getfield 33, 3) := by decide +kernel
theorem dX2_readOne_7 : decode cX2_readOne 7 = .ok (.istore_n 2, 1) := by decide +kernel
theorem dX2_readOne_8 : decode cX2_readOne 8 = .ok (.iload_n 2, 1) := by decide +kernel
theorem dX2_readOne_9 : decode cX2_readOne 9 = .ok (.bipush (-7), 2) := by decide +kernel
theorem dX2_readOne_11 : decode cX2_readOne 11 = .ok (.if_icmp .le 19, 3) := by decide +kernel
theorem dX2_readOne_14 : decode cX2_readOne 14 = .ok (.aload_n 0, 1) := by decide +kernel
theorem dX2_readOne_15 : decode cX2_readOne 15 = .ok (.getfield 9, 3) := by decide +kernel
theorem dX2_readOne_18 : decode cX2_readOne 18 = .ok (.invokevirtual 57, 3) := by decide +kernel
theorem dX2_readOne_21 : decode cX2_readOne 21 = .ok (.aload_n 0, 1) := by decide +kernel
theorem dX2_readOne_22 : decode cX2_readOne 22 = .ok (.getfield 15, 3) := by decide +kernel
theorem dX2_readOne_25 : decode cX2_readOne 25 = .ok (.iload_n 2, 1) := by decide +kernel
theorem dX2_readOne_26 : decode cX2_readOne 26 = .ok (.invokevirtual 63, 3) := by decide +kernel
theorem dX2_readOne_29 : decode cX2_readOne 29 = .ok (.ireturn, 1) := by decide +kernel
theorem dX2_readOne_30 : decode cX2_readOne 30 = .ok (.iload_n 2, 1) := by decide +kernel
theorem dX2_readOne_31 : decode cX2_readOne 31 = .ok (.bipush (-13), 2) := by decide +kernel
theorem dX2_readOne_33 : decode cX2_readOne 33 = .ok (.if_icmp .eq 9, 3) := by decide +kernel
theorem dX2_readOne_36 : decode cX2_readOne 36 = .ok (.iload_n 2, 1) := by decide +kernel
theorem dX2_readOne_37 : decode cX2_readOne 37 = .ok (.bipush (-19), 2) := by decide +kernel
theorem dX2_readOne_39 : decode cX2_readOne 39 = .ok (.if_icmp .ne 8, 3) := by decide +kernel
theorem dX2_readOne_42 : decode cX2_readOne 42 = .ok (.iload_n 1, 1) := by decide +kernel
theorem dX2_readOne_43 : decode cX2_readOne 43 = .ok (.iconst 5, 1) := by decide +kernel
theorem dX2_readOne_44 : decode cX2_readOne 44 = .ok (.if_icmp .lt 5, 3) := by decide +kernel
theorem dX2_readOne_47 : decode cX2_readOne 47 = .ok (.iconst 0, 1) := by decide +kernel
theorem dX2_readOne_48 : decode cX2_readOne 48 = .ok (.ireturn, 1) := by decide +kernel
theorem dX2_readOne_49 : decode cX2_readOne 49 = .ok (.aload_n 0, 1) := by decide +kernel
theorem dX2_readOne_50 : decode cX2_readOne 50 = .ok (.getfield 9, 3) := by decide +kernel
theorem dX2_readOne_53 : decode cX2_readOne 53 = .ok (.invokevirtual 57, 3) := by decide +kernel
theorem dX2_readOne_56 : decode cX2_readOne 56 = .ok (.iload_n 2, 1) := by decide +kernel
theorem dX2_readOne_57 : decode cX2_readOne 57 = .ok (.bipush (-13), 2) := by decide +kernel
theorem dX2_readOne_59 : decode cX2_readOne 59 = .ok (.if_icmp .ne 33, 3) := by decide +kernel
theorem dX2_readOne_62 : decode cX2_readOne 62 = .ok (.aload_n 0, 1) := by decide +kernel
theorem dX2_readOne_63 : decode cX2_readOne 63 = .ok (.iload_n 1, 1) := by decide +kernel
theorem dX2_readOne_64 : decode cX2_readOne 64 = .ok (.iconst 1, 1) := by decide +kernel
theorem dX2_readOne_65 : decode cX2_readOne 65 = .ok (.iadd, 1) := by decide +kernel
theorem dX2_readOne_66 : decode cX2_readOne 66 = .ok (.invokevirtual 75, 3) := by decide +kernel
theorem dX2_readOne_69 : decode cX2_readOne 69 = .ok (.ifCond .eq 19, 3) := by decide +kernel
theorem dX2_readOne_72 : decode cX2_readOne 72 = .ok (.aload_n 0, 1) := by decide +kernel
theorem dX2_readOne_73 : decode cX2_readOne 73 = .ok (.getfield 15, 3) := by decide +kernel
theorem dX2_readOne_76 : decode cX2_readOne 76 = .ok (.bipush (-15), 2) := by decide +kernel
theorem dX2_readOne_78 : decode cX2_readOne 78 = .ok (.invokevirtual 63, 3) := by decide +kernel
theorem dX2_readOne_81 : decode cX2_readOne 81 = .ok (.ifCond .eq 7, 3) := by decide +kernel
theorem dX2_readOne_84 : decode cX2_readOne 84 = .ok (.iconst 1, 1) := by decide +kernel
theorem dX2_readOne_85 : decode cX2_readOne 85 = .ok (.goto 31, 3) := by decide +kernel
theorem dX2_readOne_88 : decode cX2_readOne 88 = .ok (.iconst 0, 1) := by decide +kernel
theorem dX2_readOne_89 : decode cX2_readOne 89 = .ok (.goto 27, 3) := by decide +kernel
theorem dX2_readOne_92 : decode cX2_readOne 92 = .ok (.aload_n 0, 1) := by decide +kernel
theorem dX2_readOne_93 : decode cX2_readOne 93 = .ok (.iload_n 1, 1) := by decide +kernel
theorem dX2_readOne_94 : decode cX2_readOne 94 = .ok (.iconst 1, 1) := by decide +kernel
theorem dX2_readOne_95 : decode cX2_readOne 95 = .ok (.iadd, 1) := by decide +kernel
theorem dX2_readOne_96 : decode cX2_readOne 96 = .ok (.invokevirtual 54, 3) := by decide +kernel
theorem dX2_readOne_99 : decode cX2_readOne 99 = .ok (.ifCond .eq 16, 3) := by decide +kernel
theorem dX2_readOne_102 : decode cX2_readOne 102 = .ok (.aload_n 0, 1) := by decide +kernel
theorem dX2_readOne_103 : decode cX2_readOne 103 = .ok (.bipush (-20), 2) := by decide +kernel
theorem dX2_readOne_105 : decode cX2_readOne 105 = .ok (.invokevirtual 51, 3) := by decide +kernel
theorem dX2_readOne_108 : decode cX2_readOne 108 = .ok (.ifCond .eq 7, 3) := by decide +kernel
theorem dX2_readOne_111 : decode cX2_readOne 111 = .ok (.iconst 1, 1) := by decide +kernel
theorem dX2_readOne_112 : decode cX2_readOne 112 = .ok (.goto 4, 3) := by decide +kernel
theorem dX2_readOne_115 : decode cX2_readOne 115 = .ok (.iconst 0, 1) := by decide +kernel
theorem dX2_readOne_116 : decode cX2_readOne 116 = .ok (.ireturn, 1) := by decide +kernel
theorem dX3_init_0 : decode cX3_init 0 = .ok (.aload_n 0, 1) := by decide +kernel
theorem dX3_init_1 : decode cX3_init 1 = .ok (.invokespecial 3, 3) := by decide +kernel
theorem dX3_init_4 : decode cX3_init 4 = .ok (.aload_n 0, 1) := by decide +kernel
theorem dX3_init_5 : decode cX3_init 5 = .ok (.iconst 5, 1) := by decide +kernel
theorem dX3_init_6 : decode cX3_init 6 = .ok (.newarray .int, 2) := by decide +kernel
theorem dX3_init_8 : decode cX3_init 8 = .ok (.putfield 9, 3) := by decide +kernel
theorem dX3_init_11 : decode cX3_init 11 = .ok (.aload_n 0, 1) := by decide +kernel
theorem dX3_init_12 : decode cX3_init 12 = .ok (.iconst 5, 1) := by decide +kernel
theorem dX3_init_13 : decode cX3_init 13 = .ok (.newarray .int, 2) := by decide +kernel
theorem dX3_init_15 : decode cX3_init 15 = .ok (.putfield 15, 3) := by decide +kernel
theorem dX3_init_18 : decode cX3_init 18 = .ok (.aload_n 0, 1) := by decide +kernel
theorem dX3_init_19 : decode cX3_init 19 = .ok (.iconst 0, 1) := by decide +kernel
theorem dX3_init_20 : decode cX3_init 20 = .ok (.putfield 18, 3) := by decide +kernel
theorem dX3_init_23 : decode cX3_init 23 = .ok (.aload_n 0, 1) := by decide +kernel
theorem dX3_init_24 : decode cX3_init 24 = .ok (.iconst 0, 1) := by decide +kernel
theorem dX3_init_25 : decode cX3_init 25 = .ok (.putfield 22, 3) := by decide +kernel
theorem dX3_init_28 : decode cX3_init 28 = .ok (.aload_n 0, 1) := by decide +kernel
theorem dX3_init_29 : decode cX3_init 29 = .ok (.iconst 0, 1) := by decide +kernel
theorem dX3_init_30 : decode cX3_init 30 = .ok (.putfield 25, 3) := by decide +kernel
theorem dX3_init_33 : decode cX3_init 33 = .ok (.aload_n 0, 1) := by decide +kernel
theorem dX3_init_34 : decode cX3_init 34 = .ok (.aload_n 1, 1) := by decide +kernel
theorem dX3_init_35 : decode cX3_init 35 = .ok (.putfield 28, 3) := by decide +kernel
theorem dX3_init_38 : decode cX3_init 38 = .ok (.aload_n 0, 1) := by decide +kernel
theorem dX3_init_39 : decode cX3_init 39 = .ok (.aload_n 2, 1) := by decide +kernel
theorem dX3_init_40 : decode cX3_init 40 = .ok (.putfield 32, 3) := by decide +kernel
theorem dX3_init_43 : decode cX3_init 43 = .ok (.return_, 1) := by decide +kernel
theorem dX3_seekWays_0 : decode cX3_seekWays 0 = .ok (.aload_n 0, 1) := by decide +kernel
theorem dX3_seekWays_1 : decode cX3_seekWays 1 = .ok (.iconst 0, 1) := by decide +kernel
theorem dX3_seekWays_2 : decode cX3_seekWays 2 = .ok (.putfield 18, 3) := by decide +kernel
theorem dX3_seekWays_5 : decode cX3_seekWays 5 = .ok (.aload_n 0, 1) := by decide +kernel
theorem dX3_seekWays_6 : decode cX3_seekWays 6 = .ok (.iconst 0, 1) := by decide +kernel
theorem dX3_seekWays_7 : decode cX3_seekWays 7 = .ok (.putfield 22, 3) := by decide +kernel
theorem dX3_seekWays_10 : decode cX3_seekWays 10 = .ok (.aload_n 0, 1) := by decide +kernel
theorem dX3_seekWays_11 : decode cX3_seekWays 11 = .ok (.iconst 0, 1) := by decide +kernel
theorem dX3_seekWays_12 : decode cX3_seekWays 12 = .ok (.putfield 25, 3) := by decide +kernel
theorem dX3_seekWays_15 : decode cX3_seekWays 15 = .ok (.aload_n 0, 1) := by decide +kernel
theorem dX3_seekWays_16 : decode cX3_seekWays 16 = .ok (.getfield 32, 3) := by decide +kernel
theorem dX3_seekWays_19 : decode cX3_seekWays 19 = .ok (.invokevirtual 36, 3) := by decide +kernel
theorem dX3_seekWays_22 : decode cX3_seekWays 22 = .ok (.aload_n 0, 1) := by decide +kernel
theorem dX3_seekWays_23 : decode cX3_seekWays 23 = .ok (.iconst 0, 1) := by decide +kernel
theorem dX3_seekWays_24 : decode cX3_seekWays 24 = .ok (.aload_n 1, 1) := by decide +kernel
theorem dX3_seekWays_25 : decode cX3_seekWays 25 = .ok (.invokevirtual 41, 3) := by decide +kernel
theorem dX3_seekWays_28 : decode cX3_seekWays 28 = .ok (.return_, 1) := by decide +kernel
theorem dX3_seekWaysBehind_0 : decode cX3_seekWaysBehind 0 = .ok (.iload_n 1, 1) := by decide +kernel
theorem dX3_seekWaysBehind_1 : decode cX3_seekWaysBehind 1 = .ok (.aload_n 0, 1) := by decide +kernel
theorem dX3_seekWaysBehind_2 : decode cX3_seekWaysBehind 2 = .ok (.getfield 28, 3) := by decide +kernel
theorem dX3_seekWaysBehind_5 : decode cX3_seekWaysBehind 5 = .ok (.getfield 45, 3) := by decide +kernel
theorem dX3_seekWaysBehind_8 : decode cX3_seekWaysBehind 8 = .ok (.if_icmp .lt 8, 3) := by decide +kernel
theorem dX3_seekWaysBehind_11 : decode cX3_seekWaysBehind 11 = .ok (.aload_n 0, 1) := by decide +kernel
theorem dX3_seekWaysBehind_12 : decode cX3_seekWaysBehind 12 = .ok (.invokevirtual 50, 3) := by decide +kernel
theorem dX3_seekWaysBehind_15 : decode cX3_seekWaysBehind 15 = .ok (.return_, 1) := by decide +kernel
theorem dX3_seekWaysBehind_16 : decode cX3_seekWaysBehind 16 = .ok (.iconst 0, 1) := by decide +kernel
theorem dX3_seekWaysBehind_17 : decode cX3_seekWaysBehind 17 = .ok (.istore_n 3, 1) := by decide +kernel
theorem dX3_seekWaysBehind_18 : decode cX3_seekWaysBehind 18 = .ok (.iload_n 3, 1) := by decide +kernel
theorem dX3_seekWaysBehind_19 : decode cX3_seekWaysBehind 19 = .ok (.aload_n 0, 1) := by decide +kernel
theorem dX3_seekWaysBehind_20 : decode cX3_seekWaysBehind 20 = .ok (.getfield 28, 3) := by decide +kernel
theorem dX3_seekWaysBehind_23 : decode cX3_seekWaysBehind 23 = .ok (.getfield 45, 3) := by decide +kernel
theorem dX3_seekWaysBehind_26 : decode cX3_seekWaysBehind 26 = .ok (.if_icmp .ge 53, 3) := by decide +kernel
theorem dX3_seekWaysBehind_29 : decode cX3_seekWaysBehind 29 = .ok (.aload_n 0, 1) := by decide +kernel
theorem dX3_seekWaysBehind_30 : decode cX3_seekWaysBehind 30 = .ok (.getfield 32, 3) := by decide +kernel
theorem dX3_seekWaysBehind_33 : decode cX3_seekWaysBehind 33 = .ok (.iload_n 3, 1) := by decide +kernel
theorem dX3_seekWaysBehind_34 : decode cX3_seekWaysBehind 34 = .ok (.invokevirtual 53, 3) := by decide +kernel
theorem dX3_seekWaysBehind_37 : decode cX3_seekWaysBehind 37 = .ok (.ifCond .ne 6, 3) := by decide +kernel
theorem dX3_seekWaysBehind_40 : decode cX3_seekWaysBehind 40 = .ok (.goto 33, 3) := by decide +kernel
theorem dX3_seekWaysBehind_43 : decode cX3_seekWaysBehind 43 = .ok (.aload_n 0, 1) := by decide +kernel
theorem dX3_seekWaysBehind_44 : decode cX3_seekWaysBehind 44 = .ok (.getfield 32, 3) := by decide +kernel
theorem dX3_seekWaysBehind_47 : decode cX3_seekWaysBehind 47 = .ok (.invokevirtual 57, 3) := by decide +kernel
theorem dX3_seekWaysBehind_50 : decode cX3_seekWaysBehind 50 = .ok (.aload_n 2, 1) := by decide +kernel
theorem dX3_seekWaysBehind_51 : decode cX3_seekWaysBehind 51 = .ok (.iload_n 1, 1) := by decide +kernel
theorem dX3_seekWaysBehind_52 : decode cX3_seekWaysBehind 52 = .ok (.invokevirtual 61, 3) := by decide +kernel
theorem dX3_seekWaysBehind_55 : decode cX3_seekWaysBehind 55 = .ok (.if_icmp .ne 11, 3) := by decide +kernel
theorem dX3_seekWaysBehind_58 : decode cX3_seekWaysBehind 58 = .ok (.aload_n 0, 1) := by decide +kernel
theorem dX3_seekWaysBehind_59 : decode cX3_seekWaysBehind 59 = .ok (.iload_n 1, 1) := by decide +kernel
theorem dX3_seekWaysBehind_60 : decode cX3_seekWaysBehind 60 = .ok (.iconst 1, 1) := by decide +kernel
theorem dX3_seekWaysBehind_61 : decode cX3_seekWaysBehind 61 = .ok (.iadd, 1) := by decide +kernel
theorem dX3_seekWaysBehind_62 : decode cX3_seekWaysBehind 62 = .ok (.aload_n 2, 1) := by decide +kernel
theorem dX3_seekWaysBehind_63 : decode cX3_seekWaysBehind 63 = .ok (.invokevirtual 41, 3) := by decide +kernel
theorem dX3_seekWaysBehind_66 : decode cX3_seekWaysBehind 66 = .ok (.aload_n 0, 1) := by decide +kernel
theorem dX3_seekWaysBehind_67 : decode cX3_seekWaysBehind 67 = .ok (.getfield 32, 3) := by decide +kernel
theorem dX3_seekWaysBehind_70 : decode cX3_seekWaysBehind 70 = .ok (.invokevirtual 67, 3) := by decide +kernel
theorem dX3_seekWaysBehind_73 : decode cX3_seekWaysBehind 73 = .ok (.iinc 3 1, 3) := by decide +kernel
theorem dX3_seekWaysBehind_76 : decode cX3_seekWaysBehind 76 = .ok (.goto (-58), 3) := by decide +kernel
theorem dX3_seekWaysBehind_79 : decode cX3_seekWaysBehind 79 = .ok (.return_, 1) := by decide +kernel
theorem dX3_noteWay_0 : decode cX3_noteWay 0 = .ok (.aload_n 0, 1) := by decide +kernel
theorem dX3_noteWay_1 : decode cX3_noteWay 1 = .ok (.dup, 1) := by decide +kernel
theorem dX3_noteWay_2 : decode cX3_noteWay 2 = .ok (.getfield 18, 3) := by decide +kernel
theorem dX3_noteWay_5 : decode cX3_noteWay 5 = .ok (.iconst 1, 1) := by decide +kernel
theorem dX3_noteWay_6 : decode cX3_noteWay 6 = .ok (.iadd, 1) := by decide +kernel
theorem dX3_noteWay_7 : decode cX3_noteWay 7 = .ok (.putfield 18, 3) := by decide +kernel
theorem dX3_noteWay_10 : decode cX3_noteWay 10 = .ok (.aload_n 0, 1) := by decide +kernel
theorem dX3_noteWay_11 : decode cX3_noteWay 11 = .ok (.getfield 18, 3) := by decide +kernel
theorem dX3_noteWay_14 : decode cX3_noteWay 14 = .ok (.iconst 1, 1) := by decide +kernel
theorem dX3_noteWay_15 : decode cX3_noteWay 15 = .ok (.if_icmp .ne 29, 3) := by decide +kernel
theorem dX3_noteWay_18 : decode cX3_noteWay 18 = .ok (.aload_n 0, 1) := by decide +kernel
theorem dX3_noteWay_19 : decode cX3_noteWay 19 = .ok (.aload_n 0, 1) := by decide +kernel
theorem dX3_noteWay_20 : decode cX3_noteWay 20 = .ok (.getfield 32, 3) := by decide +kernel
theorem dX3_noteWay_23 : decode cX3_noteWay 23 = .ok (.invokevirtual 70, 3) := by decide +kernel
theorem dX3_noteWay_26 : decode cX3_noteWay 26 = .ok (.putfield 22, 3) := by decide +kernel
theorem dX3_noteWay_29 : decode cX3_noteWay 29 = .ok (.aload_n 0, 1) := by decide +kernel
theorem dX3_noteWay_30 : decode cX3_noteWay 30 = .ok (.iconst 1, 1) := by decide +kernel
theorem dX3_noteWay_31 : decode cX3_noteWay 31 = .ok (.aload_n 0, 1) := by decide +kernel
theorem dX3_noteWay_32 : decode cX3_noteWay 32 = .ok (.getfield 28, 3) := by decide +kernel
theorem dX3_noteWay_35 : decode cX3_noteWay 35 = .ok (.getfield 45, 3) := by decide +kernel
theorem dX3_noteWay_38 : decode cX3_noteWay 38 = .ok (.ishl, 1) := by decide +kernel
theorem dX3_noteWay_39 : decode cX3_noteWay 39 = .ok (.iconst 1, 1) := by decide +kernel
theorem dX3_noteWay_40 : decode cX3_noteWay 40 = .ok (.isub, 1) := by decide +kernel
theorem dX3_noteWay_41 : decode cX3_noteWay 41 = .ok (.putfield 25, 3) := by decide +kernel
theorem dX3_noteWay_44 : decode cX3_noteWay 44 = .ok (.iconst 0, 1) := by decide +kernel
theorem dX3_noteWay_45 : decode cX3_noteWay 45 = .ok (.istore_n 1, 1) := by decide +kernel
theorem dX3_noteWay_46 : decode cX3_noteWay 46 = .ok (.iload_n 1, 1) := by decide +kernel
theorem dX3_noteWay_47 : decode cX3_noteWay 47 = .ok (.aload_n 0, 1) := by decide +kernel
theorem dX3_noteWay_48 : decode cX3_noteWay 48 = .ok (.getfield 28, 3) := by decide +kernel
theorem dX3_noteWay_51 : decode cX3_noteWay 51 = .ok (.getfield 45, 3) := by decide +kernel
theorem dX3_noteWay_54 : decode cX3_noteWay 54 = .ok (.if_icmp .ge 69, 3) := by decide +kernel
theorem dX3_noteWay_57 : decode cX3_noteWay 57 = .ok (.iload_n 1, 1) := by decide +kernel
theorem dX3_noteWay_58 : decode cX3_noteWay 58 = .ok (.aload_n 0, 1) := by decide +kernel
theorem dX3_noteWay_59 : decode cX3_noteWay 59 = .ok (.getfield 9, 3) := by decide +kernel
theorem dX3_noteWay_62 : decode cX3_noteWay 62 = .ok (.arraylength, 1) := by decide +kernel
theorem dX3_noteWay_63 : decode cX3_noteWay 63 = .ok (.if_icmp .ge 60, 3) := by decide +kernel
theorem dX3_noteWay_66 : decode cX3_noteWay 66 = .ok (.aload_n 0, 1) := by decide +kernel
theorem dX3_noteWay_67 : decode cX3_noteWay 67 = .ok (.getfield 32, 3) := by decide +kernel
theorem dX3_noteWay_70 : decode cX3_noteWay 70 = .ok (.iload_n 1, 1) := by decide +kernel
theorem dX3_noteWay_71 : decode cX3_noteWay 71 = .ok (.invokevirtual 73, 3) := by decide +kernel
theorem dX3_noteWay_74 : decode cX3_noteWay 74 = .ok (.istore_n 2, 1) := by decide +kernel
theorem dX3_noteWay_75 : decode cX3_noteWay 75 = .ok (.aload_n 0, 1) := by decide +kernel
theorem dX3_noteWay_76 : decode cX3_noteWay 76 = .ok (.getfield 18, 3) := by decide +kernel
theorem dX3_noteWay_79 : decode cX3_noteWay 79 = .ok (.iconst 1, 1) := by decide +kernel
theorem dX3_noteWay_80 : decode cX3_noteWay 80 = .ok (.if_icmp .ne 13, 3) := by decide +kernel
theorem dX3_noteWay_83 : decode cX3_noteWay 83 = .ok (.aload_n 0, 1) := by decide +kernel
theorem dX3_noteWay_84 : decode cX3_noteWay 84 = .ok (.getfield 9, 3) := by decide +kernel
theorem dX3_noteWay_87 : decode cX3_noteWay 87 = .ok (.iload_n 1, 1) := by decide +kernel
theorem dX3_noteWay_88 : decode cX3_noteWay 88 = .ok (.iload_n 2, 1) := by decide +kernel
theorem dX3_noteWay_89 : decode cX3_noteWay 89 = .ok (.iastore, 1) := by decide +kernel
theorem dX3_noteWay_90 : decode cX3_noteWay 90 = .ok (.goto 27, 3) := by decide +kernel
theorem dX3_noteWay_93 : decode cX3_noteWay 93 = .ok (.aload_n 0, 1) := by decide +kernel
theorem dX3_noteWay_94 : decode cX3_noteWay 94 = .ok (.getfield 9, 3) := by decide +kernel
theorem dX3_noteWay_97 : decode cX3_noteWay 97 = .ok (.iload_n 1, 1) := by decide +kernel
theorem dX3_noteWay_98 : decode cX3_noteWay 98 = .ok (.iaload, 1) := by decide +kernel
theorem dX3_noteWay_99 : decode cX3_noteWay 99 = .ok (.iload_n 2, 1) := by decide +kernel
theorem dX3_noteWay_100 : decode cX3_noteWay 100 = .ok (.if_icmp .eq 17, 3) := by decide +kernel
theorem dX3_noteWay_103 : decode cX3_noteWay 103 = .ok (.aload_n 0, 1) := by decide +kernel
theorem dX3_noteWay_104 : decode cX3_noteWay 104 = .ok (.dup, 1) := by decide +kernel
theorem dX3_noteWay_105 : decode cX3_noteWay 105 = .ok (.getfield 25, 3) := by decide +kernel
theorem dX3_noteWay_108 : decode cX3_noteWay 108 = .ok (.iconst 1, 1) := by decide +kernel
theorem dX3_noteWay_109 : decode cX3_noteWay 109 = .ok (.iload_n 2, 1) := by decide +kernel
theorem dX3_noteWay_110 : decode cX3_noteWay 110 = .ok (.ishl, 1) := by decide +kernel
theorem dX3_noteWay_111 : decode cX3_noteWay 111 = .ok (.iconst (-1), 1) := by decide +kernel
theorem dX3_noteWay_112 : decode cX3_noteWay 112 = .ok (.ixor, 1) := by decide +kernel
theorem dX3_noteWay_113 : decode cX3_noteWay 113 = .ok (.iand, 1) := by decide +kernel
theorem dX3_noteWay_114 : decode cX3_noteWay 114 = .ok (.putfield 25, 3) := by decide +kernel
theorem dX3_noteWay_117 : decode cX3_noteWay 117 = .ok (.iinc 1 1, 3) := by decide +kernel
theorem dX3_noteWay_120 : decode cX3_noteWay 120 = .ok (.goto (-74), 3) := by decide +kernel
theorem dX3_noteWay_123 : decode cX3_noteWay 123 = .ok (.return_, 1) := by decide +kernel
theorem dX3_firstOtherwise_0 : decode cX3_firstOtherwise 0 = .ok (.aload_n 0, 1) := by decide +kernel
theorem dX3_firstOtherwise_1 : decode cX3_firstOtherwise 1 = .ok (.getfield 32, 3) := by decide +kernel
theorem dX3_firstOtherwise_4 : decode cX3_firstOtherwise 4 = .ok (.invokevirtual 36, 3) := by decide +kernel
theorem dX3_firstOtherwise_7 : decode cX3_firstOtherwise 7 = .ok (.iconst 0, 1) := by decide +kernel
theorem dX3_firstOtherwise_8 : decode cX3_firstOtherwise 8 = .ok (.istore_n 2, 1) := by decide +kernel
theorem dX3_firstOtherwise_9 : decode cX3_firstOtherwise 9 = .ok (.iload_n 2, 1) := by decide +kernel
theorem dX3_firstOtherwise_10 : decode cX3_firstOtherwise 10 = .ok (.aload_n 0, 1) := by decide +kernel
theorem dX3_firstOtherwise_11 : decode cX3_firstOtherwise 11 = .ok (.getfield 28, 3) := by decide +kernel
theorem dX3_firstOtherwise_14 : decode cX3_firstOtherwise 14 = .ok (.getfield 45, 3) := by decide +kernel
theorem dX3_firstOtherwise_17 : decode cX3_firstOtherwise 17 = .ok (.if_icmp .ge 35, 3) := by decide +kernel
theorem dX3_firstOtherwise_20 : decode cX3_firstOtherwise 20 = .ok (.aload_n 0, 1) := by decide +kernel
theorem dX3_firstOtherwise_21 : decode cX3_firstOtherwise 21 = .ok (.getfield 32, 3) := by decide +kernel
theorem dX3_firstOtherwise_24 : decode cX3_firstOtherwise 24 = .ok (.iload_n 2, 1) := by decide +kernel
theorem dX3_firstOtherwise_25 : decode cX3_firstOtherwise 25 = .ok (.invokevirtual 53, 3) := by decide +kernel
theorem dX3_firstOtherwise_28 : decode cX3_firstOtherwise 28 = .ok (.pop, 1) := by decide +kernel
theorem dX3_firstOtherwise_29 : decode cX3_firstOtherwise 29 = .ok (.aload_n 0, 1) := by decide +kernel
theorem dX3_firstOtherwise_30 : decode cX3_firstOtherwise 30 = .ok (.getfield 32, 3) := by decide +kernel
theorem dX3_firstOtherwise_33 : decode cX3_firstOtherwise 33 = .ok (.invokevirtual 57, 3) := by decide +kernel
theorem dX3_firstOtherwise_36 : decode cX3_firstOtherwise 36 = .ok (.aload_n 1, 1) := by decide +kernel
theorem dX3_firstOtherwise_37 : decode cX3_firstOtherwise 37 = .ok (.iload_n 2, 1) := by decide +kernel
theorem dX3_firstOtherwise_38 : decode cX3_firstOtherwise 38 = .ok (.invokevirtual 61, 3) := by decide +kernel
theorem dX3_firstOtherwise_41 : decode cX3_firstOtherwise 41 = .ok (.if_icmp .eq 5, 3) := by decide +kernel
theorem dX3_firstOtherwise_44 : decode cX3_firstOtherwise 44 = .ok (.iload_n 2, 1) := by decide +kernel
theorem dX3_firstOtherwise_45 : decode cX3_firstOtherwise 45 = .ok (.ireturn, 1) := by decide +kernel
theorem dX3_firstOtherwise_46 : decode cX3_firstOtherwise 46 = .ok (.iinc 2 1, 3) := by decide +kernel
theorem dX3_firstOtherwise_49 : decode cX3_firstOtherwise 49 = .ok (.goto (-40), 3) := by decide +kernel
theorem dX3_firstOtherwise_52 : decode cX3_firstOtherwise 52 = .ok (.iconst (-1), 1) := by decide +kernel
theorem dX3_firstOtherwise_53 : decode cX3_firstOtherwise 53 = .ok (.ireturn, 1) := by decide +kernel
theorem dX3_fitting_0 : decode cX3_fitting 0 = .ok (.iload_n 2, 1) := by decide +kernel
theorem dX3_fitting_1 : decode cX3_fitting 1 = .ok (.iconst 1, 1) := by decide +kernel
theorem dX3_fitting_2 : decode cX3_fitting 2 = .ok (.if_icmp .ne 8, 3) := by decide +kernel
theorem dX3_fitting_5 : decode cX3_fitting 5 = .ok (.bipush 6, 2) := by decide +kernel
theorem dX3_fitting_7 : decode cX3_fitting 7 = .ok (.goto 13, 3) := by decide +kernel
theorem dX3_fitting_10 : decode cX3_fitting 10 = .ok (.iload_n 2, 1) := by decide +kernel
theorem dX3_fitting_11 : decode cX3_fitting 11 = .ok (.iconst 2, 1) := by decide +kernel
theorem dX3_fitting_12 : decode cX3_fitting 12 = .ok (.if_icmp .ne 7, 3) := by decide +kernel
theorem dX3_fitting_15 : decode cX3_fitting 15 = .ok (.iconst 3, 1) := by decide +kernel
theorem dX3_fitting_16 : decode cX3_fitting 16 = .ok (.goto 4, 3) := by decide +kernel
theorem dX3_fitting_19 : decode cX3_fitting 19 = .ok (.iconst 4, 1) := by decide +kernel
theorem dX3_fitting_20 : decode cX3_fitting 20 = .ok (.istore 4, 2) := by decide +kernel
theorem dX3_fitting_22 : decode cX3_fitting 22 = .ok (.iload_n 2, 1) := by decide +kernel
theorem dX3_fitting_23 : decode cX3_fitting 23 = .ok (.iconst 1, 1) := by decide +kernel
theorem dX3_fitting_24 : decode cX3_fitting 24 = .ok (.if_icmp .ne 12, 3) := by decide +kernel
theorem dX3_fitting_27 : decode cX3_fitting 27 = .ok (.getstatic 76, 3) := by decide +kernel
theorem dX3_fitting_30 : decode cX3_fitting 30 = .ok (.bipush 6, 2) := by decide +kernel
theorem dX3_fitting_32 : decode cX3_fitting 32 = .ok (.iaload, 1) := by decide +kernel
theorem dX3_fitting_33 : decode cX3_fitting 33 = .ok (.goto 21, 3) := by decide +kernel
theorem dX3_fitting_36 : decode cX3_fitting 36 = .ok (.iload_n 2, 1) := by decide +kernel
theorem dX3_fitting_37 : decode cX3_fitting 37 = .ok (.iconst 2, 1) := by decide +kernel
theorem dX3_fitting_38 : decode cX3_fitting 38 = .ok (.if_icmp .ne 11, 3) := by decide +kernel
theorem dX3_fitting_41 : decode cX3_fitting 41 = .ok (.getstatic 76, 3) := by decide +kernel
theorem dX3_fitting_44 : decode cX3_fitting 44 = .ok (.iconst 3, 1) := by decide +kernel
theorem dX3_fitting_45 : decode cX3_fitting 45 = .ok (.iaload, 1) := by decide +kernel
theorem dX3_fitting_46 : decode cX3_fitting 46 = .ok (.goto 8, 3) := by decide +kernel
theorem dX3_fitting_49 : decode cX3_fitting 49 = .ok (.getstatic 76, 3) := by decide +kernel
theorem dX3_fitting_52 : decode cX3_fitting 52 = .ok (.iconst 4, 1) := by decide +kernel
theorem dX3_fitting_53 : decode cX3_fitting 53 = .ok (.iaload, 1) := by decide +kernel
theorem dX3_fitting_54 : decode cX3_fitting 54 = .ok (.istore 5, 2) := by decide +kernel
theorem dX3_fitting_56 : decode cX3_fitting 56 = .ok (.aload_n 0, 1) := by decide +kernel
theorem dX3_fitting_57 : decode cX3_fitting 57 = .ok (.getfield 28, 3) := by decide +kernel
theorem dX3_fitting_60 : decode cX3_fitting 60 = .ok (.iload 4, 2) := by decide +kernel
theorem dX3_fitting_62 : decode cX3_fitting 62 = .ok (.iload_n 3, 1) := by decide +kernel
theorem dX3_fitting_63 : decode cX3_fitting 63 = .ok (.invokevirtual 79, 3) := by decide +kernel
theorem dX3_fitting_66 : decode cX3_fitting 66 = .ok (.istore 6, 2) := by decide +kernel
theorem dX3_fitting_68 : decode cX3_fitting 68 = .ok (.iconst 0, 1) := by decide +kernel
theorem dX3_fitting_69 : decode cX3_fitting 69 = .ok (.istore 7, 2) := by decide +kernel
theorem dX3_fitting_71 : decode cX3_fitting 71 = .ok (.iconst 0, 1) := by decide +kernel
theorem dX3_fitting_72 : decode cX3_fitting 72 = .ok (.istore 8, 2) := by decide +kernel
theorem dX3_fitting_74 : decode cX3_fitting 74 = .ok (.iload 8, 2) := by decide +kernel
theorem dX3_fitting_76 : decode cX3_fitting 76 = .ok (.iload 5, 2) := by decide +kernel
theorem dX3_fitting_78 : decode cX3_fitting 78 = .ok (.if_icmp .gt 39, 3) := by decide +kernel
theorem dX3_fitting_81 : decode cX3_fitting 81 = .ok (.aload_n 0, 1) := by decide +kernel
theorem dX3_fitting_82 : decode cX3_fitting 82 = .ok (.getfield 28, 3) := by decide +kernel
theorem dX3_fitting_85 : decode cX3_fitting 85 = .ok (.iload 4, 2) := by decide +kernel
theorem dX3_fitting_87 : decode cX3_fitting 87 = .ok (.iload_n 3, 1) := by decide +kernel
theorem dX3_fitting_88 : decode cX3_fitting 88 = .ok (.iload 8, 2) := by decide +kernel
theorem dX3_fitting_90 : decode cX3_fitting 90 = .ok (.invokevirtual 83, 3) := by decide +kernel
theorem dX3_fitting_93 : decode cX3_fitting 93 = .ok (.aload_n 0, 1) := by decide +kernel
theorem dX3_fitting_94 : decode cX3_fitting 94 = .ok (.aload_n 1, 1) := by decide +kernel
theorem dX3_fitting_95 : decode cX3_fitting 95 = .ok (.invokevirtual 87, 3) := by decide +kernel
theorem dX3_fitting_98 : decode cX3_fitting 98 = .ok (.iconst (-1), 1) := by decide +kernel
theorem dX3_fitting_99 : decode cX3_fitting 99 = .ok (.if_icmp .ne 12, 3) := by decide +kernel
theorem dX3_fitting_102 : decode cX3_fitting 102 = .ok (.iload 7, 2) := by decide +kernel
theorem dX3_fitting_104 : decode cX3_fitting 104 = .ok (.iconst 1, 1) := by decide +kernel
theorem dX3_fitting_105 : decode cX3_fitting 105 = .ok (.iload 8, 2) := by decide +kernel
theorem dX3_fitting_107 : decode cX3_fitting 107 = .ok (.ishl, 1) := by decide +kernel
theorem dX3_fitting_108 : decode cX3_fitting 108 = .ok (.ior, 1) := by decide +kernel
theorem dX3_fitting_109 : decode cX3_fitting 109 = .ok (.istore 7, 2) := by decide +kernel
theorem dX3_fitting_111 : decode cX3_fitting 111 = .ok (.iinc 8 1, 3) := by decide +kernel
theorem dX3_fitting_114 : decode cX3_fitting 114 = .ok (.goto (-40), 3) := by decide +kernel
theorem dX3_fitting_117 : decode cX3_fitting 117 = .ok (.aload_n 0, 1) := by decide +kernel
theorem dX3_fitting_118 : decode cX3_fitting 118 = .ok (.getfield 28, 3) := by decide +kernel
theorem dX3_fitting_121 : decode cX3_fitting 121 = .ok (.iload 4, 2) := by decide +kernel
theorem dX3_fitting_123 : decode cX3_fitting 123 = .ok (.iload_n 3, 1) := by decide +kernel
theorem dX3_fitting_124 : decode cX3_fitting 124 = .ok (.iload 6, 2) := by decide +kernel
theorem dX3_fitting_126 : decode cX3_fitting 126 = .ok (.invokevirtual 83, 3) := by decide +kernel
theorem dX3_fitting_129 : decode cX3_fitting 129 = .ok (.iload 7, 2) := by decide +kernel
theorem dX3_fitting_131 : decode cX3_fitting 131 = .ok (.ireturn, 1) := by decide +kernel
theorem dX3_fittingTexts_0 : decode cX3_fittingTexts 0 = .ok (.aload_n 0, 1) := by decide +kernel
theorem dX3_fittingTexts_1 : decode cX3_fittingTexts 1 = .ok (.getfield 28, 3) := by decide +kernel
theorem dX3_fittingTexts_4 : decode cX3_fittingTexts 4 = .ok (.getfield 91, 3) := by decide +kernel
theorem dX3_fittingTexts_7 : decode cX3_fittingTexts 7 = .ok (.istore_n 3, 1) := by decide +kernel
theorem dX3_fittingTexts_8 : decode cX3_fittingTexts 8 = .ok (.iconst 0, 1) := by decide +kernel
theorem dX3_fittingTexts_9 : decode cX3_fittingTexts 9 = .ok (.istore 4, 2) := by decide +kernel
theorem dX3_fittingTexts_11 : decode cX3_fittingTexts 11 = .ok (.iconst 0, 1) := by decide +kernel
theorem dX3_fittingTexts_12 : decode cX3_fittingTexts 12 = .ok (.istore 5, 2) := by decide +kernel
theorem dX3_fittingTexts_14 : decode cX3_fittingTexts 14 = .ok (.iload 5, 2) := by decide +kernel
theorem dX3_fittingTexts_16 : decode cX3_fittingTexts 16 = .ok (.iload_n 2, 1) := by decide +kernel
theorem dX3_fittingTexts_17 : decode cX3_fittingTexts 17 = .ok (.if_icmp .ge 36, 3) := by decide +kernel
theorem dX3_fittingTexts_20 : decode cX3_fittingTexts 20 = .ok (.aload_n 0, 1) := by decide +kernel
theorem dX3_fittingTexts_21 : decode cX3_fittingTexts 21 = .ok (.getfield 28, 3) := by decide +kernel
theorem dX3_fittingTexts_24 : decode cX3_fittingTexts 24 = .ok (.iload 5, 2) := by decide +kernel
theorem dX3_fittingTexts_26 : decode cX3_fittingTexts 26 = .ok (.putfield 91, 3) := by decide +kernel
theorem dX3_fittingTexts_29 : decode cX3_fittingTexts 29 = .ok (.aload_n 0, 1) := by decide +kernel
theorem dX3_fittingTexts_30 : decode cX3_fittingTexts 30 = .ok (.aload_n 1, 1) := by decide +kernel
theorem dX3_fittingTexts_31 : decode cX3_fittingTexts 31 = .ok (.invokevirtual 87, 3) := by decide +kernel
theorem dX3_fittingTexts_34 : decode cX3_fittingTexts 34 = .ok (.iconst (-1), 1) := by decide +kernel
theorem dX3_fittingTexts_35 : decode cX3_fittingTexts 35 = .ok (.if_icmp .ne 12, 3) := by decide +kernel
theorem dX3_fittingTexts_38 : decode cX3_fittingTexts 38 = .ok (.iload 4, 2) := by decide +kernel
theorem dX3_fittingTexts_40 : decode cX3_fittingTexts 40 = .ok (.iconst 1, 1) := by decide +kernel
theorem dX3_fittingTexts_41 : decode cX3_fittingTexts 41 = .ok (.iload 5, 2) := by decide +kernel
theorem dX3_fittingTexts_43 : decode cX3_fittingTexts 43 = .ok (.ishl, 1) := by decide +kernel
theorem dX3_fittingTexts_44 : decode cX3_fittingTexts 44 = .ok (.ior, 1) := by decide +kernel
theorem dX3_fittingTexts_45 : decode cX3_fittingTexts 45 = .ok (.istore 4, 2) := by decide +kernel
theorem dX3_fittingTexts_47 : decode cX3_fittingTexts 47 = .ok (.iinc 5 1, 3) := by decide +kernel
theorem dX3_fittingTexts_50 : decode cX3_fittingTexts 50 = .ok (.goto (-36), 3) := by decide +kernel
theorem dX3_fittingTexts_53 : decode cX3_fittingTexts 53 = .ok (.aload_n 0, 1) := by decide +kernel
theorem dX3_fittingTexts_54 : decode cX3_fittingTexts 54 = .ok (.getfield 28, 3) := by decide +kernel
theorem dX3_fittingTexts_57 : decode cX3_fittingTexts 57 = .ok (.iload_n 3, 1) := by decide +kernel
theorem dX3_fittingTexts_58 : decode cX3_fittingTexts 58 = .ok (.putfield 91, 3) := by decide +kernel
theorem dX3_fittingTexts_61 : decode cX3_fittingTexts 61 = .ok (.iload 4, 2) := by decide +kernel
theorem dX3_fittingTexts_63 : decode cX3_fittingTexts 63 = .ok (.ireturn, 1) := by decide +kernel
theorem dX3_comeDrawn_0 : decode cX3_comeDrawn 0 = .ok (.iload_n 1, 1) := by decide +kernel
theorem dX3_comeDrawn_1 : decode cX3_comeDrawn 1 = .ok (.istore_n 2, 1) := by decide +kernel
theorem dX3_comeDrawn_2 : decode cX3_comeDrawn 2 = .ok (.iconst 0, 1) := by decide +kernel
theorem dX3_comeDrawn_3 : decode cX3_comeDrawn 3 = .ok (.istore_n 3, 1) := by decide +kernel
theorem dX3_comeDrawn_4 : decode cX3_comeDrawn 4 = .ok (.iload_n 3, 1) := by decide +kernel
theorem dX3_comeDrawn_5 : decode cX3_comeDrawn 5 = .ok (.aload_n 0, 1) := by decide +kernel
theorem dX3_comeDrawn_6 : decode cX3_comeDrawn 6 = .ok (.getfield 28, 3) := by decide +kernel
theorem dX3_comeDrawn_9 : decode cX3_comeDrawn 9 = .ok (.getfield 45, 3) := by decide +kernel
theorem dX3_comeDrawn_12 : decode cX3_comeDrawn 12 = .ok (.if_icmp .ge 58, 3) := by decide +kernel
theorem dX3_comeDrawn_15 : decode cX3_comeDrawn 15 = .ok (.iload_n 3, 1) := by decide +kernel
theorem dX3_comeDrawn_16 : decode cX3_comeDrawn 16 = .ok (.aload_n 0, 1) := by decide +kernel
theorem dX3_comeDrawn_17 : decode cX3_comeDrawn 17 = .ok (.getfield 15, 3) := by decide +kernel
theorem dX3_comeDrawn_20 : decode cX3_comeDrawn 20 = .ok (.arraylength, 1) := by decide +kernel
theorem dX3_comeDrawn_21 : decode cX3_comeDrawn 21 = .ok (.if_icmp .ge 49, 3) := by decide +kernel
theorem dX3_comeDrawn_24 : decode cX3_comeDrawn 24 = .ok (.iload_n 2, 1) := by decide +kernel
theorem dX3_comeDrawn_25 : decode cX3_comeDrawn 25 = .ok (.ldc 94, 2) := by decide +kernel
theorem dX3_comeDrawn_27 : decode cX3_comeDrawn 27 = .ok (.imul, 1) := by decide +kernel
theorem dX3_comeDrawn_28 : decode cX3_comeDrawn 28 = .ok (.sipush 12345, 3) := by decide +kernel
theorem dX3_comeDrawn_31 : decode cX3_comeDrawn 31 = .ok (.iadd, 1) := by decide +kernel
theorem dX3_comeDrawn_32 : decode cX3_comeDrawn 32 = .ok (.istore_n 2, 1) := by decide +kernel
theorem dX3_comeDrawn_33 : decode cX3_comeDrawn 33 = .ok (.aload_n 0, 1) := by decide +kernel
theorem dX3_comeDrawn_34 : decode cX3_comeDrawn 34 = .ok (.getfield 15, 3) := by decide +kernel
theorem dX3_comeDrawn_37 : decode cX3_comeDrawn 37 = .ok (.iload_n 3, 1) := by decide +kernel
theorem dX3_comeDrawn_38 : decode cX3_comeDrawn 38 = .ok (.aload_n 0, 1) := by decide +kernel
theorem dX3_comeDrawn_39 : decode cX3_comeDrawn 39 = .ok (.getfield 28, 3) := by decide +kernel
theorem dX3_comeDrawn_42 : decode cX3_comeDrawn 42 = .ok (.iconst 4, 1) := by decide +kernel
theorem dX3_comeDrawn_43 : decode cX3_comeDrawn 43 = .ok (.iload_n 3, 1) := by decide +kernel
theorem dX3_comeDrawn_44 : decode cX3_comeDrawn 44 = .ok (.invokevirtual 79, 3) := by decide +kernel
theorem dX3_comeDrawn_47 : decode cX3_comeDrawn 47 = .ok (.iastore, 1) := by decide +kernel
theorem dX3_comeDrawn_48 : decode cX3_comeDrawn 48 = .ok (.aload_n 0, 1) := by decide +kernel
theorem dX3_comeDrawn_49 : decode cX3_comeDrawn 49 = .ok (.getfield 28, 3) := by decide +kernel
theorem dX3_comeDrawn_52 : decode cX3_comeDrawn 52 = .ok (.iconst 4, 1) := by decide +kernel
theorem dX3_comeDrawn_53 : decode cX3_comeDrawn 53 = .ok (.iload_n 3, 1) := by decide +kernel
theorem dX3_comeDrawn_54 : decode cX3_comeDrawn 54 = .ok (.iload_n 2, 1) := by decide +kernel
theorem dX3_comeDrawn_55 : decode cX3_comeDrawn 55 = .ok (.bipush 9, 2) := by decide +kernel
theorem dX3_comeDrawn_57 : decode cX3_comeDrawn 57 = .ok (.iushr, 1) := by decide +kernel
theorem dX3_comeDrawn_58 : decode cX3_comeDrawn 58 = .ok (.bipush 8, 2) := by decide +kernel
theorem dX3_comeDrawn_60 : decode cX3_comeDrawn 60 = .ok (.irem, 1) := by decide +kernel
theorem dX3_comeDrawn_61 : decode cX3_comeDrawn 61 = .ok (.invokevirtual 83, 3) := by decide +kernel
theorem dX3_comeDrawn_64 : decode cX3_comeDrawn 64 = .ok (.iinc 3 1, 3) := by decide +kernel
theorem dX3_comeDrawn_67 : decode cX3_comeDrawn 67 = .ok (.goto (-63), 3) := by decide +kernel
theorem dX3_comeDrawn_70 : decode cX3_comeDrawn 70 = .ok (.aload_n 0, 1) := by decide +kernel
theorem dX3_comeDrawn_71 : decode cX3_comeDrawn 71 = .ok (.getfield 32, 3) := by decide +kernel
theorem dX3_comeDrawn_74 : decode cX3_comeDrawn 74 = .ok (.invokevirtual 95, 3) := by decide +kernel
theorem dX3_comeDrawn_77 : decode cX3_comeDrawn 77 = .ok (.iconst 0, 1) := by decide +kernel
theorem dX3_comeDrawn_78 : decode cX3_comeDrawn 78 = .ok (.istore_n 3, 1) := by decide +kernel
theorem dX3_comeDrawn_79 : decode cX3_comeDrawn 79 = .ok (.iload_n 3, 1) := by decide +kernel
theorem dX3_comeDrawn_80 : decode cX3_comeDrawn 80 = .ok (.aload_n 0, 1) := by decide +kernel
theorem dX3_comeDrawn_81 : decode cX3_comeDrawn 81 = .ok (.getfield 28, 3) := by decide +kernel
theorem dX3_comeDrawn_84 : decode cX3_comeDrawn 84 = .ok (.getfield 45, 3) := by decide +kernel
theorem dX3_comeDrawn_87 : decode cX3_comeDrawn 87 = .ok (.if_icmp .ge 33, 3) := by decide +kernel
theorem dX3_comeDrawn_90 : decode cX3_comeDrawn 90 = .ok (.iload_n 3, 1) := by decide +kernel
theorem dX3_comeDrawn_91 : decode cX3_comeDrawn 91 = .ok (.aload_n 0, 1) := by decide +kernel
theorem dX3_comeDrawn_92 : decode cX3_comeDrawn 92 = .ok (.getfield 15, 3) := by decide +kernel
theorem dX3_comeDrawn_95 : decode cX3_comeDrawn 95 = .ok (.arraylength, 1) := by decide +kernel
theorem dX3_comeDrawn_96 : decode cX3_comeDrawn 96 = .ok (.if_icmp .ge 24, 3) := by decide +kernel
theorem dX3_comeDrawn_99 : decode cX3_comeDrawn 99 = .ok (.aload_n 0, 1) := by decide +kernel
theorem dX3_comeDrawn_100 : decode cX3_comeDrawn 100 = .ok (.getfield 28, 3) := by decide +kernel
theorem dX3_comeDrawn_103 : decode cX3_comeDrawn 103 = .ok (.iconst 4, 1) := by decide +kernel
theorem dX3_comeDrawn_104 : decode cX3_comeDrawn 104 = .ok (.iload_n 3, 1) := by decide +kernel
theorem dX3_comeDrawn_105 : decode cX3_comeDrawn 105 = .ok (.aload_n 0, 1) := by decide +kernel
theorem dX3_comeDrawn_106 : decode cX3_comeDrawn 106 = .ok (.getfield 15, 3) := by decide +kernel
theorem dX3_comeDrawn_109 : decode cX3_comeDrawn 109 = .ok (.iload_n 3, 1) := by decide +kernel
theorem dX3_comeDrawn_110 : decode cX3_comeDrawn 110 = .ok (.iaload, 1) := by decide +kernel
theorem dX3_comeDrawn_111 : decode cX3_comeDrawn 111 = .ok (.invokevirtual 83, 3) := by decide +kernel
theorem dX3_comeDrawn_114 : decode cX3_comeDrawn 114 = .ok (.iinc 3 1, 3) := by decide +kernel
theorem dX3_comeDrawn_117 : decode cX3_comeDrawn 117 = .ok (.goto (-38), 3) := by decide +kernel
theorem dX3_comeDrawn_120 : decode cX3_comeDrawn 120 = .ok (.return_, 1) := by decide +kernel
theorem dX4_init_0 : decode cX4_init 0 = .ok (.aload_n 0, 1) := by decide +kernel
theorem dX4_init_1 : decode cX4_init 1 = .ok (.invokespecial 3, 3) := by decide +kernel
theorem dX4_init_4 : decode cX4_init 4 = .ok (.return_, 1) := by decide +kernel
theorem dX4_named_0 : decode cX4_named 0 = .ok (.iload_n 1, 1) := by decide +kernel
theorem dX4_named_1 : decode cX4_named 1 = .ok (.tableswitch 60 (-5) (-1) #[55, 50, 45, 40, 35], 35) := by decide +kernel
theorem dX4_named_36 : decode cX4_named 36 = .ok (.aload_n 0, 1) := by decide +kernel
theorem dX4_named_37 : decode cX4_named 37 = .ok (.getfield 9, 3) := by decide +kernel
theorem dX4_named_40 : decode cX4_named 40 = .ok (.ireturn, 1) := by decide +kernel
theorem dX4_named_41 : decode cX4_named 41 = .ok (.aload_n 0, 1) := by decide +kernel
theorem dX4_named_42 : decode cX4_named 42 = .ok (.getfield 15, 3) := by decide +kernel
theorem dX4_named_45 : decode cX4_named 45 = .ok (.ireturn, 1) := by decide +kernel
theorem dX4_named_46 : decode cX4_named 46 = .ok (.aload_n 0, 1) := by decide +kernel
theorem dX4_named_47 : decode cX4_named 47 = .ok (.getfield 18, 3) := by decide +kernel
theorem dX4_named_50 : decode cX4_named 50 = .ok (.ireturn, 1) := by decide +kernel
theorem dX4_named_51 : decode cX4_named 51 = .ok (.aload_n 0, 1) := by decide +kernel
theorem dX4_named_52 : decode cX4_named 52 = .ok (.getfield 21, 3) := by decide +kernel
theorem dX4_named_55 : decode cX4_named 55 = .ok (.ireturn, 1) := by decide +kernel
theorem dX4_named_56 : decode cX4_named 56 = .ok (.aload_n 0, 1) := by decide +kernel
theorem dX4_named_57 : decode cX4_named 57 = .ok (.getfield 24, 3) := by decide +kernel
theorem dX4_named_60 : decode cX4_named 60 = .ok (.ireturn, 1) := by decide +kernel
theorem dX4_named_61 : decode cX4_named 61 = .ok (.aload_n 0, 1) := by decide +kernel
theorem dX4_named_62 : decode cX4_named 62 = .ok (.getfield 27, 3) := by decide +kernel
theorem dX4_named_65 : decode cX4_named 65 = .ok (.ireturn, 1) := by decide +kernel
theorem dX4_warms_0 : decode cX4_warms 0 = .ok (.aload_n 0, 1) := by decide +kernel
theorem dX4_warms_1 : decode cX4_warms 1 = .ok (.getfield 30, 3) := by decide +kernel
theorem dX4_warms_4 : decode cX4_warms 4 = .ok (.ifCond .eq 7, 3) := by decide +kernel
theorem dX4_warms_7 : decode cX4_warms 7 = .ok (.iload_n 1, 1) := by decide +kernel
theorem dX4_warms_8 : decode cX4_warms 8 = .ok (.goto 5, 3) := by decide +kernel
theorem dX4_warms_11 : decode cX4_warms 11 = .ok (.iload_n 1, 1) := by decide +kernel
theorem dX4_warms_12 : decode cX4_warms 12 = .ok (.ineg, 1) := by decide +kernel
theorem dX4_warms_13 : decode cX4_warms 13 = .ok (.istore_n 2, 1) := by decide +kernel
theorem dX4_warms_14 : decode cX4_warms 14 = .ok (.aload_n 0, 1) := by decide +kernel
theorem dX4_warms_15 : decode cX4_warms 15 = .ok (.getfield 34, 3) := by decide +kernel
theorem dX4_warms_18 : decode cX4_warms 18 = .ok (.tableswitch 91 1 5 #[34, 38, 45, 63, 85], 34) := by decide +kernel
theorem dX4_warms_52 : decode cX4_warms 52 = .ok (.iconst 2, 1) := by decide +kernel
theorem dX4_warms_53 : decode cX4_warms 53 = .ok (.iload_n 2, 1) := by decide +kernel
theorem dX4_warms_54 : decode cX4_warms 54 = .ok (.imul, 1) := by decide +kernel
theorem dX4_warms_55 : decode cX4_warms 55 = .ok (.ireturn, 1) := by decide +kernel
theorem dX4_warms_56 : decode cX4_warms 56 = .ok (.iload_n 2, 1) := by decide +kernel
theorem dX4_warms_57 : decode cX4_warms 57 = .ok (.aload_n 0, 1) := by decide +kernel
theorem dX4_warms_58 : decode cX4_warms 58 = .ok (.getfield 21, 3) := by decide +kernel
theorem dX4_warms_61 : decode cX4_warms 61 = .ok (.iadd, 1) := by decide +kernel
theorem dX4_warms_62 : decode cX4_warms 62 = .ok (.ireturn, 1) := by decide +kernel
theorem dX4_warms_63 : decode cX4_warms 63 = .ok (.aload_n 0, 1) := by decide +kernel
theorem dX4_warms_64 : decode cX4_warms 64 = .ok (.invokevirtual 37, 3) := by decide +kernel
theorem dX4_warms_67 : decode cX4_warms 67 = .ok (.ifCond .eq 10, 3) := by decide +kernel
theorem dX4_warms_70 : decode cX4_warms 70 = .ok (.bipush (-2), 2) := by decide +kernel
theorem dX4_warms_72 : decode cX4_warms 72 = .ok (.iload_n 2, 1) := by decide +kernel
theorem dX4_warms_73 : decode cX4_warms 73 = .ok (.imul, 1) := by decide +kernel
theorem dX4_warms_74 : decode cX4_warms 74 = .ok (.goto 6, 3) := by decide +kernel
theorem dX4_warms_77 : decode cX4_warms 77 = .ok (.iconst 2, 1) := by decide +kernel
theorem dX4_warms_78 : decode cX4_warms 78 = .ok (.iload_n 2, 1) := by decide +kernel
theorem dX4_warms_79 : decode cX4_warms 79 = .ok (.imul, 1) := by decide +kernel
theorem dX4_warms_80 : decode cX4_warms 80 = .ok (.ireturn, 1) := by decide +kernel
theorem dX4_warms_81 : decode cX4_warms 81 = .ok (.iload_n 2, 1) := by decide +kernel
theorem dX4_warms_82 : decode cX4_warms 82 = .ok (.aload_n 0, 1) := by decide +kernel
theorem dX4_warms_83 : decode cX4_warms 83 = .ok (.getfield 21, 3) := by decide +kernel
theorem dX4_warms_86 : decode cX4_warms 86 = .ok (.iadd, 1) := by decide +kernel
theorem dX4_warms_87 : decode cX4_warms 87 = .ok (.iconst 2, 1) := by decide +kernel
theorem dX4_warms_88 : decode cX4_warms 88 = .ok (.idiv, 1) := by decide +kernel
theorem dX4_warms_89 : decode cX4_warms 89 = .ok (.aload_n 0, 1) := by decide +kernel
theorem dX4_warms_90 : decode cX4_warms 90 = .ok (.getfield 41, 3) := by decide +kernel
theorem dX4_warms_93 : decode cX4_warms 93 = .ok (.ifCond .eq 7, 3) := by decide +kernel
theorem dX4_warms_96 : decode cX4_warms 96 = .ok (.iconst 5, 1) := by decide +kernel
theorem dX4_warms_97 : decode cX4_warms 97 = .ok (.goto 4, 3) := by decide +kernel
theorem dX4_warms_100 : decode cX4_warms 100 = .ok (.iconst 0, 1) := by decide +kernel
theorem dX4_warms_101 : decode cX4_warms 101 = .ok (.isub, 1) := by decide +kernel
theorem dX4_warms_102 : decode cX4_warms 102 = .ok (.ireturn, 1) := by decide +kernel
theorem dX4_warms_103 : decode cX4_warms 103 = .ok (.iconst 3, 1) := by decide +kernel
theorem dX4_warms_104 : decode cX4_warms 104 = .ok (.iload_n 2, 1) := by decide +kernel
theorem dX4_warms_105 : decode cX4_warms 105 = .ok (.invokestatic 44, 3) := by decide +kernel
theorem dX4_warms_108 : decode cX4_warms 108 = .ok (.ireturn, 1) := by decide +kernel
theorem dX4_warms_109 : decode cX4_warms 109 = .ok (.iload_n 2, 1) := by decide +kernel
theorem dX4_warms_110 : decode cX4_warms 110 = .ok (.ireturn, 1) := by decide +kernel
theorem dX4_cools_0 : decode cX4_cools 0 = .ok (.aload_n 0, 1) := by decide +kernel
theorem dX4_cools_1 : decode cX4_cools 1 = .ok (.getfield 34, 3) := by decide +kernel
theorem dX4_cools_4 : decode cX4_cools 4 = .ok (.tableswitch 64 2 5 #[32, 40, 32, 62], 32) := by decide +kernel
theorem dX4_cools_36 : decode cX4_cools 36 = .ok (.iconst 0, 1) := by decide +kernel
theorem dX4_cools_37 : decode cX4_cools 37 = .ok (.iload_n 1, 1) := by decide +kernel
theorem dX4_cools_38 : decode cX4_cools 38 = .ok (.iconst 2, 1) := by decide +kernel
theorem dX4_cools_39 : decode cX4_cools 39 = .ok (.isub, 1) := by decide +kernel
theorem dX4_cools_40 : decode cX4_cools 40 = .ok (.invokestatic 44, 3) := by decide +kernel
theorem dX4_cools_43 : decode cX4_cools 43 = .ok (.ireturn, 1) := by decide +kernel
theorem dX4_cools_44 : decode cX4_cools 44 = .ok (.iconst 0, 1) := by decide +kernel
theorem dX4_cools_45 : decode cX4_cools 45 = .ok (.aload_n 0, 1) := by decide +kernel
theorem dX4_cools_46 : decode cX4_cools 46 = .ok (.invokevirtual 37, 3) := by decide +kernel
theorem dX4_cools_49 : decode cX4_cools 49 = .ok (.ifCond .eq 12, 3) := by decide +kernel
theorem dX4_cools_52 : decode cX4_cools 52 = .ok (.iload_n 1, 1) := by decide +kernel
theorem dX4_cools_53 : decode cX4_cools 53 = .ok (.aload_n 0, 1) := by decide +kernel
theorem dX4_cools_54 : decode cX4_cools 54 = .ok (.getfield 21, 3) := by decide +kernel
theorem dX4_cools_57 : decode cX4_cools 57 = .ok (.iadd, 1) := by decide +kernel
theorem dX4_cools_58 : decode cX4_cools 58 = .ok (.goto 4, 3) := by decide +kernel
theorem dX4_cools_61 : decode cX4_cools 61 = .ok (.iload_n 1, 1) := by decide +kernel
theorem dX4_cools_62 : decode cX4_cools 62 = .ok (.invokestatic 44, 3) := by decide +kernel
theorem dX4_cools_65 : decode cX4_cools 65 = .ok (.ireturn, 1) := by decide +kernel
theorem dX4_cools_66 : decode cX4_cools 66 = .ok (.iconst 0, 1) := by decide +kernel
theorem dX4_cools_67 : decode cX4_cools 67 = .ok (.ireturn, 1) := by decide +kernel
theorem dX4_cools_68 : decode cX4_cools 68 = .ok (.iconst 0, 1) := by decide +kernel
theorem dX4_cools_69 : decode cX4_cools 69 = .ok (.iload_n 1, 1) := by decide +kernel
theorem dX4_cools_70 : decode cX4_cools 70 = .ok (.invokestatic 44, 3) := by decide +kernel
theorem dX4_cools_73 : decode cX4_cools 73 = .ok (.ireturn, 1) := by decide +kernel
theorem dX4_isAgain_0 : decode cX4_isAgain 0 = .ok (.aload_n 0, 1) := by decide +kernel
theorem dX4_isAgain_1 : decode cX4_isAgain 1 = .ok (.getfield 15, 3) := by decide +kernel
theorem dX4_isAgain_4 : decode cX4_isAgain 4 = .ok (.aload_n 0, 1) := by decide +kernel
theorem dX4_isAgain_5 : decode cX4_isAgain 5 = .ok (.getfield 9, 3) := by decide +kernel
theorem dX4_isAgain_8 : decode cX4_isAgain 8 = .ok (.if_icmp .ne 7, 3) := by decide +kernel
theorem dX4_isAgain_11 : decode cX4_isAgain 11 = .ok (.iconst 1, 1) := by decide +kernel
theorem dX4_isAgain_12 : decode cX4_isAgain 12 = .ok (.goto 4, 3) := by decide +kernel
theorem dX4_isAgain_15 : decode cX4_isAgain 15 = .ok (.iconst 0, 1) := by decide +kernel
theorem dX4_isAgain_16 : decode cX4_isAgain 16 = .ok (.ireturn, 1) := by decide +kernel
theorem dX5_init_0 : decode cX5_init 0 = .ok (.aload_n 0, 1) := by decide +kernel
theorem dX5_init_1 : decode cX5_init 1 = .ok (.invokespecial 3, 3) := by decide +kernel
theorem dX5_init_4 : decode cX5_init 4 = .ok (.aload_n 0, 1) := by decide +kernel
theorem dX5_init_5 : decode cX5_init 5 = .ok (.bipush 20, 2) := by decide +kernel
theorem dX5_init_7 : decode cX5_init 7 = .ok (.putfield 9, 3) := by decide +kernel
theorem dX5_init_10 : decode cX5_init 10 = .ok (.aload_n 0, 1) := by decide +kernel
theorem dX5_init_11 : decode cX5_init 11 = .ok (.bipush 70, 2) := by decide +kernel
theorem dX5_init_13 : decode cX5_init 13 = .ok (.putfield 15, 3) := by decide +kernel
theorem dX5_init_16 : decode cX5_init 16 = .ok (.aload_n 0, 1) := by decide +kernel
theorem dX5_init_17 : decode cX5_init 17 = .ok (.iconst 0, 1) := by decide +kernel
theorem dX5_init_18 : decode cX5_init 18 = .ok (.putfield 18, 3) := by decide +kernel
theorem dX5_init_21 : decode cX5_init 21 = .ok (.aload_n 0, 1) := by decide +kernel
theorem dX5_init_22 : decode cX5_init 22 = .ok (.iconst 0, 1) := by decide +kernel
theorem dX5_init_23 : decode cX5_init 23 = .ok (.putfield 21, 3) := by decide +kernel
theorem dX5_init_26 : decode cX5_init 26 = .ok (.aload_n 0, 1) := by decide +kernel
theorem dX5_init_27 : decode cX5_init 27 = .ok (.iconst 0, 1) := by decide +kernel
theorem dX5_init_28 : decode cX5_init 28 = .ok (.putfield 24, 3) := by decide +kernel
theorem dX5_init_31 : decode cX5_init 31 = .ok (.aload_n 0, 1) := by decide +kernel
theorem dX5_init_32 : decode cX5_init 32 = .ok (.iconst 0, 1) := by decide +kernel
theorem dX5_init_33 : decode cX5_init 33 = .ok (.putfield 27, 3) := by decide +kernel
theorem dX5_init_36 : decode cX5_init 36 = .ok (.aload_n 0, 1) := by decide +kernel
theorem dX5_init_37 : decode cX5_init 37 = .ok (.iconst 5, 1) := by decide +kernel
theorem dX5_init_38 : decode cX5_init 38 = .ok (.newarray .int, 2) := by decide +kernel
theorem dX5_init_40 : decode cX5_init 40 = .ok (.putfield 30, 3) := by decide +kernel
theorem dX5_init_43 : decode cX5_init 43 = .ok (.aload_n 0, 1) := by decide +kernel
theorem dX5_init_44 : decode cX5_init 44 = .ok (.iconst 5, 1) := by decide +kernel
theorem dX5_init_45 : decode cX5_init 45 = .ok (.newarray .int, 2) := by decide +kernel
theorem dX5_init_47 : decode cX5_init 47 = .ok (.putfield 34, 3) := by decide +kernel
theorem dX5_init_50 : decode cX5_init 50 = .ok (.aload_n 0, 1) := by decide +kernel
theorem dX5_init_51 : decode cX5_init 51 = .ok (.iconst 5, 1) := by decide +kernel
theorem dX5_init_52 : decode cX5_init 52 = .ok (.newarray .int, 2) := by decide +kernel
theorem dX5_init_54 : decode cX5_init 54 = .ok (.putfield 37, 3) := by decide +kernel
theorem dX5_init_57 : decode cX5_init 57 = .ok (.aload_n 0, 1) := by decide +kernel
theorem dX5_init_58 : decode cX5_init 58 = .ok (.iconst 5, 1) := by decide +kernel
theorem dX5_init_59 : decode cX5_init 59 = .ok (.newarray .int, 2) := by decide +kernel
theorem dX5_init_61 : decode cX5_init 61 = .ok (.putfield 40, 3) := by decide +kernel
theorem dX5_init_64 : decode cX5_init 64 = .ok (.return_, 1) := by decide +kernel
theorem dX5_has_0 : decode cX5_has 0 = .ok (.iload_n 1, 1) := by decide +kernel
theorem dX5_has_1 : decode cX5_has 1 = .ok (.ifCond .lt 20, 3) := by decide +kernel
theorem dX5_has_4 : decode cX5_has 4 = .ok (.iload_n 1, 1) := by decide +kernel
theorem dX5_has_5 : decode cX5_has 5 = .ok (.aload_n 0, 1) := by decide +kernel
theorem dX5_has_6 : decode cX5_has 6 = .ok (.getfield 27, 3) := by decide +kernel
theorem dX5_has_9 : decode cX5_has 9 = .ok (.if_icmp .ge 12, 3) := by decide +kernel
theorem dX5_has_12 : decode cX5_has 12 = .ok (.iload_n 1, 1) := by decide +kernel
theorem dX5_has_13 : decode cX5_has 13 = .ok (.iconst 5, 1) := by decide +kernel
theorem dX5_has_14 : decode cX5_has 14 = .ok (.if_icmp .ge 7, 3) := by decide +kernel
theorem dX5_has_17 : decode cX5_has 17 = .ok (.iconst 1, 1) := by decide +kernel
theorem dX5_has_18 : decode cX5_has 18 = .ok (.goto 4, 3) := by decide +kernel
theorem dX5_has_21 : decode cX5_has 21 = .ok (.iconst 0, 1) := by decide +kernel
theorem dX5_has_22 : decode cX5_has 22 = .ok (.ireturn, 1) := by decide +kernel
theorem dX5_welcome_0 : decode cX5_welcome 0 = .ok (.aload_n 0, 1) := by decide +kernel
theorem dX5_welcome_1 : decode cX5_welcome 1 = .ok (.getfield 27, 3) := by decide +kernel
theorem dX5_welcome_4 : decode cX5_welcome 4 = .ok (.istore 4, 2) := by decide +kernel
theorem dX5_welcome_6 : decode cX5_welcome 6 = .ok (.iload 4, 2) := by decide +kernel
theorem dX5_welcome_8 : decode cX5_welcome 8 = .ok (.ifCond .lt 9, 3) := by decide +kernel
theorem dX5_welcome_11 : decode cX5_welcome 11 = .ok (.iload 4, 2) := by decide +kernel
theorem dX5_welcome_13 : decode cX5_welcome 13 = .ok (.iconst 5, 1) := by decide +kernel
theorem dX5_welcome_14 : decode cX5_welcome 14 = .ok (.if_icmp .lt 6, 3) := by decide +kernel
theorem dX5_welcome_17 : decode cX5_welcome 17 = .ok (.bipush (-4), 2) := by decide +kernel
theorem dX5_welcome_19 : decode cX5_welcome 19 = .ok (.ireturn, 1) := by decide +kernel
theorem dX5_welcome_20 : decode cX5_welcome 20 = .ok (.aload_n 0, 1) := by decide +kernel
theorem dX5_welcome_21 : decode cX5_welcome 21 = .ok (.getfield 30, 3) := by decide +kernel
theorem dX5_welcome_24 : decode cX5_welcome 24 = .ok (.iload 4, 2) := by decide +kernel
theorem dX5_welcome_26 : decode cX5_welcome 26 = .ok (.iload_n 1, 1) := by decide +kernel
theorem dX5_welcome_27 : decode cX5_welcome 27 = .ok (.iastore, 1) := by decide +kernel
theorem dX5_welcome_28 : decode cX5_welcome 28 = .ok (.aload_n 0, 1) := by decide +kernel
theorem dX5_welcome_29 : decode cX5_welcome 29 = .ok (.getfield 34, 3) := by decide +kernel
theorem dX5_welcome_32 : decode cX5_welcome 32 = .ok (.iload 4, 2) := by decide +kernel
theorem dX5_welcome_34 : decode cX5_welcome 34 = .ok (.iload_n 2, 1) := by decide +kernel
theorem dX5_welcome_35 : decode cX5_welcome 35 = .ok (.iastore, 1) := by decide +kernel
theorem dX5_welcome_36 : decode cX5_welcome 36 = .ok (.aload_n 0, 1) := by decide +kernel
theorem dX5_welcome_37 : decode cX5_welcome 37 = .ok (.getfield 37, 3) := by decide +kernel
theorem dX5_welcome_40 : decode cX5_welcome 40 = .ok (.iload 4, 2) := by decide +kernel
theorem dX5_welcome_42 : decode cX5_welcome 42 = .ok (.iload_n 3, 1) := by decide +kernel
theorem dX5_welcome_43 : decode cX5_welcome 43 = .ok (.iastore, 1) := by decide +kernel
theorem dX5_welcome_44 : decode cX5_welcome 44 = .ok (.aload_n 0, 1) := by decide +kernel
theorem dX5_welcome_45 : decode cX5_welcome 45 = .ok (.getfield 40, 3) := by decide +kernel
theorem dX5_welcome_48 : decode cX5_welcome 48 = .ok (.iload 4, 2) := by decide +kernel
theorem dX5_welcome_50 : decode cX5_welcome 50 = .ok (.iconst 1, 1) := by decide +kernel
theorem dX5_welcome_51 : decode cX5_welcome 51 = .ok (.iastore, 1) := by decide +kernel
theorem dX5_welcome_52 : decode cX5_welcome 52 = .ok (.aload_n 0, 1) := by decide +kernel
theorem dX5_welcome_53 : decode cX5_welcome 53 = .ok (.dup, 1) := by decide +kernel
theorem dX5_welcome_54 : decode cX5_welcome 54 = .ok (.getfield 27, 3) := by decide +kernel
theorem dX5_welcome_57 : decode cX5_welcome 57 = .ok (.iconst 1, 1) := by decide +kernel
theorem dX5_welcome_58 : decode cX5_welcome 58 = .ok (.iadd, 1) := by decide +kernel
theorem dX5_welcome_59 : decode cX5_welcome 59 = .ok (.putfield 27, 3) := by decide +kernel
theorem dX5_welcome_62 : decode cX5_welcome 62 = .ok (.iload 4, 2) := by decide +kernel
theorem dX5_welcome_64 : decode cX5_welcome 64 = .ok (.ireturn, 1) := by decide +kernel
theorem dX5_value_0 : decode cX5_value 0 = .ok (.iload_n 1, 1) := by decide +kernel
theorem dX5_value_1 : decode cX5_value 1 = .ok (.tableswitch 42 0 2 #[27, 32, 37], 27) := by decide +kernel
theorem dX5_value_28 : decode cX5_value 28 = .ok (.aload_n 0, 1) := by decide +kernel
theorem dX5_value_29 : decode cX5_value 29 = .ok (.getfield 9, 3) := by decide +kernel
theorem dX5_value_32 : decode cX5_value 32 = .ok (.ireturn, 1) := by decide +kernel
theorem dX5_value_33 : decode cX5_value 33 = .ok (.aload_n 0, 1) := by decide +kernel
theorem dX5_value_34 : decode cX5_value 34 = .ok (.getfield 15, 3) := by decide +kernel
theorem dX5_value_37 : decode cX5_value 37 = .ok (.ireturn, 1) := by decide +kernel
theorem dX5_value_38 : decode cX5_value 38 = .ok (.aload_n 0, 1) := by decide +kernel
theorem dX5_value_39 : decode cX5_value 39 = .ok (.getfield 18, 3) := by decide +kernel
theorem dX5_value_42 : decode cX5_value 42 = .ok (.ireturn, 1) := by decide +kernel
theorem dX5_value_43 : decode cX5_value 43 = .ok (.aload_n 0, 1) := by decide +kernel
theorem dX5_value_44 : decode cX5_value 44 = .ok (.iload_n 1, 1) := by decide +kernel
theorem dX5_value_45 : decode cX5_value 45 = .ok (.invokevirtual 43, 3) := by decide +kernel
theorem dX5_value_48 : decode cX5_value 48 = .ok (.astore_n 3, 1) := by decide +kernel
theorem dX5_value_49 : decode cX5_value 49 = .ok (.iload_n 2, 1) := by decide +kernel
theorem dX5_value_50 : decode cX5_value 50 = .ok (.ifCond .lt 15, 3) := by decide +kernel
theorem dX5_value_53 : decode cX5_value 53 = .ok (.iload_n 2, 1) := by decide +kernel
theorem dX5_value_54 : decode cX5_value 54 = .ok (.aload_n 3, 1) := by decide +kernel
theorem dX5_value_55 : decode cX5_value 55 = .ok (.arraylength, 1) := by decide +kernel
theorem dX5_value_56 : decode cX5_value 56 = .ok (.if_icmp .ge 9, 3) := by decide +kernel
theorem dX5_value_59 : decode cX5_value 59 = .ok (.aload_n 3, 1) := by decide +kernel
theorem dX5_value_60 : decode cX5_value 60 = .ok (.iload_n 2, 1) := by decide +kernel
theorem dX5_value_61 : decode cX5_value 61 = .ok (.iaload, 1) := by decide +kernel
theorem dX5_value_62 : decode cX5_value 62 = .ok (.goto 4, 3) := by decide +kernel
theorem dX5_value_65 : decode cX5_value 65 = .ok (.iconst (-1), 1) := by decide +kernel
theorem dX5_value_66 : decode cX5_value 66 = .ok (.ireturn, 1) := by decide +kernel
theorem dX5_change_0 : decode cX5_change 0 = .ok (.iload_n 1, 1) := by decide +kernel
theorem dX5_change_1 : decode cX5_change 1 = .ok (.tableswitch 51 0 2 #[27, 35, 43], 27) := by decide +kernel
theorem dX5_change_28 : decode cX5_change 28 = .ok (.aload_n 0, 1) := by decide +kernel
theorem dX5_change_29 : decode cX5_change 29 = .ok (.iload_n 3, 1) := by decide +kernel
theorem dX5_change_30 : decode cX5_change 30 = .ok (.putfield 9, 3) := by decide +kernel
theorem dX5_change_33 : decode cX5_change 33 = .ok (.goto 42, 3) := by decide +kernel
theorem dX5_change_36 : decode cX5_change 36 = .ok (.aload_n 0, 1) := by decide +kernel
theorem dX5_change_37 : decode cX5_change 37 = .ok (.iload_n 3, 1) := by decide +kernel
theorem dX5_change_38 : decode cX5_change 38 = .ok (.putfield 15, 3) := by decide +kernel
theorem dX5_change_41 : decode cX5_change 41 = .ok (.goto 34, 3) := by decide +kernel
theorem dX5_change_44 : decode cX5_change 44 = .ok (.aload_n 0, 1) := by decide +kernel
theorem dX5_change_45 : decode cX5_change 45 = .ok (.iload_n 3, 1) := by decide +kernel
theorem dX5_change_46 : decode cX5_change 46 = .ok (.putfield 18, 3) := by decide +kernel
theorem dX5_change_49 : decode cX5_change 49 = .ok (.goto 26, 3) := by decide +kernel
theorem dX5_change_52 : decode cX5_change 52 = .ok (.aload_n 0, 1) := by decide +kernel
theorem dX5_change_53 : decode cX5_change 53 = .ok (.iload_n 1, 1) := by decide +kernel
theorem dX5_change_54 : decode cX5_change 54 = .ok (.invokevirtual 43, 3) := by decide +kernel
theorem dX5_change_57 : decode cX5_change 57 = .ok (.astore 4, 2) := by decide +kernel
theorem dX5_change_59 : decode cX5_change 59 = .ok (.iload_n 2, 1) := by decide +kernel
theorem dX5_change_60 : decode cX5_change 60 = .ok (.ifCond .lt 15, 3) := by decide +kernel
theorem dX5_change_63 : decode cX5_change 63 = .ok (.iload_n 2, 1) := by decide +kernel
theorem dX5_change_64 : decode cX5_change 64 = .ok (.aload 4, 2) := by decide +kernel
theorem dX5_change_66 : decode cX5_change 66 = .ok (.arraylength, 1) := by decide +kernel
theorem dX5_change_67 : decode cX5_change 67 = .ok (.if_icmp .ge 8, 3) := by decide +kernel
theorem dX5_change_70 : decode cX5_change 70 = .ok (.aload 4, 2) := by decide +kernel
theorem dX5_change_72 : decode cX5_change 72 = .ok (.iload_n 2, 1) := by decide +kernel
theorem dX5_change_73 : decode cX5_change 73 = .ok (.iload_n 3, 1) := by decide +kernel
theorem dX5_change_74 : decode cX5_change 74 = .ok (.iastore, 1) := by decide +kernel
theorem dX5_change_75 : decode cX5_change 75 = .ok (.return_, 1) := by decide +kernel
theorem dX5_rowOf_0 : decode cX5_rowOf 0 = .ok (.iload_n 1, 1) := by decide +kernel
theorem dX5_rowOf_1 : decode cX5_rowOf 1 = .ok (.tableswitch 42 3 5 #[27, 32, 37], 27) := by decide +kernel
theorem dX5_rowOf_28 : decode cX5_rowOf 28 = .ok (.aload_n 0, 1) := by decide +kernel
theorem dX5_rowOf_29 : decode cX5_rowOf 29 = .ok (.getfield 34, 3) := by decide +kernel
theorem dX5_rowOf_32 : decode cX5_rowOf 32 = .ok (.areturn, 1) := by decide +kernel
theorem dX5_rowOf_33 : decode cX5_rowOf 33 = .ok (.aload_n 0, 1) := by decide +kernel
theorem dX5_rowOf_34 : decode cX5_rowOf 34 = .ok (.getfield 37, 3) := by decide +kernel
theorem dX5_rowOf_37 : decode cX5_rowOf 37 = .ok (.areturn, 1) := by decide +kernel
theorem dX5_rowOf_38 : decode cX5_rowOf 38 = .ok (.aload_n 0, 1) := by decide +kernel
theorem dX5_rowOf_39 : decode cX5_rowOf 39 = .ok (.getfield 40, 3) := by decide +kernel
theorem dX5_rowOf_42 : decode cX5_rowOf 42 = .ok (.areturn, 1) := by decide +kernel
theorem dX5_rowOf_43 : decode cX5_rowOf 43 = .ok (.aload_n 0, 1) := by decide +kernel
theorem dX5_rowOf_44 : decode cX5_rowOf 44 = .ok (.getfield 30, 3) := by decide +kernel
theorem dX5_rowOf_47 : decode cX5_rowOf 47 = .ok (.areturn, 1) := by decide +kernel
theorem dX5_likedGuests_0 : decode cX5_likedGuests 0 = .ok (.iconst 0, 1) := by decide +kernel
theorem dX5_likedGuests_1 : decode cX5_likedGuests 1 = .ok (.istore_n 1, 1) := by decide +kernel
theorem dX5_likedGuests_2 : decode cX5_likedGuests 2 = .ok (.iconst 0, 1) := by decide +kernel
theorem dX5_likedGuests_3 : decode cX5_likedGuests 3 = .ok (.istore_n 2, 1) := by decide +kernel
theorem dX5_likedGuests_4 : decode cX5_likedGuests 4 = .ok (.iload_n 2, 1) := by decide +kernel
theorem dX5_likedGuests_5 : decode cX5_likedGuests 5 = .ok (.aload_n 0, 1) := by decide +kernel
theorem dX5_likedGuests_6 : decode cX5_likedGuests 6 = .ok (.getfield 27, 3) := by decide +kernel
theorem dX5_likedGuests_9 : decode cX5_likedGuests 9 = .ok (.if_icmp .ge 27, 3) := by decide +kernel
theorem dX5_likedGuests_12 : decode cX5_likedGuests 12 = .ok (.iload_n 2, 1) := by decide +kernel
theorem dX5_likedGuests_13 : decode cX5_likedGuests 13 = .ok (.aload_n 0, 1) := by decide +kernel
theorem dX5_likedGuests_14 : decode cX5_likedGuests 14 = .ok (.getfield 40, 3) := by decide +kernel
theorem dX5_likedGuests_17 : decode cX5_likedGuests 17 = .ok (.arraylength, 1) := by decide +kernel
theorem dX5_likedGuests_18 : decode cX5_likedGuests 18 = .ok (.if_icmp .ge 18, 3) := by decide +kernel
theorem dX5_likedGuests_21 : decode cX5_likedGuests 21 = .ok (.iload_n 1, 1) := by decide +kernel
theorem dX5_likedGuests_22 : decode cX5_likedGuests 22 = .ok (.aload_n 0, 1) := by decide +kernel
theorem dX5_likedGuests_23 : decode cX5_likedGuests 23 = .ok (.getfield 40, 3) := by decide +kernel
theorem dX5_likedGuests_26 : decode cX5_likedGuests 26 = .ok (.iload_n 2, 1) := by decide +kernel
theorem dX5_likedGuests_27 : decode cX5_likedGuests 27 = .ok (.iaload, 1) := by decide +kernel
theorem dX5_likedGuests_28 : decode cX5_likedGuests 28 = .ok (.iadd, 1) := by decide +kernel
theorem dX5_likedGuests_29 : decode cX5_likedGuests 29 = .ok (.istore_n 1, 1) := by decide +kernel
theorem dX5_likedGuests_30 : decode cX5_likedGuests 30 = .ok (.iinc 2 1, 3) := by decide +kernel
theorem dX5_likedGuests_33 : decode cX5_likedGuests 33 = .ok (.goto (-29), 3) := by decide +kernel
theorem dX5_likedGuests_36 : decode cX5_likedGuests 36 = .ok (.iload_n 1, 1) := by decide +kernel
theorem dX5_likedGuests_37 : decode cX5_likedGuests 37 = .ok (.ireturn, 1) := by decide +kernel
theorem dX5_becomeAs_0 : decode cX5_becomeAs 0 = .ok (.aload_n 0, 1) := by decide +kernel
theorem dX5_becomeAs_1 : decode cX5_becomeAs 1 = .ok (.aload_n 1, 1) := by decide +kernel
theorem dX5_becomeAs_2 : decode cX5_becomeAs 2 = .ok (.getfield 9, 3) := by decide +kernel
theorem dX5_becomeAs_5 : decode cX5_becomeAs 5 = .ok (.putfield 9, 3) := by decide +kernel
theorem dX5_becomeAs_8 : decode cX5_becomeAs 8 = .ok (.aload_n 0, 1) := by decide +kernel
theorem dX5_becomeAs_9 : decode cX5_becomeAs 9 = .ok (.aload_n 1, 1) := by decide +kernel
theorem dX5_becomeAs_10 : decode cX5_becomeAs 10 = .ok (.getfield 15, 3) := by decide +kernel
theorem dX5_becomeAs_13 : decode cX5_becomeAs 13 = .ok (.putfield 15, 3) := by decide +kernel
theorem dX5_becomeAs_16 : decode cX5_becomeAs 16 = .ok (.aload_n 0, 1) := by decide +kernel
theorem dX5_becomeAs_17 : decode cX5_becomeAs 17 = .ok (.aload_n 1, 1) := by decide +kernel
theorem dX5_becomeAs_18 : decode cX5_becomeAs 18 = .ok (.getfield 18, 3) := by decide +kernel
theorem dX5_becomeAs_21 : decode cX5_becomeAs 21 = .ok (.putfield 18, 3) := by decide +kernel
theorem dX5_becomeAs_24 : decode cX5_becomeAs 24 = .ok (.aload_n 0, 1) := by decide +kernel
theorem dX5_becomeAs_25 : decode cX5_becomeAs 25 = .ok (.aload_n 1, 1) := by decide +kernel
theorem dX5_becomeAs_26 : decode cX5_becomeAs 26 = .ok (.getfield 21, 3) := by decide +kernel
theorem dX5_becomeAs_29 : decode cX5_becomeAs 29 = .ok (.putfield 21, 3) := by decide +kernel
theorem dX5_becomeAs_32 : decode cX5_becomeAs 32 = .ok (.aload_n 0, 1) := by decide +kernel
theorem dX5_becomeAs_33 : decode cX5_becomeAs 33 = .ok (.aload_n 1, 1) := by decide +kernel
theorem dX5_becomeAs_34 : decode cX5_becomeAs 34 = .ok (.getfield 24, 3) := by decide +kernel
theorem dX5_becomeAs_37 : decode cX5_becomeAs 37 = .ok (.putfield 24, 3) := by decide +kernel
theorem dX5_becomeAs_40 : decode cX5_becomeAs 40 = .ok (.aload_n 0, 1) := by decide +kernel
theorem dX5_becomeAs_41 : decode cX5_becomeAs 41 = .ok (.aload_n 1, 1) := by decide +kernel
theorem dX5_becomeAs_42 : decode cX5_becomeAs 42 = .ok (.getfield 27, 3) := by decide +kernel
theorem dX5_becomeAs_45 : decode cX5_becomeAs 45 = .ok (.putfield 27, 3) := by decide +kernel
theorem dX5_becomeAs_48 : decode cX5_becomeAs 48 = .ok (.aload_n 1, 1) := by decide +kernel
theorem dX5_becomeAs_49 : decode cX5_becomeAs 49 = .ok (.getfield 30, 3) := by decide +kernel
theorem dX5_becomeAs_52 : decode cX5_becomeAs 52 = .ok (.iconst 0, 1) := by decide +kernel
theorem dX5_becomeAs_53 : decode cX5_becomeAs 53 = .ok (.aload_n 0, 1) := by decide +kernel
theorem dX5_becomeAs_54 : decode cX5_becomeAs 54 = .ok (.getfield 30, 3) := by decide +kernel
theorem dX5_becomeAs_57 : decode cX5_becomeAs 57 = .ok (.iconst 0, 1) := by decide +kernel
theorem dX5_becomeAs_58 : decode cX5_becomeAs 58 = .ok (.iconst 5, 1) := by decide +kernel
theorem dX5_becomeAs_59 : decode cX5_becomeAs 59 = .ok (.invokestatic 47, 3) := by decide +kernel
theorem dX5_becomeAs_62 : decode cX5_becomeAs 62 = .ok (.aload_n 1, 1) := by decide +kernel
theorem dX5_becomeAs_63 : decode cX5_becomeAs 63 = .ok (.getfield 34, 3) := by decide +kernel
theorem dX5_becomeAs_66 : decode cX5_becomeAs 66 = .ok (.iconst 0, 1) := by decide +kernel
theorem dX5_becomeAs_67 : decode cX5_becomeAs 67 = .ok (.aload_n 0, 1) := by decide +kernel
theorem dX5_becomeAs_68 : decode cX5_becomeAs 68 = .ok (.getfield 34, 3) := by decide +kernel
theorem dX5_becomeAs_71 : decode cX5_becomeAs 71 = .ok (.iconst 0, 1) := by decide +kernel
theorem dX5_becomeAs_72 : decode cX5_becomeAs 72 = .ok (.iconst 5, 1) := by decide +kernel
theorem dX5_becomeAs_73 : decode cX5_becomeAs 73 = .ok (.invokestatic 47, 3) := by decide +kernel
theorem dX5_becomeAs_76 : decode cX5_becomeAs 76 = .ok (.aload_n 1, 1) := by decide +kernel
theorem dX5_becomeAs_77 : decode cX5_becomeAs 77 = .ok (.getfield 37, 3) := by decide +kernel
theorem dX5_becomeAs_80 : decode cX5_becomeAs 80 = .ok (.iconst 0, 1) := by decide +kernel
theorem dX5_becomeAs_81 : decode cX5_becomeAs 81 = .ok (.aload_n 0, 1) := by decide +kernel
theorem dX5_becomeAs_82 : decode cX5_becomeAs 82 = .ok (.getfield 37, 3) := by decide +kernel
theorem dX5_becomeAs_85 : decode cX5_becomeAs 85 = .ok (.iconst 0, 1) := by decide +kernel
theorem dX5_becomeAs_86 : decode cX5_becomeAs 86 = .ok (.iconst 5, 1) := by decide +kernel
theorem dX5_becomeAs_87 : decode cX5_becomeAs 87 = .ok (.invokestatic 47, 3) := by decide +kernel
theorem dX5_becomeAs_90 : decode cX5_becomeAs 90 = .ok (.aload_n 1, 1) := by decide +kernel
theorem dX5_becomeAs_91 : decode cX5_becomeAs 91 = .ok (.getfield 40, 3) := by decide +kernel
theorem dX5_becomeAs_94 : decode cX5_becomeAs 94 = .ok (.iconst 0, 1) := by decide +kernel
theorem dX5_becomeAs_95 : decode cX5_becomeAs 95 = .ok (.aload_n 0, 1) := by decide +kernel
theorem dX5_becomeAs_96 : decode cX5_becomeAs 96 = .ok (.getfield 40, 3) := by decide +kernel
theorem dX5_becomeAs_99 : decode cX5_becomeAs 99 = .ok (.iconst 0, 1) := by decide +kernel
theorem dX5_becomeAs_100 : decode cX5_becomeAs 100 = .ok (.iconst 5, 1) := by decide +kernel
theorem dX5_becomeAs_101 : decode cX5_becomeAs 101 = .ok (.invokestatic 47, 3) := by decide +kernel
theorem dX5_becomeAs_104 : decode cX5_becomeAs 104 = .ok (.return_, 1) := by decide +kernel
theorem dX6_init_0 : decode cX6_init 0 = .ok (.aload_n 0, 1) := by decide +kernel
theorem dX6_init_1 : decode cX6_init 1 = .ok (.invokespecial 3, 3) := by decide +kernel
theorem dX6_init_4 : decode cX6_init 4 = .ok (.aload_n 0, 1) := by decide +kernel
theorem dX6_init_5 : decode cX6_init 5 = .ok (.bipush 40, 2) := by decide +kernel
theorem dX6_init_7 : decode cX6_init 7 = .ok (.newarray .int, 2) := by decide +kernel
theorem dX6_init_9 : decode cX6_init 9 = .ok (.putfield 9, 3) := by decide +kernel
theorem dX6_init_12 : decode cX6_init 12 = .ok (.aload_n 0, 1) := by decide +kernel
theorem dX6_init_13 : decode cX6_init 13 = .ok (.iconst (-1), 1) := by decide +kernel
theorem dX6_init_14 : decode cX6_init 14 = .ok (.putfield 15, 3) := by decide +kernel
theorem dX6_init_17 : decode cX6_init 17 = .ok (.aload_n 0, 1) := by decide +kernel
theorem dX6_init_18 : decode cX6_init 18 = .ok (.iconst 0, 1) := by decide +kernel
theorem dX6_init_19 : decode cX6_init 19 = .ok (.putfield 19, 3) := by decide +kernel
theorem dX6_init_22 : decode cX6_init 22 = .ok (.return_, 1) := by decide +kernel
theorem dX6_isSort_0 : decode cX6_isSort 0 = .ok (.iload_n 0, 1) := by decide +kernel
theorem dX6_isSort_1 : decode cX6_isSort 1 = .ok (.ifCond .lt 12, 3) := by decide +kernel
theorem dX6_isSort_4 : decode cX6_isSort 4 = .ok (.iload_n 0, 1) := by decide +kernel
theorem dX6_isSort_5 : decode cX6_isSort 5 = .ok (.iconst 2, 1) := by decide +kernel
theorem dX6_isSort_6 : decode cX6_isSort 6 = .ok (.if_icmp .gt 7, 3) := by decide +kernel
theorem dX6_isSort_9 : decode cX6_isSort 9 = .ok (.iconst 1, 1) := by decide +kernel
theorem dX6_isSort_10 : decode cX6_isSort 10 = .ok (.goto 4, 3) := by decide +kernel
theorem dX6_isSort_13 : decode cX6_isSort 13 = .ok (.iconst 0, 1) := by decide +kernel
theorem dX6_isSort_14 : decode cX6_isSort 14 = .ok (.ireturn, 1) := by decide +kernel
theorem dX6_isMissing_0 : decode cX6_isMissing 0 = .ok (.aload_n 0, 1) := by decide +kernel
theorem dX6_isMissing_1 : decode cX6_isMissing 1 = .ok (.getfield 15, 3) := by decide +kernel
theorem dX6_isMissing_4 : decode cX6_isMissing 4 = .ok (.iconst (-1), 1) := by decide +kernel
theorem dX6_isMissing_5 : decode cX6_isMissing 5 = .ok (.if_icmp .ne 7, 3) := by decide +kernel
theorem dX6_isMissing_8 : decode cX6_isMissing 8 = .ok (.iconst 1, 1) := by decide +kernel
theorem dX6_isMissing_9 : decode cX6_isMissing 9 = .ok (.goto 4, 3) := by decide +kernel
theorem dX6_isMissing_12 : decode cX6_isMissing 12 = .ok (.iconst 0, 1) := by decide +kernel
theorem dX6_isMissing_13 : decode cX6_isMissing 13 = .ok (.ireturn, 1) := by decide +kernel
theorem dX6_become_0 : decode cX6_become 0 = .ok (.aload_n 0, 1) := by decide +kernel
theorem dX6_become_1 : decode cX6_become 1 = .ok (.iload_n 1, 1) := by decide +kernel
theorem dX6_become_2 : decode cX6_become 2 = .ok (.putfield 15, 3) := by decide +kernel
theorem dX6_become_5 : decode cX6_become 5 = .ok (.aload_n 0, 1) := by decide +kernel
theorem dX6_become_6 : decode cX6_become 6 = .ok (.iload_n 2, 1) := by decide +kernel
theorem dX6_become_7 : decode cX6_become 7 = .ok (.iconst 0, 1) := by decide +kernel
theorem dX6_become_8 : decode cX6_become 8 = .ok (.bipush 40, 2) := by decide +kernel
theorem dX6_become_10 : decode cX6_become 10 = .ok (.invokestatic 22, 3) := by decide +kernel
theorem dX6_become_13 : decode cX6_become 13 = .ok (.putfield 19, 3) := by decide +kernel
theorem dX6_become_16 : decode cX6_become 16 = .ok (.iconst 0, 1) := by decide +kernel
theorem dX6_become_17 : decode cX6_become 17 = .ok (.istore_n 3, 1) := by decide +kernel
theorem dX6_become_18 : decode cX6_become 18 = .ok (.iload_n 3, 1) := by decide +kernel
theorem dX6_become_19 : decode cX6_become 19 = .ok (.aload_n 0, 1) := by decide +kernel
theorem dX6_become_20 : decode cX6_become 20 = .ok (.getfield 9, 3) := by decide +kernel
theorem dX6_become_23 : decode cX6_become 23 = .ok (.arraylength, 1) := by decide +kernel
theorem dX6_become_24 : decode cX6_become 24 = .ok (.if_icmp .ge 16, 3) := by decide +kernel
theorem dX6_become_27 : decode cX6_become 27 = .ok (.aload_n 0, 1) := by decide +kernel
theorem dX6_become_28 : decode cX6_become 28 = .ok (.getfield 9, 3) := by decide +kernel
theorem dX6_become_31 : decode cX6_become 31 = .ok (.iload_n 3, 1) := by decide +kernel
theorem dX6_become_32 : decode cX6_become 32 = .ok (.iconst 0, 1) := by decide +kernel
theorem dX6_become_33 : decode cX6_become 33 = .ok (.iastore, 1) := by decide +kernel
theorem dX6_become_34 : decode cX6_become 34 = .ok (.iinc 3 1, 3) := by decide +kernel
theorem dX6_become_37 : decode cX6_become 37 = .ok (.goto (-19), 3) := by decide +kernel
theorem dX6_become_40 : decode cX6_become 40 = .ok (.return_, 1) := by decide +kernel
theorem dX6_spans_0 : decode cX6_spans 0 = .ok (.iload_n 1, 1) := by decide +kernel
theorem dX6_spans_1 : decode cX6_spans 1 = .ok (.ifCond .lt 29, 3) := by decide +kernel
theorem dX6_spans_4 : decode cX6_spans 4 = .ok (.iload_n 2, 1) := by decide +kernel
theorem dX6_spans_5 : decode cX6_spans 5 = .ok (.ifCond .lt 25, 3) := by decide +kernel
theorem dX6_spans_8 : decode cX6_spans 8 = .ok (.iload_n 2, 1) := by decide +kernel
theorem dX6_spans_9 : decode cX6_spans 9 = .ok (.aload_n 0, 1) := by decide +kernel
theorem dX6_spans_10 : decode cX6_spans 10 = .ok (.getfield 19, 3) := by decide +kernel
theorem dX6_spans_13 : decode cX6_spans 13 = .ok (.if_icmp .gt 17, 3) := by decide +kernel
theorem dX6_spans_16 : decode cX6_spans 16 = .ok (.iload_n 1, 1) := by decide +kernel
theorem dX6_spans_17 : decode cX6_spans 17 = .ok (.aload_n 0, 1) := by decide +kernel
theorem dX6_spans_18 : decode cX6_spans 18 = .ok (.getfield 19, 3) := by decide +kernel
theorem dX6_spans_21 : decode cX6_spans 21 = .ok (.iload_n 2, 1) := by decide +kernel
theorem dX6_spans_22 : decode cX6_spans 22 = .ok (.isub, 1) := by decide +kernel
theorem dX6_spans_23 : decode cX6_spans 23 = .ok (.if_icmp .gt 7, 3) := by decide +kernel
theorem dX6_spans_26 : decode cX6_spans 26 = .ok (.iconst 1, 1) := by decide +kernel
theorem dX6_spans_27 : decode cX6_spans 27 = .ok (.goto 4, 3) := by decide +kernel
theorem dX6_spans_30 : decode cX6_spans 30 = .ok (.iconst 0, 1) := by decide +kernel
theorem dX6_spans_31 : decode cX6_spans 31 = .ok (.ireturn, 1) := by decide +kernel
theorem dX6_item_0 : decode cX6_item 0 = .ok (.iload_n 1, 1) := by decide +kernel
theorem dX6_item_1 : decode cX6_item 1 = .ok (.ifCond .lt 29, 3) := by decide +kernel
theorem dX6_item_4 : decode cX6_item 4 = .ok (.iload_n 1, 1) := by decide +kernel
theorem dX6_item_5 : decode cX6_item 5 = .ok (.aload_n 0, 1) := by decide +kernel
theorem dX6_item_6 : decode cX6_item 6 = .ok (.getfield 19, 3) := by decide +kernel
theorem dX6_item_9 : decode cX6_item 9 = .ok (.if_icmp .ge 21, 3) := by decide +kernel
theorem dX6_item_12 : decode cX6_item 12 = .ok (.iload_n 1, 1) := by decide +kernel
theorem dX6_item_13 : decode cX6_item 13 = .ok (.aload_n 0, 1) := by decide +kernel
theorem dX6_item_14 : decode cX6_item 14 = .ok (.getfield 9, 3) := by decide +kernel
theorem dX6_item_17 : decode cX6_item 17 = .ok (.arraylength, 1) := by decide +kernel
theorem dX6_item_18 : decode cX6_item 18 = .ok (.if_icmp .ge 12, 3) := by decide +kernel
theorem dX6_item_21 : decode cX6_item 21 = .ok (.aload_n 0, 1) := by decide +kernel
theorem dX6_item_22 : decode cX6_item 22 = .ok (.getfield 9, 3) := by decide +kernel
theorem dX6_item_25 : decode cX6_item 25 = .ok (.iload_n 1, 1) := by decide +kernel
theorem dX6_item_26 : decode cX6_item 26 = .ok (.iaload, 1) := by decide +kernel
theorem dX6_item_27 : decode cX6_item 27 = .ok (.goto 4, 3) := by decide +kernel
theorem dX6_item_30 : decode cX6_item 30 = .ok (.iconst (-1), 1) := by decide +kernel
theorem dX6_item_31 : decode cX6_item 31 = .ok (.ireturn, 1) := by decide +kernel
theorem dX6_put_0 : decode cX6_put 0 = .ok (.iload_n 1, 1) := by decide +kernel
theorem dX6_put_1 : decode cX6_put 1 = .ok (.ifCond .lt 52, 3) := by decide +kernel
theorem dX6_put_4 : decode cX6_put 4 = .ok (.iload_n 1, 1) := by decide +kernel
theorem dX6_put_5 : decode cX6_put 5 = .ok (.aload_n 0, 1) := by decide +kernel
theorem dX6_put_6 : decode cX6_put 6 = .ok (.getfield 19, 3) := by decide +kernel
theorem dX6_put_9 : decode cX6_put 9 = .ok (.if_icmp .ge 44, 3) := by decide +kernel
theorem dX6_put_12 : decode cX6_put 12 = .ok (.iload_n 1, 1) := by decide +kernel
theorem dX6_put_13 : decode cX6_put 13 = .ok (.aload_n 0, 1) := by decide +kernel
theorem dX6_put_14 : decode cX6_put 14 = .ok (.getfield 9, 3) := by decide +kernel
theorem dX6_put_17 : decode cX6_put 17 = .ok (.arraylength, 1) := by decide +kernel
theorem dX6_put_18 : decode cX6_put 18 = .ok (.if_icmp .ge 35, 3) := by decide +kernel
theorem dX6_put_21 : decode cX6_put 21 = .ok (.aload_n 0, 1) := by decide +kernel
theorem dX6_put_22 : decode cX6_put 22 = .ok (.getfield 9, 3) := by decide +kernel
theorem dX6_put_25 : decode cX6_put 25 = .ok (.iload_n 1, 1) := by decide +kernel
theorem dX6_put_26 : decode cX6_put 26 = .ok (.aload_n 0, 1) := by decide +kernel
theorem dX6_put_27 : decode cX6_put 27 = .ok (.getfield 15, 3) := by decide +kernel
theorem dX6_put_30 : decode cX6_put 30 = .ok (.ifCond .ne 8, 3) := by decide +kernel
theorem dX6_put_33 : decode cX6_put 33 = .ok (.iload_n 2, 1) := by decide +kernel
theorem dX6_put_34 : decode cX6_put 34 = .ok (.i2b, 1) := by decide +kernel
theorem dX6_put_35 : decode cX6_put 35 = .ok (.goto 17, 3) := by decide +kernel
theorem dX6_put_38 : decode cX6_put 38 = .ok (.aload_n 0, 1) := by decide +kernel
theorem dX6_put_39 : decode cX6_put 39 = .ok (.getfield 15, 3) := by decide +kernel
theorem dX6_put_42 : decode cX6_put 42 = .ok (.iconst 1, 1) := by decide +kernel
theorem dX6_put_43 : decode cX6_put 43 = .ok (.if_icmp .ne 8, 3) := by decide +kernel
theorem dX6_put_46 : decode cX6_put 46 = .ok (.iload_n 2, 1) := by decide +kernel
theorem dX6_put_47 : decode cX6_put 47 = .ok (.i2s, 1) := by decide +kernel
theorem dX6_put_48 : decode cX6_put 48 = .ok (.goto 4, 3) := by decide +kernel
theorem dX6_put_51 : decode cX6_put 51 = .ok (.iload_n 2, 1) := by decide +kernel
theorem dX6_put_52 : decode cX6_put 52 = .ok (.iastore, 1) := by decide +kernel
theorem dX6_put_53 : decode cX6_put 53 = .ok (.return_, 1) := by decide +kernel
theorem dX7_init_0 : decode cX7_init 0 = .ok (.aload_n 0, 1) := by decide +kernel
theorem dX7_init_1 : decode cX7_init 1 = .ok (.invokespecial 3, 3) := by decide +kernel
theorem dX7_init_4 : decode cX7_init 4 = .ok (.aload_n 0, 1) := by decide +kernel
theorem dX7_init_5 : decode cX7_init 5 = .ok (.sipush 160, 3) := by decide +kernel
theorem dX7_init_8 : decode cX7_init 8 = .ok (.newarray .int, 2) := by decide +kernel
theorem dX7_init_10 : decode cX7_init 10 = .ok (.putfield 9, 3) := by decide +kernel
theorem dX7_init_13 : decode cX7_init 13 = .ok (.aload_n 0, 1) := by decide +kernel
theorem dX7_init_14 : decode cX7_init 14 = .ok (.iconst 0, 1) := by decide +kernel
theorem dX7_init_15 : decode cX7_init 15 = .ok (.putfield 15, 3) := by decide +kernel
theorem dX7_init_18 : decode cX7_init 18 = .ok (.aload_n 0, 1) := by decide +kernel
theorem dX7_init_19 : decode cX7_init 19 = .ok (.bipush (-22), 2) := by decide +kernel
theorem dX7_init_21 : decode cX7_init 21 = .ok (.putfield 19, 3) := by decide +kernel
theorem dX7_init_24 : decode cX7_init 24 = .ok (.aload_n 0, 1) := by decide +kernel
theorem dX7_init_25 : decode cX7_init 25 = .ok (.iconst 0, 1) := by decide +kernel
theorem dX7_init_26 : decode cX7_init 26 = .ok (.putfield 22, 3) := by decide +kernel
theorem dX7_init_29 : decode cX7_init 29 = .ok (.aload_n 0, 1) := by decide +kernel
theorem dX7_init_30 : decode cX7_init 30 = .ok (.iconst 0, 1) := by decide +kernel
theorem dX7_init_31 : decode cX7_init 31 = .ok (.putfield 25, 3) := by decide +kernel
theorem dX7_init_34 : decode cX7_init 34 = .ok (.return_, 1) := by decide +kernel
theorem dX7_take_0 : decode cX7_take 0 = .ok (.aload_n 0, 1) := by decide +kernel
theorem dX7_take_1 : decode cX7_take 1 = .ok (.getfield 15, 3) := by decide +kernel
theorem dX7_take_4 : decode cX7_take 4 = .ok (.ifCond .lt 15, 3) := by decide +kernel
theorem dX7_take_7 : decode cX7_take 7 = .ok (.aload_n 0, 1) := by decide +kernel
theorem dX7_take_8 : decode cX7_take 8 = .ok (.getfield 15, 3) := by decide +kernel
theorem dX7_take_11 : decode cX7_take 11 = .ok (.aload_n 0, 1) := by decide +kernel
theorem dX7_take_12 : decode cX7_take 12 = .ok (.getfield 9, 3) := by decide +kernel
theorem dX7_take_15 : decode cX7_take 15 = .ok (.arraylength, 1) := by decide +kernel
theorem dX7_take_16 : decode cX7_take 16 = .ok (.if_icmp .lt 6, 3) := by decide +kernel
theorem dX7_take_19 : decode cX7_take 19 = .ok (.bipush (-4), 2) := by decide +kernel
theorem dX7_take_21 : decode cX7_take 21 = .ok (.ireturn, 1) := by decide +kernel
theorem dX7_take_22 : decode cX7_take 22 = .ok (.aload_n 0, 1) := by decide +kernel
theorem dX7_take_23 : decode cX7_take 23 = .ok (.getfield 9, 3) := by decide +kernel
theorem dX7_take_26 : decode cX7_take 26 = .ok (.aload_n 0, 1) := by decide +kernel
theorem dX7_take_27 : decode cX7_take 27 = .ok (.dup, 1) := by decide +kernel
theorem dX7_take_28 : decode cX7_take 28 = .ok (.getfield 15, 3) := by decide +kernel
theorem dX7_take_31 : decode cX7_take 31 = .ok (.dup_x1, 1) := by decide +kernel
theorem dX7_take_32 : decode cX7_take 32 = .ok (.iconst 1, 1) := by decide +kernel
theorem dX7_take_33 : decode cX7_take 33 = .ok (.iadd, 1) := by decide +kernel
theorem dX7_take_34 : decode cX7_take 34 = .ok (.putfield 15, 3) := by decide +kernel
theorem dX7_take_37 : decode cX7_take 37 = .ok (.iload_n 1, 1) := by decide +kernel
theorem dX7_take_38 : decode cX7_take 38 = .ok (.iastore, 1) := by decide +kernel
theorem dX7_take_39 : decode cX7_take 39 = .ok (.aload_n 0, 1) := by decide +kernel
theorem dX7_take_40 : decode cX7_take 40 = .ok (.getfield 15, 3) := by decide +kernel
theorem dX7_take_43 : decode cX7_take 43 = .ok (.ireturn, 1) := by decide +kernel
theorem dX7_clear_0 : decode cX7_clear 0 = .ok (.aload_n 0, 1) := by decide +kernel
theorem dX7_clear_1 : decode cX7_clear 1 = .ok (.iconst 0, 1) := by decide +kernel
theorem dX7_clear_2 : decode cX7_clear 2 = .ok (.putfield 15, 3) := by decide +kernel
theorem dX7_clear_5 : decode cX7_clear 5 = .ok (.return_, 1) := by decide +kernel
theorem dX7_rewind_0 : decode cX7_rewind 0 = .ok (.aload_n 0, 1) := by decide +kernel
theorem dX7_rewind_1 : decode cX7_rewind 1 = .ok (.iconst 0, 1) := by decide +kernel
theorem dX7_rewind_2 : decode cX7_rewind 2 = .ok (.putfield 25, 3) := by decide +kernel
theorem dX7_rewind_5 : decode cX7_rewind 5 = .ok (.aload_n 0, 1) := by decide +kernel
theorem dX7_rewind_6 : decode cX7_rewind 6 = .ok (.invokevirtual 28, 3) := by decide +kernel
theorem dX7_rewind_9 : decode cX7_rewind 9 = .ok (.return_, 1) := by decide +kernel
theorem dX7_step_0 : decode cX7_step 0 = .ok (.aload_n 0, 1) := by decide +kernel
theorem dX7_step_1 : decode cX7_step 1 = .ok (.getfield 25, 3) := by decide +kernel
theorem dX7_step_4 : decode cX7_step 4 = .ok (.aload_n 0, 1) := by decide +kernel
theorem dX7_step_5 : decode cX7_step 5 = .ok (.getfield 15, 3) := by decide +kernel
theorem dX7_step_8 : decode cX7_step 8 = .ok (.if_icmp .ge 30, 3) := by decide +kernel
theorem dX7_step_11 : decode cX7_step 11 = .ok (.aload_n 0, 1) := by decide +kernel
theorem dX7_step_12 : decode cX7_step 12 = .ok (.aload_n 0, 1) := by decide +kernel
theorem dX7_step_13 : decode cX7_step 13 = .ok (.getfield 25, 3) := by decide +kernel
theorem dX7_step_16 : decode cX7_step 16 = .ok (.invokevirtual 31, 3) := by decide +kernel
theorem dX7_step_19 : decode cX7_step 19 = .ok (.invokestatic 35, 3) := by decide +kernel
theorem dX7_step_22 : decode cX7_step 22 = .ok (.ifCond .eq 16, 3) := by decide +kernel
theorem dX7_step_25 : decode cX7_step 25 = .ok (.aload_n 0, 1) := by decide +kernel
theorem dX7_step_26 : decode cX7_step 26 = .ok (.dup, 1) := by decide +kernel
theorem dX7_step_27 : decode cX7_step 27 = .ok (.getfield 25, 3) := by decide +kernel
theorem dX7_step_30 : decode cX7_step 30 = .ok (.iconst 1, 1) := by decide +kernel
theorem dX7_step_31 : decode cX7_step 31 = .ok (.iadd, 1) := by decide +kernel
theorem dX7_step_32 : decode cX7_step 32 = .ok (.putfield 25, 3) := by decide +kernel
theorem dX7_step_35 : decode cX7_step 35 = .ok (.goto (-35), 3) := by decide +kernel
theorem dX7_step_38 : decode cX7_step 38 = .ok (.aload_n 0, 1) := by decide +kernel
theorem dX7_step_39 : decode cX7_step 39 = .ok (.aload_n 0, 1) := by decide +kernel
theorem dX7_step_40 : decode cX7_step 40 = .ok (.getfield 25, 3) := by decide +kernel
theorem dX7_step_43 : decode cX7_step 43 = .ok (.putfield 22, 3) := by decide +kernel
theorem dX7_step_46 : decode cX7_step 46 = .ok (.aload_n 0, 1) := by decide +kernel
theorem dX7_step_47 : decode cX7_step 47 = .ok (.getfield 25, 3) := by decide +kernel
theorem dX7_step_50 : decode cX7_step 50 = .ok (.aload_n 0, 1) := by decide +kernel
theorem dX7_step_51 : decode cX7_step 51 = .ok (.getfield 15, 3) := by decide +kernel
theorem dX7_step_54 : decode cX7_step 54 = .ok (.if_icmp .lt 12, 3) := by decide +kernel
theorem dX7_step_57 : decode cX7_step 57 = .ok (.aload_n 0, 1) := by decide +kernel
theorem dX7_step_58 : decode cX7_step 58 = .ok (.bipush (-22), 2) := by decide +kernel
theorem dX7_step_60 : decode cX7_step 60 = .ok (.putfield 19, 3) := by decide +kernel
theorem dX7_step_63 : decode cX7_step 63 = .ok (.goto 78, 3) := by decide +kernel
theorem dX7_step_66 : decode cX7_step 66 = .ok (.aload_n 0, 1) := by decide +kernel
theorem dX7_step_67 : decode cX7_step 67 = .ok (.aload_n 0, 1) := by decide +kernel
theorem dX7_step_68 : decode cX7_step 68 = .ok (.getfield 25, 3) := by decide +kernel
theorem dX7_step_71 : decode cX7_step 71 = .ok (.invokevirtual 31, 3) := by decide +kernel
theorem dX7_step_74 : decode cX7_step 74 = .ok (.invokestatic 39, 3) := by decide +kernel
theorem dX7_step_77 : decode cX7_step 77 = .ok (.ifCond .eq 14, 3) := by decide +kernel
theorem dX7_step_80 : decode cX7_step 80 = .ok (.aload_n 0, 1) := by decide +kernel
theorem dX7_step_81 : decode cX7_step 81 = .ok (.aload_n 0, 1) := by decide +kernel
theorem dX7_step_82 : decode cX7_step 82 = .ok (.invokevirtual 42, 3) := by decide +kernel
theorem dX7_step_85 : decode cX7_step 85 = .ok (.putfield 19, 3) := by decide +kernel
theorem dX7_step_88 : decode cX7_step 88 = .ok (.goto 53, 3) := by decide +kernel
theorem dX7_step_91 : decode cX7_step 91 = .ok (.aload_n 0, 1) := by decide +kernel
theorem dX7_step_92 : decode cX7_step 92 = .ok (.aload_n 0, 1) := by decide +kernel
theorem dX7_step_93 : decode cX7_step 93 = .ok (.getfield 25, 3) := by decide +kernel
theorem dX7_step_96 : decode cX7_step 96 = .ok (.invokevirtual 31, 3) := by decide +kernel
theorem dX7_step_99 : decode cX7_step 99 = .ok (.invokestatic 46, 3) := by decide +kernel
theorem dX7_step_102 : decode cX7_step 102 = .ok (.ifCond .eq 14, 3) := by decide +kernel
theorem dX7_step_105 : decode cX7_step 105 = .ok (.aload_n 0, 1) := by decide +kernel
theorem dX7_step_106 : decode cX7_step 106 = .ok (.aload_n 0, 1) := by decide +kernel
theorem dX7_step_107 : decode cX7_step 107 = .ok (.invokevirtual 49, 3) := by decide +kernel
theorem dX7_step_110 : decode cX7_step 110 = .ok (.putfield 19, 3) := by decide +kernel
theorem dX7_step_113 : decode cX7_step 113 = .ok (.goto 28, 3) := by decide +kernel
theorem dX7_step_116 : decode cX7_step 116 = .ok (.aload_n 0, 1) := by decide +kernel
theorem dX7_step_117 : decode cX7_step 117 = .ok (.aload_n 0, 1) := by decide +kernel
theorem dX7_step_118 : decode cX7_step 118 = .ok (.aload_n 0, 1) := by decide +kernel
theorem dX7_step_119 : decode cX7_step 119 = .ok (.getfield 25, 3) := by decide +kernel
theorem dX7_step_122 : decode cX7_step 122 = .ok (.invokevirtual 31, 3) := by decide +kernel
theorem dX7_step_125 : decode cX7_step 125 = .ok (.invokestatic 52, 3) := by decide +kernel
theorem dX7_step_128 : decode cX7_step 128 = .ok (.putfield 19, 3) := by decide +kernel
theorem dX7_step_131 : decode cX7_step 131 = .ok (.aload_n 0, 1) := by decide +kernel
theorem dX7_step_132 : decode cX7_step 132 = .ok (.dup, 1) := by decide +kernel
theorem dX7_step_133 : decode cX7_step 133 = .ok (.getfield 25, 3) := by decide +kernel
theorem dX7_step_136 : decode cX7_step 136 = .ok (.iconst 1, 1) := by decide +kernel
theorem dX7_step_137 : decode cX7_step 137 = .ok (.iadd, 1) := by decide +kernel
theorem dX7_step_138 : decode cX7_step 138 = .ok (.putfield 25, 3) := by decide +kernel
theorem dX7_step_141 : decode cX7_step 141 = .ok (.return_, 1) := by decide +kernel
theorem dX7_byteAt_0 : decode cX7_byteAt 0 = .ok (.iload_n 1, 1) := by decide +kernel
theorem dX7_byteAt_1 : decode cX7_byteAt 1 = .ok (.ifCond .lt 29, 3) := by decide +kernel
theorem dX7_byteAt_4 : decode cX7_byteAt 4 = .ok (.iload_n 1, 1) := by decide +kernel
theorem dX7_byteAt_5 : decode cX7_byteAt 5 = .ok (.aload_n 0, 1) := by decide +kernel
theorem dX7_byteAt_6 : decode cX7_byteAt 6 = .ok (.getfield 15, 3) := by decide +kernel
theorem dX7_byteAt_9 : decode cX7_byteAt 9 = .ok (.if_icmp .ge 21, 3) := by decide +kernel
theorem dX7_byteAt_12 : decode cX7_byteAt 12 = .ok (.iload_n 1, 1) := by decide +kernel
theorem dX7_byteAt_13 : decode cX7_byteAt 13 = .ok (.aload_n 0, 1) := by decide +kernel
theorem dX7_byteAt_14 : decode cX7_byteAt 14 = .ok (.getfield 9, 3) := by decide +kernel
theorem dX7_byteAt_17 : decode cX7_byteAt 17 = .ok (.arraylength, 1) := by decide +kernel
theorem dX7_byteAt_18 : decode cX7_byteAt 18 = .ok (.if_icmp .ge 12, 3) := by decide +kernel
theorem dX7_byteAt_21 : decode cX7_byteAt 21 = .ok (.aload_n 0, 1) := by decide +kernel
theorem dX7_byteAt_22 : decode cX7_byteAt 22 = .ok (.getfield 9, 3) := by decide +kernel
theorem dX7_byteAt_25 : decode cX7_byteAt 25 = .ok (.iload_n 1, 1) := by decide +kernel
theorem dX7_byteAt_26 : decode cX7_byteAt 26 = .ok (.iaload, 1) := by decide +kernel
theorem dX7_byteAt_27 : decode cX7_byteAt 27 = .ok (.goto 4, 3) := by decide +kernel
theorem dX7_byteAt_30 : decode cX7_byteAt 30 = .ok (.iconst (-1), 1) := by decide +kernel
theorem dX7_byteAt_31 : decode cX7_byteAt 31 = .ok (.ireturn, 1) := by decide +kernel
theorem dX7_wordFromHere_0 : decode cX7_wordFromHere 0 = .ok (.aload_n 0, 1) := by decide +kernel
theorem dX7_wordFromHere_1 : decode cX7_wordFromHere 1 = .ok (.getfield 25, 3) := by decide +kernel
theorem dX7_wordFromHere_4 : decode cX7_wordFromHere 4 = .ok (.aload_n 0, 1) := by decide +kernel
theorem dX7_wordFromHere_5 : decode cX7_wordFromHere 5 = .ok (.getfield 15, 3) := by decide +kernel
theorem dX7_wordFromHere_8 : decode cX7_wordFromHere 8 = .ok (.if_icmp .ge 30, 3) := by decide +kernel
theorem dX7_wordFromHere_11 : decode cX7_wordFromHere 11 = .ok (.aload_n 0, 1) := by decide +kernel
theorem dX7_wordFromHere_12 : decode cX7_wordFromHere 12 = .ok (.aload_n 0, 1) := by decide +kernel
theorem dX7_wordFromHere_13 : decode cX7_wordFromHere 13 = .ok (.getfield 25, 3) := by decide +kernel
theorem dX7_wordFromHere_16 : decode cX7_wordFromHere 16 = .ok (.invokevirtual 31, 3) := by decide +kernel
theorem dX7_wordFromHere_19 : decode cX7_wordFromHere 19 = .ok (.invokestatic 39, 3) := by decide +kernel
theorem dX7_wordFromHere_22 : decode cX7_wordFromHere 22 = .ok (.ifCond .eq 16, 3) := by decide +kernel
theorem dX7_wordFromHere_25 : decode cX7_wordFromHere 25 = .ok (.aload_n 0, 1) := by decide +kernel
theorem dX7_wordFromHere_26 : decode cX7_wordFromHere 26 = .ok (.dup, 1) := by decide +kernel
theorem dX7_wordFromHere_27 : decode cX7_wordFromHere 27 = .ok (.getfield 25, 3) := by decide +kernel
theorem dX7_wordFromHere_30 : decode cX7_wordFromHere 30 = .ok (.iconst 1, 1) := by decide +kernel
theorem dX7_wordFromHere_31 : decode cX7_wordFromHere 31 = .ok (.iadd, 1) := by decide +kernel
theorem dX7_wordFromHere_32 : decode cX7_wordFromHere 32 = .ok (.putfield 25, 3) := by decide +kernel
theorem dX7_wordFromHere_35 : decode cX7_wordFromHere 35 = .ok (.goto (-35), 3) := by decide +kernel
theorem dX7_wordFromHere_38 : decode cX7_wordFromHere 38 = .ok (.aload_n 0, 1) := by decide +kernel
theorem dX7_wordFromHere_39 : decode cX7_wordFromHere 39 = .ok (.ldc 55, 2) := by decide +kernel
theorem dX7_wordFromHere_41 : decode cX7_wordFromHere 41 = .ok (.invokevirtual 57, 3) := by decide +kernel
theorem dX7_wordFromHere_44 : decode cX7_wordFromHere 44 = .ok (.ifCond .eq 7, 3) := by decide +kernel
theorem dX7_wordFromHere_47 : decode cX7_wordFromHere 47 = .ok (.iconst (-1), 1) := by decide +kernel
theorem dX7_wordFromHere_48 : decode cX7_wordFromHere 48 = .ok (.goto 159, 3) := by decide +kernel
theorem dX7_wordFromHere_51 : decode cX7_wordFromHere 51 = .ok (.aload_n 0, 1) := by decide +kernel
theorem dX7_wordFromHere_52 : decode cX7_wordFromHere 52 = .ok (.ldc 61, 2) := by decide +kernel
theorem dX7_wordFromHere_54 : decode cX7_wordFromHere 54 = .ok (.invokevirtual 57, 3) := by decide +kernel
theorem dX7_wordFromHere_57 : decode cX7_wordFromHere 57 = .ok (.ifCond .eq 8, 3) := by decide +kernel
theorem dX7_wordFromHere_60 : decode cX7_wordFromHere 60 = .ok (.bipush (-2), 2) := by decide +kernel
theorem dX7_wordFromHere_62 : decode cX7_wordFromHere 62 = .ok (.goto 145, 3) := by decide +kernel
theorem dX7_wordFromHere_65 : decode cX7_wordFromHere 65 = .ok (.aload_n 0, 1) := by decide +kernel
theorem dX7_wordFromHere_66 : decode cX7_wordFromHere 66 = .ok (.ldc 63, 2) := by decide +kernel
theorem dX7_wordFromHere_68 : decode cX7_wordFromHere 68 = .ok (.invokevirtual 57, 3) := by decide +kernel
theorem dX7_wordFromHere_71 : decode cX7_wordFromHere 71 = .ok (.ifCond .eq 8, 3) := by decide +kernel
theorem dX7_wordFromHere_74 : decode cX7_wordFromHere 74 = .ok (.bipush (-3), 2) := by decide +kernel
theorem dX7_wordFromHere_76 : decode cX7_wordFromHere 76 = .ok (.goto 131, 3) := by decide +kernel
theorem dX7_wordFromHere_79 : decode cX7_wordFromHere 79 = .ok (.aload_n 0, 1) := by decide +kernel
theorem dX7_wordFromHere_80 : decode cX7_wordFromHere 80 = .ok (.ldc 65, 2) := by decide +kernel
theorem dX7_wordFromHere_82 : decode cX7_wordFromHere 82 = .ok (.invokevirtual 57, 3) := by decide +kernel
theorem dX7_wordFromHere_85 : decode cX7_wordFromHere 85 = .ok (.ifCond .eq 8, 3) := by decide +kernel
theorem dX7_wordFromHere_88 : decode cX7_wordFromHere 88 = .ok (.bipush (-4), 2) := by decide +kernel
theorem dX7_wordFromHere_90 : decode cX7_wordFromHere 90 = .ok (.goto 117, 3) := by decide +kernel
theorem dX7_wordFromHere_93 : decode cX7_wordFromHere 93 = .ok (.aload_n 0, 1) := by decide +kernel
theorem dX7_wordFromHere_94 : decode cX7_wordFromHere 94 = .ok (.ldc 67, 2) := by decide +kernel
theorem dX7_wordFromHere_96 : decode cX7_wordFromHere 96 = .ok (.invokevirtual 57, 3) := by decide +kernel
theorem dX7_wordFromHere_99 : decode cX7_wordFromHere 99 = .ok (.ifCond .eq 8, 3) := by decide +kernel
theorem dX7_wordFromHere_102 : decode cX7_wordFromHere 102 = .ok (.bipush (-5), 2) := by decide +kernel
theorem dX7_wordFromHere_104 : decode cX7_wordFromHere 104 = .ok (.goto 103, 3) := by decide +kernel
theorem dX7_wordFromHere_107 : decode cX7_wordFromHere 107 = .ok (.aload_n 0, 1) := by decide +kernel
theorem dX7_wordFromHere_108 : decode cX7_wordFromHere 108 = .ok (.ldc 69, 2) := by decide +kernel
theorem dX7_wordFromHere_110 : decode cX7_wordFromHere 110 = .ok (.invokevirtual 57, 3) := by decide +kernel
theorem dX7_wordFromHere_113 : decode cX7_wordFromHere 113 = .ok (.ifCond .eq 8, 3) := by decide +kernel
theorem dX7_wordFromHere_116 : decode cX7_wordFromHere 116 = .ok (.bipush (-6), 2) := by decide +kernel
theorem dX7_wordFromHere_118 : decode cX7_wordFromHere 118 = .ok (.goto 89, 3) := by decide +kernel
theorem dX7_wordFromHere_121 : decode cX7_wordFromHere 121 = .ok (.aload_n 0, 1) := by decide +kernel
theorem dX7_wordFromHere_122 : decode cX7_wordFromHere 122 = .ok (.ldc 71, 2) := by decide +kernel
theorem dX7_wordFromHere_124 : decode cX7_wordFromHere 124 = .ok (.invokevirtual 57, 3) := by decide +kernel
theorem dX7_wordFromHere_127 : decode cX7_wordFromHere 127 = .ok (.ifCond .eq 8, 3) := by decide +kernel
theorem dX7_wordFromHere_130 : decode cX7_wordFromHere 130 = .ok (.bipush (-16), 2) := by decide +kernel
theorem dX7_wordFromHere_132 : decode cX7_wordFromHere 132 = .ok (.goto 75, 3) := by decide +kernel
theorem dX7_wordFromHere_135 : decode cX7_wordFromHere 135 = .ok (.aload_n 0, 1) := by decide +kernel
theorem dX7_wordFromHere_136 : decode cX7_wordFromHere 136 = .ok (.ldc 73, 2) := by decide +kernel
theorem dX7_wordFromHere_138 : decode cX7_wordFromHere 138 = .ok (.invokevirtual 57, 3) := by decide +kernel
theorem dX7_wordFromHere_141 : decode cX7_wordFromHere 141 = .ok (.ifCond .eq 8, 3) := by decide +kernel
theorem dX7_wordFromHere_144 : decode cX7_wordFromHere 144 = .ok (.bipush (-17), 2) := by decide +kernel
theorem dX7_wordFromHere_146 : decode cX7_wordFromHere 146 = .ok (.goto 61, 3) := by decide +kernel
theorem dX7_wordFromHere_149 : decode cX7_wordFromHere 149 = .ok (.aload_n 0, 1) := by decide +kernel
theorem dX7_wordFromHere_150 : decode cX7_wordFromHere 150 = .ok (.ldc 75, 2) := by decide +kernel
theorem dX7_wordFromHere_152 : decode cX7_wordFromHere 152 = .ok (.invokevirtual 57, 3) := by decide +kernel
theorem dX7_wordFromHere_155 : decode cX7_wordFromHere 155 = .ok (.ifCond .eq 8, 3) := by decide +kernel
theorem dX7_wordFromHere_158 : decode cX7_wordFromHere 158 = .ok (.bipush (-18), 2) := by decide +kernel
theorem dX7_wordFromHere_160 : decode cX7_wordFromHere 160 = .ok (.goto 47, 3) := by decide +kernel
theorem dX7_wordFromHere_163 : decode cX7_wordFromHere 163 = .ok (.aload_n 0, 1) := by decide +kernel
theorem dX7_wordFromHere_164 : decode cX7_wordFromHere 164 = .ok (.ldc 77, 2) := by decide +kernel
theorem dX7_wordFromHere_166 : decode cX7_wordFromHere 166 = .ok (.invokevirtual 57, 3) := by decide +kernel
theorem dX7_wordFromHere_169 : decode cX7_wordFromHere 169 = .ok (.ifCond .eq 8, 3) := by decide +kernel
theorem dX7_wordFromHere_172 : decode cX7_wordFromHere 172 = .ok (.bipush (-7), 2) := by decide +kernel
theorem dX7_wordFromHere_174 : decode cX7_wordFromHere 174 = .ok (.goto 33, 3) := by decide +kernel
theorem dX7_wordFromHere_177 : decode cX7_wordFromHere 177 = .ok (.aload_n 0, 1) := by decide +kernel
theorem dX7_wordFromHere_178 : decode cX7_wordFromHere 178 = .ok (.ldc 79, 2) := by decide +kernel
theorem dX7_wordFromHere_180 : decode cX7_wordFromHere 180 = .ok (.invokevirtual 57, 3) := by decide +kernel
theorem dX7_wordFromHere_183 : decode cX7_wordFromHere 183 = .ok (.ifCond .eq 8, 3) := by decide +kernel
theorem dX7_wordFromHere_186 : decode cX7_wordFromHere 186 = .ok (.bipush (-8), 2) := by decide +kernel
theorem dX7_wordFromHere_188 : decode cX7_wordFromHere 188 = .ok (.goto 19, 3) := by decide +kernel
theorem dX7_wordFromHere_191 : decode cX7_wordFromHere 191 = .ok (.aload_n 0, 1) := by decide +kernel
theorem dX7_wordFromHere_192 : decode cX7_wordFromHere 192 = .ok (.ldc 81, 2) := by decide +kernel
theorem dX7_wordFromHere_194 : decode cX7_wordFromHere 194 = .ok (.invokevirtual 57, 3) := by decide +kernel
theorem dX7_wordFromHere_197 : decode cX7_wordFromHere 197 = .ok (.ifCond .eq 8, 3) := by decide +kernel
theorem dX7_wordFromHere_200 : decode cX7_wordFromHere 200 = .ok (.bipush (-9), 2) := by decide +kernel
theorem dX7_wordFromHere_202 : decode cX7_wordFromHere 202 = .ok (.goto 5, 3) := by decide +kernel
theorem dX7_wordFromHere_205 : decode cX7_wordFromHere 205 = .ok (.bipush (-23), 2) := by decide +kernel
theorem dX7_wordFromHere_207 : decode cX7_wordFromHere 207 = .ok (.ireturn, 1) := by decide +kernel
theorem dX7_isWord_0 : decode cX7_isWord 0 = .ok (.aload_n 0, 1) := by decide +kernel
theorem dX7_isWord_1 : decode cX7_isWord 1 = .ok (.getfield 25, 3) := by decide +kernel
theorem dX7_isWord_4 : decode cX7_isWord 4 = .ok (.aload_n 0, 1) := by decide +kernel
theorem dX7_isWord_5 : decode cX7_isWord 5 = .ok (.getfield 22, 3) := by decide +kernel
theorem dX7_isWord_8 : decode cX7_isWord 8 = .ok (.isub, 1) := by decide +kernel
theorem dX7_isWord_9 : decode cX7_isWord 9 = .ok (.aload_n 1, 1) := by decide +kernel
theorem dX7_isWord_10 : decode cX7_isWord 10 = .ok (.invokevirtual 83, 3) := by decide +kernel
theorem dX7_isWord_13 : decode cX7_isWord 13 = .ok (.if_icmp .eq 5, 3) := by decide +kernel
theorem dX7_isWord_16 : decode cX7_isWord 16 = .ok (.iconst 0, 1) := by decide +kernel
theorem dX7_isWord_17 : decode cX7_isWord 17 = .ok (.ireturn, 1) := by decide +kernel
theorem dX7_isWord_18 : decode cX7_isWord 18 = .ok (.iconst 0, 1) := by decide +kernel
theorem dX7_isWord_19 : decode cX7_isWord 19 = .ok (.istore_n 2, 1) := by decide +kernel
theorem dX7_isWord_20 : decode cX7_isWord 20 = .ok (.iload_n 2, 1) := by decide +kernel
theorem dX7_isWord_21 : decode cX7_isWord 21 = .ok (.aload_n 1, 1) := by decide +kernel
theorem dX7_isWord_22 : decode cX7_isWord 22 = .ok (.invokevirtual 83, 3) := by decide +kernel
theorem dX7_isWord_25 : decode cX7_isWord 25 = .ok (.if_icmp .ge 45, 3) := by decide +kernel
theorem dX7_isWord_28 : decode cX7_isWord 28 = .ok (.aload_n 0, 1) := by decide +kernel
theorem dX7_isWord_29 : decode cX7_isWord 29 = .ok (.getfield 22, 3) := by decide +kernel
theorem dX7_isWord_32 : decode cX7_isWord 32 = .ok (.iload_n 2, 1) := by decide +kernel
theorem dX7_isWord_33 : decode cX7_isWord 33 = .ok (.iadd, 1) := by decide +kernel
theorem dX7_isWord_34 : decode cX7_isWord 34 = .ok (.istore_n 3, 1) := by decide +kernel
theorem dX7_isWord_35 : decode cX7_isWord 35 = .ok (.iload_n 3, 1) := by decide +kernel
theorem dX7_isWord_36 : decode cX7_isWord 36 = .ok (.ifCond .lt 26, 3) := by decide +kernel
theorem dX7_isWord_39 : decode cX7_isWord 39 = .ok (.iload_n 3, 1) := by decide +kernel
theorem dX7_isWord_40 : decode cX7_isWord 40 = .ok (.aload_n 0, 1) := by decide +kernel
theorem dX7_isWord_41 : decode cX7_isWord 41 = .ok (.getfield 9, 3) := by decide +kernel
theorem dX7_isWord_44 : decode cX7_isWord 44 = .ok (.arraylength, 1) := by decide +kernel
theorem dX7_isWord_45 : decode cX7_isWord 45 = .ok (.if_icmp .ge 17, 3) := by decide +kernel
theorem dX7_isWord_48 : decode cX7_isWord 48 = .ok (.aload_n 0, 1) := by decide +kernel
theorem dX7_isWord_49 : decode cX7_isWord 49 = .ok (.getfield 9, 3) := by decide +kernel
theorem dX7_isWord_52 : decode cX7_isWord 52 = .ok (.iload_n 3, 1) := by decide +kernel
theorem dX7_isWord_53 : decode cX7_isWord 53 = .ok (.iaload, 1) := by decide +kernel
theorem dX7_isWord_54 : decode cX7_isWord 54 = .ok (.aload_n 1, 1) := by decide +kernel
theorem dX7_isWord_55 : decode cX7_isWord 55 = .ok (.iload_n 2, 1) := by decide +kernel
theorem dX7_isWord_56 : decode cX7_isWord 56 = .ok (.invokevirtual 88, 3) := by decide +kernel
theorem dX7_isWord_59 : decode cX7_isWord 59 = .ok (.if_icmp .eq 5, 3) := by decide +kernel
theorem dX7_isWord_62 : decode cX7_isWord 62 = .ok (.iconst 0, 1) := by decide +kernel
theorem dX7_isWord_63 : decode cX7_isWord 63 = .ok (.ireturn, 1) := by decide +kernel
theorem dX7_isWord_64 : decode cX7_isWord 64 = .ok (.iinc 2 1, 3) := by decide +kernel
theorem dX7_isWord_67 : decode cX7_isWord 67 = .ok (.goto (-47), 3) := by decide +kernel
theorem dX7_isWord_70 : decode cX7_isWord 70 = .ok (.iconst 1, 1) := by decide +kernel
theorem dX7_isWord_71 : decode cX7_isWord 71 = .ok (.ireturn, 1) := by decide +kernel
theorem dX7_numberFromHere_0 : decode cX7_numberFromHere 0 = .ok (.iconst 0, 1) := by decide +kernel
theorem dX7_numberFromHere_1 : decode cX7_numberFromHere 1 = .ok (.istore_n 1, 1) := by decide +kernel
theorem dX7_numberFromHere_2 : decode cX7_numberFromHere 2 = .ok (.aload_n 0, 1) := by decide +kernel
theorem dX7_numberFromHere_3 : decode cX7_numberFromHere 3 = .ok (.getfield 25, 3) := by decide +kernel
theorem dX7_numberFromHere_6 : decode cX7_numberFromHere 6 = .ok (.aload_n 0, 1) := by decide +kernel
theorem dX7_numberFromHere_7 : decode cX7_numberFromHere 7 = .ok (.getfield 15, 3) := by decide +kernel
theorem dX7_numberFromHere_10 : decode cX7_numberFromHere 10 = .ok (.if_icmp .ge 47, 3) := by decide +kernel
theorem dX7_numberFromHere_13 : decode cX7_numberFromHere 13 = .ok (.aload_n 0, 1) := by decide +kernel
theorem dX7_numberFromHere_14 : decode cX7_numberFromHere 14 = .ok (.aload_n 0, 1) := by decide +kernel
theorem dX7_numberFromHere_15 : decode cX7_numberFromHere 15 = .ok (.getfield 25, 3) := by decide +kernel
theorem dX7_numberFromHere_18 : decode cX7_numberFromHere 18 = .ok (.invokevirtual 31, 3) := by decide +kernel
theorem dX7_numberFromHere_21 : decode cX7_numberFromHere 21 = .ok (.invokestatic 46, 3) := by decide +kernel
theorem dX7_numberFromHere_24 : decode cX7_numberFromHere 24 = .ok (.ifCond .eq 33, 3) := by decide +kernel
theorem dX7_numberFromHere_27 : decode cX7_numberFromHere 27 = .ok (.iload_n 1, 1) := by decide +kernel
theorem dX7_numberFromHere_28 : decode cX7_numberFromHere 28 = .ok (.bipush 10, 2) := by decide +kernel
theorem dX7_numberFromHere_30 : decode cX7_numberFromHere 30 = .ok (.imul, 1) := by decide +kernel
theorem dX7_numberFromHere_31 : decode cX7_numberFromHere 31 = .ok (.aload_n 0, 1) := by decide +kernel
theorem dX7_numberFromHere_32 : decode cX7_numberFromHere 32 = .ok (.aload_n 0, 1) := by decide +kernel
theorem dX7_numberFromHere_33 : decode cX7_numberFromHere 33 = .ok (.getfield 25, 3) := by decide +kernel
theorem dX7_numberFromHere_36 : decode cX7_numberFromHere 36 = .ok (.invokevirtual 31, 3) := by decide +kernel
theorem dX7_numberFromHere_39 : decode cX7_numberFromHere 39 = .ok (.iadd, 1) := by decide +kernel
theorem dX7_numberFromHere_40 : decode cX7_numberFromHere 40 = .ok (.bipush 48, 2) := by decide +kernel
theorem dX7_numberFromHere_42 : decode cX7_numberFromHere 42 = .ok (.isub, 1) := by decide +kernel
theorem dX7_numberFromHere_43 : decode cX7_numberFromHere 43 = .ok (.istore_n 1, 1) := by decide +kernel
theorem dX7_numberFromHere_44 : decode cX7_numberFromHere 44 = .ok (.aload_n 0, 1) := by decide +kernel
theorem dX7_numberFromHere_45 : decode cX7_numberFromHere 45 = .ok (.dup, 1) := by decide +kernel
theorem dX7_numberFromHere_46 : decode cX7_numberFromHere 46 = .ok (.getfield 25, 3) := by decide +kernel
theorem dX7_numberFromHere_49 : decode cX7_numberFromHere 49 = .ok (.iconst 1, 1) := by decide +kernel
theorem dX7_numberFromHere_50 : decode cX7_numberFromHere 50 = .ok (.iadd, 1) := by decide +kernel
theorem dX7_numberFromHere_51 : decode cX7_numberFromHere 51 = .ok (.putfield 25, 3) := by decide +kernel
theorem dX7_numberFromHere_54 : decode cX7_numberFromHere 54 = .ok (.goto (-52), 3) := by decide +kernel
theorem dX7_numberFromHere_57 : decode cX7_numberFromHere 57 = .ok (.aload_n 0, 1) := by decide +kernel
theorem dX7_numberFromHere_58 : decode cX7_numberFromHere 58 = .ok (.getfield 25, 3) := by decide +kernel
theorem dX7_numberFromHere_61 : decode cX7_numberFromHere 61 = .ok (.aload_n 0, 1) := by decide +kernel
theorem dX7_numberFromHere_62 : decode cX7_numberFromHere 62 = .ok (.getfield 22, 3) := by decide +kernel
theorem dX7_numberFromHere_65 : decode cX7_numberFromHere 65 = .ok (.isub, 1) := by decide +kernel
theorem dX7_numberFromHere_66 : decode cX7_numberFromHere 66 = .ok (.iconst 4, 1) := by decide +kernel
theorem dX7_numberFromHere_67 : decode cX7_numberFromHere 67 = .ok (.if_icmp .le 8, 3) := by decide +kernel
theorem dX7_numberFromHere_70 : decode cX7_numberFromHere 70 = .ok (.bipush (-23), 2) := by decide +kernel
theorem dX7_numberFromHere_72 : decode cX7_numberFromHere 72 = .ok (.goto 4, 3) := by decide +kernel
theorem dX7_numberFromHere_75 : decode cX7_numberFromHere 75 = .ok (.iload_n 1, 1) := by decide +kernel
theorem dX7_numberFromHere_76 : decode cX7_numberFromHere 76 = .ok (.ireturn, 1) := by decide +kernel
theorem dX7_signOf_0 : decode cX7_signOf 0 = .ok (.iload_n 0, 1) := by decide +kernel
theorem dX7_signOf_1 : decode cX7_signOf 1 = .ok (.tableswitch 127 40 61 #[103, 106, 118, 112, 127, 115, 127, 127, 127, 127, 127, 127, 127, 127, 127, 127, 127, 127, 127, 109, 121, 124], 103) := by decide +kernel
theorem dX7_signOf_104 : decode cX7_signOf 104 = .ok (.bipush (-19), 2) := by decide +kernel
theorem dX7_signOf_106 : decode cX7_signOf 106 = .ok (.ireturn, 1) := by decide +kernel
theorem dX7_signOf_107 : decode cX7_signOf 107 = .ok (.bipush (-20), 2) := by decide +kernel
theorem dX7_signOf_109 : decode cX7_signOf 109 = .ok (.ireturn, 1) := by decide +kernel
theorem dX7_signOf_110 : decode cX7_signOf 110 = .ok (.bipush (-21), 2) := by decide +kernel
theorem dX7_signOf_112 : decode cX7_signOf 112 = .ok (.ireturn, 1) := by decide +kernel
theorem dX7_signOf_113 : decode cX7_signOf 113 = .ok (.bipush (-12), 2) := by decide +kernel
theorem dX7_signOf_115 : decode cX7_signOf 115 = .ok (.ireturn, 1) := by decide +kernel
theorem dX7_signOf_116 : decode cX7_signOf 116 = .ok (.bipush (-13), 2) := by decide +kernel
theorem dX7_signOf_118 : decode cX7_signOf 118 = .ok (.ireturn, 1) := by decide +kernel
theorem dX7_signOf_119 : decode cX7_signOf 119 = .ok (.bipush (-14), 2) := by decide +kernel
theorem dX7_signOf_121 : decode cX7_signOf 121 = .ok (.ireturn, 1) := by decide +kernel
theorem dX7_signOf_122 : decode cX7_signOf 122 = .ok (.bipush (-10), 2) := by decide +kernel
theorem dX7_signOf_124 : decode cX7_signOf 124 = .ok (.ireturn, 1) := by decide +kernel
theorem dX7_signOf_125 : decode cX7_signOf 125 = .ok (.bipush (-11), 2) := by decide +kernel
theorem dX7_signOf_127 : decode cX7_signOf 127 = .ok (.ireturn, 1) := by decide +kernel
theorem dX7_signOf_128 : decode cX7_signOf 128 = .ok (.bipush (-23), 2) := by decide +kernel
theorem dX7_signOf_130 : decode cX7_signOf 130 = .ok (.ireturn, 1) := by decide +kernel
theorem dX7_isBlank_0 : decode cX7_isBlank 0 = .ok (.iload_n 0, 1) := by decide +kernel
theorem dX7_isBlank_1 : decode cX7_isBlank 1 = .ok (.bipush 32, 2) := by decide +kernel
theorem dX7_isBlank_3 : decode cX7_isBlank 3 = .ok (.if_icmp .eq 9, 3) := by decide +kernel
theorem dX7_isBlank_6 : decode cX7_isBlank 6 = .ok (.iload_n 0, 1) := by decide +kernel
theorem dX7_isBlank_7 : decode cX7_isBlank 7 = .ok (.bipush 10, 2) := by decide +kernel
theorem dX7_isBlank_9 : decode cX7_isBlank 9 = .ok (.if_icmp .ne 7, 3) := by decide +kernel
theorem dX7_isBlank_12 : decode cX7_isBlank 12 = .ok (.iconst 1, 1) := by decide +kernel
theorem dX7_isBlank_13 : decode cX7_isBlank 13 = .ok (.goto 4, 3) := by decide +kernel
theorem dX7_isBlank_16 : decode cX7_isBlank 16 = .ok (.iconst 0, 1) := by decide +kernel
theorem dX7_isBlank_17 : decode cX7_isBlank 17 = .ok (.ireturn, 1) := by decide +kernel
theorem dX7_isLetter_0 : decode cX7_isLetter 0 = .ok (.iload_n 0, 1) := by decide +kernel
theorem dX7_isLetter_1 : decode cX7_isLetter 1 = .ok (.bipush 97, 2) := by decide +kernel
theorem dX7_isLetter_3 : decode cX7_isLetter 3 = .ok (.if_icmp .lt 13, 3) := by decide +kernel
theorem dX7_isLetter_6 : decode cX7_isLetter 6 = .ok (.iload_n 0, 1) := by decide +kernel
theorem dX7_isLetter_7 : decode cX7_isLetter 7 = .ok (.bipush 122, 2) := by decide +kernel
theorem dX7_isLetter_9 : decode cX7_isLetter 9 = .ok (.if_icmp .gt 7, 3) := by decide +kernel
theorem dX7_isLetter_12 : decode cX7_isLetter 12 = .ok (.iconst 1, 1) := by decide +kernel
theorem dX7_isLetter_13 : decode cX7_isLetter 13 = .ok (.goto 4, 3) := by decide +kernel
theorem dX7_isLetter_16 : decode cX7_isLetter 16 = .ok (.iconst 0, 1) := by decide +kernel
theorem dX7_isLetter_17 : decode cX7_isLetter 17 = .ok (.ireturn, 1) := by decide +kernel
theorem dX7_isDigit_0 : decode cX7_isDigit 0 = .ok (.iload_n 0, 1) := by decide +kernel
theorem dX7_isDigit_1 : decode cX7_isDigit 1 = .ok (.bipush 48, 2) := by decide +kernel
theorem dX7_isDigit_3 : decode cX7_isDigit 3 = .ok (.if_icmp .lt 13, 3) := by decide +kernel
theorem dX7_isDigit_6 : decode cX7_isDigit 6 = .ok (.iload_n 0, 1) := by decide +kernel
theorem dX7_isDigit_7 : decode cX7_isDigit 7 = .ok (.bipush 57, 2) := by decide +kernel
theorem dX7_isDigit_9 : decode cX7_isDigit 9 = .ok (.if_icmp .gt 7, 3) := by decide +kernel
theorem dX7_isDigit_12 : decode cX7_isDigit 12 = .ok (.iconst 1, 1) := by decide +kernel
theorem dX7_isDigit_13 : decode cX7_isDigit 13 = .ok (.goto 4, 3) := by decide +kernel
theorem dX7_isDigit_16 : decode cX7_isDigit 16 = .ok (.iconst 0, 1) := by decide +kernel
theorem dX7_isDigit_17 : decode cX7_isDigit 17 = .ok (.ireturn, 1) := by decide +kernel
theorem dX8_init_0 : decode cX8_init 0 = .ok (.aload_n 0, 1) := by decide +kernel
theorem dX8_init_1 : decode cX8_init 1 = .ok (.invokespecial 3, 3) := by decide +kernel
theorem dX8_init_4 : decode cX8_init 4 = .ok (.aload_n 0, 1) := by decide +kernel
theorem dX8_init_5 : decode cX8_init 5 = .ok (.bipush 6, 2) := by decide +kernel
theorem dX8_init_7 : decode cX8_init 7 = .ok (.sipush 160, 3) := by decide +kernel
theorem dX8_init_10 : decode cX8_init 10 = .ok (.multianewarray 9 2, 4) := by decide +kernel
theorem dX8_init_14 : decode cX8_init 14 = .ok (.putfield 11, 3) := by decide +kernel
theorem dX8_init_17 : decode cX8_init 17 = .ok (.aload_n 0, 1) := by decide +kernel
theorem dX8_init_18 : decode cX8_init 18 = .ok (.bipush 6, 2) := by decide +kernel
theorem dX8_init_20 : decode cX8_init 20 = .ok (.newarray .int, 2) := by decide +kernel
theorem dX8_init_22 : decode cX8_init 22 = .ok (.putfield 16, 3) := by decide +kernel
theorem dX8_init_25 : decode cX8_init 25 = .ok (.aload_n 0, 1) := by decide +kernel
theorem dX8_init_26 : decode cX8_init 26 = .ok (.bipush 6, 2) := by decide +kernel
theorem dX8_init_28 : decode cX8_init 28 = .ok (.newarray .int, 2) := by decide +kernel
theorem dX8_init_30 : decode cX8_init 30 = .ok (.putfield 20, 3) := by decide +kernel
theorem dX8_init_33 : decode cX8_init 33 = .ok (.aload_n 0, 1) := by decide +kernel
theorem dX8_init_34 : decode cX8_init 34 = .ok (.bipush 6, 2) := by decide +kernel
theorem dX8_init_36 : decode cX8_init 36 = .ok (.newarray .int, 2) := by decide +kernel
theorem dX8_init_38 : decode cX8_init 38 = .ok (.putfield 23, 3) := by decide +kernel
theorem dX8_init_41 : decode cX8_init 41 = .ok (.aload_n 0, 1) := by decide +kernel
theorem dX8_init_42 : decode cX8_init 42 = .ok (.sipush 160, 3) := by decide +kernel
theorem dX8_init_45 : decode cX8_init 45 = .ok (.newarray .int, 2) := by decide +kernel
theorem dX8_init_47 : decode cX8_init 47 = .ok (.putfield 26, 3) := by decide +kernel
theorem dX8_init_50 : decode cX8_init 50 = .ok (.aload_n 0, 1) := by decide +kernel
theorem dX8_init_51 : decode cX8_init 51 = .ok (.iconst 0, 1) := by decide +kernel
theorem dX8_init_52 : decode cX8_init 52 = .ok (.putfield 29, 3) := by decide +kernel
theorem dX8_init_55 : decode cX8_init 55 = .ok (.return_, 1) := by decide +kernel
theorem dX8_isFull_0 : decode cX8_isFull 0 = .ok (.aload_n 0, 1) := by decide +kernel
theorem dX8_isFull_1 : decode cX8_isFull 1 = .ok (.getfield 29, 3) := by decide +kernel
theorem dX8_isFull_4 : decode cX8_isFull 4 = .ok (.ifCond .lt 12, 3) := by decide +kernel
theorem dX8_isFull_7 : decode cX8_isFull 7 = .ok (.aload_n 0, 1) := by decide +kernel
theorem dX8_isFull_8 : decode cX8_isFull 8 = .ok (.getfield 29, 3) := by decide +kernel
theorem dX8_isFull_11 : decode cX8_isFull 11 = .ok (.bipush 6, 2) := by decide +kernel
theorem dX8_isFull_13 : decode cX8_isFull 13 = .ok (.if_icmp .lt 7, 3) := by decide +kernel
theorem dX8_isFull_16 : decode cX8_isFull 16 = .ok (.iconst 1, 1) := by decide +kernel
theorem dX8_isFull_17 : decode cX8_isFull 17 = .ok (.goto 4, 3) := by decide +kernel
theorem dX8_isFull_20 : decode cX8_isFull 20 = .ok (.iconst 0, 1) := by decide +kernel
theorem dX8_isFull_21 : decode cX8_isFull 21 = .ok (.ireturn, 1) := by decide +kernel
theorem dX8_beginDraft_0 : decode cX8_beginDraft 0 = .ok (.aload_n 0, 1) := by decide +kernel
theorem dX8_beginDraft_1 : decode cX8_beginDraft 1 = .ok (.invokevirtual 33, 3) := by decide +kernel
theorem dX8_beginDraft_4 : decode cX8_beginDraft 4 = .ok (.ifCond .ne 13, 3) := by decide +kernel
theorem dX8_beginDraft_7 : decode cX8_beginDraft 7 = .ok (.aload_n 0, 1) := by decide +kernel
theorem dX8_beginDraft_8 : decode cX8_beginDraft 8 = .ok (.getfield 23, 3) := by decide +kernel
theorem dX8_beginDraft_11 : decode cX8_beginDraft 11 = .ok (.aload_n 0, 1) := by decide +kernel
theorem dX8_beginDraft_12 : decode cX8_beginDraft 12 = .ok (.getfield 29, 3) := by decide +kernel
theorem dX8_beginDraft_15 : decode cX8_beginDraft 15 = .ok (.iconst 0, 1) := by decide +kernel
theorem dX8_beginDraft_16 : decode cX8_beginDraft 16 = .ok (.iastore, 1) := by decide +kernel
theorem dX8_beginDraft_17 : decode cX8_beginDraft 17 = .ok (.return_, 1) := by decide +kernel
theorem dX8_beginPart_0 : decode cX8_beginPart 0 = .ok (.aload_n 0, 1) := by decide +kernel
theorem dX8_beginPart_1 : decode cX8_beginPart 1 = .ok (.invokevirtual 33, 3) := by decide +kernel
theorem dX8_beginPart_4 : decode cX8_beginPart 4 = .ok (.ifCond .eq 4, 3) := by decide +kernel
theorem dX8_beginPart_7 : decode cX8_beginPart 7 = .ok (.return_, 1) := by decide +kernel
theorem dX8_beginPart_8 : decode cX8_beginPart 8 = .ok (.iload_n 1, 1) := by decide +kernel
theorem dX8_beginPart_9 : decode cX8_beginPart 9 = .ok (.bipush (-17), 2) := by decide +kernel
theorem dX8_beginPart_11 : decode cX8_beginPart 11 = .ok (.if_icmp .ne 24, 3) := by decide +kernel
theorem dX8_beginPart_14 : decode cX8_beginPart 14 = .ok (.aload_n 0, 1) := by decide +kernel
theorem dX8_beginPart_15 : decode cX8_beginPart 15 = .ok (.getfield 16, 3) := by decide +kernel
theorem dX8_beginPart_18 : decode cX8_beginPart 18 = .ok (.aload_n 0, 1) := by decide +kernel
theorem dX8_beginPart_19 : decode cX8_beginPart 19 = .ok (.getfield 29, 3) := by decide +kernel
theorem dX8_beginPart_22 : decode cX8_beginPart 22 = .ok (.aload_n 0, 1) := by decide +kernel
theorem dX8_beginPart_23 : decode cX8_beginPart 23 = .ok (.getfield 23, 3) := by decide +kernel
theorem dX8_beginPart_26 : decode cX8_beginPart 26 = .ok (.aload_n 0, 1) := by decide +kernel
theorem dX8_beginPart_27 : decode cX8_beginPart 27 = .ok (.getfield 29, 3) := by decide +kernel
theorem dX8_beginPart_30 : decode cX8_beginPart 30 = .ok (.iaload, 1) := by decide +kernel
theorem dX8_beginPart_31 : decode cX8_beginPart 31 = .ok (.iastore, 1) := by decide +kernel
theorem dX8_beginPart_32 : decode cX8_beginPart 32 = .ok (.goto 27, 3) := by decide +kernel
theorem dX8_beginPart_35 : decode cX8_beginPart 35 = .ok (.iload_n 1, 1) := by decide +kernel
theorem dX8_beginPart_36 : decode cX8_beginPart 36 = .ok (.bipush (-18), 2) := by decide +kernel
theorem dX8_beginPart_38 : decode cX8_beginPart 38 = .ok (.if_icmp .ne 21, 3) := by decide +kernel
theorem dX8_beginPart_41 : decode cX8_beginPart 41 = .ok (.aload_n 0, 1) := by decide +kernel
theorem dX8_beginPart_42 : decode cX8_beginPart 42 = .ok (.getfield 20, 3) := by decide +kernel
theorem dX8_beginPart_45 : decode cX8_beginPart 45 = .ok (.aload_n 0, 1) := by decide +kernel
theorem dX8_beginPart_46 : decode cX8_beginPart 46 = .ok (.getfield 29, 3) := by decide +kernel
theorem dX8_beginPart_49 : decode cX8_beginPart 49 = .ok (.aload_n 0, 1) := by decide +kernel
theorem dX8_beginPart_50 : decode cX8_beginPart 50 = .ok (.getfield 23, 3) := by decide +kernel
theorem dX8_beginPart_53 : decode cX8_beginPart 53 = .ok (.aload_n 0, 1) := by decide +kernel
theorem dX8_beginPart_54 : decode cX8_beginPart 54 = .ok (.getfield 29, 3) := by decide +kernel
theorem dX8_beginPart_57 : decode cX8_beginPart 57 = .ok (.iaload, 1) := by decide +kernel
theorem dX8_beginPart_58 : decode cX8_beginPart 58 = .ok (.iastore, 1) := by decide +kernel
theorem dX8_beginPart_59 : decode cX8_beginPart 59 = .ok (.return_, 1) := by decide +kernel
theorem dX8_write_0 : decode cX8_write 0 = .ok (.aload_n 0, 1) := by decide +kernel
theorem dX8_write_1 : decode cX8_write 1 = .ok (.invokevirtual 33, 3) := by decide +kernel
theorem dX8_write_4 : decode cX8_write 4 = .ok (.ifCond .ne 30, 3) := by decide +kernel
theorem dX8_write_7 : decode cX8_write 7 = .ok (.aload_n 0, 1) := by decide +kernel
theorem dX8_write_8 : decode cX8_write 8 = .ok (.getfield 23, 3) := by decide +kernel
theorem dX8_write_11 : decode cX8_write 11 = .ok (.aload_n 0, 1) := by decide +kernel
theorem dX8_write_12 : decode cX8_write 12 = .ok (.getfield 29, 3) := by decide +kernel
theorem dX8_write_15 : decode cX8_write 15 = .ok (.iaload, 1) := by decide +kernel
theorem dX8_write_16 : decode cX8_write 16 = .ok (.ifCond .lt 18, 3) := by decide +kernel
theorem dX8_write_19 : decode cX8_write 19 = .ok (.aload_n 0, 1) := by decide +kernel
theorem dX8_write_20 : decode cX8_write 20 = .ok (.getfield 23, 3) := by decide +kernel
theorem dX8_write_23 : decode cX8_write 23 = .ok (.aload_n 0, 1) := by decide +kernel
theorem dX8_write_24 : decode cX8_write 24 = .ok (.getfield 29, 3) := by decide +kernel
theorem dX8_write_27 : decode cX8_write 27 = .ok (.iaload, 1) := by decide +kernel
theorem dX8_write_28 : decode cX8_write 28 = .ok (.sipush 160, 3) := by decide +kernel
theorem dX8_write_31 : decode cX8_write 31 = .ok (.if_icmp .lt 5, 3) := by decide +kernel
theorem dX8_write_34 : decode cX8_write 34 = .ok (.iconst 0, 1) := by decide +kernel
theorem dX8_write_35 : decode cX8_write 35 = .ok (.ireturn, 1) := by decide +kernel
theorem dX8_write_36 : decode cX8_write 36 = .ok (.aload_n 0, 1) := by decide +kernel
theorem dX8_write_37 : decode cX8_write 37 = .ok (.getfield 11, 3) := by decide +kernel
theorem dX8_write_40 : decode cX8_write 40 = .ok (.aload_n 0, 1) := by decide +kernel
theorem dX8_write_41 : decode cX8_write 41 = .ok (.getfield 29, 3) := by decide +kernel
theorem dX8_write_44 : decode cX8_write 44 = .ok (.aaload, 1) := by decide +kernel
theorem dX8_write_45 : decode cX8_write 45 = .ok (.aload_n 0, 1) := by decide +kernel
theorem dX8_write_46 : decode cX8_write 46 = .ok (.getfield 23, 3) := by decide +kernel
theorem dX8_write_49 : decode cX8_write 49 = .ok (.aload_n 0, 1) := by decide +kernel
theorem dX8_write_50 : decode cX8_write 50 = .ok (.getfield 29, 3) := by decide +kernel
theorem dX8_write_53 : decode cX8_write 53 = .ok (.iaload, 1) := by decide +kernel
theorem dX8_write_54 : decode cX8_write 54 = .ok (.iload_n 1, 1) := by decide +kernel
theorem dX8_write_55 : decode cX8_write 55 = .ok (.iastore, 1) := by decide +kernel
theorem dX8_write_56 : decode cX8_write 56 = .ok (.aload_n 0, 1) := by decide +kernel
theorem dX8_write_57 : decode cX8_write 57 = .ok (.getfield 23, 3) := by decide +kernel
theorem dX8_write_60 : decode cX8_write 60 = .ok (.aload_n 0, 1) := by decide +kernel
theorem dX8_write_61 : decode cX8_write 61 = .ok (.getfield 29, 3) := by decide +kernel
theorem dX8_write_64 : decode cX8_write 64 = .ok (.dup2, 1) := by decide +kernel
theorem dX8_write_65 : decode cX8_write 65 = .ok (.iaload, 1) := by decide +kernel
theorem dX8_write_66 : decode cX8_write 66 = .ok (.iconst 1, 1) := by decide +kernel
theorem dX8_write_67 : decode cX8_write 67 = .ok (.iadd, 1) := by decide +kernel
theorem dX8_write_68 : decode cX8_write 68 = .ok (.iastore, 1) := by decide +kernel
theorem dX8_write_69 : decode cX8_write 69 = .ok (.iconst 1, 1) := by decide +kernel
theorem dX8_write_70 : decode cX8_write 70 = .ok (.ireturn, 1) := by decide +kernel
theorem dX8_keepDraft_0 : decode cX8_keepDraft 0 = .ok (.aload_n 0, 1) := by decide +kernel
theorem dX8_keepDraft_1 : decode cX8_keepDraft 1 = .ok (.invokevirtual 33, 3) := by decide +kernel
theorem dX8_keepDraft_4 : decode cX8_keepDraft 4 = .ok (.ifCond .eq 8, 3) := by decide +kernel
theorem dX8_keepDraft_7 : decode cX8_keepDraft 7 = .ok (.bipush (-4), 2) := by decide +kernel
theorem dX8_keepDraft_9 : decode cX8_keepDraft 9 = .ok (.goto 14, 3) := by decide +kernel
theorem dX8_keepDraft_12 : decode cX8_keepDraft 12 = .ok (.aload_n 0, 1) := by decide +kernel
theorem dX8_keepDraft_13 : decode cX8_keepDraft 13 = .ok (.dup, 1) := by decide +kernel
theorem dX8_keepDraft_14 : decode cX8_keepDraft 14 = .ok (.getfield 29, 3) := by decide +kernel
theorem dX8_keepDraft_17 : decode cX8_keepDraft 17 = .ok (.dup_x1, 1) := by decide +kernel
theorem dX8_keepDraft_18 : decode cX8_keepDraft 18 = .ok (.iconst 1, 1) := by decide +kernel
theorem dX8_keepDraft_19 : decode cX8_keepDraft 19 = .ok (.iadd, 1) := by decide +kernel
theorem dX8_keepDraft_20 : decode cX8_keepDraft 20 = .ok (.putfield 29, 3) := by decide +kernel
theorem dX8_keepDraft_23 : decode cX8_keepDraft 23 = .ok (.ireturn, 1) := by decide +kernel
theorem dX8_tell_0 : decode cX8_tell 0 = .ok (.iload_n 1, 1) := by decide +kernel
theorem dX8_tell_1 : decode cX8_tell 1 = .ok (.ifCond .lt 9, 3) := by decide +kernel
theorem dX8_tell_4 : decode cX8_tell 4 = .ok (.iload_n 1, 1) := by decide +kernel
theorem dX8_tell_5 : decode cX8_tell 5 = .ok (.bipush 6, 2) := by decide +kernel
theorem dX8_tell_7 : decode cX8_tell 7 = .ok (.if_icmp .lt 5, 3) := by decide +kernel
theorem dX8_tell_10 : decode cX8_tell 10 = .ok (.iconst 0, 1) := by decide +kernel
theorem dX8_tell_11 : decode cX8_tell 11 = .ok (.ireturn, 1) := by decide +kernel
theorem dX8_tell_12 : decode cX8_tell 12 = .ok (.iload_n 2, 1) := by decide +kernel
theorem dX8_tell_13 : decode cX8_tell 13 = .ok (.bipush (-16), 2) := by decide +kernel
theorem dX8_tell_15 : decode cX8_tell 15 = .ok (.if_icmp .ne 7, 3) := by decide +kernel
theorem dX8_tell_18 : decode cX8_tell 18 = .ok (.iconst 0, 1) := by decide +kernel
theorem dX8_tell_19 : decode cX8_tell 19 = .ok (.goto 24, 3) := by decide +kernel
theorem dX8_tell_22 : decode cX8_tell 22 = .ok (.iload_n 2, 1) := by decide +kernel
theorem dX8_tell_23 : decode cX8_tell 23 = .ok (.bipush (-17), 2) := by decide +kernel
theorem dX8_tell_25 : decode cX8_tell 25 = .ok (.if_icmp .ne 12, 3) := by decide +kernel
theorem dX8_tell_28 : decode cX8_tell 28 = .ok (.aload_n 0, 1) := by decide +kernel
theorem dX8_tell_29 : decode cX8_tell 29 = .ok (.getfield 16, 3) := by decide +kernel
theorem dX8_tell_32 : decode cX8_tell 32 = .ok (.iload_n 1, 1) := by decide +kernel
theorem dX8_tell_33 : decode cX8_tell 33 = .ok (.iaload, 1) := by decide +kernel
theorem dX8_tell_34 : decode cX8_tell 34 = .ok (.goto 9, 3) := by decide +kernel
theorem dX8_tell_37 : decode cX8_tell 37 = .ok (.aload_n 0, 1) := by decide +kernel
theorem dX8_tell_38 : decode cX8_tell 38 = .ok (.getfield 20, 3) := by decide +kernel
theorem dX8_tell_41 : decode cX8_tell 41 = .ok (.iload_n 1, 1) := by decide +kernel
theorem dX8_tell_42 : decode cX8_tell 42 = .ok (.iaload, 1) := by decide +kernel
theorem dX8_tell_43 : decode cX8_tell 43 = .ok (.istore 4, 2) := by decide +kernel
theorem dX8_tell_45 : decode cX8_tell 45 = .ok (.iload_n 2, 1) := by decide +kernel
theorem dX8_tell_46 : decode cX8_tell 46 = .ok (.bipush (-16), 2) := by decide +kernel
theorem dX8_tell_48 : decode cX8_tell 48 = .ok (.if_icmp .ne 12, 3) := by decide +kernel
theorem dX8_tell_51 : decode cX8_tell 51 = .ok (.aload_n 0, 1) := by decide +kernel
theorem dX8_tell_52 : decode cX8_tell 52 = .ok (.getfield 16, 3) := by decide +kernel
theorem dX8_tell_55 : decode cX8_tell 55 = .ok (.iload_n 1, 1) := by decide +kernel
theorem dX8_tell_56 : decode cX8_tell 56 = .ok (.iaload, 1) := by decide +kernel
theorem dX8_tell_57 : decode cX8_tell 57 = .ok (.goto 24, 3) := by decide +kernel
theorem dX8_tell_60 : decode cX8_tell 60 = .ok (.iload_n 2, 1) := by decide +kernel
theorem dX8_tell_61 : decode cX8_tell 61 = .ok (.bipush (-17), 2) := by decide +kernel
theorem dX8_tell_63 : decode cX8_tell 63 = .ok (.if_icmp .ne 12, 3) := by decide +kernel
theorem dX8_tell_66 : decode cX8_tell 66 = .ok (.aload_n 0, 1) := by decide +kernel
theorem dX8_tell_67 : decode cX8_tell 67 = .ok (.getfield 20, 3) := by decide +kernel
theorem dX8_tell_70 : decode cX8_tell 70 = .ok (.iload_n 1, 1) := by decide +kernel
theorem dX8_tell_71 : decode cX8_tell 71 = .ok (.iaload, 1) := by decide +kernel
theorem dX8_tell_72 : decode cX8_tell 72 = .ok (.goto 9, 3) := by decide +kernel
theorem dX8_tell_75 : decode cX8_tell 75 = .ok (.aload_n 0, 1) := by decide +kernel
theorem dX8_tell_76 : decode cX8_tell 76 = .ok (.getfield 23, 3) := by decide +kernel
theorem dX8_tell_79 : decode cX8_tell 79 = .ok (.iload_n 1, 1) := by decide +kernel
theorem dX8_tell_80 : decode cX8_tell 80 = .ok (.iaload, 1) := by decide +kernel
theorem dX8_tell_81 : decode cX8_tell 81 = .ok (.istore 5, 2) := by decide +kernel
theorem dX8_tell_83 : decode cX8_tell 83 = .ok (.iconst 0, 1) := by decide +kernel
theorem dX8_tell_84 : decode cX8_tell 84 = .ok (.istore 6, 2) := by decide +kernel
theorem dX8_tell_86 : decode cX8_tell 86 = .ok (.iload 4, 2) := by decide +kernel
theorem dX8_tell_88 : decode cX8_tell 88 = .ok (.istore 7, 2) := by decide +kernel
theorem dX8_tell_90 : decode cX8_tell 90 = .ok (.iload 7, 2) := by decide +kernel
theorem dX8_tell_92 : decode cX8_tell 92 = .ok (.ifCond .lt 195, 3) := by decide +kernel
theorem dX8_tell_95 : decode cX8_tell 95 = .ok (.iload 7, 2) := by decide +kernel
theorem dX8_tell_97 : decode cX8_tell 97 = .ok (.iload 5, 2) := by decide +kernel
theorem dX8_tell_99 : decode cX8_tell 99 = .ok (.if_icmp .ge 188, 3) := by decide +kernel
theorem dX8_tell_102 : decode cX8_tell 102 = .ok (.iload 7, 2) := by decide +kernel
theorem dX8_tell_104 : decode cX8_tell 104 = .ok (.sipush 160, 3) := by decide +kernel
theorem dX8_tell_107 : decode cX8_tell 107 = .ok (.if_icmp .ge 180, 3) := by decide +kernel
theorem dX8_tell_110 : decode cX8_tell 110 = .ok (.aload_n 0, 1) := by decide +kernel
theorem dX8_tell_111 : decode cX8_tell 111 = .ok (.getfield 11, 3) := by decide +kernel
theorem dX8_tell_114 : decode cX8_tell 114 = .ok (.iload_n 1, 1) := by decide +kernel
theorem dX8_tell_115 : decode cX8_tell 115 = .ok (.aaload, 1) := by decide +kernel
theorem dX8_tell_116 : decode cX8_tell 116 = .ok (.iload 7, 2) := by decide +kernel
theorem dX8_tell_118 : decode cX8_tell 118 = .ok (.iaload, 1) := by decide +kernel
theorem dX8_tell_119 : decode cX8_tell 119 = .ok (.istore 8, 2) := by decide +kernel
theorem dX8_tell_121 : decode cX8_tell 121 = .ok (.iload 8, 2) := by decide +kernel
theorem dX8_tell_123 : decode cX8_tell 123 = .ok (.bipush (-7), 2) := by decide +kernel
theorem dX8_tell_125 : decode cX8_tell 125 = .ok (.if_icmp .le 42, 3) := by decide +kernel
theorem dX8_tell_128 : decode cX8_tell 128 = .ok (.iload 6, 2) := by decide +kernel
theorem dX8_tell_130 : decode cX8_tell 130 = .ok (.sipush 160, 3) := by decide +kernel
theorem dX8_tell_133 : decode cX8_tell 133 = .ok (.if_icmp .lt 5, 3) := by decide +kernel
theorem dX8_tell_136 : decode cX8_tell 136 = .ok (.iconst 0, 1) := by decide +kernel
theorem dX8_tell_137 : decode cX8_tell 137 = .ok (.ireturn, 1) := by decide +kernel
theorem dX8_tell_138 : decode cX8_tell 138 = .ok (.aload_n 0, 1) := by decide +kernel
theorem dX8_tell_139 : decode cX8_tell 139 = .ok (.getfield 26, 3) := by decide +kernel
theorem dX8_tell_142 : decode cX8_tell 142 = .ok (.iload 6, 2) := by decide +kernel
theorem dX8_tell_144 : decode cX8_tell 144 = .ok (.iinc 6 1, 3) := by decide +kernel
theorem dX8_tell_147 : decode cX8_tell 147 = .ok (.iload 8, 2) := by decide +kernel
theorem dX8_tell_149 : decode cX8_tell 149 = .ok (.ifCond .lt 8, 3) := by decide +kernel
theorem dX8_tell_152 : decode cX8_tell 152 = .ok (.iload 8, 2) := by decide +kernel
theorem dX8_tell_154 : decode cX8_tell 154 = .ok (.goto 9, 3) := by decide +kernel
theorem dX8_tell_157 : decode cX8_tell 157 = .ok (.aload_n 3, 1) := by decide +kernel
theorem dX8_tell_158 : decode cX8_tell 158 = .ok (.iload 8, 2) := by decide +kernel
theorem dX8_tell_160 : decode cX8_tell 160 = .ok (.invokevirtual 37, 3) := by decide +kernel
theorem dX8_tell_163 : decode cX8_tell 163 = .ok (.iastore, 1) := by decide +kernel
theorem dX8_tell_164 : decode cX8_tell 164 = .ok (.goto 117, 3) := by decide +kernel
theorem dX8_tell_167 : decode cX8_tell 167 = .ok (.iload 6, 2) := by decide +kernel
theorem dX8_tell_169 : decode cX8_tell 169 = .ok (.iconst 1, 1) := by decide +kernel
theorem dX8_tell_170 : decode cX8_tell 170 = .ok (.if_icmp .ge 5, 3) := by decide +kernel
theorem dX8_tell_173 : decode cX8_tell 173 = .ok (.iconst 0, 1) := by decide +kernel
theorem dX8_tell_174 : decode cX8_tell 174 = .ok (.ireturn, 1) := by decide +kernel
theorem dX8_tell_175 : decode cX8_tell 175 = .ok (.iload 8, 2) := by decide +kernel
theorem dX8_tell_177 : decode cX8_tell 177 = .ok (.bipush (-9), 2) := by decide +kernel
theorem dX8_tell_179 : decode cX8_tell 179 = .ok (.if_icmp .ne 32, 3) := by decide +kernel
theorem dX8_tell_182 : decode cX8_tell 182 = .ok (.aload_n 0, 1) := by decide +kernel
theorem dX8_tell_183 : decode cX8_tell 183 = .ok (.getfield 26, 3) := by decide +kernel
theorem dX8_tell_186 : decode cX8_tell 186 = .ok (.iload 6, 2) := by decide +kernel
theorem dX8_tell_188 : decode cX8_tell 188 = .ok (.iconst 1, 1) := by decide +kernel
theorem dX8_tell_189 : decode cX8_tell 189 = .ok (.isub, 1) := by decide +kernel
theorem dX8_tell_190 : decode cX8_tell 190 = .ok (.aload_n 0, 1) := by decide +kernel
theorem dX8_tell_191 : decode cX8_tell 191 = .ok (.getfield 26, 3) := by decide +kernel
theorem dX8_tell_194 : decode cX8_tell 194 = .ok (.iload 6, 2) := by decide +kernel
theorem dX8_tell_196 : decode cX8_tell 196 = .ok (.iconst 1, 1) := by decide +kernel
theorem dX8_tell_197 : decode cX8_tell 197 = .ok (.isub, 1) := by decide +kernel
theorem dX8_tell_198 : decode cX8_tell 198 = .ok (.iaload, 1) := by decide +kernel
theorem dX8_tell_199 : decode cX8_tell 199 = .ok (.ifCond .ne 7, 3) := by decide +kernel
theorem dX8_tell_202 : decode cX8_tell 202 = .ok (.iconst 1, 1) := by decide +kernel
theorem dX8_tell_203 : decode cX8_tell 203 = .ok (.goto 4, 3) := by decide +kernel
theorem dX8_tell_206 : decode cX8_tell 206 = .ok (.iconst 0, 1) := by decide +kernel
theorem dX8_tell_207 : decode cX8_tell 207 = .ok (.iastore, 1) := by decide +kernel
theorem dX8_tell_208 : decode cX8_tell 208 = .ok (.goto 73, 3) := by decide +kernel
theorem dX8_tell_211 : decode cX8_tell 211 = .ok (.iload 8, 2) := by decide +kernel
theorem dX8_tell_213 : decode cX8_tell 213 = .ok (.bipush (-15), 2) := by decide +kernel
theorem dX8_tell_215 : decode cX8_tell 215 = .ok (.if_icmp .ne 25, 3) := by decide +kernel
theorem dX8_tell_218 : decode cX8_tell 218 = .ok (.aload_n 0, 1) := by decide +kernel
theorem dX8_tell_219 : decode cX8_tell 219 = .ok (.getfield 26, 3) := by decide +kernel
theorem dX8_tell_222 : decode cX8_tell 222 = .ok (.iload 6, 2) := by decide +kernel
theorem dX8_tell_224 : decode cX8_tell 224 = .ok (.iconst 1, 1) := by decide +kernel
theorem dX8_tell_225 : decode cX8_tell 225 = .ok (.isub, 1) := by decide +kernel
theorem dX8_tell_226 : decode cX8_tell 226 = .ok (.aload_n 0, 1) := by decide +kernel
theorem dX8_tell_227 : decode cX8_tell 227 = .ok (.getfield 26, 3) := by decide +kernel
theorem dX8_tell_230 : decode cX8_tell 230 = .ok (.iload 6, 2) := by decide +kernel
theorem dX8_tell_232 : decode cX8_tell 232 = .ok (.iconst 1, 1) := by decide +kernel
theorem dX8_tell_233 : decode cX8_tell 233 = .ok (.isub, 1) := by decide +kernel
theorem dX8_tell_234 : decode cX8_tell 234 = .ok (.iaload, 1) := by decide +kernel
theorem dX8_tell_235 : decode cX8_tell 235 = .ok (.ineg, 1) := by decide +kernel
theorem dX8_tell_236 : decode cX8_tell 236 = .ok (.iastore, 1) := by decide +kernel
theorem dX8_tell_237 : decode cX8_tell 237 = .ok (.goto 44, 3) := by decide +kernel
theorem dX8_tell_240 : decode cX8_tell 240 = .ok (.iload 6, 2) := by decide +kernel
theorem dX8_tell_242 : decode cX8_tell 242 = .ok (.iconst 2, 1) := by decide +kernel
theorem dX8_tell_243 : decode cX8_tell 243 = .ok (.if_icmp .ge 5, 3) := by decide +kernel
theorem dX8_tell_246 : decode cX8_tell 246 = .ok (.iconst 0, 1) := by decide +kernel
theorem dX8_tell_247 : decode cX8_tell 247 = .ok (.ireturn, 1) := by decide +kernel
theorem dX8_tell_248 : decode cX8_tell 248 = .ok (.iinc 6 (-1), 3) := by decide +kernel
theorem dX8_tell_251 : decode cX8_tell 251 = .ok (.aload_n 0, 1) := by decide +kernel
theorem dX8_tell_252 : decode cX8_tell 252 = .ok (.getfield 26, 3) := by decide +kernel
theorem dX8_tell_255 : decode cX8_tell 255 = .ok (.iload 6, 2) := by decide +kernel
theorem dX8_tell_257 : decode cX8_tell 257 = .ok (.iconst 1, 1) := by decide +kernel
theorem dX8_tell_258 : decode cX8_tell 258 = .ok (.isub, 1) := by decide +kernel
theorem dX8_tell_259 : decode cX8_tell 259 = .ok (.iload 8, 2) := by decide +kernel
theorem dX8_tell_261 : decode cX8_tell 261 = .ok (.aload_n 0, 1) := by decide +kernel
theorem dX8_tell_262 : decode cX8_tell 262 = .ok (.getfield 26, 3) := by decide +kernel
theorem dX8_tell_265 : decode cX8_tell 265 = .ok (.iload 6, 2) := by decide +kernel
theorem dX8_tell_267 : decode cX8_tell 267 = .ok (.iconst 1, 1) := by decide +kernel
theorem dX8_tell_268 : decode cX8_tell 268 = .ok (.isub, 1) := by decide +kernel
theorem dX8_tell_269 : decode cX8_tell 269 = .ok (.iaload, 1) := by decide +kernel
theorem dX8_tell_270 : decode cX8_tell 270 = .ok (.aload_n 0, 1) := by decide +kernel
theorem dX8_tell_271 : decode cX8_tell 271 = .ok (.getfield 26, 3) := by decide +kernel
theorem dX8_tell_274 : decode cX8_tell 274 = .ok (.iload 6, 2) := by decide +kernel
theorem dX8_tell_276 : decode cX8_tell 276 = .ok (.iaload, 1) := by decide +kernel
theorem dX8_tell_277 : decode cX8_tell 277 = .ok (.invokestatic 43, 3) := by decide +kernel
theorem dX8_tell_280 : decode cX8_tell 280 = .ok (.iastore, 1) := by decide +kernel
theorem dX8_tell_281 : decode cX8_tell 281 = .ok (.iinc 7 1, 3) := by decide +kernel
theorem dX8_tell_284 : decode cX8_tell 284 = .ok (.goto (-194), 3) := by decide +kernel
theorem dX8_tell_287 : decode cX8_tell 287 = .ok (.iload 6, 2) := by decide +kernel
theorem dX8_tell_289 : decode cX8_tell 289 = .ok (.ifCond .le 15, 3) := by decide +kernel
theorem dX8_tell_292 : decode cX8_tell 292 = .ok (.aload_n 0, 1) := by decide +kernel
theorem dX8_tell_293 : decode cX8_tell 293 = .ok (.getfield 26, 3) := by decide +kernel
theorem dX8_tell_296 : decode cX8_tell 296 = .ok (.iload 6, 2) := by decide +kernel
theorem dX8_tell_298 : decode cX8_tell 298 = .ok (.iconst 1, 1) := by decide +kernel
theorem dX8_tell_299 : decode cX8_tell 299 = .ok (.isub, 1) := by decide +kernel
theorem dX8_tell_300 : decode cX8_tell 300 = .ok (.iaload, 1) := by decide +kernel
theorem dX8_tell_301 : decode cX8_tell 301 = .ok (.goto 4, 3) := by decide +kernel
theorem dX8_tell_304 : decode cX8_tell 304 = .ok (.iconst 0, 1) := by decide +kernel
theorem dX8_tell_305 : decode cX8_tell 305 = .ok (.ireturn, 1) := by decide +kernel
theorem dX8_joined_0 : decode cX8_joined 0 = .ok (.iload_n 0, 1) := by decide +kernel
theorem dX8_joined_1 : decode cX8_joined 1 = .ok (.tableswitch 101 (-13) (-7) #[97, 93, 82, 71, 101, 57, 43], 43) := by decide +kernel
theorem dX8_joined_44 : decode cX8_joined 44 = .ok (.iload_n 1, 1) := by decide +kernel
theorem dX8_joined_45 : decode cX8_joined 45 = .ok (.ifCond .ne 7, 3) := by decide +kernel
theorem dX8_joined_48 : decode cX8_joined 48 = .ok (.iload_n 2, 1) := by decide +kernel
theorem dX8_joined_49 : decode cX8_joined 49 = .ok (.ifCond .eq 7, 3) := by decide +kernel
theorem dX8_joined_52 : decode cX8_joined 52 = .ok (.iconst 1, 1) := by decide +kernel
theorem dX8_joined_53 : decode cX8_joined 53 = .ok (.goto 4, 3) := by decide +kernel
theorem dX8_joined_56 : decode cX8_joined 56 = .ok (.iconst 0, 1) := by decide +kernel
theorem dX8_joined_57 : decode cX8_joined 57 = .ok (.ireturn, 1) := by decide +kernel
theorem dX8_joined_58 : decode cX8_joined 58 = .ok (.iload_n 1, 1) := by decide +kernel
theorem dX8_joined_59 : decode cX8_joined 59 = .ok (.ifCond .eq 11, 3) := by decide +kernel
theorem dX8_joined_62 : decode cX8_joined 62 = .ok (.iload_n 2, 1) := by decide +kernel
theorem dX8_joined_63 : decode cX8_joined 63 = .ok (.ifCond .eq 7, 3) := by decide +kernel
theorem dX8_joined_66 : decode cX8_joined 66 = .ok (.iconst 1, 1) := by decide +kernel
theorem dX8_joined_67 : decode cX8_joined 67 = .ok (.goto 4, 3) := by decide +kernel
theorem dX8_joined_70 : decode cX8_joined 70 = .ok (.iconst 0, 1) := by decide +kernel
theorem dX8_joined_71 : decode cX8_joined 71 = .ok (.ireturn, 1) := by decide +kernel
theorem dX8_joined_72 : decode cX8_joined 72 = .ok (.iload_n 1, 1) := by decide +kernel
theorem dX8_joined_73 : decode cX8_joined 73 = .ok (.iload_n 2, 1) := by decide +kernel
theorem dX8_joined_74 : decode cX8_joined 74 = .ok (.if_icmp .ge 7, 3) := by decide +kernel
theorem dX8_joined_77 : decode cX8_joined 77 = .ok (.iconst 1, 1) := by decide +kernel
theorem dX8_joined_78 : decode cX8_joined 78 = .ok (.goto 4, 3) := by decide +kernel
theorem dX8_joined_81 : decode cX8_joined 81 = .ok (.iconst 0, 1) := by decide +kernel
theorem dX8_joined_82 : decode cX8_joined 82 = .ok (.ireturn, 1) := by decide +kernel
theorem dX8_joined_83 : decode cX8_joined 83 = .ok (.iload_n 1, 1) := by decide +kernel
theorem dX8_joined_84 : decode cX8_joined 84 = .ok (.iload_n 2, 1) := by decide +kernel
theorem dX8_joined_85 : decode cX8_joined 85 = .ok (.if_icmp .ne 7, 3) := by decide +kernel
theorem dX8_joined_88 : decode cX8_joined 88 = .ok (.iconst 1, 1) := by decide +kernel
theorem dX8_joined_89 : decode cX8_joined 89 = .ok (.goto 4, 3) := by decide +kernel
theorem dX8_joined_92 : decode cX8_joined 92 = .ok (.iconst 0, 1) := by decide +kernel
theorem dX8_joined_93 : decode cX8_joined 93 = .ok (.ireturn, 1) := by decide +kernel
theorem dX8_joined_94 : decode cX8_joined 94 = .ok (.iload_n 1, 1) := by decide +kernel
theorem dX8_joined_95 : decode cX8_joined 95 = .ok (.iload_n 2, 1) := by decide +kernel
theorem dX8_joined_96 : decode cX8_joined 96 = .ok (.iadd, 1) := by decide +kernel
theorem dX8_joined_97 : decode cX8_joined 97 = .ok (.ireturn, 1) := by decide +kernel
theorem dX8_joined_98 : decode cX8_joined 98 = .ok (.iload_n 1, 1) := by decide +kernel
theorem dX8_joined_99 : decode cX8_joined 99 = .ok (.iload_n 2, 1) := by decide +kernel
theorem dX8_joined_100 : decode cX8_joined 100 = .ok (.isub, 1) := by decide +kernel
theorem dX8_joined_101 : decode cX8_joined 101 = .ok (.ireturn, 1) := by decide +kernel
theorem dX8_joined_102 : decode cX8_joined 102 = .ok (.iload_n 1, 1) := by decide +kernel
theorem dX8_joined_103 : decode cX8_joined 103 = .ok (.iload_n 2, 1) := by decide +kernel
theorem dX8_joined_104 : decode cX8_joined 104 = .ok (.imul, 1) := by decide +kernel
theorem dX8_joined_105 : decode cX8_joined 105 = .ok (.ireturn, 1) := by decide +kernel
theorem dX9_init_0 : decode cX9_init 0 = .ok (.aload_n 0, 1) := by decide +kernel
theorem dX9_init_1 : decode cX9_init 1 = .ok (.invokespecial 1, 3) := by decide +kernel
theorem dX9_init_4 : decode cX9_init 4 = .ok (.aload_n 0, 1) := by decide +kernel
theorem dX9_init_5 : decode cX9_init 5 = .ok (.new 7, 3) := by decide +kernel
theorem dX9_init_8 : decode cX9_init 8 = .ok (.dup, 1) := by decide +kernel
theorem dX9_init_9 : decode cX9_init 9 = .ok (.invokespecial 9, 3) := by decide +kernel
theorem dX9_init_12 : decode cX9_init 12 = .ok (.putfield 10, 3) := by decide +kernel
theorem dX9_init_15 : decode cX9_init 15 = .ok (.aload_n 0, 1) := by decide +kernel
theorem dX9_init_16 : decode cX9_init 16 = .ok (.new 7, 3) := by decide +kernel
theorem dX9_init_19 : decode cX9_init 19 = .ok (.dup, 1) := by decide +kernel
theorem dX9_init_20 : decode cX9_init 20 = .ok (.invokespecial 9, 3) := by decide +kernel
theorem dX9_init_23 : decode cX9_init 23 = .ok (.putfield 16, 3) := by decide +kernel
theorem dX9_init_26 : decode cX9_init 26 = .ok (.aload_n 0, 1) := by decide +kernel
theorem dX9_init_27 : decode cX9_init 27 = .ok (.iconst 0, 1) := by decide +kernel
theorem dX9_init_28 : decode cX9_init 28 = .ok (.putfield 19, 3) := by decide +kernel
theorem dX9_init_31 : decode cX9_init 31 = .ok (.aload_n 0, 1) := by decide +kernel
theorem dX9_init_32 : decode cX9_init 32 = .ok (.new 23, 3) := by decide +kernel
theorem dX9_init_35 : decode cX9_init 35 = .ok (.dup, 1) := by decide +kernel
theorem dX9_init_36 : decode cX9_init 36 = .ok (.invokespecial 25, 3) := by decide +kernel
theorem dX9_init_39 : decode cX9_init 39 = .ok (.putfield 26, 3) := by decide +kernel
theorem dX9_init_42 : decode cX9_init 42 = .ok (.aload_n 0, 1) := by decide +kernel
theorem dX9_init_43 : decode cX9_init 43 = .ok (.new 30, 3) := by decide +kernel
theorem dX9_init_46 : decode cX9_init 46 = .ok (.dup, 1) := by decide +kernel
theorem dX9_init_47 : decode cX9_init 47 = .ok (.invokespecial 32, 3) := by decide +kernel
theorem dX9_init_50 : decode cX9_init 50 = .ok (.putfield 33, 3) := by decide +kernel
theorem dX9_init_53 : decode cX9_init 53 = .ok (.aload_n 0, 1) := by decide +kernel
theorem dX9_init_54 : decode cX9_init 54 = .ok (.new 37, 3) := by decide +kernel
theorem dX9_init_57 : decode cX9_init 57 = .ok (.dup, 1) := by decide +kernel
theorem dX9_init_58 : decode cX9_init 58 = .ok (.aload_n 0, 1) := by decide +kernel
theorem dX9_init_59 : decode cX9_init 59 = .ok (.getfield 26, 3) := by decide +kernel
theorem dX9_init_62 : decode cX9_init 62 = .ok (.aload_n 0, 1) := by decide +kernel
theorem dX9_init_63 : decode cX9_init 63 = .ok (.getfield 33, 3) := by decide +kernel
theorem dX9_init_66 : decode cX9_init 66 = .ok (.invokespecial 39, 3) := by decide +kernel
theorem dX9_init_69 : decode cX9_init 69 = .ok (.putfield 42, 3) := by decide +kernel
theorem dX9_init_72 : decode cX9_init 72 = .ok (.aload_n 0, 1) := by decide +kernel
theorem dX9_init_73 : decode cX9_init 73 = .ok (.iconst 4, 1) := by decide +kernel
theorem dX9_init_74 : decode cX9_init 74 = .ok (.anewarray 46, 3) := by decide +kernel
theorem dX9_init_77 : decode cX9_init 77 = .ok (.putfield 48, 3) := by decide +kernel
theorem dX9_init_80 : decode cX9_init 80 = .ok (.aload_n 0, 1) := by decide +kernel
theorem dX9_init_81 : decode cX9_init 81 = .ok (.new 52, 3) := by decide +kernel
theorem dX9_init_84 : decode cX9_init 84 = .ok (.dup, 1) := by decide +kernel
theorem dX9_init_85 : decode cX9_init 85 = .ok (.aload_n 0, 1) := by decide +kernel
theorem dX9_init_86 : decode cX9_init 86 = .ok (.getfield 10, 3) := by decide +kernel
theorem dX9_init_89 : decode cX9_init 89 = .ok (.aload_n 0, 1) := by decide +kernel
theorem dX9_init_90 : decode cX9_init 90 = .ok (.getfield 33, 3) := by decide +kernel
theorem dX9_init_93 : decode cX9_init 93 = .ok (.invokespecial 54, 3) := by decide +kernel
theorem dX9_init_96 : decode cX9_init 96 = .ok (.putfield 57, 3) := by decide +kernel
theorem dX9_init_99 : decode cX9_init 99 = .ok (.aload_n 0, 1) := by decide +kernel
theorem dX9_init_100 : decode cX9_init 100 = .ok (.new 61, 3) := by decide +kernel
theorem dX9_init_103 : decode cX9_init 103 = .ok (.dup, 1) := by decide +kernel
theorem dX9_init_104 : decode cX9_init 104 = .ok (.aload_n 0, 1) := by decide +kernel
theorem dX9_init_105 : decode cX9_init 105 = .ok (.getfield 10, 3) := by decide +kernel
theorem dX9_init_108 : decode cX9_init 108 = .ok (.aload_n 0, 1) := by decide +kernel
theorem dX9_init_109 : decode cX9_init 109 = .ok (.getfield 57, 3) := by decide +kernel
theorem dX9_init_112 : decode cX9_init 112 = .ok (.invokespecial 63, 3) := by decide +kernel
theorem dX9_init_115 : decode cX9_init 115 = .ok (.putfield 66, 3) := by decide +kernel
theorem dX9_init_118 : decode cX9_init 118 = .ok (.aload_n 0, 1) := by decide +kernel
theorem dX9_init_119 : decode cX9_init 119 = .ok (.new 70, 3) := by decide +kernel
theorem dX9_init_122 : decode cX9_init 122 = .ok (.dup, 1) := by decide +kernel
theorem dX9_init_123 : decode cX9_init 123 = .ok (.aload_n 0, 1) := by decide +kernel
theorem dX9_init_124 : decode cX9_init 124 = .ok (.getfield 10, 3) := by decide +kernel
theorem dX9_init_127 : decode cX9_init 127 = .ok (.aload_n 0, 1) := by decide +kernel
theorem dX9_init_128 : decode cX9_init 128 = .ok (.getfield 57, 3) := by decide +kernel
theorem dX9_init_131 : decode cX9_init 131 = .ok (.invokespecial 72, 3) := by decide +kernel
theorem dX9_init_134 : decode cX9_init 134 = .ok (.putfield 73, 3) := by decide +kernel
theorem dX9_init_137 : decode cX9_init 137 = .ok (.iconst 0, 1) := by decide +kernel
theorem dX9_init_138 : decode cX9_init 138 = .ok (.istore_n 1, 1) := by decide +kernel
theorem dX9_init_139 : decode cX9_init 139 = .ok (.iload_n 1, 1) := by decide +kernel
theorem dX9_init_140 : decode cX9_init 140 = .ok (.aload_n 0, 1) := by decide +kernel
theorem dX9_init_141 : decode cX9_init 141 = .ok (.getfield 48, 3) := by decide +kernel
theorem dX9_init_144 : decode cX9_init 144 = .ok (.arraylength, 1) := by decide +kernel
theorem dX9_init_145 : decode cX9_init 145 = .ok (.if_icmp .ge 22, 3) := by decide +kernel
theorem dX9_init_148 : decode cX9_init 148 = .ok (.aload_n 0, 1) := by decide +kernel
theorem dX9_init_149 : decode cX9_init 149 = .ok (.getfield 48, 3) := by decide +kernel
theorem dX9_init_152 : decode cX9_init 152 = .ok (.iload_n 1, 1) := by decide +kernel
theorem dX9_init_153 : decode cX9_init 153 = .ok (.new 46, 3) := by decide +kernel
theorem dX9_init_156 : decode cX9_init 156 = .ok (.dup, 1) := by decide +kernel
theorem dX9_init_157 : decode cX9_init 157 = .ok (.invokespecial 77, 3) := by decide +kernel
theorem dX9_init_160 : decode cX9_init 160 = .ok (.aastore, 1) := by decide +kernel
theorem dX9_init_161 : decode cX9_init 161 = .ok (.iinc 1 1, 3) := by decide +kernel
theorem dX9_init_164 : decode cX9_init 164 = .ok (.goto (-25), 3) := by decide +kernel
theorem dX9_init_167 : decode cX9_init 167 = .ok (.iconst 0, 1) := by decide +kernel
theorem dX9_init_168 : decode cX9_init 168 = .ok (.istore_n 1, 1) := by decide +kernel
theorem dX9_init_169 : decode cX9_init 169 = .ok (.iload_n 1, 1) := by decide +kernel
theorem dX9_init_170 : decode cX9_init 170 = .ok (.ldc 78, 2) := by decide +kernel
theorem dX9_init_172 : decode cX9_init 172 = .ok (.invokevirtual 80, 3) := by decide +kernel
theorem dX9_init_175 : decode cX9_init 175 = .ok (.if_icmp .ge 23, 3) := by decide +kernel
theorem dX9_init_178 : decode cX9_init 178 = .ok (.aload_n 0, 1) := by decide +kernel
theorem dX9_init_179 : decode cX9_init 179 = .ok (.getfield 26, 3) := by decide +kernel
theorem dX9_init_182 : decode cX9_init 182 = .ok (.ldc 78, 2) := by decide +kernel
theorem dX9_init_184 : decode cX9_init 184 = .ok (.iload_n 1, 1) := by decide +kernel
theorem dX9_init_185 : decode cX9_init 185 = .ok (.invokevirtual 86, 3) := by decide +kernel
theorem dX9_init_188 : decode cX9_init 188 = .ok (.invokevirtual 90, 3) := by decide +kernel
theorem dX9_init_191 : decode cX9_init 191 = .ok (.pop, 1) := by decide +kernel
theorem dX9_init_192 : decode cX9_init 192 = .ok (.iinc 1 1, 3) := by decide +kernel
theorem dX9_init_195 : decode cX9_init 195 = .ok (.goto (-26), 3) := by decide +kernel
theorem dX9_init_198 : decode cX9_init 198 = .ok (.aload_n 0, 1) := by decide +kernel
theorem dX9_init_199 : decode cX9_init 199 = .ok (.getfield 42, 3) := by decide +kernel
theorem dX9_init_202 : decode cX9_init 202 = .ok (.invokevirtual 94, 3) := by decide +kernel
theorem dX9_init_205 : decode cX9_init 205 = .ok (.pop, 1) := by decide +kernel
theorem dX9_init_206 : decode cX9_init 206 = .ok (.return_, 1) := by decide +kernel
theorem dX9_set_0 : decode cX9_set 0 = .ok (.iload_n 1, 1) := by decide +kernel
theorem dX9_set_1 : decode cX9_set 1 = .ok (.ifCond .lt 16, 3) := by decide +kernel
theorem dX9_set_4 : decode cX9_set 4 = .ok (.iload_n 1, 1) := by decide +kernel
theorem dX9_set_5 : decode cX9_set 5 = .ok (.iconst 5, 1) := by decide +kernel
theorem dX9_set_6 : decode cX9_set 6 = .ok (.if_icmp .gt 11, 3) := by decide +kernel
theorem dX9_set_9 : decode cX9_set 9 = .ok (.iload_n 1, 1) := by decide +kernel
theorem dX9_set_10 : decode cX9_set 10 = .ok (.iload_n 3, 1) := by decide +kernel
theorem dX9_set_11 : decode cX9_set 11 = .ok (.invokestatic 97, 3) := by decide +kernel
theorem dX9_set_14 : decode cX9_set 14 = .ok (.ifCond .ne 6, 3) := by decide +kernel
theorem dX9_set_17 : decode cX9_set 17 = .ok (.bipush (-2), 2) := by decide +kernel
theorem dX9_set_19 : decode cX9_set 19 = .ok (.ireturn, 1) := by decide +kernel
theorem dX9_set_20 : decode cX9_set 20 = .ok (.iload_n 1, 1) := by decide +kernel
theorem dX9_set_21 : decode cX9_set 21 = .ok (.iconst 3, 1) := by decide +kernel
theorem dX9_set_22 : decode cX9_set 22 = .ok (.if_icmp .lt 17, 3) := by decide +kernel
theorem dX9_set_25 : decode cX9_set 25 = .ok (.aload_n 0, 1) := by decide +kernel
theorem dX9_set_26 : decode cX9_set 26 = .ok (.getfield 10, 3) := by decide +kernel
theorem dX9_set_29 : decode cX9_set 29 = .ok (.iload_n 2, 1) := by decide +kernel
theorem dX9_set_30 : decode cX9_set 30 = .ok (.invokevirtual 101, 3) := by decide +kernel
theorem dX9_set_33 : decode cX9_set 33 = .ok (.ifCond .ne 6, 3) := by decide +kernel
theorem dX9_set_36 : decode cX9_set 36 = .ok (.bipush (-2), 2) := by decide +kernel
theorem dX9_set_38 : decode cX9_set 38 = .ok (.ireturn, 1) := by decide +kernel
theorem dX9_set_39 : decode cX9_set 39 = .ok (.aload_n 0, 1) := by decide +kernel
theorem dX9_set_40 : decode cX9_set 40 = .ok (.getfield 10, 3) := by decide +kernel
theorem dX9_set_43 : decode cX9_set 43 = .ok (.iload_n 1, 1) := by decide +kernel
theorem dX9_set_44 : decode cX9_set 44 = .ok (.iload_n 2, 1) := by decide +kernel
theorem dX9_set_45 : decode cX9_set 45 = .ok (.invokevirtual 105, 3) := by decide +kernel
theorem dX9_set_48 : decode cX9_set 48 = .ok (.istore 4, 2) := by decide +kernel
theorem dX9_set_50 : decode cX9_set 50 = .ok (.aload_n 0, 1) := by decide +kernel
theorem dX9_set_51 : decode cX9_set 51 = .ok (.getfield 10, 3) := by decide +kernel
theorem dX9_set_54 : decode cX9_set 54 = .ok (.iload_n 1, 1) := by decide +kernel
theorem dX9_set_55 : decode cX9_set 55 = .ok (.iload_n 2, 1) := by decide +kernel
theorem dX9_set_56 : decode cX9_set 56 = .ok (.iload_n 3, 1) := by decide +kernel
theorem dX9_set_57 : decode cX9_set 57 = .ok (.invokevirtual 109, 3) := by decide +kernel
theorem dX9_set_60 : decode cX9_set 60 = .ok (.iload 4, 2) := by decide +kernel
theorem dX9_set_62 : decode cX9_set 62 = .ok (.ireturn, 1) := by decide +kernel
theorem dX9_guest_0 : decode cX9_guest 0 = .ok (.bipush 6, 2) := by decide +kernel
theorem dX9_guest_2 : decode cX9_guest 2 = .ok (.iload_n 1, 1) := by decide +kernel
theorem dX9_guest_3 : decode cX9_guest 3 = .ok (.invokestatic 97, 3) := by decide +kernel
theorem dX9_guest_6 : decode cX9_guest 6 = .ok (.ifCond .eq 19, 3) := by decide +kernel
theorem dX9_guest_9 : decode cX9_guest 9 = .ok (.iconst 3, 1) := by decide +kernel
theorem dX9_guest_10 : decode cX9_guest 10 = .ok (.iload_n 2, 1) := by decide +kernel
theorem dX9_guest_11 : decode cX9_guest 11 = .ok (.invokestatic 97, 3) := by decide +kernel
theorem dX9_guest_14 : decode cX9_guest 14 = .ok (.ifCond .eq 11, 3) := by decide +kernel
theorem dX9_guest_17 : decode cX9_guest 17 = .ok (.iconst 4, 1) := by decide +kernel
theorem dX9_guest_18 : decode cX9_guest 18 = .ok (.iload_n 3, 1) := by decide +kernel
theorem dX9_guest_19 : decode cX9_guest 19 = .ok (.invokestatic 97, 3) := by decide +kernel
theorem dX9_guest_22 : decode cX9_guest 22 = .ok (.ifCond .ne 6, 3) := by decide +kernel
theorem dX9_guest_25 : decode cX9_guest 25 = .ok (.bipush (-2), 2) := by decide +kernel
theorem dX9_guest_27 : decode cX9_guest 27 = .ok (.ireturn, 1) := by decide +kernel
theorem dX9_guest_28 : decode cX9_guest 28 = .ok (.aload_n 0, 1) := by decide +kernel
theorem dX9_guest_29 : decode cX9_guest 29 = .ok (.getfield 10, 3) := by decide +kernel
theorem dX9_guest_32 : decode cX9_guest 32 = .ok (.iload_n 1, 1) := by decide +kernel
theorem dX9_guest_33 : decode cX9_guest 33 = .ok (.iload_n 2, 1) := by decide +kernel
theorem dX9_guest_34 : decode cX9_guest 34 = .ok (.iload_n 3, 1) := by decide +kernel
theorem dX9_guest_35 : decode cX9_guest 35 = .ok (.invokevirtual 113, 3) := by decide +kernel
theorem dX9_guest_38 : decode cX9_guest 38 = .ok (.ireturn, 1) := by decide +kernel
theorem dX9_told_0 : decode cX9_told 0 = .ok (.iload_n 2, 1) := by decide +kernel
theorem dX9_told_1 : decode cX9_told 1 = .ok (.ifCond .lt 9, 3) := by decide +kernel
theorem dX9_told_4 : decode cX9_told 4 = .ok (.iload_n 2, 1) := by decide +kernel
theorem dX9_told_5 : decode cX9_told 5 = .ok (.bipush 8, 2) := by decide +kernel
theorem dX9_told_7 : decode cX9_told 7 = .ok (.if_icmp .le 7, 3) := by decide +kernel
theorem dX9_told_10 : decode cX9_told 10 = .ok (.sipush (-1000), 3) := by decide +kernel
theorem dX9_told_13 : decode cX9_told 13 = .ok (.ireturn, 1) := by decide +kernel
theorem dX9_told_14 : decode cX9_told 14 = .ok (.iload_n 2, 1) := by decide +kernel
theorem dX9_told_15 : decode cX9_told 15 = .ok (.iconst 3, 1) := by decide +kernel
theorem dX9_told_16 : decode cX9_told 16 = .ok (.if_icmp .lt 18, 3) := by decide +kernel
theorem dX9_told_19 : decode cX9_told 19 = .ok (.aload_n 0, 1) := by decide +kernel
theorem dX9_told_20 : decode cX9_told 20 = .ok (.getfield 10, 3) := by decide +kernel
theorem dX9_told_23 : decode cX9_told 23 = .ok (.iload_n 1, 1) := by decide +kernel
theorem dX9_told_24 : decode cX9_told 24 = .ok (.invokevirtual 101, 3) := by decide +kernel
theorem dX9_told_27 : decode cX9_told 27 = .ok (.ifCond .ne 7, 3) := by decide +kernel
theorem dX9_told_30 : decode cX9_told 30 = .ok (.sipush (-1000), 3) := by decide +kernel
theorem dX9_told_33 : decode cX9_told 33 = .ok (.ireturn, 1) := by decide +kernel
theorem dX9_told_34 : decode cX9_told 34 = .ok (.iload_n 2, 1) := by decide +kernel
theorem dX9_told_35 : decode cX9_told 35 = .ok (.bipush 6, 2) := by decide +kernel
theorem dX9_told_37 : decode cX9_told 37 = .ok (.if_icmp .gt 13, 3) := by decide +kernel
theorem dX9_told_40 : decode cX9_told 40 = .ok (.aload_n 0, 1) := by decide +kernel
theorem dX9_told_41 : decode cX9_told 41 = .ok (.getfield 10, 3) := by decide +kernel
theorem dX9_told_44 : decode cX9_told 44 = .ok (.iload_n 2, 1) := by decide +kernel
theorem dX9_told_45 : decode cX9_told 45 = .ok (.iload_n 1, 1) := by decide +kernel
theorem dX9_told_46 : decode cX9_told 46 = .ok (.invokevirtual 105, 3) := by decide +kernel
theorem dX9_told_49 : decode cX9_told 49 = .ok (.ireturn, 1) := by decide +kernel
theorem dX9_told_50 : decode cX9_told 50 = .ok (.aload_n 0, 1) := by decide +kernel
theorem dX9_told_51 : decode cX9_told 51 = .ok (.getfield 57, 3) := by decide +kernel
theorem dX9_told_54 : decode cX9_told 54 = .ok (.invokevirtual 117, 3) := by decide +kernel
theorem dX9_told_57 : decode cX9_told 57 = .ok (.aload_n 0, 1) := by decide +kernel
theorem dX9_told_58 : decode cX9_told 58 = .ok (.getfield 57, 3) := by decide +kernel
theorem dX9_told_61 : decode cX9_told 61 = .ok (.iload_n 1, 1) := by decide +kernel
theorem dX9_told_62 : decode cX9_told 62 = .ok (.invokevirtual 120, 3) := by decide +kernel
theorem dX9_told_65 : decode cX9_told 65 = .ok (.iload_n 2, 1) := by decide +kernel
theorem dX9_told_66 : decode cX9_told 66 = .ok (.bipush 7, 2) := by decide +kernel
theorem dX9_told_68 : decode cX9_told 68 = .ok (.if_icmp .ne 13, 3) := by decide +kernel
theorem dX9_told_71 : decode cX9_told 71 = .ok (.aload_n 0, 1) := by decide +kernel
theorem dX9_told_72 : decode cX9_told 72 = .ok (.getfield 57, 3) := by decide +kernel
theorem dX9_told_75 : decode cX9_told 75 = .ok (.invokevirtual 124, 3) := by decide +kernel
theorem dX9_told_78 : decode cX9_told 78 = .ok (.goto 10, 3) := by decide +kernel
theorem dX9_told_81 : decode cX9_told 81 = .ok (.aload_n 0, 1) := by decide +kernel
theorem dX9_told_82 : decode cX9_told 82 = .ok (.getfield 57, 3) := by decide +kernel
theorem dX9_told_85 : decode cX9_told 85 = .ok (.invokevirtual 127, 3) := by decide +kernel
theorem dX9_told_88 : decode cX9_told 88 = .ok (.ireturn, 1) := by decide +kernel
theorem dX9_feed_0 : decode cX9_feed 0 = .ok (.iload_n 1, 1) := by decide +kernel
theorem dX9_feed_1 : decode cX9_feed 1 = .ok (.ifCond .lt 10, 3) := by decide +kernel
theorem dX9_feed_4 : decode cX9_feed 4 = .ok (.iload_n 1, 1) := by decide +kernel
theorem dX9_feed_5 : decode cX9_feed 5 = .ok (.sipush 255, 3) := by decide +kernel
theorem dX9_feed_8 : decode cX9_feed 8 = .ok (.if_icmp .le 6, 3) := by decide +kernel
theorem dX9_feed_11 : decode cX9_feed 11 = .ok (.bipush (-2), 2) := by decide +kernel
theorem dX9_feed_13 : decode cX9_feed 13 = .ok (.ireturn, 1) := by decide +kernel
theorem dX9_feed_14 : decode cX9_feed 14 = .ok (.aload_n 0, 1) := by decide +kernel
theorem dX9_feed_15 : decode cX9_feed 15 = .ok (.getfield 26, 3) := by decide +kernel
theorem dX9_feed_18 : decode cX9_feed 18 = .ok (.iload_n 1, 1) := by decide +kernel
theorem dX9_feed_19 : decode cX9_feed 19 = .ok (.invokevirtual 90, 3) := by decide +kernel
theorem dX9_feed_22 : decode cX9_feed 22 = .ok (.ireturn, 1) := by decide +kernel
theorem dX9_text_0 : decode cX9_text 0 = .ok (.aload_n 0, 1) := by decide +kernel
theorem dX9_text_1 : decode cX9_text 1 = .ok (.getfield 33, 3) := by decide +kernel
theorem dX9_text_4 : decode cX9_text 4 = .ok (.invokevirtual 130, 3) := by decide +kernel
theorem dX9_text_7 : decode cX9_text 7 = .ok (.ifCond .eq 8, 3) := by decide +kernel
theorem dX9_text_10 : decode cX9_text 10 = .ok (.bipush (-4), 2) := by decide +kernel
theorem dX9_text_12 : decode cX9_text 12 = .ok (.goto 10, 3) := by decide +kernel
theorem dX9_text_15 : decode cX9_text 15 = .ok (.aload_n 0, 1) := by decide +kernel
theorem dX9_text_16 : decode cX9_text 16 = .ok (.getfield 42, 3) := by decide +kernel
theorem dX9_text_19 : decode cX9_text 19 = .ok (.invokevirtual 94, 3) := by decide +kernel
theorem dX9_text_22 : decode cX9_text 22 = .ok (.ireturn, 1) := by decide +kernel
theorem dX9_force_0 : decode cX9_force 0 = .ok (.iload_n 1, 1) := by decide +kernel
theorem dX9_force_1 : decode cX9_force 1 = .ok (.ifCond .lt 14, 3) := by decide +kernel
theorem dX9_force_4 : decode cX9_force 4 = .ok (.iload_n 1, 1) := by decide +kernel
theorem dX9_force_5 : decode cX9_force 5 = .ok (.aload_n 0, 1) := by decide +kernel
theorem dX9_force_6 : decode cX9_force 6 = .ok (.getfield 33, 3) := by decide +kernel
theorem dX9_force_9 : decode cX9_force 9 = .ok (.getfield 134, 3) := by decide +kernel
theorem dX9_force_12 : decode cX9_force 12 = .ok (.if_icmp .lt 6, 3) := by decide +kernel
theorem dX9_force_15 : decode cX9_force 15 = .ok (.bipush (-2), 2) := by decide +kernel
theorem dX9_force_17 : decode cX9_force 17 = .ok (.ireturn, 1) := by decide +kernel
theorem dX9_force_18 : decode cX9_force 18 = .ok (.aload_n 0, 1) := by decide +kernel
theorem dX9_force_19 : decode cX9_force 19 = .ok (.getfield 10, 3) := by decide +kernel
theorem dX9_force_22 : decode cX9_force 22 = .ok (.getfield 138, 3) := by decide +kernel
theorem dX9_force_25 : decode cX9_force 25 = .ok (.istore_n 2, 1) := by decide +kernel
theorem dX9_force_26 : decode cX9_force 26 = .ok (.aload_n 0, 1) := by decide +kernel
theorem dX9_force_27 : decode cX9_force 27 = .ok (.getfield 10, 3) := by decide +kernel
theorem dX9_force_30 : decode cX9_force 30 = .ok (.iload_n 1, 1) := by decide +kernel
theorem dX9_force_31 : decode cX9_force 31 = .ok (.putfield 138, 3) := by decide +kernel
theorem dX9_force_34 : decode cX9_force 34 = .ok (.iload_n 2, 1) := by decide +kernel
theorem dX9_force_35 : decode cX9_force 35 = .ok (.ireturn, 1) := by decide +kernel
theorem dX9_evening_0 : decode cX9_evening 0 = .ok (.aload_n 0, 1) := by decide +kernel
theorem dX9_evening_1 : decode cX9_evening 1 = .ok (.iload_n 1, 1) := by decide +kernel
theorem dX9_evening_2 : decode cX9_evening 2 = .ok (.invokevirtual 141, 3) := by decide +kernel
theorem dX9_evening_5 : decode cX9_evening 5 = .ok (.astore_n 3, 1) := by decide +kernel
theorem dX9_evening_6 : decode cX9_evening 6 = .ok (.aload_n 3, 1) := by decide +kernel
theorem dX9_evening_7 : decode cX9_evening 7 = .ok (.ifnull 21, 3) := by decide +kernel
theorem dX9_evening_10 : decode cX9_evening 10 = .ok (.aload_n 3, 1) := by decide +kernel
theorem dX9_evening_11 : decode cX9_evening 11 = .ok (.invokevirtual 145, 3) := by decide +kernel
theorem dX9_evening_14 : decode cX9_evening 14 = .ok (.ifCond .ne 14, 3) := by decide +kernel
theorem dX9_evening_17 : decode cX9_evening 17 = .ok (.aload_n 0, 1) := by decide +kernel
theorem dX9_evening_18 : decode cX9_evening 18 = .ok (.getfield 57, 3) := by decide +kernel
theorem dX9_evening_21 : decode cX9_evening 21 = .ok (.aload_n 3, 1) := by decide +kernel
theorem dX9_evening_22 : decode cX9_evening 22 = .ok (.invokevirtual 148, 3) := by decide +kernel
theorem dX9_evening_25 : decode cX9_evening 25 = .ok (.ifCond .ne 7, 3) := by decide +kernel
theorem dX9_evening_28 : decode cX9_evening 28 = .ok (.sipush (-1000), 3) := by decide +kernel
theorem dX9_evening_31 : decode cX9_evening 31 = .ok (.ireturn, 1) := by decide +kernel
theorem dX9_evening_32 : decode cX9_evening 32 = .ok (.iload_n 2, 1) := by decide +kernel
theorem dX9_evening_33 : decode cX9_evening 33 = .ok (.tableswitch 51 0 2 #[27, 35, 43], 27) := by decide +kernel
theorem dX9_evening_60 : decode cX9_evening 60 = .ok (.aload_n 0, 1) := by decide +kernel
theorem dX9_evening_61 : decode cX9_evening 61 = .ok (.getfield 57, 3) := by decide +kernel
theorem dX9_evening_64 : decode cX9_evening 64 = .ok (.invokevirtual 152, 3) := by decide +kernel
theorem dX9_evening_67 : decode cX9_evening 67 = .ok (.ireturn, 1) := by decide +kernel
theorem dX9_evening_68 : decode cX9_evening 68 = .ok (.aload_n 0, 1) := by decide +kernel
theorem dX9_evening_69 : decode cX9_evening 69 = .ok (.getfield 57, 3) := by decide +kernel
theorem dX9_evening_72 : decode cX9_evening 72 = .ok (.invokevirtual 155, 3) := by decide +kernel
theorem dX9_evening_75 : decode cX9_evening 75 = .ok (.ireturn, 1) := by decide +kernel
theorem dX9_evening_76 : decode cX9_evening 76 = .ok (.aload_n 0, 1) := by decide +kernel
theorem dX9_evening_77 : decode cX9_evening 77 = .ok (.getfield 57, 3) := by decide +kernel
theorem dX9_evening_80 : decode cX9_evening 80 = .ok (.invokevirtual 158, 3) := by decide +kernel
theorem dX9_evening_83 : decode cX9_evening 83 = .ok (.ireturn, 1) := by decide +kernel
theorem dX9_evening_84 : decode cX9_evening 84 = .ok (.iload_n 2, 1) := by decide +kernel
theorem dX9_evening_85 : decode cX9_evening 85 = .ok (.bipush 10, 2) := by decide +kernel
theorem dX9_evening_87 : decode cX9_evening 87 = .ok (.if_icmp .lt 28, 3) := by decide +kernel
theorem dX9_evening_90 : decode cX9_evening 90 = .ok (.iload_n 2, 1) := by decide +kernel
theorem dX9_evening_91 : decode cX9_evening 91 = .ok (.bipush 10, 2) := by decide +kernel
theorem dX9_evening_93 : decode cX9_evening 93 = .ok (.isub, 1) := by decide +kernel
theorem dX9_evening_94 : decode cX9_evening 94 = .ok (.aload_n 3, 1) := by decide +kernel
theorem dX9_evening_95 : decode cX9_evening 95 = .ok (.getfield 161, 3) := by decide +kernel
theorem dX9_evening_98 : decode cX9_evening 98 = .ok (.if_icmp .ge 17, 3) := by decide +kernel
theorem dX9_evening_101 : decode cX9_evening 101 = .ok (.aload_n 0, 1) := by decide +kernel
theorem dX9_evening_102 : decode cX9_evening 102 = .ok (.getfield 57, 3) := by decide +kernel
theorem dX9_evening_105 : decode cX9_evening 105 = .ok (.iload_n 2, 1) := by decide +kernel
theorem dX9_evening_106 : decode cX9_evening 106 = .ok (.bipush 10, 2) := by decide +kernel
theorem dX9_evening_108 : decode cX9_evening 108 = .ok (.isub, 1) := by decide +kernel
theorem dX9_evening_109 : decode cX9_evening 109 = .ok (.invokevirtual 164, 3) := by decide +kernel
theorem dX9_evening_112 : decode cX9_evening 112 = .ok (.goto 6, 3) := by decide +kernel
theorem dX9_evening_115 : decode cX9_evening 115 = .ok (.sipush (-1000), 3) := by decide +kernel
theorem dX9_evening_118 : decode cX9_evening 118 = .ok (.ireturn, 1) := by decide +kernel
theorem dX9_hold_0 : decode cX9_hold 0 = .ok (.aload_n 0, 1) := by decide +kernel
theorem dX9_hold_1 : decode cX9_hold 1 = .ok (.iload_n 1, 1) := by decide +kernel
theorem dX9_hold_2 : decode cX9_hold 2 = .ok (.invokevirtual 141, 3) := by decide +kernel
theorem dX9_hold_5 : decode cX9_hold 5 = .ok (.astore_n 2, 1) := by decide +kernel
theorem dX9_hold_6 : decode cX9_hold 6 = .ok (.aload_n 2, 1) := by decide +kernel
theorem dX9_hold_7 : decode cX9_hold 7 = .ok (.ifnonnull 6, 3) := by decide +kernel
theorem dX9_hold_10 : decode cX9_hold 10 = .ok (.bipush (-2), 2) := by decide +kernel
theorem dX9_hold_12 : decode cX9_hold 12 = .ok (.ireturn, 1) := by decide +kernel
theorem dX9_hold_13 : decode cX9_hold 13 = .ok (.aload_n 2, 1) := by decide +kernel
theorem dX9_hold_14 : decode cX9_hold 14 = .ok (.invokevirtual 145, 3) := by decide +kernel
theorem dX9_hold_17 : decode cX9_hold 17 = .ok (.ifCond .eq 6, 3) := by decide +kernel
theorem dX9_hold_20 : decode cX9_hold 20 = .ok (.bipush (-11), 2) := by decide +kernel
theorem dX9_hold_22 : decode cX9_hold 22 = .ok (.ireturn, 1) := by decide +kernel
theorem dX9_hold_23 : decode cX9_hold 23 = .ok (.aload_n 0, 1) := by decide +kernel
theorem dX9_hold_24 : decode cX9_hold 24 = .ok (.getfield 57, 3) := by decide +kernel
theorem dX9_hold_27 : decode cX9_hold 27 = .ok (.aload_n 2, 1) := by decide +kernel
theorem dX9_hold_28 : decode cX9_hold 28 = .ok (.invokevirtual 148, 3) := by decide +kernel
theorem dX9_hold_31 : decode cX9_hold 31 = .ok (.ifCond .ne 6, 3) := by decide +kernel
theorem dX9_hold_34 : decode cX9_hold 34 = .ok (.bipush (-2), 2) := by decide +kernel
theorem dX9_hold_36 : decode cX9_hold 36 = .ok (.ireturn, 1) := by decide +kernel
theorem dX9_hold_37 : decode cX9_hold 37 = .ok (.aload_n 0, 1) := by decide +kernel
theorem dX9_hold_38 : decode cX9_hold 38 = .ok (.getfield 10, 3) := by decide +kernel
theorem dX9_hold_41 : decode cX9_hold 41 = .ok (.getfield 167, 3) := by decide +kernel
theorem dX9_hold_44 : decode cX9_hold 44 = .ok (.getstatic 170, 3) := by decide +kernel
theorem dX9_hold_47 : decode cX9_hold 47 = .ok (.iconst 2, 1) := by decide +kernel
theorem dX9_hold_48 : decode cX9_hold 48 = .ok (.iaload, 1) := by decide +kernel
theorem dX9_hold_49 : decode cX9_hold 49 = .ok (.if_icmp .lt 6, 3) := by decide +kernel
theorem dX9_hold_52 : decode cX9_hold 52 = .ok (.bipush (-3), 2) := by decide +kernel
theorem dX9_hold_54 : decode cX9_hold 54 = .ok (.ireturn, 1) := by decide +kernel
theorem dX9_hold_55 : decode cX9_hold 55 = .ok (.aload_n 0, 1) := by decide +kernel
theorem dX9_hold_56 : decode cX9_hold 56 = .ok (.getfield 10, 3) := by decide +kernel
theorem dX9_hold_59 : decode cX9_hold 59 = .ok (.aload_n 0, 1) := by decide +kernel
theorem dX9_hold_60 : decode cX9_hold 60 = .ok (.getfield 57, 3) := by decide +kernel
theorem dX9_hold_63 : decode cX9_hold 63 = .ok (.invokevirtual 152, 3) := by decide +kernel
theorem dX9_hold_66 : decode cX9_hold 66 = .ok (.putfield 174, 3) := by decide +kernel
theorem dX9_hold_69 : decode cX9_hold 69 = .ok (.aload_n 0, 1) := by decide +kernel
theorem dX9_hold_70 : decode cX9_hold 70 = .ok (.getfield 10, 3) := by decide +kernel
theorem dX9_hold_73 : decode cX9_hold 73 = .ok (.dup, 1) := by decide +kernel
theorem dX9_hold_74 : decode cX9_hold 74 = .ok (.getfield 177, 3) := by decide +kernel
theorem dX9_hold_77 : decode cX9_hold 77 = .ok (.aload_n 0, 1) := by decide +kernel
theorem dX9_hold_78 : decode cX9_hold 78 = .ok (.getfield 57, 3) := by decide +kernel
theorem dX9_hold_81 : decode cX9_hold 81 = .ok (.invokevirtual 158, 3) := by decide +kernel
theorem dX9_hold_84 : decode cX9_hold 84 = .ok (.iadd, 1) := by decide +kernel
theorem dX9_hold_85 : decode cX9_hold 85 = .ok (.putfield 177, 3) := by decide +kernel
theorem dX9_hold_88 : decode cX9_hold 88 = .ok (.aload_n 0, 1) := by decide +kernel
theorem dX9_hold_89 : decode cX9_hold 89 = .ok (.getfield 10, 3) := by decide +kernel
theorem dX9_hold_92 : decode cX9_hold 92 = .ok (.dup, 1) := by decide +kernel
theorem dX9_hold_93 : decode cX9_hold 93 = .ok (.getfield 167, 3) := by decide +kernel
theorem dX9_hold_96 : decode cX9_hold 96 = .ok (.iconst 1, 1) := by decide +kernel
theorem dX9_hold_97 : decode cX9_hold 97 = .ok (.iadd, 1) := by decide +kernel
theorem dX9_hold_98 : decode cX9_hold 98 = .ok (.putfield 167, 3) := by decide +kernel
theorem dX9_hold_101 : decode cX9_hold 101 = .ok (.aload_n 0, 1) := by decide +kernel
theorem dX9_hold_102 : decode cX9_hold 102 = .ok (.getfield 57, 3) := by decide +kernel
theorem dX9_hold_105 : decode cX9_hold 105 = .ok (.invokevirtual 158, 3) := by decide +kernel
theorem dX9_hold_108 : decode cX9_hold 108 = .ok (.ireturn, 1) := by decide +kernel
theorem dX9_warmest_0 : decode cX9_warmest 0 = .ok (.iload_n 1, 1) := by decide +kernel
theorem dX9_warmest_1 : decode cX9_warmest 1 = .ok (.ifCond .lt 8, 3) := by decide +kernel
theorem dX9_warmest_4 : decode cX9_warmest 4 = .ok (.iload_n 1, 1) := by decide +kernel
theorem dX9_warmest_5 : decode cX9_warmest 5 = .ok (.iconst 1, 1) := by decide +kernel
theorem dX9_warmest_6 : decode cX9_warmest 6 = .ok (.if_icmp .le 6, 3) := by decide +kernel
theorem dX9_warmest_9 : decode cX9_warmest 9 = .ok (.bipush (-2), 2) := by decide +kernel
theorem dX9_warmest_11 : decode cX9_warmest 11 = .ok (.ireturn, 1) := by decide +kernel
theorem dX9_warmest_12 : decode cX9_warmest 12 = .ok (.aload_n 0, 1) := by decide +kernel
theorem dX9_warmest_13 : decode cX9_warmest 13 = .ok (.getfield 66, 3) := by decide +kernel
theorem dX9_warmest_16 : decode cX9_warmest 16 = .ok (.iconst (-1), 1) := by decide +kernel
theorem dX9_warmest_17 : decode cX9_warmest 17 = .ok (.invokevirtual 180, 3) := by decide +kernel
theorem dX9_warmest_20 : decode cX9_warmest 20 = .ok (.iload_n 1, 1) := by decide +kernel
theorem dX9_warmest_21 : decode cX9_warmest 21 = .ok (.ifCond .ne 13, 3) := by decide +kernel
theorem dX9_warmest_24 : decode cX9_warmest 24 = .ok (.aload_n 0, 1) := by decide +kernel
theorem dX9_warmest_25 : decode cX9_warmest 25 = .ok (.getfield 66, 3) := by decide +kernel
theorem dX9_warmest_28 : decode cX9_warmest 28 = .ok (.getfield 183, 3) := by decide +kernel
theorem dX9_warmest_31 : decode cX9_warmest 31 = .ok (.goto 10, 3) := by decide +kernel
theorem dX9_warmest_34 : decode cX9_warmest 34 = .ok (.aload_n 0, 1) := by decide +kernel
theorem dX9_warmest_35 : decode cX9_warmest 35 = .ok (.getfield 66, 3) := by decide +kernel
theorem dX9_warmest_38 : decode cX9_warmest 38 = .ok (.getfield 186, 3) := by decide +kernel
theorem dX9_warmest_41 : decode cX9_warmest 41 = .ok (.ireturn, 1) := by decide +kernel
theorem dX9_soonest_0 : decode cX9_soonest 0 = .ok (.iload_n 1, 1) := by decide +kernel
theorem dX9_soonest_1 : decode cX9_soonest 1 = .ok (.ifCond .lt 8, 3) := by decide +kernel
theorem dX9_soonest_4 : decode cX9_soonest 4 = .ok (.iload_n 1, 1) := by decide +kernel
theorem dX9_soonest_5 : decode cX9_soonest 5 = .ok (.iconst 3, 1) := by decide +kernel
theorem dX9_soonest_6 : decode cX9_soonest 6 = .ok (.if_icmp .le 6, 3) := by decide +kernel
theorem dX9_soonest_9 : decode cX9_soonest 9 = .ok (.bipush (-2), 2) := by decide +kernel
theorem dX9_soonest_11 : decode cX9_soonest 11 = .ok (.ireturn, 1) := by decide +kernel
theorem dX9_soonest_12 : decode cX9_soonest 12 = .ok (.aload_n 0, 1) := by decide +kernel
theorem dX9_soonest_13 : decode cX9_soonest 13 = .ok (.getfield 66, 3) := by decide +kernel
theorem dX9_soonest_16 : decode cX9_soonest 16 = .ok (.invokevirtual 187, 3) := by decide +kernel
theorem dX9_soonest_19 : decode cX9_soonest 19 = .ok (.iload_n 1, 1) := by decide +kernel
theorem dX9_soonest_20 : decode cX9_soonest 20 = .ok (.tableswitch 52 0 2 #[28, 36, 44], 28) := by decide +kernel
theorem dX9_soonest_48 : decode cX9_soonest 48 = .ok (.aload_n 0, 1) := by decide +kernel
theorem dX9_soonest_49 : decode cX9_soonest 49 = .ok (.getfield 66, 3) := by decide +kernel
theorem dX9_soonest_52 : decode cX9_soonest 52 = .ok (.getfield 183, 3) := by decide +kernel
theorem dX9_soonest_55 : decode cX9_soonest 55 = .ok (.ireturn, 1) := by decide +kernel
theorem dX9_soonest_56 : decode cX9_soonest 56 = .ok (.aload_n 0, 1) := by decide +kernel
theorem dX9_soonest_57 : decode cX9_soonest 57 = .ok (.getfield 66, 3) := by decide +kernel
theorem dX9_soonest_60 : decode cX9_soonest 60 = .ok (.getfield 190, 3) := by decide +kernel
theorem dX9_soonest_63 : decode cX9_soonest 63 = .ok (.ireturn, 1) := by decide +kernel
theorem dX9_soonest_64 : decode cX9_soonest 64 = .ok (.aload_n 0, 1) := by decide +kernel
theorem dX9_soonest_65 : decode cX9_soonest 65 = .ok (.getfield 66, 3) := by decide +kernel
theorem dX9_soonest_68 : decode cX9_soonest 68 = .ok (.getfield 193, 3) := by decide +kernel
theorem dX9_soonest_71 : decode cX9_soonest 71 = .ok (.ireturn, 1) := by decide +kernel
theorem dX9_soonest_72 : decode cX9_soonest 72 = .ok (.aload_n 0, 1) := by decide +kernel
theorem dX9_soonest_73 : decode cX9_soonest 73 = .ok (.getfield 66, 3) := by decide +kernel
theorem dX9_soonest_76 : decode cX9_soonest 76 = .ok (.getfield 190, 3) := by decide +kernel
theorem dX9_soonest_79 : decode cX9_soonest 79 = .ok (.iconst (-1), 1) := by decide +kernel
theorem dX9_soonest_80 : decode cX9_soonest 80 = .ok (.if_icmp .ne 7, 3) := by decide +kernel
theorem dX9_soonest_83 : decode cX9_soonest 83 = .ok (.iconst (-1), 1) := by decide +kernel
theorem dX9_soonest_84 : decode cX9_soonest 84 = .ok (.goto 12, 3) := by decide +kernel
theorem dX9_soonest_87 : decode cX9_soonest 87 = .ok (.aload_n 0, 1) := by decide +kernel
theorem dX9_soonest_88 : decode cX9_soonest 88 = .ok (.getfield 66, 3) := by decide +kernel
theorem dX9_soonest_91 : decode cX9_soonest 91 = .ok (.getfield 190, 3) := by decide +kernel
theorem dX9_soonest_94 : decode cX9_soonest 94 = .ok (.iconst 1, 1) := by decide +kernel
theorem dX9_soonest_95 : decode cX9_soonest 95 = .ok (.iadd, 1) := by decide +kernel
theorem dX9_soonest_96 : decode cX9_soonest 96 = .ok (.ireturn, 1) := by decide +kernel
theorem dX9_ratherNot_0 : decode cX9_ratherNot 0 = .ok (.iload_n 1, 1) := by decide +kernel
theorem dX9_ratherNot_1 : decode cX9_ratherNot 1 = .ok (.ifCond .lt 8, 3) := by decide +kernel
theorem dX9_ratherNot_4 : decode cX9_ratherNot 4 = .ok (.iload_n 1, 1) := by decide +kernel
theorem dX9_ratherNot_5 : decode cX9_ratherNot 5 = .ok (.iconst 1, 1) := by decide +kernel
theorem dX9_ratherNot_6 : decode cX9_ratherNot 6 = .ok (.if_icmp .le 6, 3) := by decide +kernel
theorem dX9_ratherNot_9 : decode cX9_ratherNot 9 = .ok (.bipush (-2), 2) := by decide +kernel
theorem dX9_ratherNot_11 : decode cX9_ratherNot 11 = .ok (.ireturn, 1) := by decide +kernel
theorem dX9_ratherNot_12 : decode cX9_ratherNot 12 = .ok (.aload_n 0, 1) := by decide +kernel
theorem dX9_ratherNot_13 : decode cX9_ratherNot 13 = .ok (.getfield 66, 3) := by decide +kernel
theorem dX9_ratherNot_16 : decode cX9_ratherNot 16 = .ok (.iconst (-1), 1) := by decide +kernel
theorem dX9_ratherNot_17 : decode cX9_ratherNot 17 = .ok (.invokevirtual 180, 3) := by decide +kernel
theorem dX9_ratherNot_20 : decode cX9_ratherNot 20 = .ok (.aload_n 0, 1) := by decide +kernel
theorem dX9_ratherNot_21 : decode cX9_ratherNot 21 = .ok (.getfield 66, 3) := by decide +kernel
theorem dX9_ratherNot_24 : decode cX9_ratherNot 24 = .ok (.getfield 186, 3) := by decide +kernel
theorem dX9_ratherNot_27 : decode cX9_ratherNot 27 = .ok (.istore_n 2, 1) := by decide +kernel
theorem dX9_ratherNot_28 : decode cX9_ratherNot 28 = .ok (.iconst (-1), 1) := by decide +kernel
theorem dX9_ratherNot_29 : decode cX9_ratherNot 29 = .ok (.istore_n 3, 1) := by decide +kernel
theorem dX9_ratherNot_30 : decode cX9_ratherNot 30 = .ok (.iconst 0, 1) := by decide +kernel
theorem dX9_ratherNot_31 : decode cX9_ratherNot 31 = .ok (.istore 4, 2) := by decide +kernel
theorem dX9_ratherNot_33 : decode cX9_ratherNot 33 = .ok (.iload 4, 2) := by decide +kernel
theorem dX9_ratherNot_35 : decode cX9_ratherNot 35 = .ok (.aload_n 0, 1) := by decide +kernel
theorem dX9_ratherNot_36 : decode cX9_ratherNot 36 = .ok (.getfield 10, 3) := by decide +kernel
theorem dX9_ratherNot_39 : decode cX9_ratherNot 39 = .ok (.getfield 196, 3) := by decide +kernel
theorem dX9_ratherNot_42 : decode cX9_ratherNot 42 = .ok (.if_icmp .ge 40, 3) := by decide +kernel
theorem dX9_ratherNot_45 : decode cX9_ratherNot 45 = .ok (.aload_n 0, 1) := by decide +kernel
theorem dX9_ratherNot_46 : decode cX9_ratherNot 46 = .ok (.getfield 66, 3) := by decide +kernel
theorem dX9_ratherNot_49 : decode cX9_ratherNot 49 = .ok (.iload 4, 2) := by decide +kernel
theorem dX9_ratherNot_51 : decode cX9_ratherNot 51 = .ok (.invokevirtual 180, 3) := by decide +kernel
theorem dX9_ratherNot_54 : decode cX9_ratherNot 54 = .ok (.aload_n 0, 1) := by decide +kernel
theorem dX9_ratherNot_55 : decode cX9_ratherNot 55 = .ok (.getfield 66, 3) := by decide +kernel
theorem dX9_ratherNot_58 : decode cX9_ratherNot 58 = .ok (.getfield 186, 3) := by decide +kernel
theorem dX9_ratherNot_61 : decode cX9_ratherNot 61 = .ok (.iload_n 2, 1) := by decide +kernel
theorem dX9_ratherNot_62 : decode cX9_ratherNot 62 = .ok (.if_icmp .le 14, 3) := by decide +kernel
theorem dX9_ratherNot_65 : decode cX9_ratherNot 65 = .ok (.aload_n 0, 1) := by decide +kernel
theorem dX9_ratherNot_66 : decode cX9_ratherNot 66 = .ok (.getfield 66, 3) := by decide +kernel
theorem dX9_ratherNot_69 : decode cX9_ratherNot 69 = .ok (.getfield 186, 3) := by decide +kernel
theorem dX9_ratherNot_72 : decode cX9_ratherNot 72 = .ok (.istore_n 2, 1) := by decide +kernel
theorem dX9_ratherNot_73 : decode cX9_ratherNot 73 = .ok (.iload 4, 2) := by decide +kernel
theorem dX9_ratherNot_75 : decode cX9_ratherNot 75 = .ok (.istore_n 3, 1) := by decide +kernel
theorem dX9_ratherNot_76 : decode cX9_ratherNot 76 = .ok (.iinc 4 1, 3) := by decide +kernel
theorem dX9_ratherNot_79 : decode cX9_ratherNot 79 = .ok (.goto (-46), 3) := by decide +kernel
theorem dX9_ratherNot_82 : decode cX9_ratherNot 82 = .ok (.iload_n 1, 1) := by decide +kernel
theorem dX9_ratherNot_83 : decode cX9_ratherNot 83 = .ok (.ifCond .ne 7, 3) := by decide +kernel
theorem dX9_ratherNot_86 : decode cX9_ratherNot 86 = .ok (.iload_n 3, 1) := by decide +kernel
theorem dX9_ratherNot_87 : decode cX9_ratherNot 87 = .ok (.goto 4, 3) := by decide +kernel
theorem dX9_ratherNot_90 : decode cX9_ratherNot 90 = .ok (.iload_n 2, 1) := by decide +kernel
theorem dX9_ratherNot_91 : decode cX9_ratherNot 91 = .ok (.ireturn, 1) := by decide +kernel
theorem dX9_topic_0 : decode cX9_topic 0 = .ok (.aload_n 0, 1) := by decide +kernel
theorem dX9_topic_1 : decode cX9_topic 1 = .ok (.getfield 10, 3) := by decide +kernel
theorem dX9_topic_4 : decode cX9_topic 4 = .ok (.iload_n 1, 1) := by decide +kernel
theorem dX9_topic_5 : decode cX9_topic 5 = .ok (.invokevirtual 101, 3) := by decide +kernel
theorem dX9_topic_8 : decode cX9_topic 8 = .ok (.ifCond .eq 12, 3) := by decide +kernel
theorem dX9_topic_11 : decode cX9_topic 11 = .ok (.iload_n 2, 1) := by decide +kernel
theorem dX9_topic_12 : decode cX9_topic 12 = .ok (.ifCond .lt 8, 3) := by decide +kernel
theorem dX9_topic_15 : decode cX9_topic 15 = .ok (.iload_n 2, 1) := by decide +kernel
theorem dX9_topic_16 : decode cX9_topic 16 = .ok (.iconst 1, 1) := by decide +kernel
theorem dX9_topic_17 : decode cX9_topic 17 = .ok (.if_icmp .le 6, 3) := by decide +kernel
theorem dX9_topic_20 : decode cX9_topic 20 = .ok (.bipush (-2), 2) := by decide +kernel
theorem dX9_topic_22 : decode cX9_topic 22 = .ok (.ireturn, 1) := by decide +kernel
theorem dX9_topic_23 : decode cX9_topic 23 = .ok (.aload_n 0, 1) := by decide +kernel
theorem dX9_topic_24 : decode cX9_topic 24 = .ok (.getfield 10, 3) := by decide +kernel
theorem dX9_topic_27 : decode cX9_topic 27 = .ok (.iconst 4, 1) := by decide +kernel
theorem dX9_topic_28 : decode cX9_topic 28 = .ok (.iload_n 1, 1) := by decide +kernel
theorem dX9_topic_29 : decode cX9_topic 29 = .ok (.invokevirtual 105, 3) := by decide +kernel
theorem dX9_topic_32 : decode cX9_topic 32 = .ok (.istore_n 3, 1) := by decide +kernel
theorem dX9_topic_33 : decode cX9_topic 33 = .ok (.iconst (-1), 1) := by decide +kernel
theorem dX9_topic_34 : decode cX9_topic 34 = .ok (.istore 4, 2) := by decide +kernel
theorem dX9_topic_36 : decode cX9_topic 36 = .ok (.iconst (-1), 1) := by decide +kernel
theorem dX9_topic_37 : decode cX9_topic 37 = .ok (.istore 5, 2) := by decide +kernel
theorem dX9_topic_39 : decode cX9_topic 39 = .ok (.iconst 0, 1) := by decide +kernel
theorem dX9_topic_40 : decode cX9_topic 40 = .ok (.istore 6, 2) := by decide +kernel
theorem dX9_topic_42 : decode cX9_topic 42 = .ok (.iload 6, 2) := by decide +kernel
theorem dX9_topic_44 : decode cX9_topic 44 = .ok (.getstatic 170, 3) := by decide +kernel
theorem dX9_topic_47 : decode cX9_topic 47 = .ok (.iconst 4, 1) := by decide +kernel
theorem dX9_topic_48 : decode cX9_topic 48 = .ok (.iaload, 1) := by decide +kernel
theorem dX9_topic_49 : decode cX9_topic 49 = .ok (.if_icmp .gt 53, 3) := by decide +kernel
theorem dX9_topic_52 : decode cX9_topic 52 = .ok (.aload_n 0, 1) := by decide +kernel
theorem dX9_topic_53 : decode cX9_topic 53 = .ok (.getfield 10, 3) := by decide +kernel
theorem dX9_topic_56 : decode cX9_topic 56 = .ok (.iconst 4, 1) := by decide +kernel
theorem dX9_topic_57 : decode cX9_topic 57 = .ok (.iload_n 1, 1) := by decide +kernel
theorem dX9_topic_58 : decode cX9_topic 58 = .ok (.iload 6, 2) := by decide +kernel
theorem dX9_topic_60 : decode cX9_topic 60 = .ok (.invokevirtual 109, 3) := by decide +kernel
theorem dX9_topic_63 : decode cX9_topic 63 = .ok (.aload_n 0, 1) := by decide +kernel
theorem dX9_topic_64 : decode cX9_topic 64 = .ok (.getfield 66, 3) := by decide +kernel
theorem dX9_topic_67 : decode cX9_topic 67 = .ok (.iconst (-1), 1) := by decide +kernel
theorem dX9_topic_68 : decode cX9_topic 68 = .ok (.invokevirtual 180, 3) := by decide +kernel
theorem dX9_topic_71 : decode cX9_topic 71 = .ok (.aload_n 0, 1) := by decide +kernel
theorem dX9_topic_72 : decode cX9_topic 72 = .ok (.getfield 66, 3) := by decide +kernel
theorem dX9_topic_75 : decode cX9_topic 75 = .ok (.getfield 186, 3) := by decide +kernel
theorem dX9_topic_78 : decode cX9_topic 78 = .ok (.iload 4, 2) := by decide +kernel
theorem dX9_topic_80 : decode cX9_topic 80 = .ok (.if_icmp .le 16, 3) := by decide +kernel
theorem dX9_topic_83 : decode cX9_topic 83 = .ok (.aload_n 0, 1) := by decide +kernel
theorem dX9_topic_84 : decode cX9_topic 84 = .ok (.getfield 66, 3) := by decide +kernel
theorem dX9_topic_87 : decode cX9_topic 87 = .ok (.getfield 186, 3) := by decide +kernel
theorem dX9_topic_90 : decode cX9_topic 90 = .ok (.istore 4, 2) := by decide +kernel
theorem dX9_topic_92 : decode cX9_topic 92 = .ok (.iload 6, 2) := by decide +kernel
theorem dX9_topic_94 : decode cX9_topic 94 = .ok (.istore 5, 2) := by decide +kernel
theorem dX9_topic_96 : decode cX9_topic 96 = .ok (.iinc 6 1, 3) := by decide +kernel
theorem dX9_topic_99 : decode cX9_topic 99 = .ok (.goto (-57), 3) := by decide +kernel
theorem dX9_topic_102 : decode cX9_topic 102 = .ok (.aload_n 0, 1) := by decide +kernel
theorem dX9_topic_103 : decode cX9_topic 103 = .ok (.getfield 10, 3) := by decide +kernel
theorem dX9_topic_106 : decode cX9_topic 106 = .ok (.iconst 4, 1) := by decide +kernel
theorem dX9_topic_107 : decode cX9_topic 107 = .ok (.iload_n 1, 1) := by decide +kernel
theorem dX9_topic_108 : decode cX9_topic 108 = .ok (.iload_n 3, 1) := by decide +kernel
theorem dX9_topic_109 : decode cX9_topic 109 = .ok (.invokevirtual 109, 3) := by decide +kernel
theorem dX9_topic_112 : decode cX9_topic 112 = .ok (.iload_n 2, 1) := by decide +kernel
theorem dX9_topic_113 : decode cX9_topic 113 = .ok (.ifCond .ne 8, 3) := by decide +kernel
theorem dX9_topic_116 : decode cX9_topic 116 = .ok (.iload 5, 2) := by decide +kernel
theorem dX9_topic_118 : decode cX9_topic 118 = .ok (.goto 5, 3) := by decide +kernel
theorem dX9_topic_121 : decode cX9_topic 121 = .ok (.iload 4, 2) := by decide +kernel
theorem dX9_topic_123 : decode cX9_topic 123 = .ok (.ireturn, 1) := by decide +kernel
theorem dX9_turns_0 : decode cX9_turns 0 = .ok (.iload_n 1, 1) := by decide +kernel
theorem dX9_turns_1 : decode cX9_turns 1 = .ok (.ifCond .lt 8, 3) := by decide +kernel
theorem dX9_turns_4 : decode cX9_turns 4 = .ok (.iload_n 1, 1) := by decide +kernel
theorem dX9_turns_5 : decode cX9_turns 5 = .ok (.iconst 1, 1) := by decide +kernel
theorem dX9_turns_6 : decode cX9_turns 6 = .ok (.if_icmp .le 6, 3) := by decide +kernel
theorem dX9_turns_9 : decode cX9_turns 9 = .ok (.bipush (-2), 2) := by decide +kernel
theorem dX9_turns_11 : decode cX9_turns 11 = .ok (.ireturn, 1) := by decide +kernel
theorem dX9_turns_12 : decode cX9_turns 12 = .ok (.aload_n 0, 1) := by decide +kernel
theorem dX9_turns_13 : decode cX9_turns 13 = .ok (.getfield 66, 3) := by decide +kernel
theorem dX9_turns_16 : decode cX9_turns 16 = .ok (.invokevirtual 199, 3) := by decide +kernel
theorem dX9_turns_19 : decode cX9_turns 19 = .ok (.iload_n 1, 1) := by decide +kernel
theorem dX9_turns_20 : decode cX9_turns 20 = .ok (.ifCond .ne 13, 3) := by decide +kernel
theorem dX9_turns_23 : decode cX9_turns 23 = .ok (.aload_n 0, 1) := by decide +kernel
theorem dX9_turns_24 : decode cX9_turns 24 = .ok (.getfield 66, 3) := by decide +kernel
theorem dX9_turns_27 : decode cX9_turns 27 = .ok (.getfield 186, 3) := by decide +kernel
theorem dX9_turns_30 : decode cX9_turns 30 = .ok (.goto 10, 3) := by decide +kernel
theorem dX9_turns_33 : decode cX9_turns 33 = .ok (.aload_n 0, 1) := by decide +kernel
theorem dX9_turns_34 : decode cX9_turns 34 = .ok (.getfield 66, 3) := by decide +kernel
theorem dX9_turns_37 : decode cX9_turns 37 = .ok (.getfield 202, 3) := by decide +kernel
theorem dX9_turns_40 : decode cX9_turns 40 = .ok (.ireturn, 1) := by decide +kernel
theorem dX9_tells_0 : decode cX9_tells 0 = .ok (.aload_n 0, 1) := by decide +kernel
theorem dX9_tells_1 : decode cX9_tells 1 = .ok (.iload_n 1, 1) := by decide +kernel
theorem dX9_tells_2 : decode cX9_tells 2 = .ok (.invokevirtual 141, 3) := by decide +kernel
theorem dX9_tells_5 : decode cX9_tells 5 = .ok (.astore_n 3, 1) := by decide +kernel
theorem dX9_tells_6 : decode cX9_tells 6 = .ok (.aload_n 3, 1) := by decide +kernel
theorem dX9_tells_7 : decode cX9_tells 7 = .ok (.ifnull 11, 3) := by decide +kernel
theorem dX9_tells_10 : decode cX9_tells 10 = .ok (.aload_n 0, 1) := by decide +kernel
theorem dX9_tells_11 : decode cX9_tells 11 = .ok (.iload_n 2, 1) := by decide +kernel
theorem dX9_tells_12 : decode cX9_tells 12 = .ok (.invokevirtual 205, 3) := by decide +kernel
theorem dX9_tells_15 : decode cX9_tells 15 = .ok (.ifCond .ne 6, 3) := by decide +kernel
theorem dX9_tells_18 : decode cX9_tells 18 = .ok (.bipush (-2), 2) := by decide +kernel
theorem dX9_tells_20 : decode cX9_tells 20 = .ok (.ireturn, 1) := by decide +kernel
theorem dX9_tells_21 : decode cX9_tells 21 = .ok (.aload_n 3, 1) := by decide +kernel
theorem dX9_tells_22 : decode cX9_tells 22 = .ok (.invokevirtual 145, 3) := by decide +kernel
theorem dX9_tells_25 : decode cX9_tells 25 = .ok (.ifCond .eq 6, 3) := by decide +kernel
theorem dX9_tells_28 : decode cX9_tells 28 = .ok (.bipush (-11), 2) := by decide +kernel
theorem dX9_tells_30 : decode cX9_tells 30 = .ok (.ireturn, 1) := by decide +kernel
theorem dX9_tells_31 : decode cX9_tells 31 = .ok (.aload_n 3, 1) := by decide +kernel
theorem dX9_tells_32 : decode cX9_tells 32 = .ok (.getfield 161, 3) := by decide +kernel
theorem dX9_tells_35 : decode cX9_tells 35 = .ok (.aload_n 0, 1) := by decide +kernel
theorem dX9_tells_36 : decode cX9_tells 36 = .ok (.getfield 10, 3) := by decide +kernel
theorem dX9_tells_39 : decode cX9_tells 39 = .ok (.getfield 196, 3) := by decide +kernel
theorem dX9_tells_42 : decode cX9_tells 42 = .ok (.if_icmp .eq 6, 3) := by decide +kernel
theorem dX9_tells_45 : decode cX9_tells 45 = .ok (.bipush (-2), 2) := by decide +kernel
theorem dX9_tells_47 : decode cX9_tells 47 = .ok (.ireturn, 1) := by decide +kernel
theorem dX9_tells_48 : decode cX9_tells 48 = .ok (.iload_n 2, 1) := by decide +kernel
theorem dX9_tells_49 : decode cX9_tells 49 = .ok (.bipush 10, 2) := by decide +kernel
theorem dX9_tells_51 : decode cX9_tells 51 = .ok (.if_icmp .lt 20, 3) := by decide +kernel
theorem dX9_tells_54 : decode cX9_tells 54 = .ok (.aload_n 0, 1) := by decide +kernel
theorem dX9_tells_55 : decode cX9_tells 55 = .ok (.getfield 73, 3) := by decide +kernel
theorem dX9_tells_58 : decode cX9_tells 58 = .ok (.aload_n 3, 1) := by decide +kernel
theorem dX9_tells_59 : decode cX9_tells 59 = .ok (.iload_n 2, 1) := by decide +kernel
theorem dX9_tells_60 : decode cX9_tells 60 = .ok (.bipush 10, 2) := by decide +kernel
theorem dX9_tells_62 : decode cX9_tells 62 = .ok (.idiv, 1) := by decide +kernel
theorem dX9_tells_63 : decode cX9_tells 63 = .ok (.iload_n 2, 1) := by decide +kernel
theorem dX9_tells_64 : decode cX9_tells 64 = .ok (.bipush 10, 2) := by decide +kernel
theorem dX9_tells_66 : decode cX9_tells 66 = .ok (.irem, 1) := by decide +kernel
theorem dX9_tells_67 : decode cX9_tells 67 = .ok (.invokevirtual 208, 3) := by decide +kernel
theorem dX9_tells_70 : decode cX9_tells 70 = .ok (.ireturn, 1) := by decide +kernel
theorem dX9_tells_71 : decode cX9_tells 71 = .ok (.iload_n 2, 1) := by decide +kernel
theorem dX9_tells_72 : decode cX9_tells 72 = .ok (.lookupswitch 53 #[(3, 28), (4, 37)], 28) := by decide +kernel
theorem dX9_tells_100 : decode cX9_tells 100 = .ok (.aload_n 0, 1) := by decide +kernel
theorem dX9_tells_101 : decode cX9_tells 101 = .ok (.getfield 73, 3) := by decide +kernel
theorem dX9_tells_104 : decode cX9_tells 104 = .ok (.aload_n 3, 1) := by decide +kernel
theorem dX9_tells_105 : decode cX9_tells 105 = .ok (.invokevirtual 212, 3) := by decide +kernel
theorem dX9_tells_108 : decode cX9_tells 108 = .ok (.ireturn, 1) := by decide +kernel
theorem dX9_tells_109 : decode cX9_tells 109 = .ok (.aload_n 0, 1) := by decide +kernel
theorem dX9_tells_110 : decode cX9_tells 110 = .ok (.getfield 73, 3) := by decide +kernel
theorem dX9_tells_113 : decode cX9_tells 113 = .ok (.aload_n 3, 1) := by decide +kernel
theorem dX9_tells_114 : decode cX9_tells 114 = .ok (.aload_n 0, 1) := by decide +kernel
theorem dX9_tells_115 : decode cX9_tells 115 = .ok (.getfield 33, 3) := by decide +kernel
theorem dX9_tells_118 : decode cX9_tells 118 = .ok (.getfield 134, 3) := by decide +kernel
theorem dX9_tells_121 : decode cX9_tells 121 = .ok (.invokevirtual 216, 3) := by decide +kernel
theorem dX9_tells_124 : decode cX9_tells 124 = .ok (.ireturn, 1) := by decide +kernel
theorem dX9_tells_125 : decode cX9_tells 125 = .ok (.aload_n 0, 1) := by decide +kernel
theorem dX9_tells_126 : decode cX9_tells 126 = .ok (.getfield 73, 3) := by decide +kernel
theorem dX9_tells_129 : decode cX9_tells 129 = .ok (.aload_n 3, 1) := by decide +kernel
theorem dX9_tells_130 : decode cX9_tells 130 = .ok (.invokevirtual 220, 3) := by decide +kernel
theorem dX9_tells_133 : decode cX9_tells 133 = .ok (.iload_n 2, 1) := by decide +kernel
theorem dX9_tells_134 : decode cX9_tells 134 = .ok (.ifCond .ne 13, 3) := by decide +kernel
theorem dX9_tells_137 : decode cX9_tells 137 = .ok (.aload_n 0, 1) := by decide +kernel
theorem dX9_tells_138 : decode cX9_tells 138 = .ok (.getfield 73, 3) := by decide +kernel
theorem dX9_tells_141 : decode cX9_tells 141 = .ok (.getfield 224, 3) := by decide +kernel
theorem dX9_tells_144 : decode cX9_tells 144 = .ok (.goto 25, 3) := by decide +kernel
theorem dX9_tells_147 : decode cX9_tells 147 = .ok (.iload_n 2, 1) := by decide +kernel
theorem dX9_tells_148 : decode cX9_tells 148 = .ok (.iconst 1, 1) := by decide +kernel
theorem dX9_tells_149 : decode cX9_tells 149 = .ok (.if_icmp .ne 13, 3) := by decide +kernel
theorem dX9_tells_152 : decode cX9_tells 152 = .ok (.aload_n 0, 1) := by decide +kernel
theorem dX9_tells_153 : decode cX9_tells 153 = .ok (.getfield 73, 3) := by decide +kernel
theorem dX9_tells_156 : decode cX9_tells 156 = .ok (.getfield 227, 3) := by decide +kernel
theorem dX9_tells_159 : decode cX9_tells 159 = .ok (.goto 10, 3) := by decide +kernel
theorem dX9_tells_162 : decode cX9_tells 162 = .ok (.aload_n 0, 1) := by decide +kernel
theorem dX9_tells_163 : decode cX9_tells 163 = .ok (.getfield 73, 3) := by decide +kernel
theorem dX9_tells_166 : decode cX9_tells 166 = .ok (.getfield 230, 3) := by decide +kernel
theorem dX9_tells_169 : decode cX9_tells 169 = .ok (.ireturn, 1) := by decide +kernel
theorem dX9_film_0 : decode cX9_film 0 = .ok (.aload_n 0, 1) := by decide +kernel
theorem dX9_film_1 : decode cX9_film 1 = .ok (.iload_n 1, 1) := by decide +kernel
theorem dX9_film_2 : decode cX9_film 2 = .ok (.invokevirtual 141, 3) := by decide +kernel
theorem dX9_film_5 : decode cX9_film 5 = .ok (.astore_n 2, 1) := by decide +kernel
theorem dX9_film_6 : decode cX9_film 6 = .ok (.aload_n 2, 1) := by decide +kernel
theorem dX9_film_7 : decode cX9_film 7 = .ok (.ifnonnull 6, 3) := by decide +kernel
theorem dX9_film_10 : decode cX9_film 10 = .ok (.bipush (-2), 2) := by decide +kernel
theorem dX9_film_12 : decode cX9_film 12 = .ok (.ireturn, 1) := by decide +kernel
theorem dX9_film_13 : decode cX9_film 13 = .ok (.aload_n 0, 1) := by decide +kernel
theorem dX9_film_14 : decode cX9_film 14 = .ok (.getfield 57, 3) := by decide +kernel
theorem dX9_film_17 : decode cX9_film 17 = .ok (.invokevirtual 233, 3) := by decide +kernel
theorem dX9_film_20 : decode cX9_film 20 = .ok (.aload_n 2, 1) := by decide +kernel
theorem dX9_film_21 : decode cX9_film 21 = .ok (.iconst 0, 1) := by decide +kernel
theorem dX9_film_22 : decode cX9_film 22 = .ok (.aload_n 0, 1) := by decide +kernel
theorem dX9_film_23 : decode cX9_film 23 = .ok (.getfield 10, 3) := by decide +kernel
theorem dX9_film_26 : decode cX9_film 26 = .ok (.getfield 196, 3) := by decide +kernel
theorem dX9_film_29 : decode cX9_film 29 = .ok (.invokevirtual 236, 3) := by decide +kernel
theorem dX9_film_32 : decode cX9_film 32 = .ok (.iconst 0, 1) := by decide +kernel
theorem dX9_film_33 : decode cX9_film 33 = .ok (.istore_n 3, 1) := by decide +kernel
theorem dX9_film_34 : decode cX9_film 34 = .ok (.iload_n 3, 1) := by decide +kernel
theorem dX9_film_35 : decode cX9_film 35 = .ok (.aload_n 2, 1) := by decide +kernel
theorem dX9_film_36 : decode cX9_film 36 = .ok (.getfield 161, 3) := by decide +kernel
theorem dX9_film_39 : decode cX9_film 39 = .ok (.if_icmp .ge 22, 3) := by decide +kernel
theorem dX9_film_42 : decode cX9_film 42 = .ok (.aload_n 2, 1) := by decide +kernel
theorem dX9_film_43 : decode cX9_film 43 = .ok (.iload_n 3, 1) := by decide +kernel
theorem dX9_film_44 : decode cX9_film 44 = .ok (.aload_n 0, 1) := by decide +kernel
theorem dX9_film_45 : decode cX9_film 45 = .ok (.getfield 57, 3) := by decide +kernel
theorem dX9_film_48 : decode cX9_film 48 = .ok (.iload_n 3, 1) := by decide +kernel
theorem dX9_film_49 : decode cX9_film 49 = .ok (.invokevirtual 164, 3) := by decide +kernel
theorem dX9_film_52 : decode cX9_film 52 = .ok (.invokevirtual 240, 3) := by decide +kernel
theorem dX9_film_55 : decode cX9_film 55 = .ok (.iinc 3 1, 3) := by decide +kernel
theorem dX9_film_58 : decode cX9_film 58 = .ok (.goto (-24), 3) := by decide +kernel
theorem dX9_film_61 : decode cX9_film 61 = .ok (.aload_n 2, 1) := by decide +kernel
theorem dX9_film_62 : decode cX9_film 62 = .ok (.getfield 161, 3) := by decide +kernel
theorem dX9_film_65 : decode cX9_film 65 = .ok (.ireturn, 1) := by decide +kernel
theorem dX9_drawn_0 : decode cX9_drawn 0 = .ok (.aload_n 0, 1) := by decide +kernel
theorem dX9_drawn_1 : decode cX9_drawn 1 = .ok (.getfield 73, 3) := by decide +kernel
theorem dX9_drawn_4 : decode cX9_drawn 4 = .ok (.iload_n 1, 1) := by decide +kernel
theorem dX9_drawn_5 : decode cX9_drawn 5 = .ok (.invokevirtual 243, 3) := by decide +kernel
theorem dX9_drawn_8 : decode cX9_drawn 8 = .ok (.aload_n 0, 1) := by decide +kernel
theorem dX9_drawn_9 : decode cX9_drawn 9 = .ok (.getfield 57, 3) := by decide +kernel
theorem dX9_drawn_12 : decode cX9_drawn 12 = .ok (.invokevirtual 152, 3) := by decide +kernel
theorem dX9_drawn_15 : decode cX9_drawn 15 = .ok (.ireturn, 1) := by decide +kernel
theorem dX9_chance_0 : decode cX9_chance 0 = .ok (.iload_n 2, 1) := by decide +kernel
theorem dX9_chance_1 : decode cX9_chance 1 = .ok (.iconst 1, 1) := by decide +kernel
theorem dX9_chance_2 : decode cX9_chance 2 = .ok (.if_icmp .lt 18, 3) := by decide +kernel
theorem dX9_chance_5 : decode cX9_chance 5 = .ok (.iload_n 2, 1) := by decide +kernel
theorem dX9_chance_6 : decode cX9_chance 6 = .ok (.bipush 20, 2) := by decide +kernel
theorem dX9_chance_8 : decode cX9_chance 8 = .ok (.if_icmp .gt 12, 3) := by decide +kernel
theorem dX9_chance_11 : decode cX9_chance 11 = .ok (.iload_n 3, 1) := by decide +kernel
theorem dX9_chance_12 : decode cX9_chance 12 = .ok (.ifCond .lt 8, 3) := by decide +kernel
theorem dX9_chance_15 : decode cX9_chance 15 = .ok (.iload_n 3, 1) := by decide +kernel
theorem dX9_chance_16 : decode cX9_chance 16 = .ok (.iconst 1, 1) := by decide +kernel
theorem dX9_chance_17 : decode cX9_chance 17 = .ok (.if_icmp .le 7, 3) := by decide +kernel
theorem dX9_chance_20 : decode cX9_chance 20 = .ok (.ldc2_w 246, 3) := by decide +kernel
theorem dX9_chance_23 : decode cX9_chance 23 = .ok (.lreturn, 1) := by decide +kernel
theorem dX9_chance_24 : decode cX9_chance 24 = .ok (.iconst 0, 1) := by decide +kernel
theorem dX9_chance_25 : decode cX9_chance 25 = .ok (.istore 4, 2) := by decide +kernel
theorem dX9_chance_27 : decode cX9_chance 27 = .ok (.iconst 0, 1) := by decide +kernel
theorem dX9_chance_28 : decode cX9_chance 28 = .ok (.istore 5, 2) := by decide +kernel
theorem dX9_chance_30 : decode cX9_chance 30 = .ok (.iload 5, 2) := by decide +kernel
theorem dX9_chance_32 : decode cX9_chance 32 = .ok (.iload_n 2, 1) := by decide +kernel
theorem dX9_chance_33 : decode cX9_chance 33 = .ok (.if_icmp .ge 33, 3) := by decide +kernel
theorem dX9_chance_36 : decode cX9_chance 36 = .ok (.aload_n 0, 1) := by decide +kernel
theorem dX9_chance_37 : decode cX9_chance 37 = .ok (.getfield 73, 3) := by decide +kernel
theorem dX9_chance_40 : decode cX9_chance 40 = .ok (.iload_n 1, 1) := by decide +kernel
theorem dX9_chance_41 : decode cX9_chance 41 = .ok (.iload 5, 2) := by decide +kernel
theorem dX9_chance_43 : decode cX9_chance 43 = .ok (.iadd, 1) := by decide +kernel
theorem dX9_chance_44 : decode cX9_chance 44 = .ok (.invokevirtual 243, 3) := by decide +kernel
theorem dX9_chance_47 : decode cX9_chance 47 = .ok (.aload_n 0, 1) := by decide +kernel
theorem dX9_chance_48 : decode cX9_chance 48 = .ok (.getfield 57, 3) := by decide +kernel
theorem dX9_chance_51 : decode cX9_chance 51 = .ok (.invokevirtual 158, 3) := by decide +kernel
theorem dX9_chance_54 : decode cX9_chance 54 = .ok (.ifCond .le 6, 3) := by decide +kernel
theorem dX9_chance_57 : decode cX9_chance 57 = .ok (.iinc 4 1, 3) := by decide +kernel
theorem dX9_chance_60 : decode cX9_chance 60 = .ok (.iinc 5 1, 3) := by decide +kernel
theorem dX9_chance_63 : decode cX9_chance 63 = .ok (.goto (-33), 3) := by decide +kernel
theorem dX9_chance_66 : decode cX9_chance 66 = .ok (.iload 4, 2) := by decide +kernel
theorem dX9_chance_68 : decode cX9_chance 68 = .ok (.iload_n 2, 1) := by decide +kernel
theorem dX9_chance_69 : decode cX9_chance 69 = .ok (.invokestatic 248, 3) := by decide +kernel
theorem dX9_chance_72 : decode cX9_chance 72 = .ok (.istore 5, 2) := by decide +kernel
theorem dX9_chance_74 : decode cX9_chance 74 = .ok (.iload 5, 2) := by decide +kernel
theorem dX9_chance_76 : decode cX9_chance 76 = .ok (.iconst 1, 1) := by decide +kernel
theorem dX9_chance_77 : decode cX9_chance 77 = .ok (.if_icmp .ge 7, 3) := by decide +kernel
theorem dX9_chance_80 : decode cX9_chance 80 = .ok (.ldc2_w 246, 3) := by decide +kernel
theorem dX9_chance_83 : decode cX9_chance 83 = .ok (.lreturn, 1) := by decide +kernel
theorem dX9_chance_84 : decode cX9_chance 84 = .ok (.iload_n 3, 1) := by decide +kernel
theorem dX9_chance_85 : decode cX9_chance 85 = .ok (.ifCond .ne 12, 3) := by decide +kernel
theorem dX9_chance_88 : decode cX9_chance 88 = .ok (.iload 4, 2) := by decide +kernel
theorem dX9_chance_90 : decode cX9_chance 90 = .ok (.iload 5, 2) := by decide +kernel
theorem dX9_chance_92 : decode cX9_chance 92 = .ok (.idiv, 1) := by decide +kernel
theorem dX9_chance_93 : decode cX9_chance 93 = .ok (.i2l, 1) := by decide +kernel
theorem dX9_chance_94 : decode cX9_chance 94 = .ok (.goto 8, 3) := by decide +kernel
theorem dX9_chance_97 : decode cX9_chance 97 = .ok (.iload_n 2, 1) := by decide +kernel
theorem dX9_chance_98 : decode cX9_chance 98 = .ok (.iload 5, 2) := by decide +kernel
theorem dX9_chance_100 : decode cX9_chance 100 = .ok (.idiv, 1) := by decide +kernel
theorem dX9_chance_101 : decode cX9_chance 101 = .ok (.i2l, 1) := by decide +kernel
theorem dX9_chance_102 : decode cX9_chance 102 = .ok (.lreturn, 1) := by decide +kernel
theorem dX9_image_0 : decode cX9_image 0 = .ok (.aload_n 0, 1) := by decide +kernel
theorem dX9_image_1 : decode cX9_image 1 = .ok (.getfield 16, 3) := by decide +kernel
theorem dX9_image_4 : decode cX9_image 4 = .ok (.aload_n 0, 1) := by decide +kernel
theorem dX9_image_5 : decode cX9_image 5 = .ok (.getfield 10, 3) := by decide +kernel
theorem dX9_image_8 : decode cX9_image 8 = .ok (.invokevirtual 251, 3) := by decide +kernel
theorem dX9_image_11 : decode cX9_image 11 = .ok (.aload_n 0, 1) := by decide +kernel
theorem dX9_image_12 : decode cX9_image 12 = .ok (.iconst 1, 1) := by decide +kernel
theorem dX9_image_13 : decode cX9_image 13 = .ok (.putfield 19, 3) := by decide +kernel
theorem dX9_image_16 : decode cX9_image 16 = .ok (.aload_n 0, 1) := by decide +kernel
theorem dX9_image_17 : decode cX9_image 17 = .ok (.getfield 10, 3) := by decide +kernel
theorem dX9_image_20 : decode cX9_image 20 = .ok (.getfield 196, 3) := by decide +kernel
theorem dX9_image_23 : decode cX9_image 23 = .ok (.ireturn, 1) := by decide +kernel
theorem dX9_back_0 : decode cX9_back 0 = .ok (.aload_n 0, 1) := by decide +kernel
theorem dX9_back_1 : decode cX9_back 1 = .ok (.getfield 19, 3) := by decide +kernel
theorem dX9_back_4 : decode cX9_back 4 = .ok (.ifCond .ne 6, 3) := by decide +kernel
theorem dX9_back_7 : decode cX9_back 7 = .ok (.bipush (-3), 2) := by decide +kernel
theorem dX9_back_9 : decode cX9_back 9 = .ok (.ireturn, 1) := by decide +kernel
theorem dX9_back_10 : decode cX9_back 10 = .ok (.aload_n 0, 1) := by decide +kernel
theorem dX9_back_11 : decode cX9_back 11 = .ok (.getfield 10, 3) := by decide +kernel
theorem dX9_back_14 : decode cX9_back 14 = .ok (.aload_n 0, 1) := by decide +kernel
theorem dX9_back_15 : decode cX9_back 15 = .ok (.getfield 16, 3) := by decide +kernel
theorem dX9_back_18 : decode cX9_back 18 = .ok (.invokevirtual 251, 3) := by decide +kernel
theorem dX9_back_21 : decode cX9_back 21 = .ok (.aload_n 0, 1) := by decide +kernel
theorem dX9_back_22 : decode cX9_back 22 = .ok (.getfield 10, 3) := by decide +kernel
theorem dX9_back_25 : decode cX9_back 25 = .ok (.getfield 196, 3) := by decide +kernel
theorem dX9_back_28 : decode cX9_back 28 = .ok (.ireturn, 1) := by decide +kernel
theorem dX9_count_0 : decode cX9_count 0 = .ok (.iload_n 1, 1) := by decide +kernel
theorem dX9_count_1 : decode cX9_count 1 = .ok (.tableswitch 99 0 6 #[43, 51, 59, 67, 75, 83, 91], 43) := by decide +kernel
theorem dX9_count_44 : decode cX9_count 44 = .ok (.aload_n 0, 1) := by decide +kernel
theorem dX9_count_45 : decode cX9_count 45 = .ok (.getfield 10, 3) := by decide +kernel
theorem dX9_count_48 : decode cX9_count 48 = .ok (.getfield 196, 3) := by decide +kernel
theorem dX9_count_51 : decode cX9_count 51 = .ok (.ireturn, 1) := by decide +kernel
theorem dX9_count_52 : decode cX9_count 52 = .ok (.aload_n 0, 1) := by decide +kernel
theorem dX9_count_53 : decode cX9_count 53 = .ok (.getfield 10, 3) := by decide +kernel
theorem dX9_count_56 : decode cX9_count 56 = .ok (.invokevirtual 255, 3) := by decide +kernel
theorem dX9_count_59 : decode cX9_count 59 = .ok (.ireturn, 1) := by decide +kernel
theorem dX9_count_60 : decode cX9_count 60 = .ok (.aload_n 0, 1) := by decide +kernel
theorem dX9_count_61 : decode cX9_count 61 = .ok (.getfield 10, 3) := by decide +kernel
theorem dX9_count_64 : decode cX9_count 64 = .ok (.getfield 177, 3) := by decide +kernel
theorem dX9_count_67 : decode cX9_count 67 = .ok (.ireturn, 1) := by decide +kernel
theorem dX9_count_68 : decode cX9_count 68 = .ok (.aload_n 0, 1) := by decide +kernel
theorem dX9_count_69 : decode cX9_count 69 = .ok (.getfield 10, 3) := by decide +kernel
theorem dX9_count_72 : decode cX9_count 72 = .ok (.getfield 167, 3) := by decide +kernel
theorem dX9_count_75 : decode cX9_count 75 = .ok (.ireturn, 1) := by decide +kernel
theorem dX9_count_76 : decode cX9_count 76 = .ok (.aload_n 0, 1) := by decide +kernel
theorem dX9_count_77 : decode cX9_count 77 = .ok (.getfield 33, 3) := by decide +kernel
theorem dX9_count_80 : decode cX9_count 80 = .ok (.getfield 134, 3) := by decide +kernel
theorem dX9_count_83 : decode cX9_count 83 = .ok (.ireturn, 1) := by decide +kernel
theorem dX9_count_84 : decode cX9_count 84 = .ok (.aload_n 0, 1) := by decide +kernel
theorem dX9_count_85 : decode cX9_count 85 = .ok (.getfield 26, 3) := by decide +kernel
theorem dX9_count_88 : decode cX9_count 88 = .ok (.getfield 258, 3) := by decide +kernel
theorem dX9_count_91 : decode cX9_count 91 = .ok (.ireturn, 1) := by decide +kernel
theorem dX9_count_92 : decode cX9_count 92 = .ok (.aload_n 0, 1) := by decide +kernel
theorem dX9_count_93 : decode cX9_count 93 = .ok (.getfield 10, 3) := by decide +kernel
theorem dX9_count_96 : decode cX9_count 96 = .ok (.getfield 138, 3) := by decide +kernel
theorem dX9_count_99 : decode cX9_count 99 = .ok (.ireturn, 1) := by decide +kernel
theorem dX9_count_100 : decode cX9_count 100 = .ok (.bipush (-2), 2) := by decide +kernel
theorem dX9_count_102 : decode cX9_count 102 = .ok (.ireturn, 1) := by decide +kernel
theorem dX9_sheet_0 : decode cX9_sheet 0 = .ok (.aload_n 0, 1) := by decide +kernel
theorem dX9_sheet_1 : decode cX9_sheet 1 = .ok (.iload_n 1, 1) := by decide +kernel
theorem dX9_sheet_2 : decode cX9_sheet 2 = .ok (.invokevirtual 141, 3) := by decide +kernel
theorem dX9_sheet_5 : decode cX9_sheet 5 = .ok (.astore 4, 2) := by decide +kernel
theorem dX9_sheet_7 : decode cX9_sheet 7 = .ok (.aload 4, 2) := by decide +kernel
theorem dX9_sheet_9 : decode cX9_sheet 9 = .ok (.ifnull 15, 3) := by decide +kernel
theorem dX9_sheet_12 : decode cX9_sheet 12 = .ok (.iload_n 2, 1) := by decide +kernel
theorem dX9_sheet_13 : decode cX9_sheet 13 = .ok (.iconst (-1), 1) := by decide +kernel
theorem dX9_sheet_14 : decode cX9_sheet 14 = .ok (.if_icmp .eq 13, 3) := by decide +kernel
theorem dX9_sheet_17 : decode cX9_sheet 17 = .ok (.iload_n 2, 1) := by decide +kernel
theorem dX9_sheet_18 : decode cX9_sheet 18 = .ok (.invokestatic 259, 3) := by decide +kernel
theorem dX9_sheet_21 : decode cX9_sheet 21 = .ok (.ifCond .ne 6, 3) := by decide +kernel
theorem dX9_sheet_24 : decode cX9_sheet 24 = .ok (.bipush (-2), 2) := by decide +kernel
theorem dX9_sheet_26 : decode cX9_sheet 26 = .ok (.ireturn, 1) := by decide +kernel
theorem dX9_sheet_27 : decode cX9_sheet 27 = .ok (.iload_n 2, 1) := by decide +kernel
theorem dX9_sheet_28 : decode cX9_sheet 28 = .ok (.iconst (-1), 1) := by decide +kernel
theorem dX9_sheet_29 : decode cX9_sheet 29 = .ok (.if_icmp .ne 12, 3) := by decide +kernel
theorem dX9_sheet_32 : decode cX9_sheet 32 = .ok (.aload 4, 2) := by decide +kernel
theorem dX9_sheet_34 : decode cX9_sheet 34 = .ok (.iconst (-1), 1) := by decide +kernel
theorem dX9_sheet_35 : decode cX9_sheet 35 = .ok (.iconst 0, 1) := by decide +kernel
theorem dX9_sheet_36 : decode cX9_sheet 36 = .ok (.invokevirtual 236, 3) := by decide +kernel
theorem dX9_sheet_39 : decode cX9_sheet 39 = .ok (.iconst 1, 1) := by decide +kernel
theorem dX9_sheet_40 : decode cX9_sheet 40 = .ok (.ireturn, 1) := by decide +kernel
theorem dX9_sheet_41 : decode cX9_sheet 41 = .ok (.iload_n 3, 1) := by decide +kernel
theorem dX9_sheet_42 : decode cX9_sheet 42 = .ok (.bipush 40, 2) := by decide +kernel
theorem dX9_sheet_44 : decode cX9_sheet 44 = .ok (.if_icmp .le 6, 3) := by decide +kernel
theorem dX9_sheet_47 : decode cX9_sheet 47 = .ok (.bipush (-2), 2) := by decide +kernel
theorem dX9_sheet_49 : decode cX9_sheet 49 = .ok (.ireturn, 1) := by decide +kernel
theorem dX9_sheet_50 : decode cX9_sheet 50 = .ok (.iload_n 3, 1) := by decide +kernel
theorem dX9_sheet_51 : decode cX9_sheet 51 = .ok (.ifCond .ge 6, 3) := by decide +kernel
theorem dX9_sheet_54 : decode cX9_sheet 54 = .ok (.bipush (-14), 2) := by decide +kernel
theorem dX9_sheet_56 : decode cX9_sheet 56 = .ok (.ireturn, 1) := by decide +kernel
theorem dX9_sheet_57 : decode cX9_sheet 57 = .ok (.aload 4, 2) := by decide +kernel
theorem dX9_sheet_59 : decode cX9_sheet 59 = .ok (.iload_n 2, 1) := by decide +kernel
theorem dX9_sheet_60 : decode cX9_sheet 60 = .ok (.iload_n 3, 1) := by decide +kernel
theorem dX9_sheet_61 : decode cX9_sheet 61 = .ok (.invokevirtual 236, 3) := by decide +kernel
theorem dX9_sheet_64 : decode cX9_sheet 64 = .ok (.iconst 1, 1) := by decide +kernel
theorem dX9_sheet_65 : decode cX9_sheet 65 = .ok (.ireturn, 1) := by decide +kernel
theorem dX9_cell_0 : decode cX9_cell 0 = .ok (.aload_n 0, 1) := by decide +kernel
theorem dX9_cell_1 : decode cX9_cell 1 = .ok (.iload_n 1, 1) := by decide +kernel
theorem dX9_cell_2 : decode cX9_cell 2 = .ok (.invokevirtual 141, 3) := by decide +kernel
theorem dX9_cell_5 : decode cX9_cell 5 = .ok (.astore 4, 2) := by decide +kernel
theorem dX9_cell_7 : decode cX9_cell 7 = .ok (.aload 4, 2) := by decide +kernel
theorem dX9_cell_9 : decode cX9_cell 9 = .ok (.ifnonnull 6, 3) := by decide +kernel
theorem dX9_cell_12 : decode cX9_cell 12 = .ok (.bipush (-2), 2) := by decide +kernel
theorem dX9_cell_14 : decode cX9_cell 14 = .ok (.ireturn, 1) := by decide +kernel
theorem dX9_cell_15 : decode cX9_cell 15 = .ok (.aload 4, 2) := by decide +kernel
theorem dX9_cell_17 : decode cX9_cell 17 = .ok (.invokevirtual 145, 3) := by decide +kernel
theorem dX9_cell_20 : decode cX9_cell 20 = .ok (.ifCond .eq 6, 3) := by decide +kernel
theorem dX9_cell_23 : decode cX9_cell 23 = .ok (.bipush (-11), 2) := by decide +kernel
theorem dX9_cell_25 : decode cX9_cell 25 = .ok (.ireturn, 1) := by decide +kernel
theorem dX9_cell_26 : decode cX9_cell 26 = .ok (.aload 4, 2) := by decide +kernel
theorem dX9_cell_28 : decode cX9_cell 28 = .ok (.iload_n 2, 1) := by decide +kernel
theorem dX9_cell_29 : decode cX9_cell 29 = .ok (.iconst 1, 1) := by decide +kernel
theorem dX9_cell_30 : decode cX9_cell 30 = .ok (.invokevirtual 262, 3) := by decide +kernel
theorem dX9_cell_33 : decode cX9_cell 33 = .ok (.ifCond .ne 6, 3) := by decide +kernel
theorem dX9_cell_36 : decode cX9_cell 36 = .ok (.bipush (-12), 2) := by decide +kernel
theorem dX9_cell_38 : decode cX9_cell 38 = .ok (.ireturn, 1) := by decide +kernel
theorem dX9_cell_39 : decode cX9_cell 39 = .ok (.aload 4, 2) := by decide +kernel
theorem dX9_cell_41 : decode cX9_cell 41 = .ok (.iload_n 2, 1) := by decide +kernel
theorem dX9_cell_42 : decode cX9_cell 42 = .ok (.iload_n 3, 1) := by decide +kernel
theorem dX9_cell_43 : decode cX9_cell 43 = .ok (.invokevirtual 240, 3) := by decide +kernel
theorem dX9_cell_46 : decode cX9_cell 46 = .ok (.iconst 1, 1) := by decide +kernel
theorem dX9_cell_47 : decode cX9_cell 47 = .ok (.ireturn, 1) := by decide +kernel
theorem dX9_copy_0 : decode cX9_copy 0 = .ok (.aload_n 0, 1) := by decide +kernel
theorem dX9_copy_1 : decode cX9_copy 1 = .ok (.iload_n 1, 1) := by decide +kernel
theorem dX9_copy_2 : decode cX9_copy 2 = .ok (.invokevirtual 141, 3) := by decide +kernel
theorem dX9_copy_5 : decode cX9_copy 5 = .ok (.astore 6, 2) := by decide +kernel
theorem dX9_copy_7 : decode cX9_copy 7 = .ok (.aload_n 0, 1) := by decide +kernel
theorem dX9_copy_8 : decode cX9_copy 8 = .ok (.iload_n 3, 1) := by decide +kernel
theorem dX9_copy_9 : decode cX9_copy 9 = .ok (.invokevirtual 141, 3) := by decide +kernel
theorem dX9_copy_12 : decode cX9_copy 12 = .ok (.astore 7, 2) := by decide +kernel
theorem dX9_copy_14 : decode cX9_copy 14 = .ok (.aload 6, 2) := by decide +kernel
theorem dX9_copy_16 : decode cX9_copy 16 = .ok (.ifnull 8, 3) := by decide +kernel
theorem dX9_copy_19 : decode cX9_copy 19 = .ok (.aload 7, 2) := by decide +kernel
theorem dX9_copy_21 : decode cX9_copy 21 = .ok (.ifnonnull 6, 3) := by decide +kernel
theorem dX9_copy_24 : decode cX9_copy 24 = .ok (.bipush (-2), 2) := by decide +kernel
theorem dX9_copy_26 : decode cX9_copy 26 = .ok (.ireturn, 1) := by decide +kernel
theorem dX9_copy_27 : decode cX9_copy 27 = .ok (.aload 6, 2) := by decide +kernel
theorem dX9_copy_29 : decode cX9_copy 29 = .ok (.invokevirtual 145, 3) := by decide +kernel
theorem dX9_copy_32 : decode cX9_copy 32 = .ok (.ifCond .ne 11, 3) := by decide +kernel
theorem dX9_copy_35 : decode cX9_copy 35 = .ok (.aload 7, 2) := by decide +kernel
theorem dX9_copy_37 : decode cX9_copy 37 = .ok (.invokevirtual 145, 3) := by decide +kernel
theorem dX9_copy_40 : decode cX9_copy 40 = .ok (.ifCond .eq 6, 3) := by decide +kernel
theorem dX9_copy_43 : decode cX9_copy 43 = .ok (.bipush (-11), 2) := by decide +kernel
theorem dX9_copy_45 : decode cX9_copy 45 = .ok (.ireturn, 1) := by decide +kernel
theorem dX9_copy_46 : decode cX9_copy 46 = .ok (.aload 6, 2) := by decide +kernel
theorem dX9_copy_48 : decode cX9_copy 48 = .ok (.getfield 265, 3) := by decide +kernel
theorem dX9_copy_51 : decode cX9_copy 51 = .ok (.aload 7, 2) := by decide +kernel
theorem dX9_copy_53 : decode cX9_copy 53 = .ok (.getfield 265, 3) := by decide +kernel
theorem dX9_copy_56 : decode cX9_copy 56 = .ok (.if_icmp .eq 6, 3) := by decide +kernel
theorem dX9_copy_59 : decode cX9_copy 59 = .ok (.bipush (-13), 2) := by decide +kernel
theorem dX9_copy_61 : decode cX9_copy 61 = .ok (.ireturn, 1) := by decide +kernel
theorem dX9_copy_62 : decode cX9_copy 62 = .ok (.aload 6, 2) := by decide +kernel
theorem dX9_copy_64 : decode cX9_copy 64 = .ok (.iload_n 2, 1) := by decide +kernel
theorem dX9_copy_65 : decode cX9_copy 65 = .ok (.iload 5, 2) := by decide +kernel
theorem dX9_copy_67 : decode cX9_copy 67 = .ok (.invokevirtual 262, 3) := by decide +kernel
theorem dX9_copy_70 : decode cX9_copy 70 = .ok (.ifCond .eq 15, 3) := by decide +kernel
theorem dX9_copy_73 : decode cX9_copy 73 = .ok (.aload 7, 2) := by decide +kernel
theorem dX9_copy_75 : decode cX9_copy 75 = .ok (.iload 4, 2) := by decide +kernel
theorem dX9_copy_77 : decode cX9_copy 77 = .ok (.iload 5, 2) := by decide +kernel
theorem dX9_copy_79 : decode cX9_copy 79 = .ok (.invokevirtual 262, 3) := by decide +kernel
theorem dX9_copy_82 : decode cX9_copy 82 = .ok (.ifCond .ne 6, 3) := by decide +kernel
theorem dX9_copy_85 : decode cX9_copy 85 = .ok (.bipush (-12), 2) := by decide +kernel
theorem dX9_copy_87 : decode cX9_copy 87 = .ok (.ireturn, 1) := by decide +kernel
theorem dX9_copy_88 : decode cX9_copy 88 = .ok (.aload 6, 2) := by decide +kernel
theorem dX9_copy_90 : decode cX9_copy 90 = .ok (.getfield 268, 3) := by decide +kernel
theorem dX9_copy_93 : decode cX9_copy 93 = .ok (.iload_n 2, 1) := by decide +kernel
theorem dX9_copy_94 : decode cX9_copy 94 = .ok (.aload 7, 2) := by decide +kernel
theorem dX9_copy_96 : decode cX9_copy 96 = .ok (.getfield 268, 3) := by decide +kernel
theorem dX9_copy_99 : decode cX9_copy 99 = .ok (.iload 4, 2) := by decide +kernel
theorem dX9_copy_101 : decode cX9_copy 101 = .ok (.iload 5, 2) := by decide +kernel
theorem dX9_copy_103 : decode cX9_copy 103 = .ok (.invokestatic 271, 3) := by decide +kernel
theorem dX9_copy_106 : decode cX9_copy 106 = .ok (.iload 5, 2) := by decide +kernel
theorem dX9_copy_108 : decode cX9_copy 108 = .ok (.ireturn, 1) := by decide +kernel
theorem dX9_guests_0 : decode cX9_guests 0 = .ok (.aload_n 0, 1) := by decide +kernel
theorem dX9_guests_1 : decode cX9_guests 1 = .ok (.iload_n 1, 1) := by decide +kernel
theorem dX9_guests_2 : decode cX9_guests 2 = .ok (.invokevirtual 141, 3) := by decide +kernel
theorem dX9_guests_5 : decode cX9_guests 5 = .ok (.astore 5, 2) := by decide +kernel
theorem dX9_guests_7 : decode cX9_guests 7 = .ok (.aload 5, 2) := by decide +kernel
theorem dX9_guests_9 : decode cX9_guests 9 = .ok (.ifnull 21, 3) := by decide +kernel
theorem dX9_guests_12 : decode cX9_guests 12 = .ok (.iload_n 2, 1) := by decide +kernel
theorem dX9_guests_13 : decode cX9_guests 13 = .ok (.invokestatic 259, 3) := by decide +kernel
theorem dX9_guests_16 : decode cX9_guests 16 = .ok (.ifCond .eq 14, 3) := by decide +kernel
theorem dX9_guests_19 : decode cX9_guests 19 = .ok (.iload 4, 2) := by decide +kernel
theorem dX9_guests_21 : decode cX9_guests 21 = .ok (.ifCond .lt 9, 3) := by decide +kernel
theorem dX9_guests_24 : decode cX9_guests 24 = .ok (.iload 4, 2) := by decide +kernel
theorem dX9_guests_26 : decode cX9_guests 26 = .ok (.iconst 5, 1) := by decide +kernel
theorem dX9_guests_27 : decode cX9_guests 27 = .ok (.if_icmp .le 6, 3) := by decide +kernel
theorem dX9_guests_30 : decode cX9_guests 30 = .ok (.bipush (-2), 2) := by decide +kernel
theorem dX9_guests_32 : decode cX9_guests 32 = .ok (.ireturn, 1) := by decide +kernel
theorem dX9_guests_33 : decode cX9_guests 33 = .ok (.aload 5, 2) := by decide +kernel
theorem dX9_guests_35 : decode cX9_guests 35 = .ok (.invokevirtual 145, 3) := by decide +kernel
theorem dX9_guests_38 : decode cX9_guests 38 = .ok (.ifCond .eq 6, 3) := by decide +kernel
theorem dX9_guests_41 : decode cX9_guests 41 = .ok (.bipush (-11), 2) := by decide +kernel
theorem dX9_guests_43 : decode cX9_guests 43 = .ok (.ireturn, 1) := by decide +kernel
theorem dX9_guests_44 : decode cX9_guests 44 = .ok (.aload 5, 2) := by decide +kernel
theorem dX9_guests_46 : decode cX9_guests 46 = .ok (.getfield 265, 3) := by decide +kernel
theorem dX9_guests_49 : decode cX9_guests 49 = .ok (.iload_n 2, 1) := by decide +kernel
theorem dX9_guests_50 : decode cX9_guests 50 = .ok (.if_icmp .eq 6, 3) := by decide +kernel
theorem dX9_guests_53 : decode cX9_guests 53 = .ok (.bipush (-13), 2) := by decide +kernel
theorem dX9_guests_55 : decode cX9_guests 55 = .ok (.ireturn, 1) := by decide +kernel
theorem dX9_guests_56 : decode cX9_guests 56 = .ok (.iconst 0, 1) := by decide +kernel
theorem dX9_guests_57 : decode cX9_guests 57 = .ok (.istore 6, 2) := by decide +kernel
theorem dX9_guests_59 : decode cX9_guests 59 = .ok (.iconst 0, 1) := by decide +kernel
theorem dX9_guests_60 : decode cX9_guests 60 = .ok (.istore 7, 2) := by decide +kernel
theorem dX9_guests_62 : decode cX9_guests 62 = .ok (.iload 7, 2) := by decide +kernel
theorem dX9_guests_64 : decode cX9_guests 64 = .ok (.iload 4, 2) := by decide +kernel
theorem dX9_guests_66 : decode cX9_guests 66 = .ok (.if_icmp .ge 66, 3) := by decide +kernel
theorem dX9_guests_69 : decode cX9_guests 69 = .ok (.iload_n 3, 1) := by decide +kernel
theorem dX9_guests_70 : decode cX9_guests 70 = .ok (.iconst 3, 1) := by decide +kernel
theorem dX9_guests_71 : decode cX9_guests 71 = .ok (.iload 7, 2) := by decide +kernel
theorem dX9_guests_73 : decode cX9_guests 73 = .ok (.imul, 1) := by decide +kernel
theorem dX9_guests_74 : decode cX9_guests 74 = .ok (.iadd, 1) := by decide +kernel
theorem dX9_guests_75 : decode cX9_guests 75 = .ok (.istore 8, 2) := by decide +kernel
theorem dX9_guests_77 : decode cX9_guests 77 = .ok (.aload 5, 2) := by decide +kernel
theorem dX9_guests_79 : decode cX9_guests 79 = .ok (.iload 8, 2) := by decide +kernel
theorem dX9_guests_81 : decode cX9_guests 81 = .ok (.iconst 3, 1) := by decide +kernel
theorem dX9_guests_82 : decode cX9_guests 82 = .ok (.invokevirtual 262, 3) := by decide +kernel
theorem dX9_guests_85 : decode cX9_guests 85 = .ok (.ifCond .ne 6, 3) := by decide +kernel
theorem dX9_guests_88 : decode cX9_guests 88 = .ok (.bipush (-12), 2) := by decide +kernel
theorem dX9_guests_90 : decode cX9_guests 90 = .ok (.ireturn, 1) := by decide +kernel
theorem dX9_guests_91 : decode cX9_guests 91 = .ok (.aload_n 0, 1) := by decide +kernel
theorem dX9_guests_92 : decode cX9_guests 92 = .ok (.aload 5, 2) := by decide +kernel
theorem dX9_guests_94 : decode cX9_guests 94 = .ok (.iload 8, 2) := by decide +kernel
theorem dX9_guests_96 : decode cX9_guests 96 = .ok (.invokevirtual 277, 3) := by decide +kernel
theorem dX9_guests_99 : decode cX9_guests 99 = .ok (.aload 5, 2) := by decide +kernel
theorem dX9_guests_101 : decode cX9_guests 101 = .ok (.iload 8, 2) := by decide +kernel
theorem dX9_guests_103 : decode cX9_guests 103 = .ok (.iconst 1, 1) := by decide +kernel
theorem dX9_guests_104 : decode cX9_guests 104 = .ok (.iadd, 1) := by decide +kernel
theorem dX9_guests_105 : decode cX9_guests 105 = .ok (.invokevirtual 277, 3) := by decide +kernel
theorem dX9_guests_108 : decode cX9_guests 108 = .ok (.aload 5, 2) := by decide +kernel
theorem dX9_guests_110 : decode cX9_guests 110 = .ok (.iload 8, 2) := by decide +kernel
theorem dX9_guests_112 : decode cX9_guests 112 = .ok (.iconst 2, 1) := by decide +kernel
theorem dX9_guests_113 : decode cX9_guests 113 = .ok (.iadd, 1) := by decide +kernel
theorem dX9_guests_114 : decode cX9_guests 114 = .ok (.invokevirtual 277, 3) := by decide +kernel
theorem dX9_guests_117 : decode cX9_guests 117 = .ok (.invokevirtual 280, 3) := by decide +kernel
theorem dX9_guests_120 : decode cX9_guests 120 = .ok (.ifCond .lt 6, 3) := by decide +kernel
theorem dX9_guests_123 : decode cX9_guests 123 = .ok (.iinc 6 1, 3) := by decide +kernel
theorem dX9_guests_126 : decode cX9_guests 126 = .ok (.iinc 7 1, 3) := by decide +kernel
theorem dX9_guests_129 : decode cX9_guests 129 = .ok (.goto (-67), 3) := by decide +kernel
theorem dX9_guests_132 : decode cX9_guests 132 = .ok (.iload 6, 2) := by decide +kernel
theorem dX9_guests_134 : decode cX9_guests 134 = .ok (.ireturn, 1) := by decide +kernel
theorem dX9_taken_0 : decode cX9_taken 0 = .ok (.bipush 6, 2) := by decide +kernel
theorem dX9_taken_2 : decode cX9_taken 2 = .ok (.iload_n 2, 1) := by decide +kernel
theorem dX9_taken_3 : decode cX9_taken 3 = .ok (.invokestatic 97, 3) := by decide +kernel
theorem dX9_taken_6 : decode cX9_taken 6 = .ok (.ifCond .ne 6, 3) := by decide +kernel
theorem dX9_taken_9 : decode cX9_taken 9 = .ok (.bipush (-2), 2) := by decide +kernel
theorem dX9_taken_11 : decode cX9_taken 11 = .ok (.ireturn, 1) := by decide +kernel
theorem dX9_taken_12 : decode cX9_taken 12 = .ok (.aload_n 0, 1) := by decide +kernel
theorem dX9_taken_13 : decode cX9_taken 13 = .ok (.getfield 10, 3) := by decide +kernel
theorem dX9_taken_16 : decode cX9_taken 16 = .ok (.iload_n 1, 1) := by decide +kernel
theorem dX9_taken_17 : decode cX9_taken 17 = .ok (.invokevirtual 101, 3) := by decide +kernel
theorem dX9_taken_20 : decode cX9_taken 20 = .ok (.ifCond .ne 6, 3) := by decide +kernel
theorem dX9_taken_23 : decode cX9_taken 23 = .ok (.bipush (-11), 2) := by decide +kernel
theorem dX9_taken_25 : decode cX9_taken 25 = .ok (.ireturn, 1) := by decide +kernel
theorem dX9_taken_26 : decode cX9_taken 26 = .ok (.aload_n 0, 1) := by decide +kernel
theorem dX9_taken_27 : decode cX9_taken 27 = .ok (.getfield 10, 3) := by decide +kernel
theorem dX9_taken_30 : decode cX9_taken 30 = .ok (.bipush 6, 2) := by decide +kernel
theorem dX9_taken_32 : decode cX9_taken 32 = .ok (.iload_n 1, 1) := by decide +kernel
theorem dX9_taken_33 : decode cX9_taken 33 = .ok (.invokevirtual 105, 3) := by decide +kernel
theorem dX9_taken_36 : decode cX9_taken 36 = .ok (.iload_n 2, 1) := by decide +kernel
theorem dX9_taken_37 : decode cX9_taken 37 = .ok (.invokestatic 283, 3) := by decide +kernel
theorem dX9_taken_40 : decode cX9_taken 40 = .ok (.ifCond .eq 15, 3) := by decide +kernel
theorem dX9_taken_43 : decode cX9_taken 43 = .ok (.aload_n 0, 1) := by decide +kernel
theorem dX9_taken_44 : decode cX9_taken 44 = .ok (.getfield 10, 3) := by decide +kernel
theorem dX9_taken_47 : decode cX9_taken 47 = .ok (.iconst 3, 1) := by decide +kernel
theorem dX9_taken_48 : decode cX9_taken 48 = .ok (.iload_n 1, 1) := by decide +kernel
theorem dX9_taken_49 : decode cX9_taken 49 = .ok (.invokevirtual 105, 3) := by decide +kernel
theorem dX9_taken_52 : decode cX9_taken 52 = .ok (.goto 5, 3) := by decide +kernel
theorem dX9_taken_55 : decode cX9_taken 55 = .ok (.bipush (-13), 2) := by decide +kernel
theorem dX9_taken_57 : decode cX9_taken 57 = .ok (.ireturn, 1) := by decide +kernel
theorem dX9_sheetOf_0 : decode cX9_sheetOf 0 = .ok (.iload_n 1, 1) := by decide +kernel
theorem dX9_sheetOf_1 : decode cX9_sheetOf 1 = .ok (.ifCond .lt 21, 3) := by decide +kernel
theorem dX9_sheetOf_4 : decode cX9_sheetOf 4 = .ok (.iload_n 1, 1) := by decide +kernel
theorem dX9_sheetOf_5 : decode cX9_sheetOf 5 = .ok (.aload_n 0, 1) := by decide +kernel
theorem dX9_sheetOf_6 : decode cX9_sheetOf 6 = .ok (.getfield 48, 3) := by decide +kernel
theorem dX9_sheetOf_9 : decode cX9_sheetOf 9 = .ok (.arraylength, 1) := by decide +kernel
theorem dX9_sheetOf_10 : decode cX9_sheetOf 10 = .ok (.if_icmp .ge 12, 3) := by decide +kernel
theorem dX9_sheetOf_13 : decode cX9_sheetOf 13 = .ok (.aload_n 0, 1) := by decide +kernel
theorem dX9_sheetOf_14 : decode cX9_sheetOf 14 = .ok (.getfield 48, 3) := by decide +kernel
theorem dX9_sheetOf_17 : decode cX9_sheetOf 17 = .ok (.iload_n 1, 1) := by decide +kernel
theorem dX9_sheetOf_18 : decode cX9_sheetOf 18 = .ok (.aaload, 1) := by decide +kernel
theorem dX9_sheetOf_19 : decode cX9_sheetOf 19 = .ok (.goto 4, 3) := by decide +kernel
theorem dX9_sheetOf_22 : decode cX9_sheetOf 22 = .ok (.aconst_null, 1) := by decide +kernel
theorem dX9_sheetOf_23 : decode cX9_sheetOf 23 = .ok (.areturn, 1) := by decide +kernel
theorem dX9_mayBeAskedOfTold_0 : decode cX9_mayBeAskedOfTold 0 = .ok (.iload_n 1, 1) := by decide +kernel
theorem dX9_mayBeAskedOfTold_1 : decode cX9_mayBeAskedOfTold 1 = .ok (.ifCond .lt 8, 3) := by decide +kernel
theorem dX9_mayBeAskedOfTold_4 : decode cX9_mayBeAskedOfTold 4 = .ok (.iload_n 1, 1) := by decide +kernel
theorem dX9_mayBeAskedOfTold_5 : decode cX9_mayBeAskedOfTold 5 = .ok (.iconst 4, 1) := by decide +kernel
theorem dX9_mayBeAskedOfTold_6 : decode cX9_mayBeAskedOfTold 6 = .ok (.if_icmp .le 29, 3) := by decide +kernel
theorem dX9_mayBeAskedOfTold_9 : decode cX9_mayBeAskedOfTold 9 = .ok (.iload_n 1, 1) := by decide +kernel
theorem dX9_mayBeAskedOfTold_10 : decode cX9_mayBeAskedOfTold 10 = .ok (.bipush 10, 2) := by decide +kernel
theorem dX9_mayBeAskedOfTold_12 : decode cX9_mayBeAskedOfTold 12 = .ok (.if_icmp .lt 27, 3) := by decide +kernel
theorem dX9_mayBeAskedOfTold_15 : decode cX9_mayBeAskedOfTold 15 = .ok (.iload_n 1, 1) := by decide +kernel
theorem dX9_mayBeAskedOfTold_16 : decode cX9_mayBeAskedOfTold 16 = .ok (.bipush 40, 2) := by decide +kernel
theorem dX9_mayBeAskedOfTold_18 : decode cX9_mayBeAskedOfTold 18 = .ok (.if_icmp .ge 21, 3) := by decide +kernel
theorem dX9_mayBeAskedOfTold_21 : decode cX9_mayBeAskedOfTold 21 = .ok (.aload_n 0, 1) := by decide +kernel
theorem dX9_mayBeAskedOfTold_22 : decode cX9_mayBeAskedOfTold 22 = .ok (.getfield 10, 3) := by decide +kernel
theorem dX9_mayBeAskedOfTold_25 : decode cX9_mayBeAskedOfTold 25 = .ok (.iload_n 1, 1) := by decide +kernel
theorem dX9_mayBeAskedOfTold_26 : decode cX9_mayBeAskedOfTold 26 = .ok (.bipush 10, 2) := by decide +kernel
theorem dX9_mayBeAskedOfTold_28 : decode cX9_mayBeAskedOfTold 28 = .ok (.irem, 1) := by decide +kernel
theorem dX9_mayBeAskedOfTold_29 : decode cX9_mayBeAskedOfTold 29 = .ok (.invokevirtual 101, 3) := by decide +kernel
theorem dX9_mayBeAskedOfTold_32 : decode cX9_mayBeAskedOfTold 32 = .ok (.ifCond .eq 7, 3) := by decide +kernel
theorem dX9_mayBeAskedOfTold_35 : decode cX9_mayBeAskedOfTold 35 = .ok (.iconst 1, 1) := by decide +kernel
theorem dX9_mayBeAskedOfTold_36 : decode cX9_mayBeAskedOfTold 36 = .ok (.goto 4, 3) := by decide +kernel
theorem dX9_mayBeAskedOfTold_39 : decode cX9_mayBeAskedOfTold 39 = .ok (.iconst 0, 1) := by decide +kernel
theorem dX9_mayBeAskedOfTold_40 : decode cX9_mayBeAskedOfTold 40 = .ok (.ireturn, 1) := by decide +kernel
theorem dX9_mayBe_0 : decode cX9_mayBe 0 = .ok (.iload_n 0, 1) := by decide +kernel
theorem dX9_mayBe_1 : decode cX9_mayBe 1 = .ok (.ifCond .lt 41, 3) := by decide +kernel
theorem dX9_mayBe_4 : decode cX9_mayBe 4 = .ok (.iload_n 0, 1) := by decide +kernel
theorem dX9_mayBe_5 : decode cX9_mayBe 5 = .ok (.getstatic 286, 3) := by decide +kernel
theorem dX9_mayBe_8 : decode cX9_mayBe 8 = .ok (.arraylength, 1) := by decide +kernel
theorem dX9_mayBe_9 : decode cX9_mayBe 9 = .ok (.if_icmp .ge 33, 3) := by decide +kernel
theorem dX9_mayBe_12 : decode cX9_mayBe 12 = .ok (.iload_n 0, 1) := by decide +kernel
theorem dX9_mayBe_13 : decode cX9_mayBe 13 = .ok (.getstatic 170, 3) := by decide +kernel
theorem dX9_mayBe_16 : decode cX9_mayBe 16 = .ok (.arraylength, 1) := by decide +kernel
theorem dX9_mayBe_17 : decode cX9_mayBe 17 = .ok (.if_icmp .ge 25, 3) := by decide +kernel
theorem dX9_mayBe_20 : decode cX9_mayBe 20 = .ok (.iload_n 1, 1) := by decide +kernel
theorem dX9_mayBe_21 : decode cX9_mayBe 21 = .ok (.getstatic 286, 3) := by decide +kernel
theorem dX9_mayBe_24 : decode cX9_mayBe 24 = .ok (.iload_n 0, 1) := by decide +kernel
theorem dX9_mayBe_25 : decode cX9_mayBe 25 = .ok (.iaload, 1) := by decide +kernel
theorem dX9_mayBe_26 : decode cX9_mayBe 26 = .ok (.if_icmp .lt 16, 3) := by decide +kernel
theorem dX9_mayBe_29 : decode cX9_mayBe 29 = .ok (.iload_n 1, 1) := by decide +kernel
theorem dX9_mayBe_30 : decode cX9_mayBe 30 = .ok (.getstatic 170, 3) := by decide +kernel
theorem dX9_mayBe_33 : decode cX9_mayBe 33 = .ok (.iload_n 0, 1) := by decide +kernel
theorem dX9_mayBe_34 : decode cX9_mayBe 34 = .ok (.iaload, 1) := by decide +kernel
theorem dX9_mayBe_35 : decode cX9_mayBe 35 = .ok (.if_icmp .gt 7, 3) := by decide +kernel
theorem dX9_mayBe_38 : decode cX9_mayBe 38 = .ok (.iconst 1, 1) := by decide +kernel
theorem dX9_mayBe_39 : decode cX9_mayBe 39 = .ok (.goto 4, 3) := by decide +kernel
theorem dX9_mayBe_42 : decode cX9_mayBe 42 = .ok (.iconst 0, 1) := by decide +kernel
theorem dX9_mayBe_43 : decode cX9_mayBe 43 = .ok (.ireturn, 1) := by decide +kernel
theorem dX9_isUnder_0 : decode cX9_isUnder 0 = .ok (.iload_n 0, 1) := by decide +kernel
theorem dX9_isUnder_1 : decode cX9_isUnder 1 = .ok (.istore_n 2, 1) := by decide +kernel
theorem dX9_isUnder_2 : decode cX9_isUnder 2 = .ok (.iconst 0, 1) := by decide +kernel
theorem dX9_isUnder_3 : decode cX9_isUnder 3 = .ok (.istore_n 3, 1) := by decide +kernel
theorem dX9_isUnder_4 : decode cX9_isUnder 4 = .ok (.iload_n 3, 1) := by decide +kernel
theorem dX9_isUnder_5 : decode cX9_isUnder 5 = .ok (.getstatic 289, 3) := by decide +kernel
theorem dX9_isUnder_8 : decode cX9_isUnder 8 = .ok (.arraylength, 1) := by decide +kernel
theorem dX9_isUnder_9 : decode cX9_isUnder 9 = .ok (.if_icmp .ge 34, 3) := by decide +kernel
theorem dX9_isUnder_12 : decode cX9_isUnder 12 = .ok (.iload_n 2, 1) := by decide +kernel
theorem dX9_isUnder_13 : decode cX9_isUnder 13 = .ok (.iload_n 1, 1) := by decide +kernel
theorem dX9_isUnder_14 : decode cX9_isUnder 14 = .ok (.if_icmp .eq 29, 3) := by decide +kernel
theorem dX9_isUnder_17 : decode cX9_isUnder 17 = .ok (.iload_n 2, 1) := by decide +kernel
theorem dX9_isUnder_18 : decode cX9_isUnder 18 = .ok (.ifCond .lt 11, 3) := by decide +kernel
theorem dX9_isUnder_21 : decode cX9_isUnder 21 = .ok (.iload_n 2, 1) := by decide +kernel
theorem dX9_isUnder_22 : decode cX9_isUnder 22 = .ok (.getstatic 289, 3) := by decide +kernel
theorem dX9_isUnder_25 : decode cX9_isUnder 25 = .ok (.arraylength, 1) := by decide +kernel
theorem dX9_isUnder_26 : decode cX9_isUnder 26 = .ok (.if_icmp .lt 5, 3) := by decide +kernel
theorem dX9_isUnder_29 : decode cX9_isUnder 29 = .ok (.iconst 0, 1) := by decide +kernel
theorem dX9_isUnder_30 : decode cX9_isUnder 30 = .ok (.ireturn, 1) := by decide +kernel
theorem dX9_isUnder_31 : decode cX9_isUnder 31 = .ok (.getstatic 289, 3) := by decide +kernel
theorem dX9_isUnder_34 : decode cX9_isUnder 34 = .ok (.iload_n 2, 1) := by decide +kernel
theorem dX9_isUnder_35 : decode cX9_isUnder 35 = .ok (.iaload, 1) := by decide +kernel
theorem dX9_isUnder_36 : decode cX9_isUnder 36 = .ok (.istore_n 2, 1) := by decide +kernel
theorem dX9_isUnder_37 : decode cX9_isUnder 37 = .ok (.iinc 3 1, 3) := by decide +kernel
theorem dX9_isUnder_40 : decode cX9_isUnder 40 = .ok (.goto (-36), 3) := by decide +kernel
theorem dX9_isUnder_43 : decode cX9_isUnder 43 = .ok (.iload_n 2, 1) := by decide +kernel
theorem dX9_isUnder_44 : decode cX9_isUnder 44 = .ok (.iload_n 1, 1) := by decide +kernel
theorem dX9_isUnder_45 : decode cX9_isUnder 45 = .ok (.if_icmp .ne 7, 3) := by decide +kernel
theorem dX9_isUnder_48 : decode cX9_isUnder 48 = .ok (.iconst 1, 1) := by decide +kernel
theorem dX9_isUnder_49 : decode cX9_isUnder 49 = .ok (.goto 4, 3) := by decide +kernel
theorem dX9_isUnder_52 : decode cX9_isUnder 52 = .ok (.iconst 0, 1) := by decide +kernel
theorem dX9_isUnder_53 : decode cX9_isUnder 53 = .ok (.ireturn, 1) := by decide +kernel
theorem dX9_commonDivisor_0 : decode cX9_commonDivisor 0 = .ok (.iload_n 1, 1) := by decide +kernel
theorem dX9_commonDivisor_1 : decode cX9_commonDivisor 1 = .ok (.istore_n 2, 1) := by decide +kernel
theorem dX9_commonDivisor_2 : decode cX9_commonDivisor 2 = .ok (.iload_n 0, 1) := by decide +kernel
theorem dX9_commonDivisor_3 : decode cX9_commonDivisor 3 = .ok (.istore_n 3, 1) := by decide +kernel
theorem dX9_commonDivisor_4 : decode cX9_commonDivisor 4 = .ok (.iconst 0, 1) := by decide +kernel
theorem dX9_commonDivisor_5 : decode cX9_commonDivisor 5 = .ok (.istore 4, 2) := by decide +kernel
theorem dX9_commonDivisor_7 : decode cX9_commonDivisor 7 = .ok (.iload 4, 2) := by decide +kernel
theorem dX9_commonDivisor_9 : decode cX9_commonDivisor 9 = .ok (.bipush 100, 2) := by decide +kernel
theorem dX9_commonDivisor_11 : decode cX9_commonDivisor 11 = .ok (.if_icmp .ge 23, 3) := by decide +kernel
theorem dX9_commonDivisor_14 : decode cX9_commonDivisor 14 = .ok (.iload_n 3, 1) := by decide +kernel
theorem dX9_commonDivisor_15 : decode cX9_commonDivisor 15 = .ok (.ifCond .eq 19, 3) := by decide +kernel
theorem dX9_commonDivisor_18 : decode cX9_commonDivisor 18 = .ok (.iload_n 2, 1) := by decide +kernel
theorem dX9_commonDivisor_19 : decode cX9_commonDivisor 19 = .ok (.iload_n 3, 1) := by decide +kernel
theorem dX9_commonDivisor_20 : decode cX9_commonDivisor 20 = .ok (.irem, 1) := by decide +kernel
theorem dX9_commonDivisor_21 : decode cX9_commonDivisor 21 = .ok (.istore 5, 2) := by decide +kernel
theorem dX9_commonDivisor_23 : decode cX9_commonDivisor 23 = .ok (.iload_n 3, 1) := by decide +kernel
theorem dX9_commonDivisor_24 : decode cX9_commonDivisor 24 = .ok (.istore_n 2, 1) := by decide +kernel
theorem dX9_commonDivisor_25 : decode cX9_commonDivisor 25 = .ok (.iload 5, 2) := by decide +kernel
theorem dX9_commonDivisor_27 : decode cX9_commonDivisor 27 = .ok (.istore_n 3, 1) := by decide +kernel
theorem dX9_commonDivisor_28 : decode cX9_commonDivisor 28 = .ok (.iinc 4 1, 3) := by decide +kernel
theorem dX9_commonDivisor_31 : decode cX9_commonDivisor 31 = .ok (.goto (-24), 3) := by decide +kernel
theorem dX9_commonDivisor_34 : decode cX9_commonDivisor 34 = .ok (.iload_n 2, 1) := by decide +kernel
theorem dX9_commonDivisor_35 : decode cX9_commonDivisor 35 = .ok (.ireturn, 1) := by decide +kernel
theorem dX9_within_0 : decode cX9_within 0 = .ok (.iload_n 1, 1) := by decide +kernel
theorem dX9_within_1 : decode cX9_within 1 = .ok (.iload_n 2, 1) := by decide +kernel
theorem dX9_within_2 : decode cX9_within 2 = .ok (.iload_n 0, 1) := by decide +kernel
theorem dX9_within_3 : decode cX9_within 3 = .ok (.invokestatic 292, 3) := by decide +kernel
theorem dX9_within_6 : decode cX9_within 6 = .ok (.invokestatic 297, 3) := by decide +kernel
theorem dX9_within_9 : decode cX9_within 9 = .ok (.ireturn, 1) := by decide +kernel
