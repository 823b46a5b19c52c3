theorem dX7_init_0 : decode cX7_init 0 = .ok (.aload_n 0, 1) := by decide +kernel
theorem dX7_init_1 : decode cX7_init 1 = .ok (.invokespecial 3, 3) := by decide +kernel
theorem dX7_init_4 : decode cX7_init 4 = .ok (.aload_n 0, 1) := by decide +kernel
theorem dX7_init_5 : decode cX7_init 5 = .ok (.new 9, 3) := by decide +kernel
theorem dX7_init_8 : decode cX7_init 8 = .ok (.dup, 1) := by decide +kernel
theorem dX7_init_9 : decode cX7_init 9 = .ok (.invokespecial 11, 3) := by decide +kernel
theorem dX7_init_12 : decode cX7_init 12 = .ok (.putfield 12, 3) := by decide +kernel
theorem dX7_init_15 : decode cX7_init 15 = .ok (.aload_n 0, 1) := by decide +kernel
theorem dX7_init_16 : decode cX7_init 16 = .ok (.new 9, 3) := by decide +kernel
theorem dX7_init_19 : decode cX7_init 19 = .ok (.dup, 1) := by decide +kernel
theorem dX7_init_20 : decode cX7_init 20 = .ok (.invokespecial 11, 3) := by decide +kernel
theorem dX7_init_23 : decode cX7_init 23 = .ok (.putfield 18, 3) := by decide +kernel
theorem dX7_init_26 : decode cX7_init 26 = .ok (.aload_n 0, 1) := by decide +kernel
theorem dX7_init_27 : decode cX7_init 27 = .ok (.new 9, 3) := by decide +kernel
theorem dX7_init_30 : decode cX7_init 30 = .ok (.dup, 1) := by decide +kernel
theorem dX7_init_31 : decode cX7_init 31 = .ok (.invokespecial 11, 3) := by decide +kernel
theorem dX7_init_34 : decode cX7_init 34 = .ok (.putfield 21, 3) := by decide +kernel
theorem dX7_init_37 : decode cX7_init 37 = .ok (.aload_n 0, 1) := by decide +kernel
theorem dX7_init_38 : decode cX7_init 38 = .ok (.iconst 0, 1) := by decide +kernel
theorem dX7_init_39 : decode cX7_init 39 = .ok (.putfield 24, 3) := by decide +kernel
theorem dX7_init_42 : decode cX7_init 42 = .ok (.aload_n 0, 1) := by decide +kernel
theorem dX7_init_43 : decode cX7_init 43 = .ok (.new 28, 3) := by decide +kernel
theorem dX7_init_46 : decode cX7_init 46 = .ok (.dup, 1) := by decide +kernel
theorem dX7_init_47 : decode cX7_init 47 = .ok (.invokespecial 30, 3) := by decide +kernel
theorem dX7_init_50 : decode cX7_init 50 = .ok (.putfield 31, 3) := by decide +kernel
theorem dX7_init_53 : decode cX7_init 53 = .ok (.aload_n 0, 1) := by decide +kernel
theorem dX7_init_54 : decode cX7_init 54 = .ok (.new 35, 3) := by decide +kernel
theorem dX7_init_57 : decode cX7_init 57 = .ok (.dup, 1) := by decide +kernel
theorem dX7_init_58 : decode cX7_init 58 = .ok (.invokespecial 37, 3) := by decide +kernel
theorem dX7_init_61 : decode cX7_init 61 = .ok (.putfield 38, 3) := by decide +kernel
theorem dX7_init_64 : decode cX7_init 64 = .ok (.aload_n 0, 1) := by decide +kernel
theorem dX7_init_65 : decode cX7_init 65 = .ok (.new 42, 3) := by decide +kernel
theorem dX7_init_68 : decode cX7_init 68 = .ok (.dup, 1) := by decide +kernel
theorem dX7_init_69 : decode cX7_init 69 = .ok (.invokespecial 44, 3) := by decide +kernel
theorem dX7_init_72 : decode cX7_init 72 = .ok (.putfield 45, 3) := by decide +kernel
theorem dX7_init_75 : decode cX7_init 75 = .ok (.aload_n 0, 1) := by decide +kernel
theorem dX7_init_76 : decode cX7_init 76 = .ok (.new 49, 3) := by decide +kernel
theorem dX7_init_79 : decode cX7_init 79 = .ok (.dup, 1) := by decide +kernel
theorem dX7_init_80 : decode cX7_init 80 = .ok (.invokespecial 51, 3) := by decide +kernel
theorem dX7_init_83 : decode cX7_init 83 = .ok (.putfield 52, 3) := by decide +kernel
theorem dX7_init_86 : decode cX7_init 86 = .ok (.aload_n 0, 1) := by decide +kernel
theorem dX7_init_87 : decode cX7_init 87 = .ok (.new 56, 3) := by decide +kernel
theorem dX7_init_90 : decode cX7_init 90 = .ok (.dup, 1) := by decide +kernel
theorem dX7_init_91 : decode cX7_init 91 = .ok (.invokespecial 58, 3) := by decide +kernel
theorem dX7_init_94 : decode cX7_init 94 = .ok (.putfield 59, 3) := by decide +kernel
theorem dX7_init_97 : decode cX7_init 97 = .ok (.aload_n 0, 1) := by decide +kernel
theorem dX7_init_98 : decode cX7_init 98 = .ok (.new 63, 3) := by decide +kernel
theorem dX7_init_101 : decode cX7_init 101 = .ok (.dup, 1) := by decide +kernel
theorem dX7_init_102 : decode cX7_init 102 = .ok (.invokespecial 65, 3) := by decide +kernel
theorem dX7_init_105 : decode cX7_init 105 = .ok (.putfield 66, 3) := by decide +kernel
theorem dX7_init_108 : decode cX7_init 108 = .ok (.return_, 1) := by decide +kernel
theorem dX7_unit_0 : decode cX7_unit 0 = .ok (.iload_n 1, 1) := by decide +kernel
theorem dX7_unit_1 : decode cX7_unit 1 = .ok (.getstatic 70, 3) := by decide +kernel
theorem dX7_unit_4 : decode cX7_unit 4 = .ok (.iconst 0, 1) := by decide +kernel
theorem dX7_unit_5 : decode cX7_unit 5 = .ok (.iaload, 1) := by decide +kernel
theorem dX7_unit_6 : decode cX7_unit 6 = .ok (.if_icmp .lt 12, 3) := by decide +kernel
theorem dX7_unit_9 : decode cX7_unit 9 = .ok (.iload_n 1, 1) := by decide +kernel
theorem dX7_unit_10 : decode cX7_unit 10 = .ok (.getstatic 74, 3) := by decide +kernel
theorem dX7_unit_13 : decode cX7_unit 13 = .ok (.iconst 0, 1) := by decide +kernel
theorem dX7_unit_14 : decode cX7_unit 14 = .ok (.iaload, 1) := by decide +kernel
theorem dX7_unit_15 : decode cX7_unit 15 = .ok (.if_icmp .le 6, 3) := by decide +kernel
theorem dX7_unit_18 : decode cX7_unit 18 = .ok (.bipush (-2), 2) := by decide +kernel
theorem dX7_unit_20 : decode cX7_unit 20 = .ok (.ireturn, 1) := by decide +kernel
theorem dX7_unit_21 : decode cX7_unit 21 = .ok (.aload_n 0, 1) := by decide +kernel
theorem dX7_unit_22 : decode cX7_unit 22 = .ok (.getfield 12, 3) := by decide +kernel
theorem dX7_unit_25 : decode cX7_unit 25 = .ok (.getfield 77, 3) := by decide +kernel
theorem dX7_unit_28 : decode cX7_unit 28 = .ok (.bipush 12, 2) := by decide +kernel
theorem dX7_unit_30 : decode cX7_unit 30 = .ok (.if_icmp .lt 6, 3) := by decide +kernel
theorem dX7_unit_33 : decode cX7_unit 33 = .ok (.bipush (-4), 2) := by decide +kernel
theorem dX7_unit_35 : decode cX7_unit 35 = .ok (.ireturn, 1) := by decide +kernel
theorem dX7_unit_36 : decode cX7_unit 36 = .ok (.aload_n 0, 1) := by decide +kernel
theorem dX7_unit_37 : decode cX7_unit 37 = .ok (.getfield 12, 3) := by decide +kernel
theorem dX7_unit_40 : decode cX7_unit 40 = .ok (.iload_n 1, 1) := by decide +kernel
theorem dX7_unit_41 : decode cX7_unit 41 = .ok (.invokevirtual 81, 3) := by decide +kernel
theorem dX7_unit_44 : decode cX7_unit 44 = .ok (.ireturn, 1) := by decide +kernel
theorem dX7_set_0 : decode cX7_set 0 = .ok (.aload_n 0, 1) := by decide +kernel
theorem dX7_set_1 : decode cX7_set 1 = .ok (.getfield 12, 3) := by decide +kernel
theorem dX7_set_4 : decode cX7_set 4 = .ok (.iload_n 1, 1) := by decide +kernel
theorem dX7_set_5 : decode cX7_set 5 = .ok (.invokevirtual 85, 3) := by decide +kernel
theorem dX7_set_8 : decode cX7_set 8 = .ok (.ifCond .eq 12, 3) := by decide +kernel
theorem dX7_set_11 : decode cX7_set 11 = .ok (.iload_n 2, 1) := by decide +kernel
theorem dX7_set_12 : decode cX7_set 12 = .ok (.ifCond .lt 8, 3) := by decide +kernel
theorem dX7_set_15 : decode cX7_set 15 = .ok (.iload_n 2, 1) := by decide +kernel
theorem dX7_set_16 : decode cX7_set 16 = .ok (.iconst 5, 1) := by decide +kernel
theorem dX7_set_17 : decode cX7_set 17 = .ok (.if_icmp .lt 5, 3) := by decide +kernel
theorem dX7_set_20 : decode cX7_set 20 = .ok (.iconst (-1), 1) := by decide +kernel
theorem dX7_set_21 : decode cX7_set 21 = .ok (.ireturn, 1) := by decide +kernel
theorem dX7_set_22 : decode cX7_set 22 = .ok (.iload_n 3, 1) := by decide +kernel
theorem dX7_set_23 : decode cX7_set 23 = .ok (.getstatic 70, 3) := by decide +kernel
theorem dX7_set_26 : decode cX7_set 26 = .ok (.iload_n 2, 1) := by decide +kernel
theorem dX7_set_27 : decode cX7_set 27 = .ok (.iaload, 1) := by decide +kernel
theorem dX7_set_28 : decode cX7_set 28 = .ok (.if_icmp .lt 12, 3) := by decide +kernel
theorem dX7_set_31 : decode cX7_set 31 = .ok (.iload_n 3, 1) := by decide +kernel
theorem dX7_set_32 : decode cX7_set 32 = .ok (.getstatic 74, 3) := by decide +kernel
theorem dX7_set_35 : decode cX7_set 35 = .ok (.iload_n 2, 1) := by decide +kernel
theorem dX7_set_36 : decode cX7_set 36 = .ok (.iaload, 1) := by decide +kernel
theorem dX7_set_37 : decode cX7_set 37 = .ok (.if_icmp .le 6, 3) := by decide +kernel
theorem dX7_set_40 : decode cX7_set 40 = .ok (.bipush (-2), 2) := by decide +kernel
theorem dX7_set_42 : decode cX7_set 42 = .ok (.ireturn, 1) := by decide +kernel
theorem dX7_set_43 : decode cX7_set 43 = .ok (.aload_n 0, 1) := by decide +kernel
theorem dX7_set_44 : decode cX7_set 44 = .ok (.iload_n 1, 1) := by decide +kernel
theorem dX7_set_45 : decode cX7_set 45 = .ok (.iload_n 2, 1) := by decide +kernel
theorem dX7_set_46 : decode cX7_set 46 = .ok (.invokevirtual 89, 3) := by decide +kernel
theorem dX7_set_49 : decode cX7_set 49 = .ok (.istore 4, 2) := by decide +kernel
theorem dX7_set_51 : decode cX7_set 51 = .ok (.aload_n 0, 1) := by decide +kernel
theorem dX7_set_52 : decode cX7_set 52 = .ok (.getfield 12, 3) := by decide +kernel
theorem dX7_set_55 : decode cX7_set 55 = .ok (.iload_n 2, 1) := by decide +kernel
theorem dX7_set_56 : decode cX7_set 56 = .ok (.iload_n 1, 1) := by decide +kernel
theorem dX7_set_57 : decode cX7_set 57 = .ok (.iload_n 3, 1) := by decide +kernel
theorem dX7_set_58 : decode cX7_set 58 = .ok (.invokevirtual 93, 3) := by decide +kernel
theorem dX7_set_61 : decode cX7_set 61 = .ok (.iload 4, 2) := by decide +kernel
theorem dX7_set_63 : decode cX7_set 63 = .ok (.ireturn, 1) := by decide +kernel
theorem dX7_of_0 : decode cX7_of 0 = .ok (.aload_n 0, 1) := by decide +kernel
theorem dX7_of_1 : decode cX7_of 1 = .ok (.getfield 12, 3) := by decide +kernel
theorem dX7_of_4 : decode cX7_of 4 = .ok (.iload_n 1, 1) := by decide +kernel
theorem dX7_of_5 : decode cX7_of 5 = .ok (.invokevirtual 85, 3) := by decide +kernel
theorem dX7_of_8 : decode cX7_of 8 = .ok (.ifCond .eq 12, 3) := by decide +kernel
theorem dX7_of_11 : decode cX7_of 11 = .ok (.iload_n 2, 1) := by decide +kernel
theorem dX7_of_12 : decode cX7_of 12 = .ok (.ifCond .lt 8, 3) := by decide +kernel
theorem dX7_of_15 : decode cX7_of 15 = .ok (.iload_n 2, 1) := by decide +kernel
theorem dX7_of_16 : decode cX7_of 16 = .ok (.iconst 5, 1) := by decide +kernel
theorem dX7_of_17 : decode cX7_of 17 = .ok (.if_icmp .le 5, 3) := by decide +kernel
theorem dX7_of_20 : decode cX7_of 20 = .ok (.iconst (-1), 1) := by decide +kernel
theorem dX7_of_21 : decode cX7_of 21 = .ok (.ireturn, 1) := by decide +kernel
theorem dX7_of_22 : decode cX7_of 22 = .ok (.iload_n 2, 1) := by decide +kernel
theorem dX7_of_23 : decode cX7_of 23 = .ok (.iconst 5, 1) := by decide +kernel
theorem dX7_of_24 : decode cX7_of 24 = .ok (.if_icmp .ne 20, 3) := by decide +kernel
theorem dX7_of_27 : decode cX7_of 27 = .ok (.aload_n 0, 1) := by decide +kernel
theorem dX7_of_28 : decode cX7_of 28 = .ok (.getfield 12, 3) := by decide +kernel
theorem dX7_of_31 : decode cX7_of 31 = .ok (.iload_n 1, 1) := by decide +kernel
theorem dX7_of_32 : decode cX7_of 32 = .ok (.invokevirtual 97, 3) := by decide +kernel
theorem dX7_of_35 : decode cX7_of 35 = .ok (.ifCond .eq 7, 3) := by decide +kernel
theorem dX7_of_38 : decode cX7_of 38 = .ok (.iconst 1, 1) := by decide +kernel
theorem dX7_of_39 : decode cX7_of 39 = .ok (.goto 4, 3) := by decide +kernel
theorem dX7_of_42 : decode cX7_of 42 = .ok (.iconst 0, 1) := by decide +kernel
theorem dX7_of_43 : decode cX7_of 43 = .ok (.ireturn, 1) := by decide +kernel
theorem dX7_of_44 : decode cX7_of 44 = .ok (.aload_n 0, 1) := by decide +kernel
theorem dX7_of_45 : decode cX7_of 45 = .ok (.iload_n 1, 1) := by decide +kernel
theorem dX7_of_46 : decode cX7_of 46 = .ok (.iload_n 2, 1) := by decide +kernel
theorem dX7_of_47 : decode cX7_of 47 = .ok (.invokevirtual 89, 3) := by decide +kernel
theorem dX7_of_50 : decode cX7_of 50 = .ok (.ireturn, 1) := by decide +kernel
theorem dX7_tie_0 : decode cX7_tie 0 = .ok (.aload_n 0, 1) := by decide +kernel
theorem dX7_tie_1 : decode cX7_tie 1 = .ok (.iload_n 1, 1) := by decide +kernel
theorem dX7_tie_2 : decode cX7_tie 2 = .ok (.iload_n 2, 1) := by decide +kernel
theorem dX7_tie_3 : decode cX7_tie 3 = .ok (.invokevirtual 100, 3) := by decide +kernel
theorem dX7_tie_6 : decode cX7_tie 6 = .ok (.ifCond .ne 5, 3) := by decide +kernel
theorem dX7_tie_9 : decode cX7_tie 9 = .ok (.iconst (-1), 1) := by decide +kernel
theorem dX7_tie_10 : decode cX7_tie 10 = .ok (.ireturn, 1) := by decide +kernel
theorem dX7_tie_11 : decode cX7_tie 11 = .ok (.aload_n 0, 1) := by decide +kernel
theorem dX7_tie_12 : decode cX7_tie 12 = .ok (.getfield 12, 3) := by decide +kernel
theorem dX7_tie_15 : decode cX7_tie 15 = .ok (.iload_n 1, 1) := by decide +kernel
theorem dX7_tie_16 : decode cX7_tie 16 = .ok (.iload_n 2, 1) := by decide +kernel
theorem dX7_tie_17 : decode cX7_tie 17 = .ok (.invokevirtual 104, 3) := by decide +kernel
theorem dX7_tie_20 : decode cX7_tie 20 = .ok (.ifCond .lt 6, 3) := by decide +kernel
theorem dX7_tie_23 : decode cX7_tie 23 = .ok (.bipush (-3), 2) := by decide +kernel
theorem dX7_tie_25 : decode cX7_tie 25 = .ok (.ireturn, 1) := by decide +kernel
theorem dX7_tie_26 : decode cX7_tie 26 = .ok (.aload_n 0, 1) := by decide +kernel
theorem dX7_tie_27 : decode cX7_tie 27 = .ok (.getfield 12, 3) := by decide +kernel
theorem dX7_tie_30 : decode cX7_tie 30 = .ok (.getfield 107, 3) := by decide +kernel
theorem dX7_tie_33 : decode cX7_tie 33 = .ok (.bipush 40, 2) := by decide +kernel
theorem dX7_tie_35 : decode cX7_tie 35 = .ok (.if_icmp .lt 6, 3) := by decide +kernel
theorem dX7_tie_38 : decode cX7_tie 38 = .ok (.bipush (-4), 2) := by decide +kernel
theorem dX7_tie_40 : decode cX7_tie 40 = .ok (.ireturn, 1) := by decide +kernel
theorem dX7_tie_41 : decode cX7_tie 41 = .ok (.aload_n 0, 1) := by decide +kernel
theorem dX7_tie_42 : decode cX7_tie 42 = .ok (.getfield 12, 3) := by decide +kernel
theorem dX7_tie_45 : decode cX7_tie 45 = .ok (.iload_n 1, 1) := by decide +kernel
theorem dX7_tie_46 : decode cX7_tie 46 = .ok (.iload_n 2, 1) := by decide +kernel
theorem dX7_tie_47 : decode cX7_tie 47 = .ok (.invokevirtual 110, 3) := by decide +kernel
theorem dX7_tie_50 : decode cX7_tie 50 = .ok (.aload_n 0, 1) := by decide +kernel
theorem dX7_tie_51 : decode cX7_tie 51 = .ok (.getfield 12, 3) := by decide +kernel
theorem dX7_tie_54 : decode cX7_tie 54 = .ok (.getfield 107, 3) := by decide +kernel
theorem dX7_tie_57 : decode cX7_tie 57 = .ok (.ireturn, 1) := by decide +kernel
theorem dX7_untie_0 : decode cX7_untie 0 = .ok (.aload_n 0, 1) := by decide +kernel
theorem dX7_untie_1 : decode cX7_untie 1 = .ok (.iload_n 1, 1) := by decide +kernel
theorem dX7_untie_2 : decode cX7_untie 2 = .ok (.iload_n 2, 1) := by decide +kernel
theorem dX7_untie_3 : decode cX7_untie 3 = .ok (.invokevirtual 100, 3) := by decide +kernel
theorem dX7_untie_6 : decode cX7_untie 6 = .ok (.ifCond .ne 5, 3) := by decide +kernel
theorem dX7_untie_9 : decode cX7_untie 9 = .ok (.iconst (-1), 1) := by decide +kernel
theorem dX7_untie_10 : decode cX7_untie 10 = .ok (.ireturn, 1) := by decide +kernel
theorem dX7_untie_11 : decode cX7_untie 11 = .ok (.aload_n 0, 1) := by decide +kernel
theorem dX7_untie_12 : decode cX7_untie 12 = .ok (.getfield 12, 3) := by decide +kernel
theorem dX7_untie_15 : decode cX7_untie 15 = .ok (.iload_n 1, 1) := by decide +kernel
theorem dX7_untie_16 : decode cX7_untie 16 = .ok (.iload_n 2, 1) := by decide +kernel
theorem dX7_untie_17 : decode cX7_untie 17 = .ok (.invokevirtual 104, 3) := by decide +kernel
theorem dX7_untie_20 : decode cX7_untie 20 = .ok (.istore_n 3, 1) := by decide +kernel
theorem dX7_untie_21 : decode cX7_untie 21 = .ok (.iload_n 3, 1) := by decide +kernel
theorem dX7_untie_22 : decode cX7_untie 22 = .ok (.ifCond .ge 6, 3) := by decide +kernel
theorem dX7_untie_25 : decode cX7_untie 25 = .ok (.bipush (-3), 2) := by decide +kernel
theorem dX7_untie_27 : decode cX7_untie 27 = .ok (.ireturn, 1) := by decide +kernel
theorem dX7_untie_28 : decode cX7_untie 28 = .ok (.aload_n 0, 1) := by decide +kernel
theorem dX7_untie_29 : decode cX7_untie 29 = .ok (.getfield 12, 3) := by decide +kernel
theorem dX7_untie_32 : decode cX7_untie 32 = .ok (.iload_n 3, 1) := by decide +kernel
theorem dX7_untie_33 : decode cX7_untie 33 = .ok (.invokevirtual 114, 3) := by decide +kernel
theorem dX7_untie_36 : decode cX7_untie 36 = .ok (.aload_n 0, 1) := by decide +kernel
theorem dX7_untie_37 : decode cX7_untie 37 = .ok (.getfield 12, 3) := by decide +kernel
theorem dX7_untie_40 : decode cX7_untie 40 = .ok (.getfield 107, 3) := by decide +kernel
theorem dX7_untie_43 : decode cX7_untie 43 = .ok (.ireturn, 1) := by decide +kernel
theorem dX7_told_0 : decode cX7_told 0 = .ok (.iload_n 1, 1) := by decide +kernel
theorem dX7_told_1 : decode cX7_told 1 = .ok (.tableswitch 114 0 6 #[43, 51, 59, 67, 90, 101, 109], 43) := by decide +kernel
theorem dX7_told_44 : decode cX7_told 44 = .ok (.aload_n 0, 1) := by decide +kernel
theorem dX7_told_45 : decode cX7_told 45 = .ok (.getfield 12, 3) := by decide +kernel
theorem dX7_told_48 : decode cX7_told 48 = .ok (.getfield 77, 3) := by decide +kernel
theorem dX7_told_51 : decode cX7_told 51 = .ok (.ireturn, 1) := by decide +kernel
theorem dX7_told_52 : decode cX7_told 52 = .ok (.aload_n 0, 1) := by decide +kernel
theorem dX7_told_53 : decode cX7_told 53 = .ok (.getfield 12, 3) := by decide +kernel
theorem dX7_told_56 : decode cX7_told 56 = .ok (.getfield 107, 3) := by decide +kernel
theorem dX7_told_59 : decode cX7_told 59 = .ok (.ireturn, 1) := by decide +kernel
theorem dX7_told_60 : decode cX7_told 60 = .ok (.aload_n 0, 1) := by decide +kernel
theorem dX7_told_61 : decode cX7_told 61 = .ok (.invokevirtual 118, 3) := by decide +kernel
theorem dX7_told_64 : decode cX7_told 64 = .ok (.invokevirtual 122, 3) := by decide +kernel
theorem dX7_told_67 : decode cX7_told 67 = .ok (.ireturn, 1) := by decide +kernel
theorem dX7_told_68 : decode cX7_told 68 = .ok (.aload_n 0, 1) := by decide +kernel
theorem dX7_told_69 : decode cX7_told 69 = .ok (.invokevirtual 118, 3) := by decide +kernel
theorem dX7_told_72 : decode cX7_told 72 = .ok (.invokevirtual 126, 3) := by decide +kernel
theorem dX7_told_75 : decode cX7_told 75 = .ok (.ifCond .eq 8, 3) := by decide +kernel
theorem dX7_told_78 : decode cX7_told 78 = .ok (.bipush (-5), 2) := by decide +kernel
theorem dX7_told_80 : decode cX7_told 80 = .ok (.goto 10, 3) := by decide +kernel
theorem dX7_told_83 : decode cX7_told 83 = .ok (.aload_n 0, 1) := by decide +kernel
theorem dX7_told_84 : decode cX7_told 84 = .ok (.getfield 31, 3) := by decide +kernel
theorem dX7_told_87 : decode cX7_told 87 = .ok (.invokevirtual 130, 3) := by decide +kernel
theorem dX7_told_90 : decode cX7_told 90 = .ok (.ireturn, 1) := by decide +kernel
theorem dX7_told_91 : decode cX7_told 91 = .ok (.aload_n 0, 1) := by decide +kernel
theorem dX7_told_92 : decode cX7_told 92 = .ok (.invokevirtual 118, 3) := by decide +kernel
theorem dX7_told_95 : decode cX7_told 95 = .ok (.invokevirtual 133, 3) := by decide +kernel
theorem dX7_told_98 : decode cX7_told 98 = .ok (.invokestatic 136, 3) := by decide +kernel
theorem dX7_told_101 : decode cX7_told 101 = .ok (.ireturn, 1) := by decide +kernel
theorem dX7_told_102 : decode cX7_told 102 = .ok (.aload_n 0, 1) := by decide +kernel
theorem dX7_told_103 : decode cX7_told 103 = .ok (.getfield 12, 3) := by decide +kernel
theorem dX7_told_106 : decode cX7_told 106 = .ok (.getfield 141, 3) := by decide +kernel
theorem dX7_told_109 : decode cX7_told 109 = .ok (.ireturn, 1) := by decide +kernel
theorem dX7_told_110 : decode cX7_told 110 = .ok (.aload_n 0, 1) := by decide +kernel
theorem dX7_told_111 : decode cX7_told 111 = .ok (.invokevirtual 144, 3) := by decide +kernel
theorem dX7_told_114 : decode cX7_told 114 = .ok (.ireturn, 1) := by decide +kernel
theorem dX7_told_115 : decode cX7_told 115 = .ok (.iconst (-1), 1) := by decide +kernel
theorem dX7_told_116 : decode cX7_told 116 = .ok (.ireturn, 1) := by decide +kernel
theorem dX7_below_0 : decode cX7_below 0 = .ok (.aload_n 0, 1) := by decide +kernel
theorem dX7_below_1 : decode cX7_below 1 = .ok (.getfield 12, 3) := by decide +kernel
theorem dX7_below_4 : decode cX7_below 4 = .ok (.iload_n 1, 1) := by decide +kernel
theorem dX7_below_5 : decode cX7_below 5 = .ok (.invokevirtual 85, 3) := by decide +kernel
theorem dX7_below_8 : decode cX7_below 8 = .ok (.ifCond .eq 12, 3) := by decide +kernel
theorem dX7_below_11 : decode cX7_below 11 = .ok (.iload_n 2, 1) := by decide +kernel
theorem dX7_below_12 : decode cX7_below 12 = .ok (.ifCond .lt 8, 3) := by decide +kernel
theorem dX7_below_15 : decode cX7_below 15 = .ok (.iload_n 2, 1) := by decide +kernel
theorem dX7_below_16 : decode cX7_below 16 = .ok (.iconst 4, 1) := by decide +kernel
theorem dX7_below_17 : decode cX7_below 17 = .ok (.if_icmp .le 5, 3) := by decide +kernel
theorem dX7_below_20 : decode cX7_below 20 = .ok (.iconst (-1), 1) := by decide +kernel
theorem dX7_below_21 : decode cX7_below 21 = .ok (.ireturn, 1) := by decide +kernel
theorem dX7_below_22 : decode cX7_below 22 = .ok (.aload_n 0, 1) := by decide +kernel
theorem dX7_below_23 : decode cX7_below 23 = .ok (.invokevirtual 118, 3) := by decide +kernel
theorem dX7_below_26 : decode cX7_below 26 = .ok (.pop, 1) := by decide +kernel
theorem dX7_below_27 : decode cX7_below 27 = .ok (.iload_n 2, 1) := by decide +kernel
theorem dX7_below_28 : decode cX7_below 28 = .ok (.tableswitch 71 0 3 #[32, 42, 52, 61], 32) := by decide +kernel
theorem dX7_below_60 : decode cX7_below 60 = .ok (.aload_n 0, 1) := by decide +kernel
theorem dX7_below_61 : decode cX7_below 61 = .ok (.getfield 31, 3) := by decide +kernel
theorem dX7_below_64 : decode cX7_below 64 = .ok (.getfield 147, 3) := by decide +kernel
theorem dX7_below_67 : decode cX7_below 67 = .ok (.iload_n 1, 1) := by decide +kernel
theorem dX7_below_68 : decode cX7_below 68 = .ok (.iaload, 1) := by decide +kernel
theorem dX7_below_69 : decode cX7_below 69 = .ok (.ireturn, 1) := by decide +kernel
theorem dX7_below_70 : decode cX7_below 70 = .ok (.aload_n 0, 1) := by decide +kernel
theorem dX7_below_71 : decode cX7_below 71 = .ok (.getfield 31, 3) := by decide +kernel
theorem dX7_below_74 : decode cX7_below 74 = .ok (.getfield 150, 3) := by decide +kernel
theorem dX7_below_77 : decode cX7_below 77 = .ok (.iload_n 1, 1) := by decide +kernel
theorem dX7_below_78 : decode cX7_below 78 = .ok (.iaload, 1) := by decide +kernel
theorem dX7_below_79 : decode cX7_below 79 = .ok (.ireturn, 1) := by decide +kernel
theorem dX7_below_80 : decode cX7_below 80 = .ok (.aload_n 0, 1) := by decide +kernel
theorem dX7_below_81 : decode cX7_below 81 = .ok (.getfield 31, 3) := by decide +kernel
theorem dX7_below_84 : decode cX7_below 84 = .ok (.iload_n 1, 1) := by decide +kernel
theorem dX7_below_85 : decode cX7_below 85 = .ok (.invokevirtual 153, 3) := by decide +kernel
theorem dX7_below_88 : decode cX7_below 88 = .ok (.ireturn, 1) := by decide +kernel
theorem dX7_below_89 : decode cX7_below 89 = .ok (.aload_n 0, 1) := by decide +kernel
theorem dX7_below_90 : decode cX7_below 90 = .ok (.getfield 31, 3) := by decide +kernel
theorem dX7_below_93 : decode cX7_below 93 = .ok (.getfield 156, 3) := by decide +kernel
theorem dX7_below_96 : decode cX7_below 96 = .ok (.iload_n 1, 1) := by decide +kernel
theorem dX7_below_97 : decode cX7_below 97 = .ok (.iaload, 1) := by decide +kernel
theorem dX7_below_98 : decode cX7_below 98 = .ok (.ireturn, 1) := by decide +kernel
theorem dX7_below_99 : decode cX7_below 99 = .ok (.aload_n 0, 1) := by decide +kernel
theorem dX7_below_100 : decode cX7_below 100 = .ok (.getfield 31, 3) := by decide +kernel
theorem dX7_below_103 : decode cX7_below 103 = .ok (.iload_n 1, 1) := by decide +kernel
theorem dX7_below_104 : decode cX7_below 104 = .ok (.invokevirtual 159, 3) := by decide +kernel
theorem dX7_below_107 : decode cX7_below 107 = .ok (.ireturn, 1) := by decide +kernel
theorem dX7_cycle_0 : decode cX7_cycle 0 = .ok (.iload_n 1, 1) := by decide +kernel
theorem dX7_cycle_1 : decode cX7_cycle 1 = .ok (.iconst (-1), 1) := by decide +kernel
theorem dX7_cycle_2 : decode cX7_cycle 2 = .ok (.if_icmp .ge 5, 3) := by decide +kernel
theorem dX7_cycle_5 : decode cX7_cycle 5 = .ok (.iconst (-1), 1) := by decide +kernel
theorem dX7_cycle_6 : decode cX7_cycle 6 = .ok (.ireturn, 1) := by decide +kernel
theorem dX7_cycle_7 : decode cX7_cycle 7 = .ok (.aload_n 0, 1) := by decide +kernel
theorem dX7_cycle_8 : decode cX7_cycle 8 = .ok (.invokevirtual 118, 3) := by decide +kernel
theorem dX7_cycle_11 : decode cX7_cycle 11 = .ok (.invokevirtual 162, 3) := by decide +kernel
theorem dX7_cycle_14 : decode cX7_cycle 14 = .ok (.istore_n 2, 1) := by decide +kernel
theorem dX7_cycle_15 : decode cX7_cycle 15 = .ok (.iload_n 1, 1) := by decide +kernel
theorem dX7_cycle_16 : decode cX7_cycle 16 = .ok (.iconst (-1), 1) := by decide +kernel
theorem dX7_cycle_17 : decode cX7_cycle 17 = .ok (.if_icmp .ne 5, 3) := by decide +kernel
theorem dX7_cycle_20 : decode cX7_cycle 20 = .ok (.iload_n 2, 1) := by decide +kernel
theorem dX7_cycle_21 : decode cX7_cycle 21 = .ok (.ireturn, 1) := by decide +kernel
theorem dX7_cycle_22 : decode cX7_cycle 22 = .ok (.iload_n 1, 1) := by decide +kernel
theorem dX7_cycle_23 : decode cX7_cycle 23 = .ok (.iload_n 2, 1) := by decide +kernel
theorem dX7_cycle_24 : decode cX7_cycle 24 = .ok (.if_icmp .ge 15, 3) := by decide +kernel
theorem dX7_cycle_27 : decode cX7_cycle 27 = .ok (.aload_n 0, 1) := by decide +kernel
theorem dX7_cycle_28 : decode cX7_cycle 28 = .ok (.getfield 31, 3) := by decide +kernel
theorem dX7_cycle_31 : decode cX7_cycle 31 = .ok (.getfield 165, 3) := by decide +kernel
theorem dX7_cycle_34 : decode cX7_cycle 34 = .ok (.iload_n 1, 1) := by decide +kernel
theorem dX7_cycle_35 : decode cX7_cycle 35 = .ok (.iaload, 1) := by decide +kernel
theorem dX7_cycle_36 : decode cX7_cycle 36 = .ok (.goto 5, 3) := by decide +kernel
theorem dX7_cycle_39 : decode cX7_cycle 39 = .ok (.bipush (-5), 2) := by decide +kernel
theorem dX7_cycle_41 : decode cX7_cycle 41 = .ok (.ireturn, 1) := by decide +kernel
theorem dX7_level_0 : decode cX7_level 0 = .ok (.aload_n 0, 1) := by decide +kernel
theorem dX7_level_1 : decode cX7_level 1 = .ok (.getfield 12, 3) := by decide +kernel
theorem dX7_level_4 : decode cX7_level 4 = .ok (.iload_n 1, 1) := by decide +kernel
theorem dX7_level_5 : decode cX7_level 5 = .ok (.invokevirtual 85, 3) := by decide +kernel
theorem dX7_level_8 : decode cX7_level 8 = .ok (.ifCond .ne 5, 3) := by decide +kernel
theorem dX7_level_11 : decode cX7_level 11 = .ok (.iconst (-1), 1) := by decide +kernel
theorem dX7_level_12 : decode cX7_level 12 = .ok (.ireturn, 1) := by decide +kernel
theorem dX7_level_13 : decode cX7_level 13 = .ok (.aload_n 0, 1) := by decide +kernel
theorem dX7_level_14 : decode cX7_level 14 = .ok (.invokevirtual 118, 3) := by decide +kernel
theorem dX7_level_17 : decode cX7_level 17 = .ok (.invokevirtual 126, 3) := by decide +kernel
theorem dX7_level_20 : decode cX7_level 20 = .ok (.ifCond .eq 6, 3) := by decide +kernel
theorem dX7_level_23 : decode cX7_level 23 = .ok (.bipush (-3), 2) := by decide +kernel
theorem dX7_level_25 : decode cX7_level 25 = .ok (.ireturn, 1) := by decide +kernel
theorem dX7_level_26 : decode cX7_level 26 = .ok (.aload_n 0, 1) := by decide +kernel
theorem dX7_level_27 : decode cX7_level 27 = .ok (.getfield 31, 3) := by decide +kernel
theorem dX7_level_30 : decode cX7_level 30 = .ok (.invokevirtual 130, 3) := by decide +kernel
theorem dX7_level_33 : decode cX7_level 33 = .ok (.pop, 1) := by decide +kernel
theorem dX7_level_34 : decode cX7_level 34 = .ok (.aload_n 0, 1) := by decide +kernel
theorem dX7_level_35 : decode cX7_level 35 = .ok (.getfield 31, 3) := by decide +kernel
theorem dX7_level_38 : decode cX7_level 38 = .ok (.getfield 168, 3) := by decide +kernel
theorem dX7_level_41 : decode cX7_level 41 = .ok (.iload_n 1, 1) := by decide +kernel
theorem dX7_level_42 : decode cX7_level 42 = .ok (.iaload, 1) := by decide +kernel
theorem dX7_level_43 : decode cX7_level 43 = .ok (.ireturn, 1) := by decide +kernel
theorem dX7_idle_0 : decode cX7_idle 0 = .ok (.iload_n 1, 1) := by decide +kernel
theorem dX7_idle_1 : decode cX7_idle 1 = .ok (.ifCond .ge 5, 3) := by decide +kernel
theorem dX7_idle_4 : decode cX7_idle 4 = .ok (.iconst (-1), 1) := by decide +kernel
theorem dX7_idle_5 : decode cX7_idle 5 = .ok (.ireturn, 1) := by decide +kernel
theorem dX7_idle_6 : decode cX7_idle 6 = .ok (.aload_n 0, 1) := by decide +kernel
theorem dX7_idle_7 : decode cX7_idle 7 = .ok (.invokevirtual 118, 3) := by decide +kernel
theorem dX7_idle_10 : decode cX7_idle 10 = .ok (.pop, 1) := by decide +kernel
theorem dX7_idle_11 : decode cX7_idle 11 = .ok (.iconst 0, 1) := by decide +kernel
theorem dX7_idle_12 : decode cX7_idle 12 = .ok (.istore_n 2, 1) := by decide +kernel
theorem dX7_idle_13 : decode cX7_idle 13 = .ok (.iconst 0, 1) := by decide +kernel
theorem dX7_idle_14 : decode cX7_idle 14 = .ok (.istore_n 3, 1) := by decide +kernel
theorem dX7_idle_15 : decode cX7_idle 15 = .ok (.iload_n 3, 1) := by decide +kernel
theorem dX7_idle_16 : decode cX7_idle 16 = .ok (.aload_n 0, 1) := by decide +kernel
theorem dX7_idle_17 : decode cX7_idle 17 = .ok (.getfield 12, 3) := by decide +kernel
theorem dX7_idle_20 : decode cX7_idle 20 = .ok (.getfield 107, 3) := by decide +kernel
theorem dX7_idle_23 : decode cX7_idle 23 = .ok (.if_icmp .ge 54, 3) := by decide +kernel
theorem dX7_idle_26 : decode cX7_idle 26 = .ok (.aload_n 0, 1) := by decide +kernel
theorem dX7_idle_27 : decode cX7_idle 27 = .ok (.getfield 31, 3) := by decide +kernel
theorem dX7_idle_30 : decode cX7_idle 30 = .ok (.aload_n 0, 1) := by decide +kernel
theorem dX7_idle_31 : decode cX7_idle 31 = .ok (.getfield 12, 3) := by decide +kernel
theorem dX7_idle_34 : decode cX7_idle 34 = .ok (.getfield 171, 3) := by decide +kernel
theorem dX7_idle_37 : decode cX7_idle 37 = .ok (.iload_n 3, 1) := by decide +kernel
theorem dX7_idle_38 : decode cX7_idle 38 = .ok (.iaload, 1) := by decide +kernel
theorem dX7_idle_39 : decode cX7_idle 39 = .ok (.aload_n 0, 1) := by decide +kernel
theorem dX7_idle_40 : decode cX7_idle 40 = .ok (.getfield 12, 3) := by decide +kernel
theorem dX7_idle_43 : decode cX7_idle 43 = .ok (.getfield 174, 3) := by decide +kernel
theorem dX7_idle_46 : decode cX7_idle 46 = .ok (.iload_n 3, 1) := by decide +kernel
theorem dX7_idle_47 : decode cX7_idle 47 = .ok (.iaload, 1) := by decide +kernel
theorem dX7_idle_48 : decode cX7_idle 48 = .ok (.invokevirtual 177, 3) := by decide +kernel
theorem dX7_idle_51 : decode cX7_idle 51 = .ok (.ifCond .ne 20, 3) := by decide +kernel
theorem dX7_idle_54 : decode cX7_idle 54 = .ok (.iload_n 2, 1) := by decide +kernel
theorem dX7_idle_55 : decode cX7_idle 55 = .ok (.iload_n 1, 1) := by decide +kernel
theorem dX7_idle_56 : decode cX7_idle 56 = .ok (.if_icmp .ne 12, 3) := by decide +kernel
theorem dX7_idle_59 : decode cX7_idle 59 = .ok (.aload_n 0, 1) := by decide +kernel
theorem dX7_idle_60 : decode cX7_idle 60 = .ok (.getfield 12, 3) := by decide +kernel
theorem dX7_idle_63 : decode cX7_idle 63 = .ok (.iload_n 3, 1) := by decide +kernel
theorem dX7_idle_64 : decode cX7_idle 64 = .ok (.invokevirtual 180, 3) := by decide +kernel
theorem dX7_idle_67 : decode cX7_idle 67 = .ok (.ireturn, 1) := by decide +kernel
theorem dX7_idle_68 : decode cX7_idle 68 = .ok (.iinc 2 1, 3) := by decide +kernel
theorem dX7_idle_71 : decode cX7_idle 71 = .ok (.iinc 3 1, 3) := by decide +kernel
theorem dX7_idle_74 : decode cX7_idle 74 = .ok (.goto (-59), 3) := by decide +kernel
theorem dX7_idle_77 : decode cX7_idle 77 = .ok (.bipush (-5), 2) := by decide +kernel
theorem dX7_idle_79 : decode cX7_idle 79 = .ok (.ireturn, 1) := by decide +kernel
theorem dX7_proof_0 : decode cX7_proof 0 = .ok (.iload_n 1, 1) := by decide +kernel
theorem dX7_proof_1 : decode cX7_proof 1 = .ok (.ifCond .ge 5, 3) := by decide +kernel
theorem dX7_proof_4 : decode cX7_proof 4 = .ok (.iconst (-1), 1) := by decide +kernel
theorem dX7_proof_5 : decode cX7_proof 5 = .ok (.ireturn, 1) := by decide +kernel
theorem dX7_proof_6 : decode cX7_proof 6 = .ok (.aload_n 0, 1) := by decide +kernel
theorem dX7_proof_7 : decode cX7_proof 7 = .ok (.getfield 45, 3) := by decide +kernel
theorem dX7_proof_10 : decode cX7_proof 10 = .ok (.aload_n 0, 1) := by decide +kernel
theorem dX7_proof_11 : decode cX7_proof 11 = .ok (.getfield 12, 3) := by decide +kernel
theorem dX7_proof_14 : decode cX7_proof 14 = .ok (.aload_n 0, 1) := by decide +kernel
theorem dX7_proof_15 : decode cX7_proof 15 = .ok (.invokevirtual 118, 3) := by decide +kernel
theorem dX7_proof_18 : decode cX7_proof 18 = .ok (.invokevirtual 183, 3) := by decide +kernel
theorem dX7_proof_21 : decode cX7_proof 21 = .ok (.iload_n 1, 1) := by decide +kernel
theorem dX7_proof_22 : decode cX7_proof 22 = .ok (.aload_n 0, 1) := by decide +kernel
theorem dX7_proof_23 : decode cX7_proof 23 = .ok (.getfield 45, 3) := by decide +kernel
theorem dX7_proof_26 : decode cX7_proof 26 = .ok (.getfield 187, 3) := by decide +kernel
theorem dX7_proof_29 : decode cX7_proof 29 = .ok (.if_icmp .ge 15, 3) := by decide +kernel
theorem dX7_proof_32 : decode cX7_proof 32 = .ok (.aload_n 0, 1) := by decide +kernel
theorem dX7_proof_33 : decode cX7_proof 33 = .ok (.getfield 45, 3) := by decide +kernel
theorem dX7_proof_36 : decode cX7_proof 36 = .ok (.getfield 190, 3) := by decide +kernel
theorem dX7_proof_39 : decode cX7_proof 39 = .ok (.iload_n 1, 1) := by decide +kernel
theorem dX7_proof_40 : decode cX7_proof 40 = .ok (.iaload, 1) := by decide +kernel
theorem dX7_proof_41 : decode cX7_proof 41 = .ok (.goto 5, 3) := by decide +kernel
theorem dX7_proof_44 : decode cX7_proof 44 = .ok (.bipush (-5), 2) := by decide +kernel
theorem dX7_proof_46 : decode cX7_proof 46 = .ok (.ireturn, 1) := by decide +kernel
theorem dX7_over_0 : decode cX7_over 0 = .ok (.iload_n 1, 1) := by decide +kernel
theorem dX7_over_1 : decode cX7_over 1 = .ok (.invokestatic 193, 3) := by decide +kernel
theorem dX7_over_4 : decode cX7_over 4 = .ok (.ifCond .eq 15, 3) := by decide +kernel
theorem dX7_over_7 : decode cX7_over 7 = .ok (.iload_n 2, 1) := by decide +kernel
theorem dX7_over_8 : decode cX7_over 8 = .ok (.invokestatic 193, 3) := by decide +kernel
theorem dX7_over_11 : decode cX7_over 11 = .ok (.ifCond .eq 8, 3) := by decide +kernel
theorem dX7_over_14 : decode cX7_over 14 = .ok (.iload_n 1, 1) := by decide +kernel
theorem dX7_over_15 : decode cX7_over 15 = .ok (.iload_n 2, 1) := by decide +kernel
theorem dX7_over_16 : decode cX7_over 16 = .ok (.if_icmp .ne 5, 3) := by decide +kernel
theorem dX7_over_19 : decode cX7_over 19 = .ok (.iconst (-1), 1) := by decide +kernel
theorem dX7_over_20 : decode cX7_over 20 = .ok (.ireturn, 1) := by decide +kernel
theorem dX7_over_21 : decode cX7_over 21 = .ok (.aload_n 0, 1) := by decide +kernel
theorem dX7_over_22 : decode cX7_over 22 = .ok (.invokevirtual 118, 3) := by decide +kernel
theorem dX7_over_25 : decode cX7_over 25 = .ok (.pop, 1) := by decide +kernel
theorem dX7_over_26 : decode cX7_over 26 = .ok (.aload_n 0, 1) := by decide +kernel
theorem dX7_over_27 : decode cX7_over 27 = .ok (.iload_n 1, 1) := by decide +kernel
theorem dX7_over_28 : decode cX7_over 28 = .ok (.iload_n 2, 1) := by decide +kernel
theorem dX7_over_29 : decode cX7_over 29 = .ok (.invokevirtual 196, 3) := by decide +kernel
theorem dX7_over_32 : decode cX7_over 32 = .ok (.ifCond .eq 7, 3) := by decide +kernel
theorem dX7_over_35 : decode cX7_over 35 = .ok (.iconst 1, 1) := by decide +kernel
theorem dX7_over_36 : decode cX7_over 36 = .ok (.goto 4, 3) := by decide +kernel
theorem dX7_over_39 : decode cX7_over 39 = .ok (.iconst 0, 1) := by decide +kernel
theorem dX7_over_40 : decode cX7_over 40 = .ok (.ireturn, 1) := by decide +kernel
theorem dX7_rank_0 : decode cX7_rank 0 = .ok (.iload_n 1, 1) := by decide +kernel
theorem dX7_rank_1 : decode cX7_rank 1 = .ok (.invokestatic 193, 3) := by decide +kernel
theorem dX7_rank_4 : decode cX7_rank 4 = .ok (.ifCond .ne 5, 3) := by decide +kernel
theorem dX7_rank_7 : decode cX7_rank 7 = .ok (.iconst (-1), 1) := by decide +kernel
theorem dX7_rank_8 : decode cX7_rank 8 = .ok (.ireturn, 1) := by decide +kernel
theorem dX7_rank_9 : decode cX7_rank 9 = .ok (.aload_n 0, 1) := by decide +kernel
theorem dX7_rank_10 : decode cX7_rank 10 = .ok (.invokevirtual 118, 3) := by decide +kernel
theorem dX7_rank_13 : decode cX7_rank 13 = .ok (.pop, 1) := by decide +kernel
theorem dX7_rank_14 : decode cX7_rank 14 = .ok (.aload_n 0, 1) := by decide +kernel
theorem dX7_rank_15 : decode cX7_rank 15 = .ok (.iload_n 1, 1) := by decide +kernel
theorem dX7_rank_16 : decode cX7_rank 16 = .ok (.invokevirtual 199, 3) := by decide +kernel
theorem dX7_rank_19 : decode cX7_rank 19 = .ok (.istore_n 2, 1) := by decide +kernel
theorem dX7_rank_20 : decode cX7_rank 20 = .ok (.iconst 1, 1) := by decide +kernel
theorem dX7_rank_21 : decode cX7_rank 21 = .ok (.istore_n 3, 1) := by decide +kernel
theorem dX7_rank_22 : decode cX7_rank 22 = .ok (.iload_n 3, 1) := by decide +kernel
theorem dX7_rank_23 : decode cX7_rank 23 = .ok (.bipush 6, 2) := by decide +kernel
theorem dX7_rank_25 : decode cX7_rank 25 = .ok (.if_icmp .ge 43, 3) := by decide +kernel
theorem dX7_rank_28 : decode cX7_rank 28 = .ok (.iconst 0, 1) := by decide +kernel
theorem dX7_rank_29 : decode cX7_rank 29 = .ok (.istore 4, 2) := by decide +kernel
theorem dX7_rank_31 : decode cX7_rank 31 = .ok (.iload 4, 2) := by decide +kernel
theorem dX7_rank_33 : decode cX7_rank 33 = .ok (.bipush 6, 2) := by decide +kernel
theorem dX7_rank_35 : decode cX7_rank 35 = .ok (.if_icmp .ge 27, 3) := by decide +kernel
theorem dX7_rank_38 : decode cX7_rank 38 = .ok (.iload_n 2, 1) := by decide +kernel
theorem dX7_rank_39 : decode cX7_rank 39 = .ok (.iload 4, 2) := by decide +kernel
theorem dX7_rank_41 : decode cX7_rank 41 = .ok (.invokestatic 202, 3) := by decide +kernel
theorem dX7_rank_44 : decode cX7_rank 44 = .ok (.ifCond .eq 12, 3) := by decide +kernel
theorem dX7_rank_47 : decode cX7_rank 47 = .ok (.iload_n 2, 1) := by decide +kernel
theorem dX7_rank_48 : decode cX7_rank 48 = .ok (.aload_n 0, 1) := by decide +kernel
theorem dX7_rank_49 : decode cX7_rank 49 = .ok (.iload 4, 2) := by decide +kernel
theorem dX7_rank_51 : decode cX7_rank 51 = .ok (.invokevirtual 199, 3) := by decide +kernel
theorem dX7_rank_54 : decode cX7_rank 54 = .ok (.ior, 1) := by decide +kernel
theorem dX7_rank_55 : decode cX7_rank 55 = .ok (.istore_n 2, 1) := by decide +kernel
theorem dX7_rank_56 : decode cX7_rank 56 = .ok (.iinc 4 1, 3) := by decide +kernel
theorem dX7_rank_59 : decode cX7_rank 59 = .ok (.goto (-28), 3) := by decide +kernel
theorem dX7_rank_62 : decode cX7_rank 62 = .ok (.iinc 3 1, 3) := by decide +kernel
theorem dX7_rank_65 : decode cX7_rank 65 = .ok (.goto (-43), 3) := by decide +kernel
theorem dX7_rank_68 : decode cX7_rank 68 = .ok (.iload_n 2, 1) := by decide +kernel
theorem dX7_rank_69 : decode cX7_rank 69 = .ok (.iconst 1, 1) := by decide +kernel
theorem dX7_rank_70 : decode cX7_rank 70 = .ok (.iload_n 1, 1) := by decide +kernel
theorem dX7_rank_71 : decode cX7_rank 71 = .ok (.ishl, 1) := by decide +kernel
theorem dX7_rank_72 : decode cX7_rank 72 = .ok (.iconst (-1), 1) := by decide +kernel
theorem dX7_rank_73 : decode cX7_rank 73 = .ok (.ixor, 1) := by decide +kernel
theorem dX7_rank_74 : decode cX7_rank 74 = .ok (.iand, 1) := by decide +kernel
theorem dX7_rank_75 : decode cX7_rank 75 = .ok (.invokestatic 136, 3) := by decide +kernel
theorem dX7_rank_78 : decode cX7_rank 78 = .ok (.ireturn, 1) := by decide +kernel
theorem dX7_bounds_0 : decode cX7_bounds 0 = .ok (.aload_n 0, 1) := by decide +kernel
theorem dX7_bounds_1 : decode cX7_bounds 1 = .ok (.getfield 12, 3) := by decide +kernel
theorem dX7_bounds_4 : decode cX7_bounds 4 = .ok (.iload_n 1, 1) := by decide +kernel
theorem dX7_bounds_5 : decode cX7_bounds 5 = .ok (.invokevirtual 85, 3) := by decide +kernel
theorem dX7_bounds_8 : decode cX7_bounds 8 = .ok (.ifCond .eq 12, 3) := by decide +kernel
theorem dX7_bounds_11 : decode cX7_bounds 11 = .ok (.iload_n 2, 1) := by decide +kernel
theorem dX7_bounds_12 : decode cX7_bounds 12 = .ok (.ifCond .lt 8, 3) := by decide +kernel
theorem dX7_bounds_15 : decode cX7_bounds 15 = .ok (.iload_n 2, 1) := by decide +kernel
theorem dX7_bounds_16 : decode cX7_bounds 16 = .ok (.iconst 1, 1) := by decide +kernel
theorem dX7_bounds_17 : decode cX7_bounds 17 = .ok (.if_icmp .le 5, 3) := by decide +kernel
theorem dX7_bounds_20 : decode cX7_bounds 20 = .ok (.iconst (-1), 1) := by decide +kernel
theorem dX7_bounds_21 : decode cX7_bounds 21 = .ok (.ireturn, 1) := by decide +kernel
theorem dX7_bounds_22 : decode cX7_bounds 22 = .ok (.aload_n 0, 1) := by decide +kernel
theorem dX7_bounds_23 : decode cX7_bounds 23 = .ok (.invokevirtual 118, 3) := by decide +kernel
theorem dX7_bounds_26 : decode cX7_bounds 26 = .ok (.invokevirtual 126, 3) := by decide +kernel
theorem dX7_bounds_29 : decode cX7_bounds 29 = .ok (.ifCond .eq 6, 3) := by decide +kernel
theorem dX7_bounds_32 : decode cX7_bounds 32 = .ok (.bipush (-3), 2) := by decide +kernel
theorem dX7_bounds_34 : decode cX7_bounds 34 = .ok (.ireturn, 1) := by decide +kernel
theorem dX7_bounds_35 : decode cX7_bounds 35 = .ok (.iload_n 2, 1) := by decide +kernel
theorem dX7_bounds_36 : decode cX7_bounds 36 = .ok (.ifCond .ne 18, 3) := by decide +kernel
theorem dX7_bounds_39 : decode cX7_bounds 39 = .ok (.aload_n 0, 1) := by decide +kernel
theorem dX7_bounds_40 : decode cX7_bounds 40 = .ok (.getfield 31, 3) := by decide +kernel
theorem dX7_bounds_43 : decode cX7_bounds 43 = .ok (.aload_n 0, 1) := by decide +kernel
theorem dX7_bounds_44 : decode cX7_bounds 44 = .ok (.getfield 12, 3) := by decide +kernel
theorem dX7_bounds_47 : decode cX7_bounds 47 = .ok (.iload_n 1, 1) := by decide +kernel
theorem dX7_bounds_48 : decode cX7_bounds 48 = .ok (.invokevirtual 205, 3) := by decide +kernel
theorem dX7_bounds_51 : decode cX7_bounds 51 = .ok (.goto 15, 3) := by decide +kernel
theorem dX7_bounds_54 : decode cX7_bounds 54 = .ok (.aload_n 0, 1) := by decide +kernel
theorem dX7_bounds_55 : decode cX7_bounds 55 = .ok (.getfield 31, 3) := by decide +kernel
theorem dX7_bounds_58 : decode cX7_bounds 58 = .ok (.aload_n 0, 1) := by decide +kernel
theorem dX7_bounds_59 : decode cX7_bounds 59 = .ok (.getfield 12, 3) := by decide +kernel
theorem dX7_bounds_62 : decode cX7_bounds 62 = .ok (.iload_n 1, 1) := by decide +kernel
theorem dX7_bounds_63 : decode cX7_bounds 63 = .ok (.invokevirtual 209, 3) := by decide +kernel
theorem dX7_bounds_66 : decode cX7_bounds 66 = .ok (.ireturn, 1) := by decide +kernel
theorem dX7_middle_0 : decode cX7_middle 0 = .ok (.aload_n 0, 1) := by decide +kernel
theorem dX7_middle_1 : decode cX7_middle 1 = .ok (.getfield 12, 3) := by decide +kernel
theorem dX7_middle_4 : decode cX7_middle 4 = .ok (.iload_n 1, 1) := by decide +kernel
theorem dX7_middle_5 : decode cX7_middle 5 = .ok (.invokevirtual 85, 3) := by decide +kernel
theorem dX7_middle_8 : decode cX7_middle 8 = .ok (.ifCond .eq 13, 3) := by decide +kernel
theorem dX7_middle_11 : decode cX7_middle 11 = .ok (.aload_n 0, 1) := by decide +kernel
theorem dX7_middle_12 : decode cX7_middle 12 = .ok (.invokevirtual 118, 3) := by decide +kernel
theorem dX7_middle_15 : decode cX7_middle 15 = .ok (.invokevirtual 126, 3) := by decide +kernel
theorem dX7_middle_18 : decode cX7_middle 18 = .ok (.ifCond .eq 7, 3) := by decide +kernel
theorem dX7_middle_21 : decode cX7_middle 21 = .ok (.ldc2_w 212, 3) := by decide +kernel
theorem dX7_middle_24 : decode cX7_middle 24 = .ok (.lreturn, 1) := by decide +kernel
theorem dX7_middle_25 : decode cX7_middle 25 = .ok (.aload_n 0, 1) := by decide +kernel
theorem dX7_middle_26 : decode cX7_middle 26 = .ok (.iload_n 1, 1) := by decide +kernel
theorem dX7_middle_27 : decode cX7_middle 27 = .ok (.invokevirtual 214, 3) := by decide +kernel
theorem dX7_middle_30 : decode cX7_middle 30 = .ok (.invokestatic 218, 3) := by decide +kernel
theorem dX7_middle_33 : decode cX7_middle 33 = .ok (.lreturn, 1) := by decide +kernel
theorem dX7_rate_0 : decode cX7_rate 0 = .ok (.aload_n 0, 1) := by decide +kernel
theorem dX7_rate_1 : decode cX7_rate 1 = .ok (.getfield 12, 3) := by decide +kernel
theorem dX7_rate_4 : decode cX7_rate 4 = .ok (.iload_n 1, 1) := by decide +kernel
theorem dX7_rate_5 : decode cX7_rate 5 = .ok (.invokevirtual 85, 3) := by decide +kernel
theorem dX7_rate_8 : decode cX7_rate 8 = .ok (.ifCond .ne 5, 3) := by decide +kernel
theorem dX7_rate_11 : decode cX7_rate 11 = .ok (.iconst (-1), 1) := by decide +kernel
theorem dX7_rate_12 : decode cX7_rate 12 = .ok (.ireturn, 1) := by decide +kernel
theorem dX7_rate_13 : decode cX7_rate 13 = .ok (.aload_n 0, 1) := by decide +kernel
theorem dX7_rate_14 : decode cX7_rate 14 = .ok (.invokevirtual 118, 3) := by decide +kernel
theorem dX7_rate_17 : decode cX7_rate 17 = .ok (.invokevirtual 126, 3) := by decide +kernel
theorem dX7_rate_20 : decode cX7_rate 20 = .ok (.ifCond .eq 6, 3) := by decide +kernel
theorem dX7_rate_23 : decode cX7_rate 23 = .ok (.bipush (-3), 2) := by decide +kernel
theorem dX7_rate_25 : decode cX7_rate 25 = .ok (.ireturn, 1) := by decide +kernel
theorem dX7_rate_26 : decode cX7_rate 26 = .ok (.aload_n 0, 1) := by decide +kernel
theorem dX7_rate_27 : decode cX7_rate 27 = .ok (.getfield 31, 3) := by decide +kernel
theorem dX7_rate_30 : decode cX7_rate 30 = .ok (.aload_n 0, 1) := by decide +kernel
theorem dX7_rate_31 : decode cX7_rate 31 = .ok (.getfield 12, 3) := by decide +kernel
theorem dX7_rate_34 : decode cX7_rate 34 = .ok (.iload_n 1, 1) := by decide +kernel
theorem dX7_rate_35 : decode cX7_rate 35 = .ok (.invokevirtual 209, 3) := by decide +kernel
theorem dX7_rate_38 : decode cX7_rate 38 = .ok (.aload_n 0, 1) := by decide +kernel
theorem dX7_rate_39 : decode cX7_rate 39 = .ok (.getfield 31, 3) := by decide +kernel
theorem dX7_rate_42 : decode cX7_rate 42 = .ok (.aload_n 0, 1) := by decide +kernel
theorem dX7_rate_43 : decode cX7_rate 43 = .ok (.getfield 12, 3) := by decide +kernel
theorem dX7_rate_46 : decode cX7_rate 46 = .ok (.iload_n 1, 1) := by decide +kernel
theorem dX7_rate_47 : decode cX7_rate 47 = .ok (.invokevirtual 205, 3) := by decide +kernel
theorem dX7_rate_50 : decode cX7_rate 50 = .ok (.isub, 1) := by decide +kernel
theorem dX7_rate_51 : decode cX7_rate 51 = .ok (.iconst 1, 1) := by decide +kernel
theorem dX7_rate_52 : decode cX7_rate 52 = .ok (.iadd, 1) := by decide +kernel
theorem dX7_rate_53 : decode cX7_rate 53 = .ok (.istore_n 2, 1) := by decide +kernel
theorem dX7_rate_54 : decode cX7_rate 54 = .ok (.iload_n 2, 1) := by decide +kernel
theorem dX7_rate_55 : decode cX7_rate 55 = .ok (.iconst 1, 1) := by decide +kernel
theorem dX7_rate_56 : decode cX7_rate 56 = .ok (.if_icmp .ge 5, 3) := by decide +kernel
theorem dX7_rate_59 : decode cX7_rate 59 = .ok (.iconst 0, 1) := by decide +kernel
theorem dX7_rate_60 : decode cX7_rate 60 = .ok (.ireturn, 1) := by decide +kernel
theorem dX7_rate_61 : decode cX7_rate 61 = .ok (.aload_n 0, 1) := by decide +kernel
theorem dX7_rate_62 : decode cX7_rate 62 = .ok (.getfield 12, 3) := by decide +kernel
theorem dX7_rate_65 : decode cX7_rate 65 = .ok (.iconst 1, 1) := by decide +kernel
theorem dX7_rate_66 : decode cX7_rate 66 = .ok (.iload_n 1, 1) := by decide +kernel
theorem dX7_rate_67 : decode cX7_rate 67 = .ok (.invokevirtual 222, 3) := by decide +kernel
theorem dX7_rate_70 : decode cX7_rate 70 = .ok (.i2f, 1) := by decide +kernel
theorem dX7_rate_71 : decode cX7_rate 71 = .ok (.iload_n 2, 1) := by decide +kernel
theorem dX7_rate_72 : decode cX7_rate 72 = .ok (.i2f, 1) := by decide +kernel
theorem dX7_rate_73 : decode cX7_rate 73 = .ok (.fdiv, 1) := by decide +kernel
theorem dX7_rate_74 : decode cX7_rate 74 = .ok (.invokestatic 225, 3) := by decide +kernel
theorem dX7_rate_77 : decode cX7_rate 77 = .ok (.ireturn, 1) := by decide +kernel
theorem dX7_age_0 : decode cX7_age 0 = .ok (.iload_n 1, 1) := by decide +kernel
theorem dX7_age_1 : decode cX7_age 1 = .ok (.invokestatic 193, 3) := by decide +kernel
theorem dX7_age_4 : decode cX7_age 4 = .ok (.ifCond .eq 12, 3) := by decide +kernel
theorem dX7_age_7 : decode cX7_age 7 = .ok (.iload_n 2, 1) := by decide +kernel
theorem dX7_age_8 : decode cX7_age 8 = .ok (.ifCond .lt 8, 3) := by decide +kernel
theorem dX7_age_11 : decode cX7_age 11 = .ok (.iload_n 2, 1) := by decide +kernel
theorem dX7_age_12 : decode cX7_age 12 = .ok (.iconst 1, 1) := by decide +kernel
theorem dX7_age_13 : decode cX7_age 13 = .ok (.if_icmp .le 7, 3) := by decide +kernel
theorem dX7_age_16 : decode cX7_age 16 = .ok (.ldc2_w 212, 3) := by decide +kernel
theorem dX7_age_19 : decode cX7_age 19 = .ok (.lreturn, 1) := by decide +kernel
theorem dX7_age_20 : decode cX7_age 20 = .ok (.aload_n 0, 1) := by decide +kernel
theorem dX7_age_21 : decode cX7_age 21 = .ok (.getfield 12, 3) := by decide +kernel
theorem dX7_age_24 : decode cX7_age 24 = .ok (.iload_n 1, 1) := by decide +kernel
theorem dX7_age_25 : decode cX7_age 25 = .ok (.invokevirtual 229, 3) := by decide +kernel
theorem dX7_age_28 : decode cX7_age 28 = .ok (.ifCond .eq 13, 3) := by decide +kernel
theorem dX7_age_31 : decode cX7_age 31 = .ok (.aload_n 0, 1) := by decide +kernel
theorem dX7_age_32 : decode cX7_age 32 = .ok (.invokevirtual 118, 3) := by decide +kernel
theorem dX7_age_35 : decode cX7_age 35 = .ok (.invokevirtual 126, 3) := by decide +kernel
theorem dX7_age_38 : decode cX7_age 38 = .ok (.ifCond .eq 7, 3) := by decide +kernel
theorem dX7_age_41 : decode cX7_age 41 = .ok (.ldc2_w 212, 3) := by decide +kernel
theorem dX7_age_44 : decode cX7_age 44 = .ok (.lreturn, 1) := by decide +kernel
theorem dX7_age_45 : decode cX7_age 45 = .ok (.aload_n 0, 1) := by decide +kernel
theorem dX7_age_46 : decode cX7_age 46 = .ok (.iload_n 1, 1) := by decide +kernel
theorem dX7_age_47 : decode cX7_age 47 = .ok (.invokevirtual 232, 3) := by decide +kernel
theorem dX7_age_50 : decode cX7_age 50 = .ok (.dstore_n 3, 1) := by decide +kernel
theorem dX7_age_51 : decode cX7_age 51 = .ok (.iload_n 2, 1) := by decide +kernel
theorem dX7_age_52 : decode cX7_age 52 = .ok (.ifCond .ne 10, 3) := by decide +kernel
theorem dX7_age_55 : decode cX7_age 55 = .ok (.dload_n 3, 1) := by decide +kernel
theorem dX7_age_56 : decode cX7_age 56 = .ok (.invokestatic 218, 3) := by decide +kernel
theorem dX7_age_59 : decode cX7_age 59 = .ok (.goto 9, 3) := by decide +kernel
theorem dX7_age_62 : decode cX7_age 62 = .ok (.dload_n 3, 1) := by decide +kernel
theorem dX7_age_63 : decode cX7_age 63 = .ok (.ldc2_w 235, 3) := by decide +kernel
theorem dX7_age_66 : decode cX7_age 66 = .ok (.dadd, 1) := by decide +kernel
theorem dX7_age_67 : decode cX7_age 67 = .ok (.d2l, 1) := by decide +kernel
theorem dX7_age_68 : decode cX7_age 68 = .ok (.lreturn, 1) := by decide +kernel
theorem dX7_dig_0 : decode cX7_dig 0 = .ok (.aload_n 0, 1) := by decide +kernel
theorem dX7_dig_1 : decode cX7_dig 1 = .ok (.getfield 12, 3) := by decide +kernel
theorem dX7_dig_4 : decode cX7_dig 4 = .ok (.iload_n 1, 1) := by decide +kernel
theorem dX7_dig_5 : decode cX7_dig 5 = .ok (.invokevirtual 85, 3) := by decide +kernel
theorem dX7_dig_8 : decode cX7_dig 8 = .ok (.ifCond .ne 5, 3) := by decide +kernel
theorem dX7_dig_11 : decode cX7_dig 11 = .ok (.iconst (-1), 1) := by decide +kernel
theorem dX7_dig_12 : decode cX7_dig 12 = .ok (.ireturn, 1) := by decide +kernel
theorem dX7_dig_13 : decode cX7_dig 13 = .ok (.aload_n 0, 1) := by decide +kernel
theorem dX7_dig_14 : decode cX7_dig 14 = .ok (.getfield 12, 3) := by decide +kernel
theorem dX7_dig_17 : decode cX7_dig 17 = .ok (.iload_n 1, 1) := by decide +kernel
theorem dX7_dig_18 : decode cX7_dig 18 = .ok (.invokevirtual 97, 3) := by decide +kernel
theorem dX7_dig_21 : decode cX7_dig 21 = .ok (.ifCond .ne 25, 3) := by decide +kernel
theorem dX7_dig_24 : decode cX7_dig 24 = .ok (.aload_n 0, 1) := by decide +kernel
theorem dX7_dig_25 : decode cX7_dig 25 = .ok (.invokevirtual 118, 3) := by decide +kernel
theorem dX7_dig_28 : decode cX7_dig 28 = .ok (.getfield 156, 3) := by decide +kernel
theorem dX7_dig_31 : decode cX7_dig 31 = .ok (.iload_n 1, 1) := by decide +kernel
theorem dX7_dig_32 : decode cX7_dig 32 = .ok (.iaload, 1) := by decide +kernel
theorem dX7_dig_33 : decode cX7_dig 33 = .ok (.aload_n 0, 1) := by decide +kernel
theorem dX7_dig_34 : decode cX7_dig 34 = .ok (.getfield 12, 3) := by decide +kernel
theorem dX7_dig_37 : decode cX7_dig 37 = .ok (.invokevirtual 237, 3) := by decide +kernel
theorem dX7_dig_40 : decode cX7_dig 40 = .ok (.iconst (-1), 1) := by decide +kernel
theorem dX7_dig_41 : decode cX7_dig 41 = .ok (.ixor, 1) := by decide +kernel
theorem dX7_dig_42 : decode cX7_dig 42 = .ok (.iand, 1) := by decide +kernel
theorem dX7_dig_43 : decode cX7_dig 43 = .ok (.ifCond .eq 6, 3) := by decide +kernel
theorem dX7_dig_46 : decode cX7_dig 46 = .ok (.bipush (-3), 2) := by decide +kernel
theorem dX7_dig_48 : decode cX7_dig 48 = .ok (.ireturn, 1) := by decide +kernel
theorem dX7_dig_49 : decode cX7_dig 49 = .ok (.aload_n 0, 1) := by decide +kernel
theorem dX7_dig_50 : decode cX7_dig 50 = .ok (.getfield 12, 3) := by decide +kernel
theorem dX7_dig_53 : decode cX7_dig 53 = .ok (.iload_n 1, 1) := by decide +kernel
theorem dX7_dig_54 : decode cX7_dig 54 = .ok (.invokevirtual 240, 3) := by decide +kernel
theorem dX7_dig_57 : decode cX7_dig 57 = .ok (.aload_n 0, 1) := by decide +kernel
theorem dX7_dig_58 : decode cX7_dig 58 = .ok (.getfield 12, 3) := by decide +kernel
theorem dX7_dig_61 : decode cX7_dig 61 = .ok (.getfield 141, 3) := by decide +kernel
theorem dX7_dig_64 : decode cX7_dig 64 = .ok (.ireturn, 1) := by decide +kernel
theorem dX7_lay_0 : decode cX7_lay 0 = .ok (.aload_n 0, 1) := by decide +kernel
theorem dX7_lay_1 : decode cX7_lay 1 = .ok (.getfield 12, 3) := by decide +kernel
theorem dX7_lay_4 : decode cX7_lay 4 = .ok (.getfield 141, 3) := by decide +kernel
theorem dX7_lay_7 : decode cX7_lay 7 = .ok (.ifCond .ne 6, 3) := by decide +kernel
theorem dX7_lay_10 : decode cX7_lay 10 = .ok (.bipush (-3), 2) := by decide +kernel
theorem dX7_lay_12 : decode cX7_lay 12 = .ok (.ireturn, 1) := by decide +kernel
theorem dX7_lay_13 : decode cX7_lay 13 = .ok (.aload_n 0, 1) := by decide +kernel
theorem dX7_lay_14 : decode cX7_lay 14 = .ok (.getfield 12, 3) := by decide +kernel
theorem dX7_lay_17 : decode cX7_lay 17 = .ok (.dup, 1) := by decide +kernel
theorem dX7_lay_18 : decode cX7_lay 18 = .ok (.getfield 141, 3) := by decide +kernel
theorem dX7_lay_21 : decode cX7_lay 21 = .ok (.iconst 1, 1) := by decide +kernel
theorem dX7_lay_22 : decode cX7_lay 22 = .ok (.isub, 1) := by decide +kernel
theorem dX7_lay_23 : decode cX7_lay 23 = .ok (.putfield 141, 3) := by decide +kernel
theorem dX7_lay_26 : decode cX7_lay 26 = .ok (.aload_n 0, 1) := by decide +kernel
theorem dX7_lay_27 : decode cX7_lay 27 = .ok (.getfield 12, 3) := by decide +kernel
theorem dX7_lay_30 : decode cX7_lay 30 = .ok (.getfield 243, 3) := by decide +kernel
theorem dX7_lay_33 : decode cX7_lay 33 = .ok (.aload_n 0, 1) := by decide +kernel
theorem dX7_lay_34 : decode cX7_lay 34 = .ok (.getfield 12, 3) := by decide +kernel
theorem dX7_lay_37 : decode cX7_lay 37 = .ok (.getfield 141, 3) := by decide +kernel
theorem dX7_lay_40 : decode cX7_lay 40 = .ok (.iaload, 1) := by decide +kernel
theorem dX7_lay_41 : decode cX7_lay 41 = .ok (.ireturn, 1) := by decide +kernel
theorem dX7_dug_0 : decode cX7_dug 0 = .ok (.iload_n 1, 1) := by decide +kernel
theorem dX7_dug_1 : decode cX7_dug 1 = .ok (.ifCond .ge 5, 3) := by decide +kernel
theorem dX7_dug_4 : decode cX7_dug 4 = .ok (.iconst (-1), 1) := by decide +kernel
theorem dX7_dug_5 : decode cX7_dug 5 = .ok (.ireturn, 1) := by decide +kernel
theorem dX7_dug_6 : decode cX7_dug 6 = .ok (.iload_n 1, 1) := by decide +kernel
theorem dX7_dug_7 : decode cX7_dug 7 = .ok (.aload_n 0, 1) := by decide +kernel
theorem dX7_dug_8 : decode cX7_dug 8 = .ok (.getfield 12, 3) := by decide +kernel
theorem dX7_dug_11 : decode cX7_dug 11 = .ok (.getfield 141, 3) := by decide +kernel
theorem dX7_dug_14 : decode cX7_dug 14 = .ok (.if_icmp .ge 15, 3) := by decide +kernel
theorem dX7_dug_17 : decode cX7_dug 17 = .ok (.aload_n 0, 1) := by decide +kernel
theorem dX7_dug_18 : decode cX7_dug 18 = .ok (.getfield 12, 3) := by decide +kernel
theorem dX7_dug_21 : decode cX7_dug 21 = .ok (.getfield 243, 3) := by decide +kernel
theorem dX7_dug_24 : decode cX7_dug 24 = .ok (.iload_n 1, 1) := by decide +kernel
theorem dX7_dug_25 : decode cX7_dug 25 = .ok (.iaload, 1) := by decide +kernel
theorem dX7_dug_26 : decode cX7_dug 26 = .ok (.goto 5, 3) := by decide +kernel
theorem dX7_dug_29 : decode cX7_dug 29 = .ok (.bipush (-5), 2) := by decide +kernel
theorem dX7_dug_31 : decode cX7_dug 31 = .ok (.ireturn, 1) := by decide +kernel
theorem dX7_orders_0 : decode cX7_orders 0 = .ok (.aload_n 0, 1) := by decide +kernel
theorem dX7_orders_1 : decode cX7_orders 1 = .ok (.aload_n 0, 1) := by decide +kernel
theorem dX7_orders_2 : decode cX7_orders 2 = .ok (.getfield 12, 3) := by decide +kernel
theorem dX7_orders_5 : decode cX7_orders 5 = .ok (.invokevirtual 246, 3) := by decide +kernel
theorem dX7_orders_8 : decode cX7_orders 8 = .ok (.lreturn, 1) := by decide +kernel
theorem dX7_order_0 : decode cX7_order 0 = .ok (.lload_n 1, 1) := by decide +kernel
theorem dX7_order_1 : decode cX7_order 1 = .ok (.lconst 0, 1) := by decide +kernel
theorem dX7_order_2 : decode cX7_order 2 = .ok (.lcmp, 1) := by decide +kernel
theorem dX7_order_3 : decode cX7_order 3 = .ok (.ifCond .lt 39, 3) := by decide +kernel
theorem dX7_order_6 : decode cX7_order 6 = .ok (.lload_n 1, 1) := by decide +kernel
theorem dX7_order_7 : decode cX7_order 7 = .ok (.aload_n 0, 1) := by decide +kernel
theorem dX7_order_8 : decode cX7_order 8 = .ok (.aload_n 0, 1) := by decide +kernel
theorem dX7_order_9 : decode cX7_order 9 = .ok (.getfield 12, 3) := by decide +kernel
theorem dX7_order_12 : decode cX7_order 12 = .ok (.invokevirtual 246, 3) := by decide +kernel
theorem dX7_order_15 : decode cX7_order 15 = .ok (.lcmp, 1) := by decide +kernel
theorem dX7_order_16 : decode cX7_order 16 = .ok (.ifCond .ge 26, 3) := by decide +kernel
theorem dX7_order_19 : decode cX7_order 19 = .ok (.iload_n 3, 1) := by decide +kernel
theorem dX7_order_20 : decode cX7_order 20 = .ok (.ifCond .lt 22, 3) := by decide +kernel
theorem dX7_order_23 : decode cX7_order 23 = .ok (.iload_n 3, 1) := by decide +kernel
theorem dX7_order_24 : decode cX7_order 24 = .ok (.aload_n 0, 1) := by decide +kernel
theorem dX7_order_25 : decode cX7_order 25 = .ok (.getfield 12, 3) := by decide +kernel
theorem dX7_order_28 : decode cX7_order 28 = .ok (.getfield 77, 3) := by decide +kernel
theorem dX7_order_31 : decode cX7_order 31 = .ok (.aload_n 0, 1) := by decide +kernel
theorem dX7_order_32 : decode cX7_order 32 = .ok (.getfield 12, 3) := by decide +kernel
theorem dX7_order_35 : decode cX7_order 35 = .ok (.getfield 141, 3) := by decide +kernel
theorem dX7_order_38 : decode cX7_order 38 = .ok (.isub, 1) := by decide +kernel
theorem dX7_order_39 : decode cX7_order 39 = .ok (.if_icmp .lt 5, 3) := by decide +kernel
theorem dX7_order_42 : decode cX7_order 42 = .ok (.iconst (-1), 1) := by decide +kernel
theorem dX7_order_43 : decode cX7_order 43 = .ok (.ireturn, 1) := by decide +kernel
theorem dX7_order_44 : decode cX7_order 44 = .ok (.aload_n 0, 1) := by decide +kernel
theorem dX7_order_45 : decode cX7_order 45 = .ok (.getfield 38, 3) := by decide +kernel
theorem dX7_order_48 : decode cX7_order 48 = .ok (.lload_n 1, 1) := by decide +kernel
theorem dX7_order_49 : decode cX7_order 49 = .ok (.iload_n 3, 1) := by decide +kernel
theorem dX7_order_50 : decode cX7_order 50 = .ok (.invokevirtual 250, 3) := by decide +kernel
theorem dX7_order_53 : decode cX7_order 53 = .ok (.ireturn, 1) := by decide +kernel
theorem dX7_tray_0 : decode cX7_tray 0 = .ok (.iload_n 1, 1) := by decide +kernel
theorem dX7_tray_1 : decode cX7_tray 1 = .ok (.invokestatic 254, 3) := by decide +kernel
theorem dX7_tray_4 : decode cX7_tray 4 = .ok (.ifCond .eq 19, 3) := by decide +kernel
theorem dX7_tray_7 : decode cX7_tray 7 = .ok (.iload_n 3, 1) := by decide +kernel
theorem dX7_tray_8 : decode cX7_tray 8 = .ok (.iconst (-1), 1) := by decide +kernel
theorem dX7_tray_9 : decode cX7_tray 9 = .ok (.if_icmp .eq 16, 3) := by decide +kernel
theorem dX7_tray_12 : decode cX7_tray 12 = .ok (.aload_n 0, 1) := by decide +kernel
theorem dX7_tray_13 : decode cX7_tray 13 = .ok (.getfield 12, 3) := by decide +kernel
theorem dX7_tray_16 : decode cX7_tray 16 = .ok (.iload_n 3, 1) := by decide +kernel
theorem dX7_tray_17 : decode cX7_tray 17 = .ok (.invokevirtual 85, 3) := by decide +kernel
theorem dX7_tray_20 : decode cX7_tray 20 = .ok (.ifCond .ne 5, 3) := by decide +kernel
theorem dX7_tray_23 : decode cX7_tray 23 = .ok (.iconst (-1), 1) := by decide +kernel
theorem dX7_tray_24 : decode cX7_tray 24 = .ok (.ireturn, 1) := by decide +kernel
theorem dX7_tray_25 : decode cX7_tray 25 = .ok (.iload_n 2, 1) := by decide +kernel
theorem dX7_tray_26 : decode cX7_tray 26 = .ok (.invokestatic 257, 3) := by decide +kernel
theorem dX7_tray_29 : decode cX7_tray 29 = .ok (.ifCond .ne 6, 3) := by decide +kernel
theorem dX7_tray_32 : decode cX7_tray 32 = .ok (.bipush (-13), 2) := by decide +kernel
theorem dX7_tray_34 : decode cX7_tray 34 = .ok (.ireturn, 1) := by decide +kernel
theorem dX7_tray_35 : decode cX7_tray 35 = .ok (.iload_n 3, 1) := by decide +kernel
theorem dX7_tray_36 : decode cX7_tray 36 = .ok (.iconst (-1), 1) := by decide +kernel
theorem dX7_tray_37 : decode cX7_tray 37 = .ok (.if_icmp .eq 22, 3) := by decide +kernel
theorem dX7_tray_40 : decode cX7_tray 40 = .ok (.iload_n 1, 1) := by decide +kernel
theorem dX7_tray_41 : decode cX7_tray 41 = .ok (.aload_n 0, 1) := by decide +kernel
theorem dX7_tray_42 : decode cX7_tray 42 = .ok (.getfield 12, 3) := by decide +kernel
theorem dX7_tray_45 : decode cX7_tray 45 = .ok (.iconst 0, 1) := by decide +kernel
theorem dX7_tray_46 : decode cX7_tray 46 = .ok (.iload_n 3, 1) := by decide +kernel
theorem dX7_tray_47 : decode cX7_tray 47 = .ok (.invokevirtual 222, 3) := by decide +kernel
theorem dX7_tray_50 : decode cX7_tray 50 = .ok (.invokestatic 260, 3) := by decide +kernel
theorem dX7_tray_53 : decode cX7_tray 53 = .ok (.ifCond .ne 6, 3) := by decide +kernel
theorem dX7_tray_56 : decode cX7_tray 56 = .ok (.bipush (-12), 2) := by decide +kernel
theorem dX7_tray_58 : decode cX7_tray 58 = .ok (.ireturn, 1) := by decide +kernel
theorem dX7_tray_59 : decode cX7_tray 59 = .ok (.iload_n 1, 1) := by decide +kernel
theorem dX7_tray_60 : decode cX7_tray 60 = .ok (.iconst 4, 1) := by decide +kernel
theorem dX7_tray_61 : decode cX7_tray 61 = .ok (.imul, 1) := by decide +kernel
theorem dX7_tray_62 : decode cX7_tray 62 = .ok (.iload_n 2, 1) := by decide +kernel
theorem dX7_tray_63 : decode cX7_tray 63 = .ok (.iadd, 1) := by decide +kernel
theorem dX7_tray_64 : decode cX7_tray 64 = .ok (.istore 4, 2) := by decide +kernel
theorem dX7_tray_66 : decode cX7_tray 66 = .ok (.aload_n 0, 1) := by decide +kernel
theorem dX7_tray_67 : decode cX7_tray 67 = .ok (.getfield 12, 3) := by decide +kernel
theorem dX7_tray_70 : decode cX7_tray 70 = .ok (.getfield 263, 3) := by decide +kernel
theorem dX7_tray_73 : decode cX7_tray 73 = .ok (.iload 4, 2) := by decide +kernel
theorem dX7_tray_75 : decode cX7_tray 75 = .ok (.iaload, 1) := by decide +kernel
theorem dX7_tray_76 : decode cX7_tray 76 = .ok (.istore 5, 2) := by decide +kernel
theorem dX7_tray_78 : decode cX7_tray 78 = .ok (.aload_n 0, 1) := by decide +kernel
theorem dX7_tray_79 : decode cX7_tray 79 = .ok (.getfield 12, 3) := by decide +kernel
theorem dX7_tray_82 : decode cX7_tray 82 = .ok (.getfield 263, 3) := by decide +kernel
theorem dX7_tray_85 : decode cX7_tray 85 = .ok (.iload 4, 2) := by decide +kernel
theorem dX7_tray_87 : decode cX7_tray 87 = .ok (.iload_n 3, 1) := by decide +kernel
theorem dX7_tray_88 : decode cX7_tray 88 = .ok (.iastore, 1) := by decide +kernel
theorem dX7_tray_89 : decode cX7_tray 89 = .ok (.aload_n 0, 1) := by decide +kernel
theorem dX7_tray_90 : decode cX7_tray 90 = .ok (.getfield 12, 3) := by decide +kernel
theorem dX7_tray_93 : decode cX7_tray 93 = .ok (.getfield 266, 3) := by decide +kernel
theorem dX7_tray_96 : decode cX7_tray 96 = .ok (.iload 4, 2) := by decide +kernel
theorem dX7_tray_98 : decode cX7_tray 98 = .ok (.iload_n 3, 1) := by decide +kernel
theorem dX7_tray_99 : decode cX7_tray 99 = .ok (.iconst (-1), 1) := by decide +kernel
theorem dX7_tray_100 : decode cX7_tray 100 = .ok (.if_icmp .ne 7, 3) := by decide +kernel
theorem dX7_tray_103 : decode cX7_tray 103 = .ok (.iconst (-1), 1) := by decide +kernel
theorem dX7_tray_104 : decode cX7_tray 104 = .ok (.goto 12, 3) := by decide +kernel
theorem dX7_tray_107 : decode cX7_tray 107 = .ok (.aload_n 0, 1) := by decide +kernel
theorem dX7_tray_108 : decode cX7_tray 108 = .ok (.getfield 12, 3) := by decide +kernel
theorem dX7_tray_111 : decode cX7_tray 111 = .ok (.iconst 0, 1) := by decide +kernel
theorem dX7_tray_112 : decode cX7_tray 112 = .ok (.iload_n 3, 1) := by decide +kernel
theorem dX7_tray_113 : decode cX7_tray 113 = .ok (.invokevirtual 222, 3) := by decide +kernel
theorem dX7_tray_116 : decode cX7_tray 116 = .ok (.iastore, 1) := by decide +kernel
theorem dX7_tray_117 : decode cX7_tray 117 = .ok (.iload 5, 2) := by decide +kernel
theorem dX7_tray_119 : decode cX7_tray 119 = .ok (.iconst (-1), 1) := by decide +kernel
theorem dX7_tray_120 : decode cX7_tray 120 = .ok (.if_icmp .ne 8, 3) := by decide +kernel
theorem dX7_tray_123 : decode cX7_tray 123 = .ok (.bipush (-5), 2) := by decide +kernel
theorem dX7_tray_125 : decode cX7_tray 125 = .ok (.goto 5, 3) := by decide +kernel
theorem dX7_tray_128 : decode cX7_tray 128 = .ok (.iload 5, 2) := by decide +kernel
theorem dX7_tray_130 : decode cX7_tray 130 = .ok (.ireturn, 1) := by decide +kernel
theorem dX7_held_0 : decode cX7_held 0 = .ok (.iload_n 1, 1) := by decide +kernel
theorem dX7_held_1 : decode cX7_held 1 = .ok (.invokestatic 254, 3) := by decide +kernel
theorem dX7_held_4 : decode cX7_held 4 = .ok (.ifCond .eq 12, 3) := by decide +kernel
theorem dX7_held_7 : decode cX7_held 7 = .ok (.iload_n 3, 1) := by decide +kernel
theorem dX7_held_8 : decode cX7_held 8 = .ok (.ifCond .lt 8, 3) := by decide +kernel
theorem dX7_held_11 : decode cX7_held 11 = .ok (.iload_n 3, 1) := by decide +kernel
theorem dX7_held_12 : decode cX7_held 12 = .ok (.iconst 1, 1) := by decide +kernel
theorem dX7_held_13 : decode cX7_held 13 = .ok (.if_icmp .le 5, 3) := by decide +kernel
theorem dX7_held_16 : decode cX7_held 16 = .ok (.iconst (-1), 1) := by decide +kernel
theorem dX7_held_17 : decode cX7_held 17 = .ok (.ireturn, 1) := by decide +kernel
theorem dX7_held_18 : decode cX7_held 18 = .ok (.iload_n 2, 1) := by decide +kernel
theorem dX7_held_19 : decode cX7_held 19 = .ok (.invokestatic 257, 3) := by decide +kernel
theorem dX7_held_22 : decode cX7_held 22 = .ok (.ifCond .ne 6, 3) := by decide +kernel
theorem dX7_held_25 : decode cX7_held 25 = .ok (.bipush (-13), 2) := by decide +kernel
theorem dX7_held_27 : decode cX7_held 27 = .ok (.ireturn, 1) := by decide +kernel
theorem dX7_held_28 : decode cX7_held 28 = .ok (.iload_n 1, 1) := by decide +kernel
theorem dX7_held_29 : decode cX7_held 29 = .ok (.iconst 4, 1) := by decide +kernel
theorem dX7_held_30 : decode cX7_held 30 = .ok (.imul, 1) := by decide +kernel
theorem dX7_held_31 : decode cX7_held 31 = .ok (.iload_n 2, 1) := by decide +kernel
theorem dX7_held_32 : decode cX7_held 32 = .ok (.iadd, 1) := by decide +kernel
theorem dX7_held_33 : decode cX7_held 33 = .ok (.istore 4, 2) := by decide +kernel
theorem dX7_held_35 : decode cX7_held 35 = .ok (.aload_n 0, 1) := by decide +kernel
theorem dX7_held_36 : decode cX7_held 36 = .ok (.getfield 12, 3) := by decide +kernel
theorem dX7_held_39 : decode cX7_held 39 = .ok (.getfield 263, 3) := by decide +kernel
theorem dX7_held_42 : decode cX7_held 42 = .ok (.iload 4, 2) := by decide +kernel
theorem dX7_held_44 : decode cX7_held 44 = .ok (.iaload, 1) := by decide +kernel
theorem dX7_held_45 : decode cX7_held 45 = .ok (.iconst (-1), 1) := by decide +kernel
theorem dX7_held_46 : decode cX7_held 46 = .ok (.if_icmp .ne 6, 3) := by decide +kernel
theorem dX7_held_49 : decode cX7_held 49 = .ok (.bipush (-5), 2) := by decide +kernel
theorem dX7_held_51 : decode cX7_held 51 = .ok (.ireturn, 1) := by decide +kernel
theorem dX7_held_52 : decode cX7_held 52 = .ok (.iload_n 3, 1) := by decide +kernel
theorem dX7_held_53 : decode cX7_held 53 = .ok (.ifCond .ne 16, 3) := by decide +kernel
theorem dX7_held_56 : decode cX7_held 56 = .ok (.aload_n 0, 1) := by decide +kernel
theorem dX7_held_57 : decode cX7_held 57 = .ok (.getfield 12, 3) := by decide +kernel
theorem dX7_held_60 : decode cX7_held 60 = .ok (.getfield 263, 3) := by decide +kernel
theorem dX7_held_63 : decode cX7_held 63 = .ok (.iload 4, 2) := by decide +kernel
theorem dX7_held_65 : decode cX7_held 65 = .ok (.iaload, 1) := by decide +kernel
theorem dX7_held_66 : decode cX7_held 66 = .ok (.goto 13, 3) := by decide +kernel
theorem dX7_held_69 : decode cX7_held 69 = .ok (.aload_n 0, 1) := by decide +kernel
theorem dX7_held_70 : decode cX7_held 70 = .ok (.getfield 12, 3) := by decide +kernel
theorem dX7_held_73 : decode cX7_held 73 = .ok (.getfield 266, 3) := by decide +kernel
theorem dX7_held_76 : decode cX7_held 76 = .ok (.iload 4, 2) := by decide +kernel
theorem dX7_held_78 : decode cX7_held 78 = .ok (.iaload, 1) := by decide +kernel
theorem dX7_held_79 : decode cX7_held 79 = .ok (.ireturn, 1) := by decide +kernel
theorem dX7_feed_0 : decode cX7_feed 0 = .ok (.iload_n 1, 1) := by decide +kernel
theorem dX7_feed_1 : decode cX7_feed 1 = .ok (.ifCond .lt 9, 3) := by decide +kernel
theorem dX7_feed_4 : decode cX7_feed 4 = .ok (.iload_n 1, 1) := by decide +kernel
theorem dX7_feed_5 : decode cX7_feed 5 = .ok (.bipush 127, 2) := by decide +kernel
theorem dX7_feed_7 : decode cX7_feed 7 = .ok (.if_icmp .le 6, 3) := by decide +kernel
theorem dX7_feed_10 : decode cX7_feed 10 = .ok (.bipush (-2), 2) := by decide +kernel
theorem dX7_feed_12 : decode cX7_feed 12 = .ok (.ireturn, 1) := by decide +kernel
theorem dX7_feed_13 : decode cX7_feed 13 = .ok (.aload_n 0, 1) := by decide +kernel
theorem dX7_feed_14 : decode cX7_feed 14 = .ok (.getfield 52, 3) := by decide +kernel
theorem dX7_feed_17 : decode cX7_feed 17 = .ok (.getfield 269, 3) := by decide +kernel
theorem dX7_feed_20 : decode cX7_feed 20 = .ok (.bipush 100, 2) := by decide +kernel
theorem dX7_feed_22 : decode cX7_feed 22 = .ok (.if_icmp .lt 6, 3) := by decide +kernel
theorem dX7_feed_25 : decode cX7_feed 25 = .ok (.bipush (-4), 2) := by decide +kernel
theorem dX7_feed_27 : decode cX7_feed 27 = .ok (.ireturn, 1) := by decide +kernel
theorem dX7_feed_28 : decode cX7_feed 28 = .ok (.aload_n 0, 1) := by decide +kernel
theorem dX7_feed_29 : decode cX7_feed 29 = .ok (.getfield 52, 3) := by decide +kernel
theorem dX7_feed_32 : decode cX7_feed 32 = .ok (.getfield 272, 3) := by decide +kernel
theorem dX7_feed_35 : decode cX7_feed 35 = .ok (.aload_n 0, 1) := by decide +kernel
theorem dX7_feed_36 : decode cX7_feed 36 = .ok (.getfield 52, 3) := by decide +kernel
theorem dX7_feed_39 : decode cX7_feed 39 = .ok (.getfield 269, 3) := by decide +kernel
theorem dX7_feed_42 : decode cX7_feed 42 = .ok (.iload_n 1, 1) := by decide +kernel
theorem dX7_feed_43 : decode cX7_feed 43 = .ok (.iastore, 1) := by decide +kernel
theorem dX7_feed_44 : decode cX7_feed 44 = .ok (.aload_n 0, 1) := by decide +kernel
theorem dX7_feed_45 : decode cX7_feed 45 = .ok (.getfield 52, 3) := by decide +kernel
theorem dX7_feed_48 : decode cX7_feed 48 = .ok (.dup, 1) := by decide +kernel
theorem dX7_feed_49 : decode cX7_feed 49 = .ok (.getfield 269, 3) := by decide +kernel
theorem dX7_feed_52 : decode cX7_feed 52 = .ok (.iconst 1, 1) := by decide +kernel
theorem dX7_feed_53 : decode cX7_feed 53 = .ok (.iadd, 1) := by decide +kernel
theorem dX7_feed_54 : decode cX7_feed 54 = .ok (.putfield 269, 3) := by decide +kernel
theorem dX7_feed_57 : decode cX7_feed 57 = .ok (.aload_n 0, 1) := by decide +kernel
theorem dX7_feed_58 : decode cX7_feed 58 = .ok (.getfield 52, 3) := by decide +kernel
theorem dX7_feed_61 : decode cX7_feed 61 = .ok (.getfield 269, 3) := by decide +kernel
theorem dX7_feed_64 : decode cX7_feed 64 = .ok (.ireturn, 1) := by decide +kernel
theorem dX7_read_0 : decode cX7_read 0 = .ok (.aload_n 0, 1) := by decide +kernel
theorem dX7_read_1 : decode cX7_read 1 = .ok (.getfield 52, 3) := by decide +kernel
theorem dX7_read_4 : decode cX7_read 4 = .ok (.invokevirtual 275, 3) := by decide +kernel
theorem dX7_read_7 : decode cX7_read 7 = .ok (.istore_n 1, 1) := by decide +kernel
theorem dX7_read_8 : decode cX7_read 8 = .ok (.aload_n 0, 1) := by decide +kernel
theorem dX7_read_9 : decode cX7_read 9 = .ok (.getfield 52, 3) := by decide +kernel
theorem dX7_read_12 : decode cX7_read 12 = .ok (.iconst 0, 1) := by decide +kernel
theorem dX7_read_13 : decode cX7_read 13 = .ok (.putfield 269, 3) := by decide +kernel
theorem dX7_read_16 : decode cX7_read 16 = .ok (.iload_n 1, 1) := by decide +kernel
theorem dX7_read_17 : decode cX7_read 17 = .ok (.ifCond .eq 5, 3) := by decide +kernel
theorem dX7_read_20 : decode cX7_read 20 = .ok (.iload_n 1, 1) := by decide +kernel
theorem dX7_read_21 : decode cX7_read 21 = .ok (.ireturn, 1) := by decide +kernel
theorem dX7_read_22 : decode cX7_read 22 = .ok (.iconst 0, 1) := by decide +kernel
theorem dX7_read_23 : decode cX7_read 23 = .ok (.istore_n 2, 1) := by decide +kernel
theorem dX7_read_24 : decode cX7_read 24 = .ok (.iconst 0, 1) := by decide +kernel
theorem dX7_read_25 : decode cX7_read 25 = .ok (.istore_n 3, 1) := by decide +kernel
theorem dX7_read_26 : decode cX7_read 26 = .ok (.iload_n 3, 1) := by decide +kernel
theorem dX7_read_27 : decode cX7_read 27 = .ok (.aload_n 0, 1) := by decide +kernel
theorem dX7_read_28 : decode cX7_read 28 = .ok (.getfield 52, 3) := by decide +kernel
theorem dX7_read_31 : decode cX7_read 31 = .ok (.getfield 278, 3) := by decide +kernel
theorem dX7_read_34 : decode cX7_read 34 = .ok (.if_icmp .ge 46, 3) := by decide +kernel
theorem dX7_read_37 : decode cX7_read 37 = .ok (.aload_n 0, 1) := by decide +kernel
theorem dX7_read_38 : decode cX7_read 38 = .ok (.aload_n 0, 1) := by decide +kernel
theorem dX7_read_39 : decode cX7_read 39 = .ok (.getfield 52, 3) := by decide +kernel
theorem dX7_read_42 : decode cX7_read 42 = .ok (.getfield 281, 3) := by decide +kernel
theorem dX7_read_45 : decode cX7_read 45 = .ok (.iload_n 3, 1) := by decide +kernel
theorem dX7_read_46 : decode cX7_read 46 = .ok (.iaload, 1) := by decide +kernel
theorem dX7_read_47 : decode cX7_read 47 = .ok (.aload_n 0, 1) := by decide +kernel
theorem dX7_read_48 : decode cX7_read 48 = .ok (.getfield 52, 3) := by decide +kernel
theorem dX7_read_51 : decode cX7_read 51 = .ok (.getfield 284, 3) := by decide +kernel
theorem dX7_read_54 : decode cX7_read 54 = .ok (.iload_n 3, 1) := by decide +kernel
theorem dX7_read_55 : decode cX7_read 55 = .ok (.iaload, 1) := by decide +kernel
theorem dX7_read_56 : decode cX7_read 56 = .ok (.aload_n 0, 1) := by decide +kernel
theorem dX7_read_57 : decode cX7_read 57 = .ok (.getfield 52, 3) := by decide +kernel
theorem dX7_read_60 : decode cX7_read 60 = .ok (.getfield 287, 3) := by decide +kernel
theorem dX7_read_63 : decode cX7_read 63 = .ok (.iload_n 3, 1) := by decide +kernel
theorem dX7_read_64 : decode cX7_read 64 = .ok (.iaload, 1) := by decide +kernel
theorem dX7_read_65 : decode cX7_read 65 = .ok (.invokevirtual 290, 3) := by decide +kernel
theorem dX7_read_68 : decode cX7_read 68 = .ok (.ifCond .eq 6, 3) := by decide +kernel
theorem dX7_read_71 : decode cX7_read 71 = .ok (.iinc 2 1, 3) := by decide +kernel
theorem dX7_read_74 : decode cX7_read 74 = .ok (.iinc 3 1, 3) := by decide +kernel
theorem dX7_read_77 : decode cX7_read 77 = .ok (.goto (-51), 3) := by decide +kernel
theorem dX7_read_80 : decode cX7_read 80 = .ok (.iload_n 2, 1) := by decide +kernel
theorem dX7_read_81 : decode cX7_read 81 = .ok (.ireturn, 1) := by decide +kernel
theorem dX7_draw_0 : decode cX7_draw 0 = .ok (.iload_n 1, 1) := by decide +kernel
theorem dX7_draw_1 : decode cX7_draw 1 = .ok (.ifCond .lt 8, 3) := by decide +kernel
theorem dX7_draw_4 : decode cX7_draw 4 = .ok (.iload_n 1, 1) := by decide +kernel
theorem dX7_draw_5 : decode cX7_draw 5 = .ok (.iconst 1, 1) := by decide +kernel
theorem dX7_draw_6 : decode cX7_draw 6 = .ok (.if_icmp .le 5, 3) := by decide +kernel
theorem dX7_draw_9 : decode cX7_draw 9 = .ok (.iconst (-1), 1) := by decide +kernel
theorem dX7_draw_10 : decode cX7_draw 10 = .ok (.ireturn, 1) := by decide +kernel
theorem dX7_draw_11 : decode cX7_draw 11 = .ok (.aload_n 0, 1) := by decide +kernel
theorem dX7_draw_12 : decode cX7_draw 12 = .ok (.invokevirtual 118, 3) := by decide +kernel
theorem dX7_draw_15 : decode cX7_draw 15 = .ok (.pop, 1) := by decide +kernel
theorem dX7_draw_16 : decode cX7_draw 16 = .ok (.iload_n 1, 1) := by decide +kernel
theorem dX7_draw_17 : decode cX7_draw 17 = .ok (.ifCond .ne 17, 3) := by decide +kernel
theorem dX7_draw_20 : decode cX7_draw 20 = .ok (.aload_n 0, 1) := by decide +kernel
theorem dX7_draw_21 : decode cX7_draw 21 = .ok (.getfield 59, 3) := by decide +kernel
theorem dX7_draw_24 : decode cX7_draw 24 = .ok (.aload_n 0, 1) := by decide +kernel
theorem dX7_draw_25 : decode cX7_draw 25 = .ok (.getfield 31, 3) := by decide +kernel
theorem dX7_draw_28 : decode cX7_draw 28 = .ok (.invokevirtual 294, 3) := by decide +kernel
theorem dX7_draw_31 : decode cX7_draw 31 = .ok (.goto 38, 3) := by decide +kernel
theorem dX7_draw_34 : decode cX7_draw 34 = .ok (.aload_n 0, 1) := by decide +kernel
theorem dX7_draw_35 : decode cX7_draw 35 = .ok (.getfield 31, 3) := by decide +kernel
theorem dX7_draw_38 : decode cX7_draw 38 = .ok (.invokevirtual 126, 3) := by decide +kernel
theorem dX7_draw_41 : decode cX7_draw 41 = .ok (.ifCond .eq 17, 3) := by decide +kernel
theorem dX7_draw_44 : decode cX7_draw 44 = .ok (.aload_n 0, 1) := by decide +kernel
theorem dX7_draw_45 : decode cX7_draw 45 = .ok (.getfield 59, 3) := by decide +kernel
theorem dX7_draw_48 : decode cX7_draw 48 = .ok (.aload_n 0, 1) := by decide +kernel
theorem dX7_draw_49 : decode cX7_draw 49 = .ok (.getfield 31, 3) := by decide +kernel
theorem dX7_draw_52 : decode cX7_draw 52 = .ok (.invokevirtual 298, 3) := by decide +kernel
theorem dX7_draw_55 : decode cX7_draw 55 = .ok (.goto 14, 3) := by decide +kernel
theorem dX7_draw_58 : decode cX7_draw 58 = .ok (.aload_n 0, 1) := by decide +kernel
theorem dX7_draw_59 : decode cX7_draw 59 = .ok (.getfield 59, 3) := by decide +kernel
theorem dX7_draw_62 : decode cX7_draw 62 = .ok (.aload_n 0, 1) := by decide +kernel
theorem dX7_draw_63 : decode cX7_draw 63 = .ok (.getfield 31, 3) := by decide +kernel
theorem dX7_draw_66 : decode cX7_draw 66 = .ok (.invokevirtual 301, 3) := by decide +kernel
theorem dX7_draw_69 : decode cX7_draw 69 = .ok (.aload_n 0, 1) := by decide +kernel
theorem dX7_draw_70 : decode cX7_draw 70 = .ok (.getfield 59, 3) := by decide +kernel
theorem dX7_draw_73 : decode cX7_draw 73 = .ok (.getfield 304, 3) := by decide +kernel
theorem dX7_draw_76 : decode cX7_draw 76 = .ok (.ireturn, 1) := by decide +kernel
theorem dX7_paper_0 : decode cX7_paper 0 = .ok (.iload_n 1, 1) := by decide +kernel
theorem dX7_paper_1 : decode cX7_paper 1 = .ok (.ifCond .ge 5, 3) := by decide +kernel
theorem dX7_paper_4 : decode cX7_paper 4 = .ok (.iconst (-1), 1) := by decide +kernel
theorem dX7_paper_5 : decode cX7_paper 5 = .ok (.ireturn, 1) := by decide +kernel
theorem dX7_paper_6 : decode cX7_paper 6 = .ok (.iload_n 1, 1) := by decide +kernel
theorem dX7_paper_7 : decode cX7_paper 7 = .ok (.aload_n 0, 1) := by decide +kernel
theorem dX7_paper_8 : decode cX7_paper 8 = .ok (.getfield 59, 3) := by decide +kernel
theorem dX7_paper_11 : decode cX7_paper 11 = .ok (.getfield 304, 3) := by decide +kernel
theorem dX7_paper_14 : decode cX7_paper 14 = .ok (.if_icmp .ge 15, 3) := by decide +kernel
theorem dX7_paper_17 : decode cX7_paper 17 = .ok (.aload_n 0, 1) := by decide +kernel
theorem dX7_paper_18 : decode cX7_paper 18 = .ok (.getfield 59, 3) := by decide +kernel
theorem dX7_paper_21 : decode cX7_paper 21 = .ok (.getfield 305, 3) := by decide +kernel
theorem dX7_paper_24 : decode cX7_paper 24 = .ok (.iload_n 1, 1) := by decide +kernel
theorem dX7_paper_25 : decode cX7_paper 25 = .ok (.iaload, 1) := by decide +kernel
theorem dX7_paper_26 : decode cX7_paper 26 = .ok (.goto 5, 3) := by decide +kernel
theorem dX7_paper_29 : decode cX7_paper 29 = .ok (.bipush (-5), 2) := by decide +kernel
theorem dX7_paper_31 : decode cX7_paper 31 = .ok (.ireturn, 1) := by decide +kernel
theorem dX7_see_0 : decode cX7_see 0 = .ok (.iload_n 1, 1) := by decide +kernel
theorem dX7_see_1 : decode cX7_see 1 = .ok (.iconst (-1), 1) := by decide +kernel
theorem dX7_see_2 : decode cX7_see 2 = .ok (.if_icmp .ne 13, 3) := by decide +kernel
theorem dX7_see_5 : decode cX7_see 5 = .ok (.aload_n 0, 1) := by decide +kernel
theorem dX7_see_6 : decode cX7_see 6 = .ok (.getfield 12, 3) := by decide +kernel
theorem dX7_see_9 : decode cX7_see 9 = .ok (.iconst 0, 1) := by decide +kernel
theorem dX7_see_10 : decode cX7_see 10 = .ok (.putfield 308, 3) := by decide +kernel
theorem dX7_see_13 : decode cX7_see 13 = .ok (.iconst 0, 1) := by decide +kernel
theorem dX7_see_14 : decode cX7_see 14 = .ok (.ireturn, 1) := by decide +kernel
theorem dX7_see_15 : decode cX7_see 15 = .ok (.aload_n 0, 1) := by decide +kernel
theorem dX7_see_16 : decode cX7_see 16 = .ok (.getfield 12, 3) := by decide +kernel
theorem dX7_see_19 : decode cX7_see 19 = .ok (.iload_n 1, 1) := by decide +kernel
theorem dX7_see_20 : decode cX7_see 20 = .ok (.invokevirtual 85, 3) := by decide +kernel
theorem dX7_see_23 : decode cX7_see 23 = .ok (.ifCond .eq 14, 3) := by decide +kernel
theorem dX7_see_26 : decode cX7_see 26 = .ok (.aload_n 0, 1) := by decide +kernel
theorem dX7_see_27 : decode cX7_see 27 = .ok (.getfield 12, 3) := by decide +kernel
theorem dX7_see_30 : decode cX7_see 30 = .ok (.iload_n 2, 1) := by decide +kernel
theorem dX7_see_31 : decode cX7_see 31 = .ok (.invokevirtual 85, 3) := by decide +kernel
theorem dX7_see_34 : decode cX7_see 34 = .ok (.ifCond .ne 5, 3) := by decide +kernel
theorem dX7_see_37 : decode cX7_see 37 = .ok (.iconst (-1), 1) := by decide +kernel
theorem dX7_see_38 : decode cX7_see 38 = .ok (.ireturn, 1) := by decide +kernel
theorem dX7_see_39 : decode cX7_see 39 = .ok (.aload_n 0, 1) := by decide +kernel
theorem dX7_see_40 : decode cX7_see 40 = .ok (.getfield 12, 3) := by decide +kernel
theorem dX7_see_43 : decode cX7_see 43 = .ok (.getfield 308, 3) := by decide +kernel
theorem dX7_see_46 : decode cX7_see 46 = .ok (.iconst 5, 1) := by decide +kernel
theorem dX7_see_47 : decode cX7_see 47 = .ok (.if_icmp .lt 6, 3) := by decide +kernel
theorem dX7_see_50 : decode cX7_see 50 = .ok (.bipush (-4), 2) := by decide +kernel
theorem dX7_see_52 : decode cX7_see 52 = .ok (.ireturn, 1) := by decide +kernel
theorem dX7_see_53 : decode cX7_see 53 = .ok (.aload_n 0, 1) := by decide +kernel
theorem dX7_see_54 : decode cX7_see 54 = .ok (.getfield 12, 3) := by decide +kernel
theorem dX7_see_57 : decode cX7_see 57 = .ok (.iload_n 1, 1) := by decide +kernel
theorem dX7_see_58 : decode cX7_see 58 = .ok (.iload_n 2, 1) := by decide +kernel
theorem dX7_see_59 : decode cX7_see 59 = .ok (.iload_n 3, 1) := by decide +kernel
theorem dX7_see_60 : decode cX7_see 60 = .ok (.invokevirtual 311, 3) := by decide +kernel
theorem dX7_see_63 : decode cX7_see 63 = .ok (.aload_n 0, 1) := by decide +kernel
theorem dX7_see_64 : decode cX7_see 64 = .ok (.getfield 12, 3) := by decide +kernel
theorem dX7_see_67 : decode cX7_see 67 = .ok (.getfield 308, 3) := by decide +kernel
theorem dX7_see_70 : decode cX7_see 70 = .ok (.ireturn, 1) := by decide +kernel
theorem dX7_fits_0 : decode cX7_fits 0 = .ok (.iload_n 1, 1) := by decide +kernel
theorem dX7_fits_1 : decode cX7_fits 1 = .ok (.ifCond .lt 8, 3) := by decide +kernel
theorem dX7_fits_4 : decode cX7_fits 4 = .ok (.iload_n 1, 1) := by decide +kernel
theorem dX7_fits_5 : decode cX7_fits 5 = .ok (.iconst 1, 1) := by decide +kernel
theorem dX7_fits_6 : decode cX7_fits 6 = .ok (.if_icmp .le 5, 3) := by decide +kernel
theorem dX7_fits_9 : decode cX7_fits 9 = .ok (.iconst (-1), 1) := by decide +kernel
theorem dX7_fits_10 : decode cX7_fits 10 = .ok (.ireturn, 1) := by decide +kernel
theorem dX7_fits_11 : decode cX7_fits 11 = .ok (.iconst 0, 1) := by decide +kernel
theorem dX7_fits_12 : decode cX7_fits 12 = .ok (.istore_n 2, 1) := by decide +kernel
theorem dX7_fits_13 : decode cX7_fits 13 = .ok (.iconst 0, 1) := by decide +kernel
theorem dX7_fits_14 : decode cX7_fits 14 = .ok (.istore_n 3, 1) := by decide +kernel
theorem dX7_fits_15 : decode cX7_fits 15 = .ok (.iload_n 3, 1) := by decide +kernel
theorem dX7_fits_16 : decode cX7_fits 16 = .ok (.aload_n 0, 1) := by decide +kernel
theorem dX7_fits_17 : decode cX7_fits 17 = .ok (.getfield 12, 3) := by decide +kernel
theorem dX7_fits_20 : decode cX7_fits 20 = .ok (.getfield 107, 3) := by decide +kernel
theorem dX7_fits_23 : decode cX7_fits 23 = .ok (.if_icmp .ge 52, 3) := by decide +kernel
theorem dX7_fits_26 : decode cX7_fits 26 = .ok (.aload_n 0, 1) := by decide +kernel
theorem dX7_fits_27 : decode cX7_fits 27 = .ok (.getfield 31, 3) := by decide +kernel
theorem dX7_fits_30 : decode cX7_fits 30 = .ok (.aload_n 0, 1) := by decide +kernel
theorem dX7_fits_31 : decode cX7_fits 31 = .ok (.getfield 12, 3) := by decide +kernel
theorem dX7_fits_34 : decode cX7_fits 34 = .ok (.iload_n 3, 1) := by decide +kernel
theorem dX7_fits_35 : decode cX7_fits 35 = .ok (.invokevirtual 315, 3) := by decide +kernel
theorem dX7_fits_38 : decode cX7_fits 38 = .ok (.aload_n 0, 1) := by decide +kernel
theorem dX7_fits_39 : decode cX7_fits 39 = .ok (.getfield 31, 3) := by decide +kernel
theorem dX7_fits_42 : decode cX7_fits 42 = .ok (.aload_n 0, 1) := by decide +kernel
theorem dX7_fits_43 : decode cX7_fits 43 = .ok (.getfield 12, 3) := by decide +kernel
theorem dX7_fits_46 : decode cX7_fits 46 = .ok (.invokevirtual 319, 3) := by decide +kernel
theorem dX7_fits_49 : decode cX7_fits 49 = .ok (.ifCond .eq 20, 3) := by decide +kernel
theorem dX7_fits_52 : decode cX7_fits 52 = .ok (.iload_n 1, 1) := by decide +kernel
theorem dX7_fits_53 : decode cX7_fits 53 = .ok (.iconst 1, 1) := by decide +kernel
theorem dX7_fits_54 : decode cX7_fits 54 = .ok (.if_icmp .ne 12, 3) := by decide +kernel
theorem dX7_fits_57 : decode cX7_fits 57 = .ok (.aload_n 0, 1) := by decide +kernel
theorem dX7_fits_58 : decode cX7_fits 58 = .ok (.getfield 12, 3) := by decide +kernel
theorem dX7_fits_61 : decode cX7_fits 61 = .ok (.iload_n 3, 1) := by decide +kernel
theorem dX7_fits_62 : decode cX7_fits 62 = .ok (.invokevirtual 180, 3) := by decide +kernel
theorem dX7_fits_65 : decode cX7_fits 65 = .ok (.ireturn, 1) := by decide +kernel
theorem dX7_fits_66 : decode cX7_fits 66 = .ok (.iinc 2 1, 3) := by decide +kernel
theorem dX7_fits_69 : decode cX7_fits 69 = .ok (.iinc 3 1, 3) := by decide +kernel
theorem dX7_fits_72 : decode cX7_fits 72 = .ok (.goto (-57), 3) := by decide +kernel
theorem dX7_fits_75 : decode cX7_fits 75 = .ok (.iload_n 1, 1) := by decide +kernel
theorem dX7_fits_76 : decode cX7_fits 76 = .ok (.ifCond .ne 7, 3) := by decide +kernel
theorem dX7_fits_79 : decode cX7_fits 79 = .ok (.iload_n 2, 1) := by decide +kernel
theorem dX7_fits_80 : decode cX7_fits 80 = .ok (.goto 5, 3) := by decide +kernel
theorem dX7_fits_83 : decode cX7_fits 83 = .ok (.bipush (-5), 2) := by decide +kernel
theorem dX7_fits_85 : decode cX7_fits 85 = .ok (.ireturn, 1) := by decide +kernel
theorem dX7_event_0 : decode cX7_event 0 = .ok (.iload_n 1, 1) := by decide +kernel
theorem dX7_event_1 : decode cX7_event 1 = .ok (.iconst (-1), 1) := by decide +kernel
theorem dX7_event_2 : decode cX7_event 2 = .ok (.if_icmp .ne 13, 3) := by decide +kernel
theorem dX7_event_5 : decode cX7_event 5 = .ok (.aload_n 0, 1) := by decide +kernel
theorem dX7_event_6 : decode cX7_event 6 = .ok (.getfield 12, 3) := by decide +kernel
theorem dX7_event_9 : decode cX7_event 9 = .ok (.iconst 0, 1) := by decide +kernel
theorem dX7_event_10 : decode cX7_event 10 = .ok (.putfield 323, 3) := by decide +kernel
theorem dX7_event_13 : decode cX7_event 13 = .ok (.iconst 0, 1) := by decide +kernel
theorem dX7_event_14 : decode cX7_event 14 = .ok (.ireturn, 1) := by decide +kernel
theorem dX7_event_15 : decode cX7_event 15 = .ok (.iload_n 1, 1) := by decide +kernel
theorem dX7_event_16 : decode cX7_event 16 = .ok (.ifCond .lt 19, 3) := by decide +kernel
theorem dX7_event_19 : decode cX7_event 19 = .ok (.iload_n 1, 1) := by decide +kernel
theorem dX7_event_20 : decode cX7_event 20 = .ok (.iconst 3, 1) := by decide +kernel
theorem dX7_event_21 : decode cX7_event 21 = .ok (.if_icmp .gt 14, 3) := by decide +kernel
theorem dX7_event_24 : decode cX7_event 24 = .ok (.aload_n 0, 1) := by decide +kernel
theorem dX7_event_25 : decode cX7_event 25 = .ok (.getfield 12, 3) := by decide +kernel
theorem dX7_event_28 : decode cX7_event 28 = .ok (.iload_n 2, 1) := by decide +kernel
theorem dX7_event_29 : decode cX7_event 29 = .ok (.invokevirtual 85, 3) := by decide +kernel
theorem dX7_event_32 : decode cX7_event 32 = .ok (.ifCond .ne 5, 3) := by decide +kernel
theorem dX7_event_35 : decode cX7_event 35 = .ok (.iconst (-1), 1) := by decide +kernel
theorem dX7_event_36 : decode cX7_event 36 = .ok (.ireturn, 1) := by decide +kernel
theorem dX7_event_37 : decode cX7_event 37 = .ok (.aload_n 0, 1) := by decide +kernel
theorem dX7_event_38 : decode cX7_event 38 = .ok (.getfield 12, 3) := by decide +kernel
theorem dX7_event_41 : decode cX7_event 41 = .ok (.getfield 323, 3) := by decide +kernel
theorem dX7_event_44 : decode cX7_event 44 = .ok (.bipush 8, 2) := by decide +kernel
theorem dX7_event_46 : decode cX7_event 46 = .ok (.if_icmp .lt 6, 3) := by decide +kernel
theorem dX7_event_49 : decode cX7_event 49 = .ok (.bipush (-4), 2) := by decide +kernel
theorem dX7_event_51 : decode cX7_event 51 = .ok (.ireturn, 1) := by decide +kernel
theorem dX7_event_52 : decode cX7_event 52 = .ok (.aload_n 0, 1) := by decide +kernel
theorem dX7_event_53 : decode cX7_event 53 = .ok (.getfield 12, 3) := by decide +kernel
theorem dX7_event_56 : decode cX7_event 56 = .ok (.iload_n 1, 1) := by decide +kernel
theorem dX7_event_57 : decode cX7_event 57 = .ok (.iload_n 2, 1) := by decide +kernel
theorem dX7_event_58 : decode cX7_event 58 = .ok (.invokevirtual 326, 3) := by decide +kernel
theorem dX7_event_61 : decode cX7_event 61 = .ok (.aload_n 0, 1) := by decide +kernel
theorem dX7_event_62 : decode cX7_event 62 = .ok (.getfield 12, 3) := by decide +kernel
theorem dX7_event_65 : decode cX7_event 65 = .ok (.getfield 323, 3) := by decide +kernel
theorem dX7_event_68 : decode cX7_event 68 = .ok (.ireturn, 1) := by decide +kernel
theorem dX7_after_0 : decode cX7_after 0 = .ok (.iload_n 1, 1) := by decide +kernel
theorem dX7_after_1 : decode cX7_after 1 = .ok (.ifCond .lt 8, 3) := by decide +kernel
theorem dX7_after_4 : decode cX7_after 4 = .ok (.iload_n 1, 1) := by decide +kernel
theorem dX7_after_5 : decode cX7_after 5 = .ok (.iconst 1, 1) := by decide +kernel
theorem dX7_after_6 : decode cX7_after 6 = .ok (.if_icmp .le 7, 3) := by decide +kernel
theorem dX7_after_9 : decode cX7_after 9 = .ok (.ldc2_w 212, 3) := by decide +kernel
theorem dX7_after_12 : decode cX7_after 12 = .ok (.lreturn, 1) := by decide +kernel
theorem dX7_after_13 : decode cX7_after 13 = .ok (.aload_n 0, 1) := by decide +kernel
theorem dX7_after_14 : decode cX7_after 14 = .ok (.getfield 21, 3) := by decide +kernel
theorem dX7_after_17 : decode cX7_after 17 = .ok (.aload_n 0, 1) := by decide +kernel
theorem dX7_after_18 : decode cX7_after 18 = .ok (.getfield 12, 3) := by decide +kernel
theorem dX7_after_21 : decode cX7_after 21 = .ok (.invokevirtual 329, 3) := by decide +kernel
theorem dX7_after_24 : decode cX7_after 24 = .ok (.aload_n 0, 1) := by decide +kernel
theorem dX7_after_25 : decode cX7_after 25 = .ok (.getfield 21, 3) := by decide +kernel
theorem dX7_after_28 : decode cX7_after 28 = .ok (.invokevirtual 333, 3) := by decide +kernel
theorem dX7_after_31 : decode cX7_after 31 = .ok (.iload_n 1, 1) := by decide +kernel
theorem dX7_after_32 : decode cX7_after 32 = .ok (.ifCond .ne 12, 3) := by decide +kernel
theorem dX7_after_35 : decode cX7_after 35 = .ok (.aload_n 0, 1) := by decide +kernel
theorem dX7_after_36 : decode cX7_after 36 = .ok (.aload_n 0, 1) := by decide +kernel
theorem dX7_after_37 : decode cX7_after 37 = .ok (.getfield 21, 3) := by decide +kernel
theorem dX7_after_40 : decode cX7_after 40 = .ok (.invokevirtual 246, 3) := by decide +kernel
theorem dX7_after_43 : decode cX7_after 43 = .ok (.lreturn, 1) := by decide +kernel
theorem dX7_after_44 : decode cX7_after 44 = .ok (.aload_n 0, 1) := by decide +kernel
theorem dX7_after_45 : decode cX7_after 45 = .ok (.getfield 31, 3) := by decide +kernel
theorem dX7_after_48 : decode cX7_after 48 = .ok (.aload_n 0, 1) := by decide +kernel
theorem dX7_after_49 : decode cX7_after 49 = .ok (.getfield 21, 3) := by decide +kernel
theorem dX7_after_52 : decode cX7_after 52 = .ok (.iconst (-1), 1) := by decide +kernel
theorem dX7_after_53 : decode cX7_after 53 = .ok (.invokevirtual 315, 3) := by decide +kernel
theorem dX7_after_56 : decode cX7_after 56 = .ok (.aload_n 0, 1) := by decide +kernel
theorem dX7_after_57 : decode cX7_after 57 = .ok (.getfield 31, 3) := by decide +kernel
theorem dX7_after_60 : decode cX7_after 60 = .ok (.invokevirtual 126, 3) := by decide +kernel
theorem dX7_after_63 : decode cX7_after 63 = .ok (.ifCond .eq 9, 3) := by decide +kernel
theorem dX7_after_66 : decode cX7_after 66 = .ok (.ldc2_w 336, 3) := by decide +kernel
theorem dX7_after_69 : decode cX7_after 69 = .ok (.goto 18, 3) := by decide +kernel
theorem dX7_after_72 : decode cX7_after 72 = .ok (.aload_n 0, 1) := by decide +kernel
theorem dX7_after_73 : decode cX7_after 73 = .ok (.getfield 31, 3) := by decide +kernel
theorem dX7_after_76 : decode cX7_after 76 = .ok (.aload_n 0, 1) := by decide +kernel
theorem dX7_after_77 : decode cX7_after 77 = .ok (.getfield 21, 3) := by decide +kernel
theorem dX7_after_80 : decode cX7_after 80 = .ok (.invokevirtual 338, 3) := by decide +kernel
theorem dX7_after_83 : decode cX7_after 83 = .ok (.invokestatic 136, 3) := by decide +kernel
theorem dX7_after_86 : decode cX7_after 86 = .ok (.i2l, 1) := by decide +kernel
theorem dX7_after_87 : decode cX7_after 87 = .ok (.lreturn, 1) := by decide +kernel
theorem dX7_judge_0 : decode cX7_judge 0 = .ok (.aload_n 0, 1) := by decide +kernel
theorem dX7_judge_1 : decode cX7_judge 1 = .ok (.getfield 66, 3) := by decide +kernel
theorem dX7_judge_4 : decode cX7_judge 4 = .ok (.iload_n 1, 1) := by decide +kernel
theorem dX7_judge_5 : decode cX7_judge 5 = .ok (.invokevirtual 342, 3) := by decide +kernel
theorem dX7_judge_8 : decode cX7_judge 8 = .ok (.ifCond .ne 5, 3) := by decide +kernel
theorem dX7_judge_11 : decode cX7_judge 11 = .ok (.iconst (-1), 1) := by decide +kernel
theorem dX7_judge_12 : decode cX7_judge 12 = .ok (.ireturn, 1) := by decide +kernel
theorem dX7_judge_13 : decode cX7_judge 13 = .ok (.aload_n 0, 1) := by decide +kernel
theorem dX7_judge_14 : decode cX7_judge 14 = .ok (.getfield 66, 3) := by decide +kernel
theorem dX7_judge_17 : decode cX7_judge 17 = .ok (.iload_n 1, 1) := by decide +kernel
theorem dX7_judge_18 : decode cX7_judge 18 = .ok (.invokevirtual 345, 3) := by decide +kernel
theorem dX7_judge_21 : decode cX7_judge 21 = .ok (.ifCond .ne 19, 3) := by decide +kernel
theorem dX7_judge_24 : decode cX7_judge 24 = .ok (.aload_n 0, 1) := by decide +kernel
theorem dX7_judge_25 : decode cX7_judge 25 = .ok (.getfield 66, 3) := by decide +kernel
theorem dX7_judge_28 : decode cX7_judge 28 = .ok (.getfield 348, 3) := by decide +kernel
theorem dX7_judge_31 : decode cX7_judge 31 = .ok (.iload_n 1, 1) := by decide +kernel
theorem dX7_judge_32 : decode cX7_judge 32 = .ok (.iaload, 1) := by decide +kernel
theorem dX7_judge_33 : decode cX7_judge 33 = .ok (.iconst 1, 1) := by decide +kernel
theorem dX7_judge_34 : decode cX7_judge 34 = .ok (.if_icmp .eq 6, 3) := by decide +kernel
theorem dX7_judge_37 : decode cX7_judge 37 = .ok (.bipush (-12), 2) := by decide +kernel
theorem dX7_judge_39 : decode cX7_judge 39 = .ok (.ireturn, 1) := by decide +kernel
theorem dX7_judge_40 : decode cX7_judge 40 = .ok (.aload_n 0, 1) := by decide +kernel
theorem dX7_judge_41 : decode cX7_judge 41 = .ok (.invokevirtual 118, 3) := by decide +kernel
theorem dX7_judge_44 : decode cX7_judge 44 = .ok (.invokevirtual 126, 3) := by decide +kernel
theorem dX7_judge_47 : decode cX7_judge 47 = .ok (.ifCond .eq 6, 3) := by decide +kernel
theorem dX7_judge_50 : decode cX7_judge 50 = .ok (.bipush (-3), 2) := by decide +kernel
theorem dX7_judge_52 : decode cX7_judge 52 = .ok (.ireturn, 1) := by decide +kernel
theorem dX7_judge_53 : decode cX7_judge 53 = .ok (.iconst 0, 1) := by decide +kernel
theorem dX7_judge_54 : decode cX7_judge 54 = .ok (.istore_n 3, 1) := by decide +kernel
theorem dX7_judge_55 : decode cX7_judge 55 = .ok (.iload_n 3, 1) := by decide +kernel
theorem dX7_judge_56 : decode cX7_judge 56 = .ok (.aload_n 0, 1) := by decide +kernel
theorem dX7_judge_57 : decode cX7_judge 57 = .ok (.getfield 12, 3) := by decide +kernel
theorem dX7_judge_60 : decode cX7_judge 60 = .ok (.getfield 77, 3) := by decide +kernel
theorem dX7_judge_63 : decode cX7_judge 63 = .ok (.if_icmp .ge 65, 3) := by decide +kernel
theorem dX7_judge_66 : decode cX7_judge 66 = .ok (.iload_n 2, 1) := by decide +kernel
theorem dX7_judge_67 : decode cX7_judge 67 = .ok (.bipush 60, 2) := by decide +kernel
theorem dX7_judge_69 : decode cX7_judge 69 = .ok (.if_icmp .gt 18, 3) := by decide +kernel
theorem dX7_judge_72 : decode cX7_judge 72 = .ok (.aload_n 0, 1) := by decide +kernel
theorem dX7_judge_73 : decode cX7_judge 73 = .ok (.getfield 66, 3) := by decide +kernel
theorem dX7_judge_76 : decode cX7_judge 76 = .ok (.iload_n 1, 1) := by decide +kernel
theorem dX7_judge_77 : decode cX7_judge 77 = .ok (.iload_n 2, 1) := by decide +kernel
theorem dX7_judge_78 : decode cX7_judge 78 = .ok (.iload_n 3, 1) := by decide +kernel
theorem dX7_judge_79 : decode cX7_judge 79 = .ok (.iadd, 1) := by decide +kernel
theorem dX7_judge_80 : decode cX7_judge 80 = .ok (.iconst 1, 1) := by decide +kernel
theorem dX7_judge_81 : decode cX7_judge 81 = .ok (.invokevirtual 351, 3) := by decide +kernel
theorem dX7_judge_84 : decode cX7_judge 84 = .ok (.ifCond .ne 8, 3) := by decide +kernel
theorem dX7_judge_87 : decode cX7_judge 87 = .ok (.bipush 100, 2) := by decide +kernel
theorem dX7_judge_89 : decode cX7_judge 89 = .ok (.iload_n 3, 1) := by decide +kernel
theorem dX7_judge_90 : decode cX7_judge 90 = .ok (.iadd, 1) := by decide +kernel
theorem dX7_judge_91 : decode cX7_judge 91 = .ok (.ireturn, 1) := by decide +kernel
theorem dX7_judge_92 : decode cX7_judge 92 = .ok (.aload_n 0, 1) := by decide +kernel
theorem dX7_judge_93 : decode cX7_judge 93 = .ok (.getfield 66, 3) := by decide +kernel
theorem dX7_judge_96 : decode cX7_judge 96 = .ok (.iload_n 1, 1) := by decide +kernel
theorem dX7_judge_97 : decode cX7_judge 97 = .ok (.iload_n 2, 1) := by decide +kernel
theorem dX7_judge_98 : decode cX7_judge 98 = .ok (.iload_n 3, 1) := by decide +kernel
theorem dX7_judge_99 : decode cX7_judge 99 = .ok (.iadd, 1) := by decide +kernel
theorem dX7_judge_100 : decode cX7_judge 100 = .ok (.invokevirtual 354, 3) := by decide +kernel
theorem dX7_judge_103 : decode cX7_judge 103 = .ok (.aload_n 0, 1) := by decide +kernel
theorem dX7_judge_104 : decode cX7_judge 104 = .ok (.getfield 31, 3) := by decide +kernel
theorem dX7_judge_107 : decode cX7_judge 107 = .ok (.aload_n 0, 1) := by decide +kernel
theorem dX7_judge_108 : decode cX7_judge 108 = .ok (.getfield 12, 3) := by decide +kernel
theorem dX7_judge_111 : decode cX7_judge 111 = .ok (.iload_n 3, 1) := by decide +kernel
theorem dX7_judge_112 : decode cX7_judge 112 = .ok (.invokevirtual 205, 3) := by decide +kernel
theorem dX7_judge_115 : decode cX7_judge 115 = .ok (.i2l, 1) := by decide +kernel
theorem dX7_judge_116 : decode cX7_judge 116 = .ok (.lcmp, 1) := by decide +kernel
theorem dX7_judge_117 : decode cX7_judge 117 = .ok (.ifCond .eq 5, 3) := by decide +kernel
theorem dX7_judge_120 : decode cX7_judge 120 = .ok (.iload_n 3, 1) := by decide +kernel
theorem dX7_judge_121 : decode cX7_judge 121 = .ok (.ireturn, 1) := by decide +kernel
theorem dX7_judge_122 : decode cX7_judge 122 = .ok (.iinc 3 1, 3) := by decide +kernel
theorem dX7_judge_125 : decode cX7_judge 125 = .ok (.goto (-70), 3) := by decide +kernel
theorem dX7_judge_128 : decode cX7_judge 128 = .ok (.bipush (-5), 2) := by decide +kernel
theorem dX7_judge_130 : decode cX7_judge 130 = .ok (.ireturn, 1) := by decide +kernel
theorem dX7_image_0 : decode cX7_image 0 = .ok (.aload_n 0, 1) := by decide +kernel
theorem dX7_image_1 : decode cX7_image 1 = .ok (.getfield 18, 3) := by decide +kernel
theorem dX7_image_4 : decode cX7_image 4 = .ok (.aload_n 0, 1) := by decide +kernel
theorem dX7_image_5 : decode cX7_image 5 = .ok (.getfield 12, 3) := by decide +kernel
theorem dX7_image_8 : decode cX7_image 8 = .ok (.invokevirtual 329, 3) := by decide +kernel
theorem dX7_image_11 : decode cX7_image 11 = .ok (.aload_n 0, 1) := by decide +kernel
theorem dX7_image_12 : decode cX7_image 12 = .ok (.iconst 1, 1) := by decide +kernel
theorem dX7_image_13 : decode cX7_image 13 = .ok (.putfield 24, 3) := by decide +kernel
theorem dX7_image_16 : decode cX7_image 16 = .ok (.aload_n 0, 1) := by decide +kernel
theorem dX7_image_17 : decode cX7_image 17 = .ok (.getfield 12, 3) := by decide +kernel
theorem dX7_image_20 : decode cX7_image 20 = .ok (.getfield 77, 3) := by decide +kernel
theorem dX7_image_23 : decode cX7_image 23 = .ok (.ireturn, 1) := by decide +kernel
theorem dX7_undo_0 : decode cX7_undo 0 = .ok (.aload_n 0, 1) := by decide +kernel
theorem dX7_undo_1 : decode cX7_undo 1 = .ok (.getfield 24, 3) := by decide +kernel
theorem dX7_undo_4 : decode cX7_undo 4 = .ok (.ifCond .ne 6, 3) := by decide +kernel
theorem dX7_undo_7 : decode cX7_undo 7 = .ok (.bipush (-3), 2) := by decide +kernel
theorem dX7_undo_9 : decode cX7_undo 9 = .ok (.ireturn, 1) := by decide +kernel
theorem dX7_undo_10 : decode cX7_undo 10 = .ok (.aload_n 0, 1) := by decide +kernel
theorem dX7_undo_11 : decode cX7_undo 11 = .ok (.getfield 12, 3) := by decide +kernel
theorem dX7_undo_14 : decode cX7_undo 14 = .ok (.aload_n 0, 1) := by decide +kernel
theorem dX7_undo_15 : decode cX7_undo 15 = .ok (.getfield 18, 3) := by decide +kernel
theorem dX7_undo_18 : decode cX7_undo 18 = .ok (.invokevirtual 329, 3) := by decide +kernel
theorem dX7_undo_21 : decode cX7_undo 21 = .ok (.aload_n 0, 1) := by decide +kernel
theorem dX7_undo_22 : decode cX7_undo 22 = .ok (.getfield 12, 3) := by decide +kernel
theorem dX7_undo_25 : decode cX7_undo 25 = .ok (.getfield 77, 3) := by decide +kernel
theorem dX7_undo_28 : decode cX7_undo 28 = .ok (.ireturn, 1) := by decide +kernel
theorem dX7_count_0 : decode cX7_count 0 = .ok (.iload_n 1, 1) := by decide +kernel
theorem dX7_count_1 : decode cX7_count 1 = .ok (.tableswitch 63 0 3 #[31, 39, 47, 55], 31) := by decide +kernel
theorem dX7_count_32 : decode cX7_count 32 = .ok (.aload_n 0, 1) := by decide +kernel
theorem dX7_count_33 : decode cX7_count 33 = .ok (.getfield 12, 3) := by decide +kernel
theorem dX7_count_36 : decode cX7_count 36 = .ok (.getfield 308, 3) := by decide +kernel
theorem dX7_count_39 : decode cX7_count 39 = .ok (.ireturn, 1) := by decide +kernel
theorem dX7_count_40 : decode cX7_count 40 = .ok (.aload_n 0, 1) := by decide +kernel
theorem dX7_count_41 : decode cX7_count 41 = .ok (.getfield 12, 3) := by decide +kernel
theorem dX7_count_44 : decode cX7_count 44 = .ok (.getfield 323, 3) := by decide +kernel
theorem dX7_count_47 : decode cX7_count 47 = .ok (.ireturn, 1) := by decide +kernel
theorem dX7_count_48 : decode cX7_count 48 = .ok (.aload_n 0, 1) := by decide +kernel
theorem dX7_count_49 : decode cX7_count 49 = .ok (.getfield 52, 3) := by decide +kernel
theorem dX7_count_52 : decode cX7_count 52 = .ok (.getfield 269, 3) := by decide +kernel
theorem dX7_count_55 : decode cX7_count 55 = .ok (.ireturn, 1) := by decide +kernel
theorem dX7_count_56 : decode cX7_count 56 = .ok (.aload_n 0, 1) := by decide +kernel
theorem dX7_count_57 : decode cX7_count 57 = .ok (.getfield 59, 3) := by decide +kernel
theorem dX7_count_60 : decode cX7_count 60 = .ok (.getfield 304, 3) := by decide +kernel
theorem dX7_count_63 : decode cX7_count 63 = .ok (.ireturn, 1) := by decide +kernel
theorem dX7_count_64 : decode cX7_count 64 = .ok (.bipush (-2), 2) := by decide +kernel
theorem dX7_count_66 : decode cX7_count 66 = .ok (.ireturn, 1) := by decide +kernel
theorem dX7_tape_0 : decode cX7_tape 0 = .ok (.aload_n 0, 1) := by decide +kernel
theorem dX7_tape_1 : decode cX7_tape 1 = .ok (.getfield 66, 3) := by decide +kernel
theorem dX7_tape_4 : decode cX7_tape 4 = .ok (.iload_n 1, 1) := by decide +kernel
theorem dX7_tape_5 : decode cX7_tape 5 = .ok (.invokevirtual 342, 3) := by decide +kernel
theorem dX7_tape_8 : decode cX7_tape 8 = .ok (.ifCond .ne 5, 3) := by decide +kernel
theorem dX7_tape_11 : decode cX7_tape 11 = .ok (.iconst (-1), 1) := by decide +kernel
theorem dX7_tape_12 : decode cX7_tape 12 = .ok (.ireturn, 1) := by decide +kernel
theorem dX7_tape_13 : decode cX7_tape 13 = .ok (.iload_n 2, 1) := by decide +kernel
theorem dX7_tape_14 : decode cX7_tape 14 = .ok (.iconst (-1), 1) := by decide +kernel
theorem dX7_tape_15 : decode cX7_tape 15 = .ok (.if_icmp .ne 13, 3) := by decide +kernel
theorem dX7_tape_18 : decode cX7_tape 18 = .ok (.aload_n 0, 1) := by decide +kernel
theorem dX7_tape_19 : decode cX7_tape 19 = .ok (.getfield 66, 3) := by decide +kernel
theorem dX7_tape_22 : decode cX7_tape 22 = .ok (.iload_n 1, 1) := by decide +kernel
theorem dX7_tape_23 : decode cX7_tape 23 = .ok (.invokevirtual 358, 3) := by decide +kernel
theorem dX7_tape_26 : decode cX7_tape 26 = .ok (.iconst 1, 1) := by decide +kernel
theorem dX7_tape_27 : decode cX7_tape 27 = .ok (.ireturn, 1) := by decide +kernel
theorem dX7_tape_28 : decode cX7_tape 28 = .ok (.iload_n 2, 1) := by decide +kernel
theorem dX7_tape_29 : decode cX7_tape 29 = .ok (.ifCond .lt 14, 3) := by decide +kernel
theorem dX7_tape_32 : decode cX7_tape 32 = .ok (.iload_n 2, 1) := by decide +kernel
theorem dX7_tape_33 : decode cX7_tape 33 = .ok (.iconst 4, 1) := by decide +kernel
theorem dX7_tape_34 : decode cX7_tape 34 = .ok (.if_icmp .gt 9, 3) := by decide +kernel
theorem dX7_tape_37 : decode cX7_tape 37 = .ok (.iload_n 3, 1) := by decide +kernel
theorem dX7_tape_38 : decode cX7_tape 38 = .ok (.bipush 60, 2) := by decide +kernel
theorem dX7_tape_40 : decode cX7_tape 40 = .ok (.if_icmp .le 6, 3) := by decide +kernel
theorem dX7_tape_43 : decode cX7_tape 43 = .ok (.bipush (-2), 2) := by decide +kernel
theorem dX7_tape_45 : decode cX7_tape 45 = .ok (.ireturn, 1) := by decide +kernel
theorem dX7_tape_46 : decode cX7_tape 46 = .ok (.iload_n 3, 1) := by decide +kernel
theorem dX7_tape_47 : decode cX7_tape 47 = .ok (.ifCond .ge 6, 3) := by decide +kernel
theorem dX7_tape_50 : decode cX7_tape 50 = .ok (.bipush (-14), 2) := by decide +kernel
theorem dX7_tape_52 : decode cX7_tape 52 = .ok (.ireturn, 1) := by decide +kernel
theorem dX7_tape_53 : decode cX7_tape 53 = .ok (.aload_n 0, 1) := by decide +kernel
theorem dX7_tape_54 : decode cX7_tape 54 = .ok (.getfield 66, 3) := by decide +kernel
theorem dX7_tape_57 : decode cX7_tape 57 = .ok (.iload_n 1, 1) := by decide +kernel
theorem dX7_tape_58 : decode cX7_tape 58 = .ok (.iload_n 2, 1) := by decide +kernel
theorem dX7_tape_59 : decode cX7_tape 59 = .ok (.iload_n 3, 1) := by decide +kernel
theorem dX7_tape_60 : decode cX7_tape 60 = .ok (.invokevirtual 361, 3) := by decide +kernel
theorem dX7_tape_63 : decode cX7_tape 63 = .ok (.iconst 1, 1) := by decide +kernel
theorem dX7_tape_64 : decode cX7_tape 64 = .ok (.ireturn, 1) := by decide +kernel
theorem dX7_item_0 : decode cX7_item 0 = .ok (.aload_n 0, 1) := by decide +kernel
theorem dX7_item_1 : decode cX7_item 1 = .ok (.getfield 66, 3) := by decide +kernel
theorem dX7_item_4 : decode cX7_item 4 = .ok (.iload_n 1, 1) := by decide +kernel
theorem dX7_item_5 : decode cX7_item 5 = .ok (.invokevirtual 342, 3) := by decide +kernel
theorem dX7_item_8 : decode cX7_item 8 = .ok (.ifCond .ne 5, 3) := by decide +kernel
theorem dX7_item_11 : decode cX7_item 11 = .ok (.iconst (-1), 1) := by decide +kernel
theorem dX7_item_12 : decode cX7_item 12 = .ok (.ireturn, 1) := by decide +kernel
theorem dX7_item_13 : decode cX7_item 13 = .ok (.aload_n 0, 1) := by decide +kernel
theorem dX7_item_14 : decode cX7_item 14 = .ok (.getfield 66, 3) := by decide +kernel
theorem dX7_item_17 : decode cX7_item 17 = .ok (.iload_n 1, 1) := by decide +kernel
theorem dX7_item_18 : decode cX7_item 18 = .ok (.invokevirtual 345, 3) := by decide +kernel
theorem dX7_item_21 : decode cX7_item 21 = .ok (.ifCond .eq 6, 3) := by decide +kernel
theorem dX7_item_24 : decode cX7_item 24 = .ok (.bipush (-11), 2) := by decide +kernel
theorem dX7_item_26 : decode cX7_item 26 = .ok (.ireturn, 1) := by decide +kernel
theorem dX7_item_27 : decode cX7_item 27 = .ok (.aload_n 0, 1) := by decide +kernel
theorem dX7_item_28 : decode cX7_item 28 = .ok (.getfield 66, 3) := by decide +kernel
theorem dX7_item_31 : decode cX7_item 31 = .ok (.iload_n 1, 1) := by decide +kernel
theorem dX7_item_32 : decode cX7_item 32 = .ok (.iload_n 2, 1) := by decide +kernel
theorem dX7_item_33 : decode cX7_item 33 = .ok (.iconst 1, 1) := by decide +kernel
theorem dX7_item_34 : decode cX7_item 34 = .ok (.invokevirtual 351, 3) := by decide +kernel
theorem dX7_item_37 : decode cX7_item 37 = .ok (.ifCond .ne 6, 3) := by decide +kernel
theorem dX7_item_40 : decode cX7_item 40 = .ok (.bipush (-13), 2) := by decide +kernel
theorem dX7_item_42 : decode cX7_item 42 = .ok (.ireturn, 1) := by decide +kernel
theorem dX7_item_43 : decode cX7_item 43 = .ok (.aload_n 0, 1) := by decide +kernel
theorem dX7_item_44 : decode cX7_item 44 = .ok (.getfield 66, 3) := by decide +kernel
theorem dX7_item_47 : decode cX7_item 47 = .ok (.iload_n 1, 1) := by decide +kernel
theorem dX7_item_48 : decode cX7_item 48 = .ok (.iload_n 2, 1) := by decide +kernel
theorem dX7_item_49 : decode cX7_item 49 = .ok (.lload_n 3, 1) := by decide +kernel
theorem dX7_item_50 : decode cX7_item 50 = .ok (.invokevirtual 364, 3) := by decide +kernel
theorem dX7_item_53 : decode cX7_item 53 = .ok (.iconst 1, 1) := by decide +kernel
theorem dX7_item_54 : decode cX7_item 54 = .ok (.ireturn, 1) := by decide +kernel
theorem dX7_peek_0 : decode cX7_peek 0 = .ok (.aload_n 0, 1) := by decide +kernel
theorem dX7_peek_1 : decode cX7_peek 1 = .ok (.getfield 66, 3) := by decide +kernel
theorem dX7_peek_4 : decode cX7_peek 4 = .ok (.iload_n 1, 1) := by decide +kernel
theorem dX7_peek_5 : decode cX7_peek 5 = .ok (.invokevirtual 342, 3) := by decide +kernel
theorem dX7_peek_8 : decode cX7_peek 8 = .ok (.ifCond .eq 27, 3) := by decide +kernel
theorem dX7_peek_11 : decode cX7_peek 11 = .ok (.aload_n 0, 1) := by decide +kernel
theorem dX7_peek_12 : decode cX7_peek 12 = .ok (.getfield 66, 3) := by decide +kernel
theorem dX7_peek_15 : decode cX7_peek 15 = .ok (.iload_n 1, 1) := by decide +kernel
theorem dX7_peek_16 : decode cX7_peek 16 = .ok (.invokevirtual 345, 3) := by decide +kernel
theorem dX7_peek_19 : decode cX7_peek 19 = .ok (.ifCond .ne 16, 3) := by decide +kernel
theorem dX7_peek_22 : decode cX7_peek 22 = .ok (.aload_n 0, 1) := by decide +kernel
theorem dX7_peek_23 : decode cX7_peek 23 = .ok (.getfield 66, 3) := by decide +kernel
theorem dX7_peek_26 : decode cX7_peek 26 = .ok (.iload_n 1, 1) := by decide +kernel
theorem dX7_peek_27 : decode cX7_peek 27 = .ok (.iload_n 2, 1) := by decide +kernel
theorem dX7_peek_28 : decode cX7_peek 28 = .ok (.iconst 1, 1) := by decide +kernel
theorem dX7_peek_29 : decode cX7_peek 29 = .ok (.invokevirtual 351, 3) := by decide +kernel
theorem dX7_peek_32 : decode cX7_peek 32 = .ok (.ifCond .ne 7, 3) := by decide +kernel
theorem dX7_peek_35 : decode cX7_peek 35 = .ok (.ldc2_w 212, 3) := by decide +kernel
theorem dX7_peek_38 : decode cX7_peek 38 = .ok (.lreturn, 1) := by decide +kernel
theorem dX7_peek_39 : decode cX7_peek 39 = .ok (.aload_n 0, 1) := by decide +kernel
theorem dX7_peek_40 : decode cX7_peek 40 = .ok (.getfield 66, 3) := by decide +kernel
theorem dX7_peek_43 : decode cX7_peek 43 = .ok (.iload_n 1, 1) := by decide +kernel
theorem dX7_peek_44 : decode cX7_peek 44 = .ok (.iload_n 2, 1) := by decide +kernel
theorem dX7_peek_45 : decode cX7_peek 45 = .ok (.invokevirtual 354, 3) := by decide +kernel
theorem dX7_peek_48 : decode cX7_peek 48 = .ok (.lreturn, 1) := by decide +kernel
theorem dX7_shift_0 : decode cX7_shift 0 = .ok (.aload_n 0, 1) := by decide +kernel
theorem dX7_shift_1 : decode cX7_shift 1 = .ok (.getfield 66, 3) := by decide +kernel
theorem dX7_shift_4 : decode cX7_shift 4 = .ok (.iload_n 1, 1) := by decide +kernel
theorem dX7_shift_5 : decode cX7_shift 5 = .ok (.invokevirtual 342, 3) := by decide +kernel
theorem dX7_shift_8 : decode cX7_shift 8 = .ok (.ifCond .eq 14, 3) := by decide +kernel
theorem dX7_shift_11 : decode cX7_shift 11 = .ok (.aload_n 0, 1) := by decide +kernel
theorem dX7_shift_12 : decode cX7_shift 12 = .ok (.getfield 66, 3) := by decide +kernel
theorem dX7_shift_15 : decode cX7_shift 15 = .ok (.iload_n 3, 1) := by decide +kernel
theorem dX7_shift_16 : decode cX7_shift 16 = .ok (.invokevirtual 342, 3) := by decide +kernel
theorem dX7_shift_19 : decode cX7_shift 19 = .ok (.ifCond .ne 5, 3) := by decide +kernel
theorem dX7_shift_22 : decode cX7_shift 22 = .ok (.iconst (-1), 1) := by decide +kernel
theorem dX7_shift_23 : decode cX7_shift 23 = .ok (.ireturn, 1) := by decide +kernel
theorem dX7_shift_24 : decode cX7_shift 24 = .ok (.aload_n 0, 1) := by decide +kernel
theorem dX7_shift_25 : decode cX7_shift 25 = .ok (.getfield 66, 3) := by decide +kernel
theorem dX7_shift_28 : decode cX7_shift 28 = .ok (.iload_n 1, 1) := by decide +kernel
theorem dX7_shift_29 : decode cX7_shift 29 = .ok (.invokevirtual 345, 3) := by decide +kernel
theorem dX7_shift_32 : decode cX7_shift 32 = .ok (.ifCond .ne 14, 3) := by decide +kernel
theorem dX7_shift_35 : decode cX7_shift 35 = .ok (.aload_n 0, 1) := by decide +kernel
theorem dX7_shift_36 : decode cX7_shift 36 = .ok (.getfield 66, 3) := by decide +kernel
theorem dX7_shift_39 : decode cX7_shift 39 = .ok (.iload_n 3, 1) := by decide +kernel
theorem dX7_shift_40 : decode cX7_shift 40 = .ok (.invokevirtual 345, 3) := by decide +kernel
theorem dX7_shift_43 : decode cX7_shift 43 = .ok (.ifCond .eq 6, 3) := by decide +kernel
theorem dX7_shift_46 : decode cX7_shift 46 = .ok (.bipush (-11), 2) := by decide +kernel
theorem dX7_shift_48 : decode cX7_shift 48 = .ok (.ireturn, 1) := by decide +kernel
theorem dX7_shift_49 : decode cX7_shift 49 = .ok (.aload_n 0, 1) := by decide +kernel
theorem dX7_shift_50 : decode cX7_shift 50 = .ok (.getfield 66, 3) := by decide +kernel
theorem dX7_shift_53 : decode cX7_shift 53 = .ok (.getfield 348, 3) := by decide +kernel
theorem dX7_shift_56 : decode cX7_shift 56 = .ok (.iload_n 1, 1) := by decide +kernel
theorem dX7_shift_57 : decode cX7_shift 57 = .ok (.iaload, 1) := by decide +kernel
theorem dX7_shift_58 : decode cX7_shift 58 = .ok (.aload_n 0, 1) := by decide +kernel
theorem dX7_shift_59 : decode cX7_shift 59 = .ok (.getfield 66, 3) := by decide +kernel
theorem dX7_shift_62 : decode cX7_shift 62 = .ok (.getfield 348, 3) := by decide +kernel
theorem dX7_shift_65 : decode cX7_shift 65 = .ok (.iload_n 3, 1) := by decide +kernel
theorem dX7_shift_66 : decode cX7_shift 66 = .ok (.iaload, 1) := by decide +kernel
theorem dX7_shift_67 : decode cX7_shift 67 = .ok (.if_icmp .eq 6, 3) := by decide +kernel
theorem dX7_shift_70 : decode cX7_shift 70 = .ok (.bipush (-12), 2) := by decide +kernel
theorem dX7_shift_72 : decode cX7_shift 72 = .ok (.ireturn, 1) := by decide +kernel
theorem dX7_shift_73 : decode cX7_shift 73 = .ok (.aload_n 0, 1) := by decide +kernel
theorem dX7_shift_74 : decode cX7_shift 74 = .ok (.getfield 66, 3) := by decide +kernel
theorem dX7_shift_77 : decode cX7_shift 77 = .ok (.iload_n 1, 1) := by decide +kernel
theorem dX7_shift_78 : decode cX7_shift 78 = .ok (.iload_n 2, 1) := by decide +kernel
theorem dX7_shift_79 : decode cX7_shift 79 = .ok (.iload 5, 2) := by decide +kernel
theorem dX7_shift_81 : decode cX7_shift 81 = .ok (.invokevirtual 351, 3) := by decide +kernel
theorem dX7_shift_84 : decode cX7_shift 84 = .ok (.ifCond .eq 18, 3) := by decide +kernel
theorem dX7_shift_87 : decode cX7_shift 87 = .ok (.aload_n 0, 1) := by decide +kernel
theorem dX7_shift_88 : decode cX7_shift 88 = .ok (.getfield 66, 3) := by decide +kernel
theorem dX7_shift_91 : decode cX7_shift 91 = .ok (.iload_n 3, 1) := by decide +kernel
theorem dX7_shift_92 : decode cX7_shift 92 = .ok (.iload 4, 2) := by decide +kernel
theorem dX7_shift_94 : decode cX7_shift 94 = .ok (.iload 5, 2) := by decide +kernel
theorem dX7_shift_96 : decode cX7_shift 96 = .ok (.invokevirtual 351, 3) := by decide +kernel
theorem dX7_shift_99 : decode cX7_shift 99 = .ok (.ifCond .ne 6, 3) := by decide +kernel
theorem dX7_shift_102 : decode cX7_shift 102 = .ok (.bipush (-13), 2) := by decide +kernel
theorem dX7_shift_104 : decode cX7_shift 104 = .ok (.ireturn, 1) := by decide +kernel
theorem dX7_shift_105 : decode cX7_shift 105 = .ok (.aload_n 0, 1) := by decide +kernel
theorem dX7_shift_106 : decode cX7_shift 106 = .ok (.getfield 66, 3) := by decide +kernel
theorem dX7_shift_109 : decode cX7_shift 109 = .ok (.iload_n 1, 1) := by decide +kernel
theorem dX7_shift_110 : decode cX7_shift 110 = .ok (.iload_n 2, 1) := by decide +kernel
theorem dX7_shift_111 : decode cX7_shift 111 = .ok (.iload_n 3, 1) := by decide +kernel
theorem dX7_shift_112 : decode cX7_shift 112 = .ok (.iload 4, 2) := by decide +kernel
theorem dX7_shift_114 : decode cX7_shift 114 = .ok (.iload 5, 2) := by decide +kernel
theorem dX7_shift_116 : decode cX7_shift 116 = .ok (.invokevirtual 368, 3) := by decide +kernel
theorem dX7_shift_119 : decode cX7_shift 119 = .ok (.iload 5, 2) := by decide +kernel
theorem dX7_shift_121 : decode cX7_shift 121 = .ok (.ireturn, 1) := by decide +kernel
theorem dX7_hasBit_0 : decode cX7_hasBit 0 = .ok (.iload_n 0, 1) := by decide +kernel
theorem dX7_hasBit_1 : decode cX7_hasBit 1 = .ok (.iload_n 1, 1) := by decide +kernel
theorem dX7_hasBit_2 : decode cX7_hasBit 2 = .ok (.ishr, 1) := by decide +kernel
theorem dX7_hasBit_3 : decode cX7_hasBit 3 = .ok (.iconst 1, 1) := by decide +kernel
theorem dX7_hasBit_4 : decode cX7_hasBit 4 = .ok (.iand, 1) := by decide +kernel
theorem dX7_hasBit_5 : decode cX7_hasBit 5 = .ok (.iconst 1, 1) := by decide +kernel
theorem dX7_hasBit_6 : decode cX7_hasBit 6 = .ok (.if_icmp .ne 7, 3) := by decide +kernel
theorem dX7_hasBit_9 : decode cX7_hasBit 9 = .ok (.iconst 1, 1) := by decide +kernel
theorem dX7_hasBit_10 : decode cX7_hasBit 10 = .ok (.goto 4, 3) := by decide +kernel
theorem dX7_hasBit_13 : decode cX7_hasBit 13 = .ok (.iconst 0, 1) := by decide +kernel
theorem dX7_hasBit_14 : decode cX7_hasBit 14 = .ok (.ireturn, 1) := by decide +kernel
theorem dX7_isPhase_0 : decode cX7_isPhase 0 = .ok (.iload_n 0, 1) := by decide +kernel
theorem dX7_isPhase_1 : decode cX7_isPhase 1 = .ok (.ifCond .lt 13, 3) := by decide +kernel
theorem dX7_isPhase_4 : decode cX7_isPhase 4 = .ok (.iload_n 0, 1) := by decide +kernel
theorem dX7_isPhase_5 : decode cX7_isPhase 5 = .ok (.bipush 6, 2) := by decide +kernel
theorem dX7_isPhase_7 : decode cX7_isPhase 7 = .ok (.if_icmp .ge 7, 3) := by decide +kernel
theorem dX7_isPhase_10 : decode cX7_isPhase 10 = .ok (.iconst 1, 1) := by decide +kernel
theorem dX7_isPhase_11 : decode cX7_isPhase 11 = .ok (.goto 4, 3) := by decide +kernel
theorem dX7_isPhase_14 : decode cX7_isPhase 14 = .ok (.iconst 0, 1) := by decide +kernel
theorem dX7_isPhase_15 : decode cX7_isPhase 15 = .ok (.ireturn, 1) := by decide +kernel
theorem dX7_isTray_0 : decode cX7_isTray 0 = .ok (.iload_n 0, 1) := by decide +kernel
theorem dX7_isTray_1 : decode cX7_isTray 1 = .ok (.ifCond .lt 12, 3) := by decide +kernel
theorem dX7_isTray_4 : decode cX7_isTray 4 = .ok (.iload_n 0, 1) := by decide +kernel
theorem dX7_isTray_5 : decode cX7_isTray 5 = .ok (.iconst 3, 1) := by decide +kernel
theorem dX7_isTray_6 : decode cX7_isTray 6 = .ok (.if_icmp .ge 7, 3) := by decide +kernel
theorem dX7_isTray_9 : decode cX7_isTray 9 = .ok (.iconst 1, 1) := by decide +kernel
theorem dX7_isTray_10 : decode cX7_isTray 10 = .ok (.goto 4, 3) := by decide +kernel
theorem dX7_isTray_13 : decode cX7_isTray 13 = .ok (.iconst 0, 1) := by decide +kernel
theorem dX7_isTray_14 : decode cX7_isTray 14 = .ok (.ireturn, 1) := by decide +kernel
theorem dX7_isPlace_0 : decode cX7_isPlace 0 = .ok (.iload_n 0, 1) := by decide +kernel
theorem dX7_isPlace_1 : decode cX7_isPlace 1 = .ok (.ifCond .lt 12, 3) := by decide +kernel
theorem dX7_isPlace_4 : decode cX7_isPlace 4 = .ok (.iload_n 0, 1) := by decide +kernel
theorem dX7_isPlace_5 : decode cX7_isPlace 5 = .ok (.iconst 4, 1) := by decide +kernel
theorem dX7_isPlace_6 : decode cX7_isPlace 6 = .ok (.if_icmp .ge 7, 3) := by decide +kernel
theorem dX7_isPlace_9 : decode cX7_isPlace 9 = .ok (.iconst 1, 1) := by decide +kernel
theorem dX7_isPlace_10 : decode cX7_isPlace 10 = .ok (.goto 4, 3) := by decide +kernel
theorem dX7_isPlace_13 : decode cX7_isPlace 13 = .ok (.iconst 0, 1) := by decide +kernel
theorem dX7_isPlace_14 : decode cX7_isPlace 14 = .ok (.ireturn, 1) := by decide +kernel
theorem dX7_isCut_0 : decode cX7_isCut 0 = .ok (.iload_n 0, 1) := by decide +kernel
theorem dX7_isCut_1 : decode cX7_isCut 1 = .ok (.iconst 1, 1) := by decide +kernel
theorem dX7_isCut_2 : decode cX7_isCut 2 = .ok (.if_icmp .eq 8, 3) := by decide +kernel
theorem dX7_isCut_5 : decode cX7_isCut 5 = .ok (.iload_n 0, 1) := by decide +kernel
theorem dX7_isCut_6 : decode cX7_isCut 6 = .ok (.iconst 4, 1) := by decide +kernel
theorem dX7_isCut_7 : decode cX7_isCut 7 = .ok (.if_icmp .ne 7, 3) := by decide +kernel
theorem dX7_isCut_10 : decode cX7_isCut 10 = .ok (.iconst 1, 1) := by decide +kernel
theorem dX7_isCut_11 : decode cX7_isCut 11 = .ok (.goto 4, 3) := by decide +kernel
theorem dX7_isCut_14 : decode cX7_isCut 14 = .ok (.iconst 0, 1) := by decide +kernel
theorem dX7_isCut_15 : decode cX7_isCut 15 = .ok (.ireturn, 1) := by decide +kernel
theorem dX7_isFill_0 : decode cX7_isFill 0 = .ok (.iload_n 0, 1) := by decide +kernel
theorem dX7_isFill_1 : decode cX7_isFill 1 = .ok (.iconst 2, 1) := by decide +kernel
theorem dX7_isFill_2 : decode cX7_isFill 2 = .ok (.if_icmp .eq 8, 3) := by decide +kernel
theorem dX7_isFill_5 : decode cX7_isFill 5 = .ok (.iload_n 0, 1) := by decide +kernel
theorem dX7_isFill_6 : decode cX7_isFill 6 = .ok (.iconst 5, 1) := by decide +kernel
theorem dX7_isFill_7 : decode cX7_isFill 7 = .ok (.if_icmp .ne 7, 3) := by decide +kernel
theorem dX7_isFill_10 : decode cX7_isFill 10 = .ok (.iconst 1, 1) := by decide +kernel
theorem dX7_isFill_11 : decode cX7_isFill 11 = .ok (.goto 4, 3) := by decide +kernel
theorem dX7_isFill_14 : decode cX7_isFill 14 = .ok (.iconst 0, 1) := by decide +kernel
theorem dX7_isFill_15 : decode cX7_isFill 15 = .ok (.ireturn, 1) := by decide +kernel
theorem dX7_takes_0 : decode cX7_takes 0 = .ok (.iload_n 0, 1) := by decide +kernel
theorem dX7_takes_1 : decode cX7_takes 1 = .ok (.iconst 1, 1) := by decide +kernel
theorem dX7_takes_2 : decode cX7_takes 2 = .ok (.if_icmp .ne 8, 3) := by decide +kernel
theorem dX7_takes_5 : decode cX7_takes 5 = .ok (.iload_n 1, 1) := by decide +kernel
theorem dX7_takes_6 : decode cX7_takes 6 = .ok (.invokestatic 372, 3) := by decide +kernel
theorem dX7_takes_9 : decode cX7_takes 9 = .ok (.ireturn, 1) := by decide +kernel
theorem dX7_takes_10 : decode cX7_takes 10 = .ok (.iload_n 0, 1) := by decide +kernel
theorem dX7_takes_11 : decode cX7_takes 11 = .ok (.ifCond .eq 8, 3) := by decide +kernel
theorem dX7_takes_14 : decode cX7_takes 14 = .ok (.iload_n 1, 1) := by decide +kernel
theorem dX7_takes_15 : decode cX7_takes 15 = .ok (.iconst 3, 1) := by decide +kernel
theorem dX7_takes_16 : decode cX7_takes 16 = .ok (.if_icmp .ne 7, 3) := by decide +kernel
theorem dX7_takes_19 : decode cX7_takes 19 = .ok (.iconst 1, 1) := by decide +kernel
theorem dX7_takes_20 : decode cX7_takes 20 = .ok (.goto 4, 3) := by decide +kernel
theorem dX7_takes_23 : decode cX7_takes 23 = .ok (.iconst 0, 1) := by decide +kernel
theorem dX7_takes_24 : decode cX7_takes 24 = .ok (.ireturn, 1) := by decide +kernel
theorem dX7_isPair_0 : decode cX7_isPair 0 = .ok (.aload_n 0, 1) := by decide +kernel
theorem dX7_isPair_1 : decode cX7_isPair 1 = .ok (.getfield 12, 3) := by decide +kernel
theorem dX7_isPair_4 : decode cX7_isPair 4 = .ok (.iload_n 1, 1) := by decide +kernel
theorem dX7_isPair_5 : decode cX7_isPair 5 = .ok (.invokevirtual 85, 3) := by decide +kernel
theorem dX7_isPair_8 : decode cX7_isPair 8 = .ok (.ifCond .eq 23, 3) := by decide +kernel
theorem dX7_isPair_11 : decode cX7_isPair 11 = .ok (.aload_n 0, 1) := by decide +kernel
theorem dX7_isPair_12 : decode cX7_isPair 12 = .ok (.getfield 12, 3) := by decide +kernel
theorem dX7_isPair_15 : decode cX7_isPair 15 = .ok (.iload_n 2, 1) := by decide +kernel
theorem dX7_isPair_16 : decode cX7_isPair 16 = .ok (.invokevirtual 85, 3) := by decide +kernel
theorem dX7_isPair_19 : decode cX7_isPair 19 = .ok (.ifCond .eq 12, 3) := by decide +kernel
theorem dX7_isPair_22 : decode cX7_isPair 22 = .ok (.iload_n 1, 1) := by decide +kernel
theorem dX7_isPair_23 : decode cX7_isPair 23 = .ok (.iload_n 2, 1) := by decide +kernel
theorem dX7_isPair_24 : decode cX7_isPair 24 = .ok (.if_icmp .eq 7, 3) := by decide +kernel
theorem dX7_isPair_27 : decode cX7_isPair 27 = .ok (.iconst 1, 1) := by decide +kernel
theorem dX7_isPair_28 : decode cX7_isPair 28 = .ok (.goto 4, 3) := by decide +kernel
theorem dX7_isPair_31 : decode cX7_isPair 31 = .ok (.iconst 0, 1) := by decide +kernel
theorem dX7_isPair_32 : decode cX7_isPair 32 = .ok (.ireturn, 1) := by decide +kernel
theorem dX7_traitTold_0 : decode cX7_traitTold 0 = .ok (.aload_n 0, 1) := by decide +kernel
theorem dX7_traitTold_1 : decode cX7_traitTold 1 = .ok (.getfield 12, 3) := by decide +kernel
theorem dX7_traitTold_4 : decode cX7_traitTold 4 = .ok (.iload_n 2, 1) := by decide +kernel
theorem dX7_traitTold_5 : decode cX7_traitTold 5 = .ok (.iload_n 1, 1) := by decide +kernel
theorem dX7_traitTold_6 : decode cX7_traitTold 6 = .ok (.invokevirtual 222, 3) := by decide +kernel
theorem dX7_traitTold_9 : decode cX7_traitTold 9 = .ok (.istore_n 3, 1) := by decide +kernel
theorem dX7_traitTold_10 : decode cX7_traitTold 10 = .ok (.iload_n 2, 1) := by decide +kernel
theorem dX7_traitTold_11 : decode cX7_traitTold 11 = .ok (.iconst 4, 1) := by decide +kernel
theorem dX7_traitTold_12 : decode cX7_traitTold 12 = .ok (.if_icmp .ne 13, 3) := by decide +kernel
theorem dX7_traitTold_15 : decode cX7_traitTold 15 = .ok (.iload_n 3, 1) := by decide +kernel
theorem dX7_traitTold_16 : decode cX7_traitTold 16 = .ok (.iconst (-1), 1) := by decide +kernel
theorem dX7_traitTold_17 : decode cX7_traitTold 17 = .ok (.if_icmp .ne 8, 3) := by decide +kernel
theorem dX7_traitTold_20 : decode cX7_traitTold 20 = .ok (.bipush (-5), 2) := by decide +kernel
theorem dX7_traitTold_22 : decode cX7_traitTold 22 = .ok (.goto 4, 3) := by decide +kernel
theorem dX7_traitTold_25 : decode cX7_traitTold 25 = .ok (.iload_n 3, 1) := by decide +kernel
theorem dX7_traitTold_26 : decode cX7_traitTold 26 = .ok (.ireturn, 1) := by decide +kernel
theorem dX7_woven_0 : decode cX7_woven 0 = .ok (.aload_n 0, 1) := by decide +kernel
theorem dX7_woven_1 : decode cX7_woven 1 = .ok (.getfield 31, 3) := by decide +kernel
theorem dX7_woven_4 : decode cX7_woven 4 = .ok (.aload_n 0, 1) := by decide +kernel
theorem dX7_woven_5 : decode cX7_woven 5 = .ok (.getfield 12, 3) := by decide +kernel
theorem dX7_woven_8 : decode cX7_woven 8 = .ok (.iconst (-1), 1) := by decide +kernel
theorem dX7_woven_9 : decode cX7_woven 9 = .ok (.invokevirtual 315, 3) := by decide +kernel
theorem dX7_woven_12 : decode cX7_woven 12 = .ok (.aload_n 0, 1) := by decide +kernel
theorem dX7_woven_13 : decode cX7_woven 13 = .ok (.getfield 31, 3) := by decide +kernel
theorem dX7_woven_16 : decode cX7_woven 16 = .ok (.areturn, 1) := by decide +kernel
theorem dX7_phasesInUse_0 : decode cX7_phasesInUse 0 = .ok (.iconst 0, 1) := by decide +kernel
theorem dX7_phasesInUse_1 : decode cX7_phasesInUse 1 = .ok (.istore_n 1, 1) := by decide +kernel
theorem dX7_phasesInUse_2 : decode cX7_phasesInUse 2 = .ok (.iconst 0, 1) := by decide +kernel
theorem dX7_phasesInUse_3 : decode cX7_phasesInUse 3 = .ok (.istore_n 2, 1) := by decide +kernel
theorem dX7_phasesInUse_4 : decode cX7_phasesInUse 4 = .ok (.iload_n 2, 1) := by decide +kernel
theorem dX7_phasesInUse_5 : decode cX7_phasesInUse 5 = .ok (.bipush 6, 2) := by decide +kernel
theorem dX7_phasesInUse_7 : decode cX7_phasesInUse 7 = .ok (.if_icmp .ge 26, 3) := by decide +kernel
theorem dX7_phasesInUse_10 : decode cX7_phasesInUse 10 = .ok (.aload_n 0, 1) := by decide +kernel
theorem dX7_phasesInUse_11 : decode cX7_phasesInUse 11 = .ok (.getfield 12, 3) := by decide +kernel
theorem dX7_phasesInUse_14 : decode cX7_phasesInUse 14 = .ok (.iload_n 2, 1) := by decide +kernel
theorem dX7_phasesInUse_15 : decode cX7_phasesInUse 15 = .ok (.invokevirtual 229, 3) := by decide +kernel
theorem dX7_phasesInUse_18 : decode cX7_phasesInUse 18 = .ok (.ifCond .eq 9, 3) := by decide +kernel
theorem dX7_phasesInUse_21 : decode cX7_phasesInUse 21 = .ok (.iload_n 1, 1) := by decide +kernel
theorem dX7_phasesInUse_22 : decode cX7_phasesInUse 22 = .ok (.iconst 1, 1) := by decide +kernel
theorem dX7_phasesInUse_23 : decode cX7_phasesInUse 23 = .ok (.iload_n 2, 1) := by decide +kernel
theorem dX7_phasesInUse_24 : decode cX7_phasesInUse 24 = .ok (.ishl, 1) := by decide +kernel
theorem dX7_phasesInUse_25 : decode cX7_phasesInUse 25 = .ok (.ior, 1) := by decide +kernel
theorem dX7_phasesInUse_26 : decode cX7_phasesInUse 26 = .ok (.istore_n 1, 1) := by decide +kernel
theorem dX7_phasesInUse_27 : decode cX7_phasesInUse 27 = .ok (.iinc 2 1, 3) := by decide +kernel
theorem dX7_phasesInUse_30 : decode cX7_phasesInUse 30 = .ok (.goto (-26), 3) := by decide +kernel
theorem dX7_phasesInUse_33 : decode cX7_phasesInUse 33 = .ok (.iload_n 1, 1) := by decide +kernel
theorem dX7_phasesInUse_34 : decode cX7_phasesInUse 34 = .ok (.ireturn, 1) := by decide +kernel
theorem dX7_isOver_0 : decode cX7_isOver 0 = .ok (.aload_n 0, 1) := by decide +kernel
theorem dX7_isOver_1 : decode cX7_isOver 1 = .ok (.getfield 31, 3) := by decide +kernel
theorem dX7_isOver_4 : decode cX7_isOver 4 = .ok (.aload_n 0, 1) := by decide +kernel
theorem dX7_isOver_5 : decode cX7_isOver 5 = .ok (.getfield 12, 3) := by decide +kernel
theorem dX7_isOver_8 : decode cX7_isOver 8 = .ok (.iload_n 1, 1) := by decide +kernel
theorem dX7_isOver_9 : decode cX7_isOver 9 = .ok (.iload_n 2, 1) := by decide +kernel
theorem dX7_isOver_10 : decode cX7_isOver 10 = .ok (.invokevirtual 375, 3) := by decide +kernel
theorem dX7_isOver_13 : decode cX7_isOver 13 = .ok (.ifCond .eq 23, 3) := by decide +kernel
theorem dX7_isOver_16 : decode cX7_isOver 16 = .ok (.aload_n 0, 1) := by decide +kernel
theorem dX7_isOver_17 : decode cX7_isOver 17 = .ok (.getfield 31, 3) := by decide +kernel
theorem dX7_isOver_20 : decode cX7_isOver 20 = .ok (.aload_n 0, 1) := by decide +kernel
theorem dX7_isOver_21 : decode cX7_isOver 21 = .ok (.getfield 12, 3) := by decide +kernel
theorem dX7_isOver_24 : decode cX7_isOver 24 = .ok (.iload_n 2, 1) := by decide +kernel
theorem dX7_isOver_25 : decode cX7_isOver 25 = .ok (.iload_n 1, 1) := by decide +kernel
theorem dX7_isOver_26 : decode cX7_isOver 26 = .ok (.invokevirtual 375, 3) := by decide +kernel
theorem dX7_isOver_29 : decode cX7_isOver 29 = .ok (.ifCond .ne 7, 3) := by decide +kernel
theorem dX7_isOver_32 : decode cX7_isOver 32 = .ok (.iconst 1, 1) := by decide +kernel
theorem dX7_isOver_33 : decode cX7_isOver 33 = .ok (.goto 4, 3) := by decide +kernel
theorem dX7_isOver_36 : decode cX7_isOver 36 = .ok (.iconst 0, 1) := by decide +kernel
theorem dX7_isOver_37 : decode cX7_isOver 37 = .ok (.ireturn, 1) := by decide +kernel
theorem dX7_phasesUnder_0 : decode cX7_phasesUnder 0 = .ok (.iconst 0, 1) := by decide +kernel
theorem dX7_phasesUnder_1 : decode cX7_phasesUnder 1 = .ok (.istore_n 2, 1) := by decide +kernel
theorem dX7_phasesUnder_2 : decode cX7_phasesUnder 2 = .ok (.iconst 0, 1) := by decide +kernel
theorem dX7_phasesUnder_3 : decode cX7_phasesUnder 3 = .ok (.istore_n 3, 1) := by decide +kernel
theorem dX7_phasesUnder_4 : decode cX7_phasesUnder 4 = .ok (.iload_n 3, 1) := by decide +kernel
theorem dX7_phasesUnder_5 : decode cX7_phasesUnder 5 = .ok (.bipush 6, 2) := by decide +kernel
theorem dX7_phasesUnder_7 : decode cX7_phasesUnder 7 = .ok (.if_icmp .ge 29, 3) := by decide +kernel
theorem dX7_phasesUnder_10 : decode cX7_phasesUnder 10 = .ok (.iload_n 3, 1) := by decide +kernel
theorem dX7_phasesUnder_11 : decode cX7_phasesUnder 11 = .ok (.iload_n 1, 1) := by decide +kernel
theorem dX7_phasesUnder_12 : decode cX7_phasesUnder 12 = .ok (.if_icmp .eq 18, 3) := by decide +kernel
theorem dX7_phasesUnder_15 : decode cX7_phasesUnder 15 = .ok (.aload_n 0, 1) := by decide +kernel
theorem dX7_phasesUnder_16 : decode cX7_phasesUnder 16 = .ok (.iload_n 1, 1) := by decide +kernel
theorem dX7_phasesUnder_17 : decode cX7_phasesUnder 17 = .ok (.iload_n 3, 1) := by decide +kernel
theorem dX7_phasesUnder_18 : decode cX7_phasesUnder 18 = .ok (.invokevirtual 196, 3) := by decide +kernel
theorem dX7_phasesUnder_21 : decode cX7_phasesUnder 21 = .ok (.ifCond .eq 9, 3) := by decide +kernel
theorem dX7_phasesUnder_24 : decode cX7_phasesUnder 24 = .ok (.iload_n 2, 1) := by decide +kernel
theorem dX7_phasesUnder_25 : decode cX7_phasesUnder 25 = .ok (.iconst 1, 1) := by decide +kernel
theorem dX7_phasesUnder_26 : decode cX7_phasesUnder 26 = .ok (.iload_n 3, 1) := by decide +kernel
theorem dX7_phasesUnder_27 : decode cX7_phasesUnder 27 = .ok (.ishl, 1) := by decide +kernel
theorem dX7_phasesUnder_28 : decode cX7_phasesUnder 28 = .ok (.ior, 1) := by decide +kernel
theorem dX7_phasesUnder_29 : decode cX7_phasesUnder 29 = .ok (.istore_n 2, 1) := by decide +kernel
theorem dX7_phasesUnder_30 : decode cX7_phasesUnder 30 = .ok (.iinc 3 1, 3) := by decide +kernel
theorem dX7_phasesUnder_33 : decode cX7_phasesUnder 33 = .ok (.goto (-29), 3) := by decide +kernel
theorem dX7_phasesUnder_36 : decode cX7_phasesUnder 36 = .ok (.iload_n 2, 1) := by decide +kernel
theorem dX7_phasesUnder_37 : decode cX7_phasesUnder 37 = .ok (.ireturn, 1) := by decide +kernel
theorem dX7_middleOf_0 : decode cX7_middleOf 0 = .ok (.aload_n 0, 1) := by decide +kernel
theorem dX7_middleOf_1 : decode cX7_middleOf 1 = .ok (.getfield 31, 3) := by decide +kernel
theorem dX7_middleOf_4 : decode cX7_middleOf 4 = .ok (.aload_n 0, 1) := by decide +kernel
theorem dX7_middleOf_5 : decode cX7_middleOf 5 = .ok (.getfield 12, 3) := by decide +kernel
theorem dX7_middleOf_8 : decode cX7_middleOf 8 = .ok (.iload_n 1, 1) := by decide +kernel
theorem dX7_middleOf_9 : decode cX7_middleOf 9 = .ok (.invokevirtual 205, 3) := by decide +kernel
theorem dX7_middleOf_12 : decode cX7_middleOf 12 = .ok (.i2d, 1) := by decide +kernel
theorem dX7_middleOf_13 : decode cX7_middleOf 13 = .ok (.aload_n 0, 1) := by decide +kernel
theorem dX7_middleOf_14 : decode cX7_middleOf 14 = .ok (.getfield 31, 3) := by decide +kernel
theorem dX7_middleOf_17 : decode cX7_middleOf 17 = .ok (.aload_n 0, 1) := by decide +kernel
theorem dX7_middleOf_18 : decode cX7_middleOf 18 = .ok (.getfield 12, 3) := by decide +kernel
theorem dX7_middleOf_21 : decode cX7_middleOf 21 = .ok (.iload_n 1, 1) := by decide +kernel
theorem dX7_middleOf_22 : decode cX7_middleOf 22 = .ok (.invokevirtual 209, 3) := by decide +kernel
theorem dX7_middleOf_25 : decode cX7_middleOf 25 = .ok (.i2d, 1) := by decide +kernel
theorem dX7_middleOf_26 : decode cX7_middleOf 26 = .ok (.dadd, 1) := by decide +kernel
theorem dX7_middleOf_27 : decode cX7_middleOf 27 = .ok (.ldc2_w 379, 3) := by decide +kernel
theorem dX7_middleOf_30 : decode cX7_middleOf 30 = .ok (.ddiv, 1) := by decide +kernel
theorem dX7_middleOf_31 : decode cX7_middleOf 31 = .ok (.dreturn, 1) := by decide +kernel
theorem dX7_ageOf_0 : decode cX7_ageOf 0 = .ok (.dconst 0, 1) := by decide +kernel
theorem dX7_ageOf_1 : decode cX7_ageOf 1 = .ok (.dstore_n 2, 1) := by decide +kernel
theorem dX7_ageOf_2 : decode cX7_ageOf 2 = .ok (.iconst 0, 1) := by decide +kernel
theorem dX7_ageOf_3 : decode cX7_ageOf 3 = .ok (.istore 4, 2) := by decide +kernel
theorem dX7_ageOf_5 : decode cX7_ageOf 5 = .ok (.iconst 0, 1) := by decide +kernel
theorem dX7_ageOf_6 : decode cX7_ageOf 6 = .ok (.istore 5, 2) := by decide +kernel
theorem dX7_ageOf_8 : decode cX7_ageOf 8 = .ok (.iload 5, 2) := by decide +kernel
theorem dX7_ageOf_10 : decode cX7_ageOf 10 = .ok (.aload_n 0, 1) := by decide +kernel
theorem dX7_ageOf_11 : decode cX7_ageOf 11 = .ok (.getfield 12, 3) := by decide +kernel
theorem dX7_ageOf_14 : decode cX7_ageOf 14 = .ok (.getfield 77, 3) := by decide +kernel
theorem dX7_ageOf_17 : decode cX7_ageOf 17 = .ok (.if_icmp .ge 59, 3) := by decide +kernel
theorem dX7_ageOf_20 : decode cX7_ageOf 20 = .ok (.aload_n 0, 1) := by decide +kernel
theorem dX7_ageOf_21 : decode cX7_ageOf 21 = .ok (.getfield 12, 3) := by decide +kernel
theorem dX7_ageOf_24 : decode cX7_ageOf 24 = .ok (.iconst 4, 1) := by decide +kernel
theorem dX7_ageOf_25 : decode cX7_ageOf 25 = .ok (.iload 5, 2) := by decide +kernel
theorem dX7_ageOf_27 : decode cX7_ageOf 27 = .ok (.invokevirtual 222, 3) := by decide +kernel
theorem dX7_ageOf_30 : decode cX7_ageOf 30 = .ok (.iload_n 1, 1) := by decide +kernel
theorem dX7_ageOf_31 : decode cX7_ageOf 31 = .ok (.if_icmp .ne 39, 3) := by decide +kernel
theorem dX7_ageOf_34 : decode cX7_ageOf 34 = .ok (.dload_n 2, 1) := by decide +kernel
theorem dX7_ageOf_35 : decode cX7_ageOf 35 = .ok (.aload_n 0, 1) := by decide +kernel
theorem dX7_ageOf_36 : decode cX7_ageOf 36 = .ok (.iload 5, 2) := by decide +kernel
theorem dX7_ageOf_38 : decode cX7_ageOf 38 = .ok (.invokevirtual 214, 3) := by decide +kernel
theorem dX7_ageOf_41 : decode cX7_ageOf 41 = .ok (.aload_n 0, 1) := by decide +kernel
theorem dX7_ageOf_42 : decode cX7_ageOf 42 = .ok (.getfield 12, 3) := by decide +kernel
theorem dX7_ageOf_45 : decode cX7_ageOf 45 = .ok (.iconst 1, 1) := by decide +kernel
theorem dX7_ageOf_46 : decode cX7_ageOf 46 = .ok (.iload 5, 2) := by decide +kernel
theorem dX7_ageOf_48 : decode cX7_ageOf 48 = .ok (.invokevirtual 222, 3) := by decide +kernel
theorem dX7_ageOf_51 : decode cX7_ageOf 51 = .ok (.i2d, 1) := by decide +kernel
theorem dX7_ageOf_52 : decode cX7_ageOf 52 = .ok (.dmul, 1) := by decide +kernel
theorem dX7_ageOf_53 : decode cX7_ageOf 53 = .ok (.dadd, 1) := by decide +kernel
theorem dX7_ageOf_54 : decode cX7_ageOf 54 = .ok (.dstore_n 2, 1) := by decide +kernel
theorem dX7_ageOf_55 : decode cX7_ageOf 55 = .ok (.iload 4, 2) := by decide +kernel
theorem dX7_ageOf_57 : decode cX7_ageOf 57 = .ok (.aload_n 0, 1) := by decide +kernel
theorem dX7_ageOf_58 : decode cX7_ageOf 58 = .ok (.getfield 12, 3) := by decide +kernel
theorem dX7_ageOf_61 : decode cX7_ageOf 61 = .ok (.iconst 1, 1) := by decide +kernel
theorem dX7_ageOf_62 : decode cX7_ageOf 62 = .ok (.iload 5, 2) := by decide +kernel
theorem dX7_ageOf_64 : decode cX7_ageOf 64 = .ok (.invokevirtual 222, 3) := by decide +kernel
theorem dX7_ageOf_67 : decode cX7_ageOf 67 = .ok (.iadd, 1) := by decide +kernel
theorem dX7_ageOf_68 : decode cX7_ageOf 68 = .ok (.istore 4, 2) := by decide +kernel
theorem dX7_ageOf_70 : decode cX7_ageOf 70 = .ok (.iinc 5 1, 3) := by decide +kernel
theorem dX7_ageOf_73 : decode cX7_ageOf 73 = .ok (.goto (-65), 3) := by decide +kernel
theorem dX7_ageOf_76 : decode cX7_ageOf 76 = .ok (.iload 4, 2) := by decide +kernel
theorem dX7_ageOf_78 : decode cX7_ageOf 78 = .ok (.ifCond .ne 7, 3) := by decide +kernel
theorem dX7_ageOf_81 : decode cX7_ageOf 81 = .ok (.dconst 0, 1) := by decide +kernel
theorem dX7_ageOf_82 : decode cX7_ageOf 82 = .ok (.goto 8, 3) := by decide +kernel
theorem dX7_ageOf_85 : decode cX7_ageOf 85 = .ok (.dload_n 2, 1) := by decide +kernel
theorem dX7_ageOf_86 : decode cX7_ageOf 86 = .ok (.iload 4, 2) := by decide +kernel
theorem dX7_ageOf_88 : decode cX7_ageOf 88 = .ok (.i2d, 1) := by decide +kernel
theorem dX7_ageOf_89 : decode cX7_ageOf 89 = .ok (.ddiv, 1) := by decide +kernel
theorem dX7_ageOf_90 : decode cX7_ageOf 90 = .ok (.dreturn, 1) := by decide +kernel
theorem dX7_lawfulOrders_0 : decode cX7_lawfulOrders 0 = .ok (.aload_n 0, 1) := by decide +kernel
theorem dX7_lawfulOrders_1 : decode cX7_lawfulOrders 1 = .ok (.getfield 31, 3) := by decide +kernel
theorem dX7_lawfulOrders_4 : decode cX7_lawfulOrders 4 = .ok (.aload_n 1, 1) := by decide +kernel
theorem dX7_lawfulOrders_5 : decode cX7_lawfulOrders 5 = .ok (.iconst (-1), 1) := by decide +kernel
theorem dX7_lawfulOrders_6 : decode cX7_lawfulOrders 6 = .ok (.invokevirtual 315, 3) := by decide +kernel
theorem dX7_lawfulOrders_9 : decode cX7_lawfulOrders 9 = .ok (.aload_n 0, 1) := by decide +kernel
theorem dX7_lawfulOrders_10 : decode cX7_lawfulOrders 10 = .ok (.getfield 31, 3) := by decide +kernel
theorem dX7_lawfulOrders_13 : decode cX7_lawfulOrders 13 = .ok (.invokevirtual 126, 3) := by decide +kernel
theorem dX7_lawfulOrders_16 : decode cX7_lawfulOrders 16 = .ok (.ifCond .eq 5, 3) := by decide +kernel
theorem dX7_lawfulOrders_19 : decode cX7_lawfulOrders 19 = .ok (.lconst 0, 1) := by decide +kernel
theorem dX7_lawfulOrders_20 : decode cX7_lawfulOrders 20 = .ok (.lreturn, 1) := by decide +kernel
theorem dX7_lawfulOrders_21 : decode cX7_lawfulOrders 21 = .ok (.aload_n 0, 1) := by decide +kernel
theorem dX7_lawfulOrders_22 : decode cX7_lawfulOrders 22 = .ok (.getfield 38, 3) := by decide +kernel
theorem dX7_lawfulOrders_25 : decode cX7_lawfulOrders 25 = .ok (.aload_n 0, 1) := by decide +kernel
theorem dX7_lawfulOrders_26 : decode cX7_lawfulOrders 26 = .ok (.getfield 31, 3) := by decide +kernel
theorem dX7_lawfulOrders_29 : decode cX7_lawfulOrders 29 = .ok (.getfield 156, 3) := by decide +kernel
theorem dX7_lawfulOrders_32 : decode cX7_lawfulOrders 32 = .ok (.aload_n 1, 1) := by decide +kernel
theorem dX7_lawfulOrders_33 : decode cX7_lawfulOrders 33 = .ok (.invokevirtual 381, 3) := by decide +kernel
theorem dX7_lawfulOrders_36 : decode cX7_lawfulOrders 36 = .ok (.aload_n 1, 1) := by decide +kernel
theorem dX7_lawfulOrders_37 : decode cX7_lawfulOrders 37 = .ok (.invokevirtual 237, 3) := by decide +kernel
theorem dX7_lawfulOrders_40 : decode cX7_lawfulOrders 40 = .ok (.iconst (-1), 1) := by decide +kernel
theorem dX7_lawfulOrders_41 : decode cX7_lawfulOrders 41 = .ok (.ixor, 1) := by decide +kernel
theorem dX7_lawfulOrders_42 : decode cX7_lawfulOrders 42 = .ok (.iand, 1) := by decide +kernel
theorem dX7_lawfulOrders_43 : decode cX7_lawfulOrders 43 = .ok (.invokevirtual 384, 3) := by decide +kernel
theorem dX7_lawfulOrders_46 : decode cX7_lawfulOrders 46 = .ok (.lreturn, 1) := by decide +kernel
theorem dX7_obeys_0 : decode cX7_obeys 0 = .ok (.iload_n 1, 1) := by decide +kernel
theorem dX7_obeys_1 : decode cX7_obeys 1 = .ok (.iconst 4, 1) := by decide +kernel
theorem dX7_obeys_2 : decode cX7_obeys 2 = .ok (.if_icmp .ne 10, 3) := by decide +kernel
theorem dX7_obeys_5 : decode cX7_obeys 5 = .ok (.aload_n 0, 1) := by decide +kernel
theorem dX7_obeys_6 : decode cX7_obeys 6 = .ok (.iload_n 2, 1) := by decide +kernel
theorem dX7_obeys_7 : decode cX7_obeys 7 = .ok (.iload_n 3, 1) := by decide +kernel
theorem dX7_obeys_8 : decode cX7_obeys 8 = .ok (.invokevirtual 388, 3) := by decide +kernel
theorem dX7_obeys_11 : decode cX7_obeys 11 = .ok (.ireturn, 1) := by decide +kernel
theorem dX7_obeys_12 : decode cX7_obeys 12 = .ok (.iload_n 1, 1) := by decide +kernel
theorem dX7_obeys_13 : decode cX7_obeys 13 = .ok (.iconst 1, 1) := by decide +kernel
theorem dX7_obeys_14 : decode cX7_obeys 14 = .ok (.if_icmp .ne 12, 3) := by decide +kernel
theorem dX7_obeys_17 : decode cX7_obeys 17 = .ok (.aload_n 0, 1) := by decide +kernel
theorem dX7_obeys_18 : decode cX7_obeys 18 = .ok (.iload_n 3, 1) := by decide +kernel
theorem dX7_obeys_19 : decode cX7_obeys 19 = .ok (.iload_n 2, 1) := by decide +kernel
theorem dX7_obeys_20 : decode cX7_obeys 20 = .ok (.invokevirtual 391, 3) := by decide +kernel
theorem dX7_obeys_23 : decode cX7_obeys 23 = .ok (.goto 9, 3) := by decide +kernel
theorem dX7_obeys_26 : decode cX7_obeys 26 = .ok (.aload_n 0, 1) := by decide +kernel
theorem dX7_obeys_27 : decode cX7_obeys 27 = .ok (.iload_n 2, 1) := by decide +kernel
theorem dX7_obeys_28 : decode cX7_obeys 28 = .ok (.iload_n 3, 1) := by decide +kernel
theorem dX7_obeys_29 : decode cX7_obeys 29 = .ok (.invokevirtual 391, 3) := by decide +kernel
theorem dX7_obeys_32 : decode cX7_obeys 32 = .ok (.istore 4, 2) := by decide +kernel
theorem dX7_obeys_34 : decode cX7_obeys 34 = .ok (.iload 4, 2) := by decide +kernel
theorem dX7_obeys_36 : decode cX7_obeys 36 = .ok (.ifCond .ge 5, 3) := by decide +kernel
theorem dX7_obeys_39 : decode cX7_obeys 39 = .ok (.iconst 0, 1) := by decide +kernel
theorem dX7_obeys_40 : decode cX7_obeys 40 = .ok (.ireturn, 1) := by decide +kernel
theorem dX7_obeys_41 : decode cX7_obeys 41 = .ok (.iload_n 1, 1) := by decide +kernel
theorem dX7_obeys_42 : decode cX7_obeys 42 = .ok (.iconst 2, 1) := by decide +kernel
theorem dX7_obeys_43 : decode cX7_obeys 43 = .ok (.if_icmp .ne 16, 3) := by decide +kernel
theorem dX7_obeys_46 : decode cX7_obeys 46 = .ok (.aload_n 0, 1) := by decide +kernel
theorem dX7_obeys_47 : decode cX7_obeys 47 = .ok (.getfield 12, 3) := by decide +kernel
theorem dX7_obeys_50 : decode cX7_obeys 50 = .ok (.iconst 0, 1) := by decide +kernel
theorem dX7_obeys_51 : decode cX7_obeys 51 = .ok (.iload_n 2, 1) := by decide +kernel
theorem dX7_obeys_52 : decode cX7_obeys 52 = .ok (.iconst 1, 1) := by decide +kernel
theorem dX7_obeys_53 : decode cX7_obeys 53 = .ok (.invokevirtual 93, 3) := by decide +kernel
theorem dX7_obeys_56 : decode cX7_obeys 56 = .ok (.goto 18, 3) := by decide +kernel
theorem dX7_obeys_59 : decode cX7_obeys 59 = .ok (.iload_n 1, 1) := by decide +kernel
theorem dX7_obeys_60 : decode cX7_obeys 60 = .ok (.iconst 3, 1) := by decide +kernel
theorem dX7_obeys_61 : decode cX7_obeys 61 = .ok (.if_icmp .ne 13, 3) := by decide +kernel
theorem dX7_obeys_64 : decode cX7_obeys 64 = .ok (.aload_n 0, 1) := by decide +kernel
theorem dX7_obeys_65 : decode cX7_obeys 65 = .ok (.getfield 12, 3) := by decide +kernel
theorem dX7_obeys_68 : decode cX7_obeys 68 = .ok (.iconst 0, 1) := by decide +kernel
theorem dX7_obeys_69 : decode cX7_obeys 69 = .ok (.iload_n 2, 1) := by decide +kernel
theorem dX7_obeys_70 : decode cX7_obeys 70 = .ok (.iconst 2, 1) := by decide +kernel
theorem dX7_obeys_71 : decode cX7_obeys 71 = .ok (.invokevirtual 93, 3) := by decide +kernel
theorem dX7_obeys_74 : decode cX7_obeys 74 = .ok (.iconst 1, 1) := by decide +kernel
theorem dX7_obeys_75 : decode cX7_obeys 75 = .ok (.ireturn, 1) := by decide +kernel
theorem dX7_joinsPhase_0 : decode cX7_joinsPhase 0 = .ok (.aload_n 0, 1) := by decide +kernel
theorem dX7_joinsPhase_1 : decode cX7_joinsPhase 1 = .ok (.getfield 12, 3) := by decide +kernel
theorem dX7_joinsPhase_4 : decode cX7_joinsPhase 4 = .ok (.iload_n 1, 1) := by decide +kernel
theorem dX7_joinsPhase_5 : decode cX7_joinsPhase 5 = .ok (.invokevirtual 85, 3) := by decide +kernel
theorem dX7_joinsPhase_8 : decode cX7_joinsPhase 8 = .ok (.ifCond .eq 14, 3) := by decide +kernel
theorem dX7_joinsPhase_11 : decode cX7_joinsPhase 11 = .ok (.aload_n 0, 1) := by decide +kernel
theorem dX7_joinsPhase_12 : decode cX7_joinsPhase 12 = .ok (.getfield 12, 3) := by decide +kernel
theorem dX7_joinsPhase_15 : decode cX7_joinsPhase 15 = .ok (.iload_n 2, 1) := by decide +kernel
theorem dX7_joinsPhase_16 : decode cX7_joinsPhase 16 = .ok (.invokevirtual 85, 3) := by decide +kernel
theorem dX7_joinsPhase_19 : decode cX7_joinsPhase 19 = .ok (.ifCond .ne 5, 3) := by decide +kernel
theorem dX7_joinsPhase_22 : decode cX7_joinsPhase 22 = .ok (.iconst 0, 1) := by decide +kernel
theorem dX7_joinsPhase_23 : decode cX7_joinsPhase 23 = .ok (.ireturn, 1) := by decide +kernel
theorem dX7_joinsPhase_24 : decode cX7_joinsPhase 24 = .ok (.aload_n 0, 1) := by decide +kernel
theorem dX7_joinsPhase_25 : decode cX7_joinsPhase 25 = .ok (.getfield 12, 3) := by decide +kernel
theorem dX7_joinsPhase_28 : decode cX7_joinsPhase 28 = .ok (.iconst 4, 1) := by decide +kernel
theorem dX7_joinsPhase_29 : decode cX7_joinsPhase 29 = .ok (.iload_n 1, 1) := by decide +kernel
theorem dX7_joinsPhase_30 : decode cX7_joinsPhase 30 = .ok (.aload_n 0, 1) := by decide +kernel
theorem dX7_joinsPhase_31 : decode cX7_joinsPhase 31 = .ok (.getfield 12, 3) := by decide +kernel
theorem dX7_joinsPhase_34 : decode cX7_joinsPhase 34 = .ok (.iconst 4, 1) := by decide +kernel
theorem dX7_joinsPhase_35 : decode cX7_joinsPhase 35 = .ok (.iload_n 2, 1) := by decide +kernel
theorem dX7_joinsPhase_36 : decode cX7_joinsPhase 36 = .ok (.invokevirtual 222, 3) := by decide +kernel
theorem dX7_joinsPhase_39 : decode cX7_joinsPhase 39 = .ok (.invokevirtual 93, 3) := by decide +kernel
theorem dX7_joinsPhase_42 : decode cX7_joinsPhase 42 = .ok (.iconst 1, 1) := by decide +kernel
theorem dX7_joinsPhase_43 : decode cX7_joinsPhase 43 = .ok (.ireturn, 1) := by decide +kernel
theorem dX7_bitsOfDouble_0 : decode cX7_bitsOfDouble 0 = .ok (.dload_n 0, 1) := by decide +kernel
theorem dX7_bitsOfDouble_1 : decode cX7_bitsOfDouble 1 = .ok (.dconst 0, 1) := by decide +kernel
theorem dX7_bitsOfDouble_2 : decode cX7_bitsOfDouble 2 = .ok (.dcmp .l, 1) := by decide +kernel
theorem dX7_bitsOfDouble_3 : decode cX7_bitsOfDouble 3 = .ok (.ifCond .gt 5, 3) := by decide +kernel
theorem dX7_bitsOfDouble_6 : decode cX7_bitsOfDouble 6 = .ok (.lconst 0, 1) := by decide +kernel
theorem dX7_bitsOfDouble_7 : decode cX7_bitsOfDouble 7 = .ok (.lreturn, 1) := by decide +kernel
theorem dX7_bitsOfDouble_8 : decode cX7_bitsOfDouble 8 = .ok (.dload_n 0, 1) := by decide +kernel
theorem dX7_bitsOfDouble_9 : decode cX7_bitsOfDouble 9 = .ok (.dstore_n 2, 1) := by decide +kernel
theorem dX7_bitsOfDouble_10 : decode cX7_bitsOfDouble 10 = .ok (.ldc2_w 394, 3) := by decide +kernel
theorem dX7_bitsOfDouble_13 : decode cX7_bitsOfDouble 13 = .ok (.lstore 4, 2) := by decide +kernel
theorem dX7_bitsOfDouble_15 : decode cX7_bitsOfDouble 15 = .ok (.iconst 0, 1) := by decide +kernel
theorem dX7_bitsOfDouble_16 : decode cX7_bitsOfDouble 16 = .ok (.istore 6, 2) := by decide +kernel
theorem dX7_bitsOfDouble_18 : decode cX7_bitsOfDouble 18 = .ok (.iload 6, 2) := by decide +kernel
theorem dX7_bitsOfDouble_20 : decode cX7_bitsOfDouble 20 = .ok (.sipush 1100, 3) := by decide +kernel
theorem dX7_bitsOfDouble_23 : decode cX7_bitsOfDouble 23 = .ok (.if_icmp .ge 29, 3) := by decide +kernel
theorem dX7_bitsOfDouble_26 : decode cX7_bitsOfDouble 26 = .ok (.dload_n 2, 1) := by decide +kernel
theorem dX7_bitsOfDouble_27 : decode cX7_bitsOfDouble 27 = .ok (.ldc2_w 379, 3) := by decide +kernel
theorem dX7_bitsOfDouble_30 : decode cX7_bitsOfDouble 30 = .ok (.dcmp .l, 1) := by decide +kernel
theorem dX7_bitsOfDouble_31 : decode cX7_bitsOfDouble 31 = .ok (.ifCond .lt 21, 3) := by decide +kernel
theorem dX7_bitsOfDouble_34 : decode cX7_bitsOfDouble 34 = .ok (.dload_n 2, 1) := by decide +kernel
theorem dX7_bitsOfDouble_35 : decode cX7_bitsOfDouble 35 = .ok (.ldc2_w 379, 3) := by decide +kernel
theorem dX7_bitsOfDouble_38 : decode cX7_bitsOfDouble 38 = .ok (.ddiv, 1) := by decide +kernel
theorem dX7_bitsOfDouble_39 : decode cX7_bitsOfDouble 39 = .ok (.dstore_n 2, 1) := by decide +kernel
theorem dX7_bitsOfDouble_40 : decode cX7_bitsOfDouble 40 = .ok (.lload 4, 2) := by decide +kernel
theorem dX7_bitsOfDouble_42 : decode cX7_bitsOfDouble 42 = .ok (.lconst 1, 1) := by decide +kernel
theorem dX7_bitsOfDouble_43 : decode cX7_bitsOfDouble 43 = .ok (.ladd, 1) := by decide +kernel
theorem dX7_bitsOfDouble_44 : decode cX7_bitsOfDouble 44 = .ok (.lstore 4, 2) := by decide +kernel
theorem dX7_bitsOfDouble_46 : decode cX7_bitsOfDouble 46 = .ok (.iinc 6 1, 3) := by decide +kernel
theorem dX7_bitsOfDouble_49 : decode cX7_bitsOfDouble 49 = .ok (.goto (-31), 3) := by decide +kernel
theorem dX7_bitsOfDouble_52 : decode cX7_bitsOfDouble 52 = .ok (.iconst 0, 1) := by decide +kernel
theorem dX7_bitsOfDouble_53 : decode cX7_bitsOfDouble 53 = .ok (.istore 6, 2) := by decide +kernel
theorem dX7_bitsOfDouble_55 : decode cX7_bitsOfDouble 55 = .ok (.iload 6, 2) := by decide +kernel
theorem dX7_bitsOfDouble_57 : decode cX7_bitsOfDouble 57 = .ok (.sipush 1100, 3) := by decide +kernel
theorem dX7_bitsOfDouble_60 : decode cX7_bitsOfDouble 60 = .ok (.if_icmp .ge 27, 3) := by decide +kernel
theorem dX7_bitsOfDouble_63 : decode cX7_bitsOfDouble 63 = .ok (.dload_n 2, 1) := by decide +kernel
theorem dX7_bitsOfDouble_64 : decode cX7_bitsOfDouble 64 = .ok (.dconst 1, 1) := by decide +kernel
theorem dX7_bitsOfDouble_65 : decode cX7_bitsOfDouble 65 = .ok (.dcmp .g, 1) := by decide +kernel
theorem dX7_bitsOfDouble_66 : decode cX7_bitsOfDouble 66 = .ok (.ifCond .ge 21, 3) := by decide +kernel
theorem dX7_bitsOfDouble_69 : decode cX7_bitsOfDouble 69 = .ok (.dload_n 2, 1) := by decide +kernel
theorem dX7_bitsOfDouble_70 : decode cX7_bitsOfDouble 70 = .ok (.ldc2_w 379, 3) := by decide +kernel
theorem dX7_bitsOfDouble_73 : decode cX7_bitsOfDouble 73 = .ok (.dmul, 1) := by decide +kernel
theorem dX7_bitsOfDouble_74 : decode cX7_bitsOfDouble 74 = .ok (.dstore_n 2, 1) := by decide +kernel
theorem dX7_bitsOfDouble_75 : decode cX7_bitsOfDouble 75 = .ok (.lload 4, 2) := by decide +kernel
theorem dX7_bitsOfDouble_77 : decode cX7_bitsOfDouble 77 = .ok (.lconst 1, 1) := by decide +kernel
theorem dX7_bitsOfDouble_78 : decode cX7_bitsOfDouble 78 = .ok (.lsub, 1) := by decide +kernel
theorem dX7_bitsOfDouble_79 : decode cX7_bitsOfDouble 79 = .ok (.lstore 4, 2) := by decide +kernel
theorem dX7_bitsOfDouble_81 : decode cX7_bitsOfDouble 81 = .ok (.iinc 6 1, 3) := by decide +kernel
theorem dX7_bitsOfDouble_84 : decode cX7_bitsOfDouble 84 = .ok (.goto (-29), 3) := by decide +kernel
theorem dX7_bitsOfDouble_87 : decode cX7_bitsOfDouble 87 = .ok (.lload 4, 2) := by decide +kernel
theorem dX7_bitsOfDouble_89 : decode cX7_bitsOfDouble 89 = .ok (.bipush 52, 2) := by decide +kernel
theorem dX7_bitsOfDouble_91 : decode cX7_bitsOfDouble 91 = .ok (.lshl, 1) := by decide +kernel
theorem dX7_bitsOfDouble_92 : decode cX7_bitsOfDouble 92 = .ok (.dload_n 2, 1) := by decide +kernel
theorem dX7_bitsOfDouble_93 : decode cX7_bitsOfDouble 93 = .ok (.dconst 1, 1) := by decide +kernel
theorem dX7_bitsOfDouble_94 : decode cX7_bitsOfDouble 94 = .ok (.dsub, 1) := by decide +kernel
theorem dX7_bitsOfDouble_95 : decode cX7_bitsOfDouble 95 = .ok (.ldc2_w 396, 3) := by decide +kernel
theorem dX7_bitsOfDouble_98 : decode cX7_bitsOfDouble 98 = .ok (.dmul, 1) := by decide +kernel
theorem dX7_bitsOfDouble_99 : decode cX7_bitsOfDouble 99 = .ok (.d2l, 1) := by decide +kernel
theorem dX7_bitsOfDouble_100 : decode cX7_bitsOfDouble 100 = .ok (.lor, 1) := by decide +kernel
theorem dX7_bitsOfDouble_101 : decode cX7_bitsOfDouble 101 = .ok (.lreturn, 1) := by decide +kernel
theorem dX7_bitsOfFloat_0 : decode cX7_bitsOfFloat 0 = .ok (.fload_n 0, 1) := by decide +kernel
theorem dX7_bitsOfFloat_1 : decode cX7_bitsOfFloat 1 = .ok (.fconst 0, 1) := by decide +kernel
theorem dX7_bitsOfFloat_2 : decode cX7_bitsOfFloat 2 = .ok (.fcmp .l, 1) := by decide +kernel
theorem dX7_bitsOfFloat_3 : decode cX7_bitsOfFloat 3 = .ok (.ifCond .gt 5, 3) := by decide +kernel
theorem dX7_bitsOfFloat_6 : decode cX7_bitsOfFloat 6 = .ok (.iconst 0, 1) := by decide +kernel
theorem dX7_bitsOfFloat_7 : decode cX7_bitsOfFloat 7 = .ok (.ireturn, 1) := by decide +kernel
theorem dX7_bitsOfFloat_8 : decode cX7_bitsOfFloat 8 = .ok (.fload_n 0, 1) := by decide +kernel
theorem dX7_bitsOfFloat_9 : decode cX7_bitsOfFloat 9 = .ok (.fstore_n 1, 1) := by decide +kernel
theorem dX7_bitsOfFloat_10 : decode cX7_bitsOfFloat 10 = .ok (.bipush 127, 2) := by decide +kernel
theorem dX7_bitsOfFloat_12 : decode cX7_bitsOfFloat 12 = .ok (.istore_n 2, 1) := by decide +kernel
theorem dX7_bitsOfFloat_13 : decode cX7_bitsOfFloat 13 = .ok (.iconst 0, 1) := by decide +kernel
theorem dX7_bitsOfFloat_14 : decode cX7_bitsOfFloat 14 = .ok (.istore_n 3, 1) := by decide +kernel
theorem dX7_bitsOfFloat_15 : decode cX7_bitsOfFloat 15 = .ok (.iload_n 3, 1) := by decide +kernel
theorem dX7_bitsOfFloat_16 : decode cX7_bitsOfFloat 16 = .ok (.sipush 200, 3) := by decide +kernel
theorem dX7_bitsOfFloat_19 : decode cX7_bitsOfFloat 19 = .ok (.if_icmp .ge 22, 3) := by decide +kernel
theorem dX7_bitsOfFloat_22 : decode cX7_bitsOfFloat 22 = .ok (.fload_n 1, 1) := by decide +kernel
theorem dX7_bitsOfFloat_23 : decode cX7_bitsOfFloat 23 = .ok (.fconst 2, 1) := by decide +kernel
theorem dX7_bitsOfFloat_24 : decode cX7_bitsOfFloat 24 = .ok (.fcmp .l, 1) := by decide +kernel
theorem dX7_bitsOfFloat_25 : decode cX7_bitsOfFloat 25 = .ok (.ifCond .lt 16, 3) := by decide +kernel
theorem dX7_bitsOfFloat_28 : decode cX7_bitsOfFloat 28 = .ok (.fload_n 1, 1) := by decide +kernel
theorem dX7_bitsOfFloat_29 : decode cX7_bitsOfFloat 29 = .ok (.fconst 2, 1) := by decide +kernel
theorem dX7_bitsOfFloat_30 : decode cX7_bitsOfFloat 30 = .ok (.fdiv, 1) := by decide +kernel
theorem dX7_bitsOfFloat_31 : decode cX7_bitsOfFloat 31 = .ok (.fstore_n 1, 1) := by decide +kernel
theorem dX7_bitsOfFloat_32 : decode cX7_bitsOfFloat 32 = .ok (.iinc 2 1, 3) := by decide +kernel
theorem dX7_bitsOfFloat_35 : decode cX7_bitsOfFloat 35 = .ok (.iinc 3 1, 3) := by decide +kernel
theorem dX7_bitsOfFloat_38 : decode cX7_bitsOfFloat 38 = .ok (.goto (-23), 3) := by decide +kernel
theorem dX7_bitsOfFloat_41 : decode cX7_bitsOfFloat 41 = .ok (.iconst 0, 1) := by decide +kernel
theorem dX7_bitsOfFloat_42 : decode cX7_bitsOfFloat 42 = .ok (.istore_n 3, 1) := by decide +kernel
theorem dX7_bitsOfFloat_43 : decode cX7_bitsOfFloat 43 = .ok (.iload_n 3, 1) := by decide +kernel
theorem dX7_bitsOfFloat_44 : decode cX7_bitsOfFloat 44 = .ok (.sipush 200, 3) := by decide +kernel
theorem dX7_bitsOfFloat_47 : decode cX7_bitsOfFloat 47 = .ok (.if_icmp .ge 22, 3) := by decide +kernel
theorem dX7_bitsOfFloat_50 : decode cX7_bitsOfFloat 50 = .ok (.fload_n 1, 1) := by decide +kernel
theorem dX7_bitsOfFloat_51 : decode cX7_bitsOfFloat 51 = .ok (.fconst 1, 1) := by decide +kernel
theorem dX7_bitsOfFloat_52 : decode cX7_bitsOfFloat 52 = .ok (.fcmp .g, 1) := by decide +kernel
theorem dX7_bitsOfFloat_53 : decode cX7_bitsOfFloat 53 = .ok (.ifCond .ge 16, 3) := by decide +kernel
theorem dX7_bitsOfFloat_56 : decode cX7_bitsOfFloat 56 = .ok (.fload_n 1, 1) := by decide +kernel
theorem dX7_bitsOfFloat_57 : decode cX7_bitsOfFloat 57 = .ok (.fconst 2, 1) := by decide +kernel
theorem dX7_bitsOfFloat_58 : decode cX7_bitsOfFloat 58 = .ok (.fmul, 1) := by decide +kernel
theorem dX7_bitsOfFloat_59 : decode cX7_bitsOfFloat 59 = .ok (.fstore_n 1, 1) := by decide +kernel
theorem dX7_bitsOfFloat_60 : decode cX7_bitsOfFloat 60 = .ok (.iinc 2 (-1), 3) := by decide +kernel
theorem dX7_bitsOfFloat_63 : decode cX7_bitsOfFloat 63 = .ok (.iinc 3 1, 3) := by decide +kernel
theorem dX7_bitsOfFloat_66 : decode cX7_bitsOfFloat 66 = .ok (.goto (-23), 3) := by decide +kernel
theorem dX7_bitsOfFloat_69 : decode cX7_bitsOfFloat 69 = .ok (.iload_n 2, 1) := by decide +kernel
theorem dX7_bitsOfFloat_70 : decode cX7_bitsOfFloat 70 = .ok (.bipush 23, 2) := by decide +kernel
theorem dX7_bitsOfFloat_72 : decode cX7_bitsOfFloat 72 = .ok (.ishl, 1) := by decide +kernel
theorem dX7_bitsOfFloat_73 : decode cX7_bitsOfFloat 73 = .ok (.fload_n 1, 1) := by decide +kernel
theorem dX7_bitsOfFloat_74 : decode cX7_bitsOfFloat 74 = .ok (.fconst 1, 1) := by decide +kernel
theorem dX7_bitsOfFloat_75 : decode cX7_bitsOfFloat 75 = .ok (.fsub, 1) := by decide +kernel
theorem dX7_bitsOfFloat_76 : decode cX7_bitsOfFloat 76 = .ok (.ldc_w 398, 3) := by decide +kernel
theorem dX7_bitsOfFloat_79 : decode cX7_bitsOfFloat 79 = .ok (.fmul, 1) := by decide +kernel
theorem dX7_bitsOfFloat_80 : decode cX7_bitsOfFloat 80 = .ok (.f2i, 1) := by decide +kernel
theorem dX7_bitsOfFloat_81 : decode cX7_bitsOfFloat 81 = .ok (.ior, 1) := by decide +kernel
theorem dX7_bitsOfFloat_82 : decode cX7_bitsOfFloat 82 = .ok (.ireturn, 1) := by decide +kernel
