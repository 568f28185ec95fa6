theorem dX0_init_0 : decode cX0_init 0 = .ok (.aload_n 0, 1) := by decide +kernel
theorem dX0_init_1 : decode cX0_init 1 = .ok (.invokespecial 3, 3) := by decide +kernel
theorem dX0_init_4 : decode cX0_init 4 = .ok (.aload_n 0, 1) := by decide +kernel
theorem dX0_init_5 : decode cX0_init 5 = .ok (.new 9, 3) := by decide +kernel
theorem dX0_init_8 : decode cX0_init 8 = .ok (.dup, 1) := by decide +kernel
theorem dX0_init_9 : decode cX0_init 9 = .ok (.bipush 8, 2) := by decide +kernel
theorem dX0_init_11 : decode cX0_init 11 = .ok (.invokespecial 11, 3) := by decide +kernel
theorem dX0_init_14 : decode cX0_init 14 = .ok (.putfield 14, 3) := by decide +kernel
theorem dX0_init_17 : decode cX0_init 17 = .ok (.aload_n 0, 1) := by decide +kernel
theorem dX0_init_18 : decode cX0_init 18 = .ok (.new 9, 3) := by decide +kernel
theorem dX0_init_21 : decode cX0_init 21 = .ok (.dup, 1) := by decide +kernel
theorem dX0_init_22 : decode cX0_init 22 = .ok (.bipush 24, 2) := by decide +kernel
theorem dX0_init_24 : decode cX0_init 24 = .ok (.invokespecial 11, 3) := by decide +kernel
theorem dX0_init_27 : decode cX0_init 27 = .ok (.putfield 20, 3) := by decide +kernel
theorem dX0_init_30 : decode cX0_init 30 = .ok (.aload_n 0, 1) := by decide +kernel
theorem dX0_init_31 : decode cX0_init 31 = .ok (.new 9, 3) := by decide +kernel
theorem dX0_init_34 : decode cX0_init 34 = .ok (.dup, 1) := by decide +kernel
theorem dX0_init_35 : decode cX0_init 35 = .ok (.bipush 24, 2) := by decide +kernel
theorem dX0_init_37 : decode cX0_init 37 = .ok (.invokespecial 11, 3) := by decide +kernel
theorem dX0_init_40 : decode cX0_init 40 = .ok (.putfield 23, 3) := by decide +kernel
theorem dX0_init_43 : decode cX0_init 43 = .ok (.aload_n 0, 1) := by decide +kernel
theorem dX0_init_44 : decode cX0_init 44 = .ok (.new 9, 3) := by decide +kernel
theorem dX0_init_47 : decode cX0_init 47 = .ok (.dup, 1) := by decide +kernel
theorem dX0_init_48 : decode cX0_init 48 = .ok (.bipush 24, 2) := by decide +kernel
theorem dX0_init_50 : decode cX0_init 50 = .ok (.invokespecial 11, 3) := by decide +kernel
theorem dX0_init_53 : decode cX0_init 53 = .ok (.putfield 26, 3) := by decide +kernel
theorem dX0_init_56 : decode cX0_init 56 = .ok (.aload_n 0, 1) := by decide +kernel
theorem dX0_init_57 : decode cX0_init 57 = .ok (.new 29, 3) := by decide +kernel
theorem dX0_init_60 : decode cX0_init 60 = .ok (.dup, 1) := by decide +kernel
theorem dX0_init_61 : decode cX0_init 61 = .ok (.sipush 192, 3) := by decide +kernel
theorem dX0_init_64 : decode cX0_init 64 = .ok (.invokespecial 31, 3) := by decide +kernel
theorem dX0_init_67 : decode cX0_init 67 = .ok (.putfield 32, 3) := by decide +kernel
theorem dX0_init_70 : decode cX0_init 70 = .ok (.aload_n 0, 1) := by decide +kernel
theorem dX0_init_71 : decode cX0_init 71 = .ok (.new 9, 3) := by decide +kernel
theorem dX0_init_74 : decode cX0_init 74 = .ok (.dup, 1) := by decide +kernel
theorem dX0_init_75 : decode cX0_init 75 = .ok (.bipush 24, 2) := by decide +kernel
theorem dX0_init_77 : decode cX0_init 77 = .ok (.invokespecial 11, 3) := by decide +kernel
theorem dX0_init_80 : decode cX0_init 80 = .ok (.putfield 36, 3) := by decide +kernel
theorem dX0_init_83 : decode cX0_init 83 = .ok (.aload_n 0, 1) := by decide +kernel
theorem dX0_init_84 : decode cX0_init 84 = .ok (.invokevirtual 39, 3) := by decide +kernel
theorem dX0_init_87 : decode cX0_init 87 = .ok (.return_, 1) := by decide +kernel
theorem dX0_empty_0 : decode cX0_empty 0 = .ok (.aload_n 0, 1) := by decide +kernel
theorem dX0_empty_1 : decode cX0_empty 1 = .ok (.getfield 14, 3) := by decide +kernel
theorem dX0_empty_4 : decode cX0_empty 4 = .ok (.iconst 0, 1) := by decide +kernel
theorem dX0_empty_5 : decode cX0_empty 5 = .ok (.bipush 60, 2) := by decide +kernel
theorem dX0_empty_7 : decode cX0_empty 7 = .ok (.invokevirtual 42, 3) := by decide +kernel
theorem dX0_empty_10 : decode cX0_empty 10 = .ok (.aload_n 0, 1) := by decide +kernel
theorem dX0_empty_11 : decode cX0_empty 11 = .ok (.getfield 14, 3) := by decide +kernel
theorem dX0_empty_14 : decode cX0_empty 14 = .ok (.iconst 1, 1) := by decide +kernel
theorem dX0_empty_15 : decode cX0_empty 15 = .ok (.bipush 40, 2) := by decide +kernel
theorem dX0_empty_17 : decode cX0_empty 17 = .ok (.invokevirtual 42, 3) := by decide +kernel
theorem dX0_empty_20 : decode cX0_empty 20 = .ok (.aload_n 0, 1) := by decide +kernel
theorem dX0_empty_21 : decode cX0_empty 21 = .ok (.getfield 14, 3) := by decide +kernel
theorem dX0_empty_24 : decode cX0_empty 24 = .ok (.iconst 2, 1) := by decide +kernel
theorem dX0_empty_25 : decode cX0_empty 25 = .ok (.bipush 40, 2) := by decide +kernel
theorem dX0_empty_27 : decode cX0_empty 27 = .ok (.invokevirtual 42, 3) := by decide +kernel
theorem dX0_empty_30 : decode cX0_empty 30 = .ok (.aload_n 0, 1) := by decide +kernel
theorem dX0_empty_31 : decode cX0_empty 31 = .ok (.getfield 14, 3) := by decide +kernel
theorem dX0_empty_34 : decode cX0_empty 34 = .ok (.iconst 3, 1) := by decide +kernel
theorem dX0_empty_35 : decode cX0_empty 35 = .ok (.iconst 2, 1) := by decide +kernel
theorem dX0_empty_36 : decode cX0_empty 36 = .ok (.invokevirtual 42, 3) := by decide +kernel
theorem dX0_empty_39 : decode cX0_empty 39 = .ok (.aload_n 0, 1) := by decide +kernel
theorem dX0_empty_40 : decode cX0_empty 40 = .ok (.getfield 14, 3) := by decide +kernel
theorem dX0_empty_43 : decode cX0_empty 43 = .ok (.iconst 4, 1) := by decide +kernel
theorem dX0_empty_44 : decode cX0_empty 44 = .ok (.iconst 3, 1) := by decide +kernel
theorem dX0_empty_45 : decode cX0_empty 45 = .ok (.invokevirtual 42, 3) := by decide +kernel
theorem dX0_empty_48 : decode cX0_empty 48 = .ok (.aload_n 0, 1) := by decide +kernel
theorem dX0_empty_49 : decode cX0_empty 49 = .ok (.getfield 14, 3) := by decide +kernel
theorem dX0_empty_52 : decode cX0_empty 52 = .ok (.iconst 5, 1) := by decide +kernel
theorem dX0_empty_53 : decode cX0_empty 53 = .ok (.iconst 1, 1) := by decide +kernel
theorem dX0_empty_54 : decode cX0_empty 54 = .ok (.invokevirtual 42, 3) := by decide +kernel
theorem dX0_empty_57 : decode cX0_empty 57 = .ok (.aload_n 0, 1) := by decide +kernel
theorem dX0_empty_58 : decode cX0_empty 58 = .ok (.getfield 14, 3) := by decide +kernel
theorem dX0_empty_61 : decode cX0_empty 61 = .ok (.bipush 6, 2) := by decide +kernel
theorem dX0_empty_63 : decode cX0_empty 63 = .ok (.iconst 2, 1) := by decide +kernel
theorem dX0_empty_64 : decode cX0_empty 64 = .ok (.invokevirtual 42, 3) := by decide +kernel
theorem dX0_empty_67 : decode cX0_empty 67 = .ok (.aload_n 0, 1) := by decide +kernel
theorem dX0_empty_68 : decode cX0_empty 68 = .ok (.getfield 14, 3) := by decide +kernel
theorem dX0_empty_71 : decode cX0_empty 71 = .ok (.bipush 7, 2) := by decide +kernel
theorem dX0_empty_73 : decode cX0_empty 73 = .ok (.iconst 3, 1) := by decide +kernel
theorem dX0_empty_74 : decode cX0_empty 74 = .ok (.invokevirtual 42, 3) := by decide +kernel
theorem dX0_empty_77 : decode cX0_empty 77 = .ok (.aload_n 0, 1) := by decide +kernel
theorem dX0_empty_78 : decode cX0_empty 78 = .ok (.iconst 0, 1) := by decide +kernel
theorem dX0_empty_79 : decode cX0_empty 79 = .ok (.putfield 46, 3) := by decide +kernel
theorem dX0_empty_82 : decode cX0_empty 82 = .ok (.aload_n 0, 1) := by decide +kernel
theorem dX0_empty_83 : decode cX0_empty 83 = .ok (.iconst 0, 1) := by decide +kernel
theorem dX0_empty_84 : decode cX0_empty 84 = .ok (.putfield 50, 3) := by decide +kernel
theorem dX0_empty_87 : decode cX0_empty 87 = .ok (.aload_n 0, 1) := by decide +kernel
theorem dX0_empty_88 : decode cX0_empty 88 = .ok (.iconst 0, 1) := by decide +kernel
theorem dX0_empty_89 : decode cX0_empty 89 = .ok (.putfield 54, 3) := by decide +kernel
theorem dX0_empty_92 : decode cX0_empty 92 = .ok (.return_, 1) := by decide +kernel
theorem dX0_take_0 : decode cX0_take 0 = .ok (.aload_n 0, 1) := by decide +kernel
theorem dX0_take_1 : decode cX0_take 1 = .ok (.getfield 14, 3) := by decide +kernel
theorem dX0_take_4 : decode cX0_take 4 = .ok (.aload_n 1, 1) := by decide +kernel
theorem dX0_take_5 : decode cX0_take 5 = .ok (.getfield 14, 3) := by decide +kernel
theorem dX0_take_8 : decode cX0_take 8 = .ok (.invokevirtual 57, 3) := by decide +kernel
theorem dX0_take_11 : decode cX0_take 11 = .ok (.aload_n 0, 1) := by decide +kernel
theorem dX0_take_12 : decode cX0_take 12 = .ok (.aload_n 1, 1) := by decide +kernel
theorem dX0_take_13 : decode cX0_take 13 = .ok (.getfield 46, 3) := by decide +kernel
theorem dX0_take_16 : decode cX0_take 16 = .ok (.putfield 46, 3) := by decide +kernel
theorem dX0_take_19 : decode cX0_take 19 = .ok (.aload_n 0, 1) := by decide +kernel
theorem dX0_take_20 : decode cX0_take 20 = .ok (.aload_n 1, 1) := by decide +kernel
theorem dX0_take_21 : decode cX0_take 21 = .ok (.getfield 50, 3) := by decide +kernel
theorem dX0_take_24 : decode cX0_take 24 = .ok (.putfield 50, 3) := by decide +kernel
theorem dX0_take_27 : decode cX0_take 27 = .ok (.aload_n 0, 1) := by decide +kernel
theorem dX0_take_28 : decode cX0_take 28 = .ok (.aload_n 1, 1) := by decide +kernel
theorem dX0_take_29 : decode cX0_take 29 = .ok (.getfield 54, 3) := by decide +kernel
theorem dX0_take_32 : decode cX0_take 32 = .ok (.putfield 54, 3) := by decide +kernel
theorem dX0_take_35 : decode cX0_take 35 = .ok (.aload_n 0, 1) := by decide +kernel
theorem dX0_take_36 : decode cX0_take 36 = .ok (.getfield 20, 3) := by decide +kernel
theorem dX0_take_39 : decode cX0_take 39 = .ok (.aload_n 1, 1) := by decide +kernel
theorem dX0_take_40 : decode cX0_take 40 = .ok (.getfield 20, 3) := by decide +kernel
theorem dX0_take_43 : decode cX0_take 43 = .ok (.invokevirtual 57, 3) := by decide +kernel
theorem dX0_take_46 : decode cX0_take 46 = .ok (.aload_n 0, 1) := by decide +kernel
theorem dX0_take_47 : decode cX0_take 47 = .ok (.getfield 23, 3) := by decide +kernel
theorem dX0_take_50 : decode cX0_take 50 = .ok (.aload_n 1, 1) := by decide +kernel
theorem dX0_take_51 : decode cX0_take 51 = .ok (.getfield 23, 3) := by decide +kernel
theorem dX0_take_54 : decode cX0_take 54 = .ok (.invokevirtual 57, 3) := by decide +kernel
theorem dX0_take_57 : decode cX0_take 57 = .ok (.aload_n 0, 1) := by decide +kernel
theorem dX0_take_58 : decode cX0_take 58 = .ok (.getfield 26, 3) := by decide +kernel
theorem dX0_take_61 : decode cX0_take 61 = .ok (.aload_n 1, 1) := by decide +kernel
theorem dX0_take_62 : decode cX0_take 62 = .ok (.getfield 26, 3) := by decide +kernel
theorem dX0_take_65 : decode cX0_take 65 = .ok (.invokevirtual 57, 3) := by decide +kernel
theorem dX0_take_68 : decode cX0_take 68 = .ok (.aload_n 0, 1) := by decide +kernel
theorem dX0_take_69 : decode cX0_take 69 = .ok (.getfield 32, 3) := by decide +kernel
theorem dX0_take_72 : decode cX0_take 72 = .ok (.aload_n 1, 1) := by decide +kernel
theorem dX0_take_73 : decode cX0_take 73 = .ok (.getfield 32, 3) := by decide +kernel
theorem dX0_take_76 : decode cX0_take 76 = .ok (.invokevirtual 61, 3) := by decide +kernel
theorem dX0_take_79 : decode cX0_take 79 = .ok (.aload_n 0, 1) := by decide +kernel
theorem dX0_take_80 : decode cX0_take 80 = .ok (.getfield 36, 3) := by decide +kernel
theorem dX0_take_83 : decode cX0_take 83 = .ok (.aload_n 1, 1) := by decide +kernel
theorem dX0_take_84 : decode cX0_take 84 = .ok (.getfield 36, 3) := by decide +kernel
theorem dX0_take_87 : decode cX0_take 87 = .ok (.invokevirtual 57, 3) := by decide +kernel
theorem dX0_take_90 : decode cX0_take 90 = .ok (.return_, 1) := by decide +kernel
theorem dX0_partOf_0 : decode cX0_partOf 0 = .ok (.iload_n 1, 1) := by decide +kernel
theorem dX0_partOf_1 : decode cX0_partOf 1 = .ok (.aload_n 0, 1) := by decide +kernel
theorem dX0_partOf_2 : decode cX0_partOf 2 = .ok (.getfield 54, 3) := by decide +kernel
theorem dX0_partOf_5 : decode cX0_partOf 5 = .ok (.if_icmp .ge 7, 3) := by decide +kernel
theorem dX0_partOf_8 : decode cX0_partOf 8 = .ok (.iconst 0, 1) := by decide +kernel
theorem dX0_partOf_9 : decode cX0_partOf 9 = .ok (.goto 4, 3) := by decide +kernel
theorem dX0_partOf_12 : decode cX0_partOf 12 = .ok (.iconst 1, 1) := by decide +kernel
theorem dX0_partOf_13 : decode cX0_partOf 13 = .ok (.ireturn, 1) := by decide +kernel
theorem dX0_partBegin_0 : decode cX0_partBegin 0 = .ok (.iload_n 1, 1) := by decide +kernel
theorem dX0_partBegin_1 : decode cX0_partBegin 1 = .ok (.ifCond .ne 7, 3) := by decide +kernel
theorem dX0_partBegin_4 : decode cX0_partBegin 4 = .ok (.iconst 0, 1) := by decide +kernel
theorem dX0_partBegin_5 : decode cX0_partBegin 5 = .ok (.goto 7, 3) := by decide +kernel
theorem dX0_partBegin_8 : decode cX0_partBegin 8 = .ok (.aload_n 0, 1) := by decide +kernel
theorem dX0_partBegin_9 : decode cX0_partBegin 9 = .ok (.getfield 54, 3) := by decide +kernel
theorem dX0_partBegin_12 : decode cX0_partBegin 12 = .ok (.ireturn, 1) := by decide +kernel
theorem dX0_partEnd_0 : decode cX0_partEnd 0 = .ok (.iload_n 1, 1) := by decide +kernel
theorem dX0_partEnd_1 : decode cX0_partEnd 1 = .ok (.ifCond .ne 10, 3) := by decide +kernel
theorem dX0_partEnd_4 : decode cX0_partEnd 4 = .ok (.aload_n 0, 1) := by decide +kernel
theorem dX0_partEnd_5 : decode cX0_partEnd 5 = .ok (.getfield 54, 3) := by decide +kernel
theorem dX0_partEnd_8 : decode cX0_partEnd 8 = .ok (.goto 7, 3) := by decide +kernel
theorem dX0_partEnd_11 : decode cX0_partEnd 11 = .ok (.aload_n 0, 1) := by decide +kernel
theorem dX0_partEnd_12 : decode cX0_partEnd 12 = .ok (.getfield 50, 3) := by decide +kernel
theorem dX0_partEnd_15 : decode cX0_partEnd 15 = .ok (.ireturn, 1) := by decide +kernel
theorem dX0_partForNew_0 : decode cX0_partForNew 0 = .ok (.iload_n 1, 1) := by decide +kernel
theorem dX0_partForNew_1 : decode cX0_partForNew 1 = .ok (.aload_n 0, 1) := by decide +kernel
theorem dX0_partForNew_2 : decode cX0_partForNew 2 = .ok (.getfield 54, 3) := by decide +kernel
theorem dX0_partForNew_5 : decode cX0_partForNew 5 = .ok (.if_icmp .lt 14, 3) := by decide +kernel
theorem dX0_partForNew_8 : decode cX0_partForNew 8 = .ok (.aload_n 0, 1) := by decide +kernel
theorem dX0_partForNew_9 : decode cX0_partForNew 9 = .ok (.getfield 54, 3) := by decide +kernel
theorem dX0_partForNew_12 : decode cX0_partForNew 12 = .ok (.aload_n 0, 1) := by decide +kernel
theorem dX0_partForNew_13 : decode cX0_partForNew 13 = .ok (.getfield 50, 3) := by decide +kernel
theorem dX0_partForNew_16 : decode cX0_partForNew 16 = .ok (.if_icmp .ne 7, 3) := by decide +kernel
theorem dX0_partForNew_19 : decode cX0_partForNew 19 = .ok (.iconst 0, 1) := by decide +kernel
theorem dX0_partForNew_20 : decode cX0_partForNew 20 = .ok (.goto 4, 3) := by decide +kernel
theorem dX0_partForNew_23 : decode cX0_partForNew 23 = .ok (.iconst 1, 1) := by decide +kernel
theorem dX0_partForNew_24 : decode cX0_partForNew 24 = .ok (.ireturn, 1) := by decide +kernel
theorem dX0_greatestLevel_0 : decode cX0_greatestLevel 0 = .ok (.iload_n 2, 1) := by decide +kernel
theorem dX0_greatestLevel_1 : decode cX0_greatestLevel 1 = .ok (.aload_n 0, 1) := by decide +kernel
theorem dX0_greatestLevel_2 : decode cX0_greatestLevel 2 = .ok (.iload_n 1, 1) := by decide +kernel
theorem dX0_greatestLevel_3 : decode cX0_greatestLevel 3 = .ok (.invokevirtual 64, 3) := by decide +kernel
theorem dX0_greatestLevel_6 : decode cX0_greatestLevel 6 = .ok (.if_icmp .ne 7, 3) := by decide +kernel
theorem dX0_greatestLevel_9 : decode cX0_greatestLevel 9 = .ok (.iconst 1, 1) := by decide +kernel
theorem dX0_greatestLevel_10 : decode cX0_greatestLevel 10 = .ok (.goto 19, 3) := by decide +kernel
theorem dX0_greatestLevel_13 : decode cX0_greatestLevel 13 = .ok (.aload_n 0, 1) := by decide +kernel
theorem dX0_greatestLevel_14 : decode cX0_greatestLevel 14 = .ok (.getfield 20, 3) := by decide +kernel
theorem dX0_greatestLevel_17 : decode cX0_greatestLevel 17 = .ok (.iload_n 2, 1) := by decide +kernel
theorem dX0_greatestLevel_18 : decode cX0_greatestLevel 18 = .ok (.iconst 1, 1) := by decide +kernel
theorem dX0_greatestLevel_19 : decode cX0_greatestLevel 19 = .ok (.isub, 1) := by decide +kernel
theorem dX0_greatestLevel_20 : decode cX0_greatestLevel 20 = .ok (.invokevirtual 68, 3) := by decide +kernel
theorem dX0_greatestLevel_23 : decode cX0_greatestLevel 23 = .ok (.iconst 1, 1) := by decide +kernel
theorem dX0_greatestLevel_24 : decode cX0_greatestLevel 24 = .ok (.iadd, 1) := by decide +kernel
theorem dX0_greatestLevel_25 : decode cX0_greatestLevel 25 = .ok (.iconst 4, 1) := by decide +kernel
theorem dX0_greatestLevel_26 : decode cX0_greatestLevel 26 = .ok (.invokestatic 71, 3) := by decide +kernel
theorem dX0_greatestLevel_29 : decode cX0_greatestLevel 29 = .ok (.ireturn, 1) := by decide +kernel
theorem dX0_levelStands_0 : decode cX0_levelStands 0 = .ok (.iload_n 3, 1) := by decide +kernel
theorem dX0_levelStands_1 : decode cX0_levelStands 1 = .ok (.aload_n 0, 1) := by decide +kernel
theorem dX0_levelStands_2 : decode cX0_levelStands 2 = .ok (.iload_n 1, 1) := by decide +kernel
theorem dX0_levelStands_3 : decode cX0_levelStands 3 = .ok (.invokevirtual 77, 3) := by decide +kernel
theorem dX0_levelStands_6 : decode cX0_levelStands 6 = .ok (.if_icmp .ge 18, 3) := by decide +kernel
theorem dX0_levelStands_9 : decode cX0_levelStands 9 = .ok (.aload_n 0, 1) := by decide +kernel
theorem dX0_levelStands_10 : decode cX0_levelStands 10 = .ok (.getfield 20, 3) := by decide +kernel
theorem dX0_levelStands_13 : decode cX0_levelStands 13 = .ok (.iload_n 3, 1) := by decide +kernel
theorem dX0_levelStands_14 : decode cX0_levelStands 14 = .ok (.invokevirtual 68, 3) := by decide +kernel
theorem dX0_levelStands_17 : decode cX0_levelStands 17 = .ok (.iload 4, 2) := by decide +kernel
theorem dX0_levelStands_19 : decode cX0_levelStands 19 = .ok (.iconst 1, 1) := by decide +kernel
theorem dX0_levelStands_20 : decode cX0_levelStands 20 = .ok (.iadd, 1) := by decide +kernel
theorem dX0_levelStands_21 : decode cX0_levelStands 21 = .ok (.if_icmp .gt 7, 3) := by decide +kernel
theorem dX0_levelStands_24 : decode cX0_levelStands 24 = .ok (.iconst 1, 1) := by decide +kernel
theorem dX0_levelStands_25 : decode cX0_levelStands 25 = .ok (.goto 4, 3) := by decide +kernel
theorem dX0_levelStands_28 : decode cX0_levelStands 28 = .ok (.iconst 0, 1) := by decide +kernel
theorem dX0_levelStands_29 : decode cX0_levelStands 29 = .ok (.istore 5, 2) := by decide +kernel
theorem dX0_levelStands_31 : decode cX0_levelStands 31 = .ok (.iload 5, 2) := by decide +kernel
theorem dX0_levelStands_33 : decode cX0_levelStands 33 = .ok (.ifCond .eq 18, 3) := by decide +kernel
theorem dX0_levelStands_36 : decode cX0_levelStands 36 = .ok (.iload 4, 2) := by decide +kernel
theorem dX0_levelStands_38 : decode cX0_levelStands 38 = .ok (.aload_n 0, 1) := by decide +kernel
theorem dX0_levelStands_39 : decode cX0_levelStands 39 = .ok (.iload_n 1, 1) := by decide +kernel
theorem dX0_levelStands_40 : decode cX0_levelStands 40 = .ok (.iload_n 2, 1) := by decide +kernel
theorem dX0_levelStands_41 : decode cX0_levelStands 41 = .ok (.invokevirtual 80, 3) := by decide +kernel
theorem dX0_levelStands_44 : decode cX0_levelStands 44 = .ok (.if_icmp .gt 7, 3) := by decide +kernel
theorem dX0_levelStands_47 : decode cX0_levelStands 47 = .ok (.iconst 1, 1) := by decide +kernel
theorem dX0_levelStands_48 : decode cX0_levelStands 48 = .ok (.goto 4, 3) := by decide +kernel
theorem dX0_levelStands_51 : decode cX0_levelStands 51 = .ok (.iconst 0, 1) := by decide +kernel
theorem dX0_levelStands_52 : decode cX0_levelStands 52 = .ok (.ireturn, 1) := by decide +kernel
theorem dX0_entitle_0 : decode cX0_entitle 0 = .ok (.aload_n 0, 1) := by decide +kernel
theorem dX0_entitle_1 : decode cX0_entitle 1 = .ok (.getfield 26, 3) := by decide +kernel
theorem dX0_entitle_4 : decode cX0_entitle 4 = .ok (.iload_n 1, 1) := by decide +kernel
theorem dX0_entitle_5 : decode cX0_entitle 5 = .ok (.iload_n 3, 1) := by decide +kernel
theorem dX0_entitle_6 : decode cX0_entitle 6 = .ok (.invokevirtual 42, 3) := by decide +kernel
theorem dX0_entitle_9 : decode cX0_entitle 9 = .ok (.iconst 0, 1) := by decide +kernel
theorem dX0_entitle_10 : decode cX0_entitle 10 = .ok (.istore 4, 2) := by decide +kernel
theorem dX0_entitle_12 : decode cX0_entitle 12 = .ok (.iload 4, 2) := by decide +kernel
theorem dX0_entitle_14 : decode cX0_entitle 14 = .ok (.iload_n 3, 1) := by decide +kernel
theorem dX0_entitle_15 : decode cX0_entitle 15 = .ok (.if_icmp .ge 29, 3) := by decide +kernel
theorem dX0_entitle_18 : decode cX0_entitle 18 = .ok (.aload_n 0, 1) := by decide +kernel
theorem dX0_entitle_19 : decode cX0_entitle 19 = .ok (.getfield 32, 3) := by decide +kernel
theorem dX0_entitle_22 : decode cX0_entitle 22 = .ok (.iload_n 1, 1) := by decide +kernel
theorem dX0_entitle_23 : decode cX0_entitle 23 = .ok (.bipush 8, 2) := by decide +kernel
theorem dX0_entitle_25 : decode cX0_entitle 25 = .ok (.imul, 1) := by decide +kernel
theorem dX0_entitle_26 : decode cX0_entitle 26 = .ok (.iload 4, 2) := by decide +kernel
theorem dX0_entitle_28 : decode cX0_entitle 28 = .ok (.iadd, 1) := by decide +kernel
theorem dX0_entitle_29 : decode cX0_entitle 29 = .ok (.aload_n 2, 1) := by decide +kernel
theorem dX0_entitle_30 : decode cX0_entitle 30 = .ok (.iload 4, 2) := by decide +kernel
theorem dX0_entitle_32 : decode cX0_entitle 32 = .ok (.invokevirtual 83, 3) := by decide +kernel
theorem dX0_entitle_35 : decode cX0_entitle 35 = .ok (.invokevirtual 86, 3) := by decide +kernel
theorem dX0_entitle_38 : decode cX0_entitle 38 = .ok (.iinc 4 1, 3) := by decide +kernel
theorem dX0_entitle_41 : decode cX0_entitle 41 = .ok (.goto (-29), 3) := by decide +kernel
theorem dX0_entitle_44 : decode cX0_entitle 44 = .ok (.return_, 1) := by decide +kernel
theorem dX0_open_0 : decode cX0_open 0 = .ok (.aload_n 0, 1) := by decide +kernel
theorem dX0_open_1 : decode cX0_open 1 = .ok (.iload_n 1, 1) := by decide +kernel
theorem dX0_open_2 : decode cX0_open 2 = .ok (.iload_n 1, 1) := by decide +kernel
theorem dX0_open_3 : decode cX0_open 3 = .ok (.iconst 1, 1) := by decide +kernel
theorem dX0_open_4 : decode cX0_open 4 = .ok (.iadd, 1) := by decide +kernel
theorem dX0_open_5 : decode cX0_open 5 = .ok (.aload_n 0, 1) := by decide +kernel
theorem dX0_open_6 : decode cX0_open 6 = .ok (.getfield 50, 3) := by decide +kernel
theorem dX0_open_9 : decode cX0_open 9 = .ok (.iload_n 1, 1) := by decide +kernel
theorem dX0_open_10 : decode cX0_open 10 = .ok (.isub, 1) := by decide +kernel
theorem dX0_open_11 : decode cX0_open 11 = .ok (.invokevirtual 89, 3) := by decide +kernel
theorem dX0_open_14 : decode cX0_open 14 = .ok (.aload_n 0, 1) := by decide +kernel
theorem dX0_open_15 : decode cX0_open 15 = .ok (.getfield 36, 3) := by decide +kernel
theorem dX0_open_18 : decode cX0_open 18 = .ok (.iload_n 1, 1) := by decide +kernel
theorem dX0_open_19 : decode cX0_open 19 = .ok (.iconst (-1), 1) := by decide +kernel
theorem dX0_open_20 : decode cX0_open 20 = .ok (.invokevirtual 42, 3) := by decide +kernel
theorem dX0_open_23 : decode cX0_open 23 = .ok (.aload_n 0, 1) := by decide +kernel
theorem dX0_open_24 : decode cX0_open 24 = .ok (.dup, 1) := by decide +kernel
theorem dX0_open_25 : decode cX0_open 25 = .ok (.getfield 50, 3) := by decide +kernel
theorem dX0_open_28 : decode cX0_open 28 = .ok (.iconst 1, 1) := by decide +kernel
theorem dX0_open_29 : decode cX0_open 29 = .ok (.iadd, 1) := by decide +kernel
theorem dX0_open_30 : decode cX0_open 30 = .ok (.putfield 50, 3) := by decide +kernel
theorem dX0_open_33 : decode cX0_open 33 = .ok (.iload_n 2, 1) := by decide +kernel
theorem dX0_open_34 : decode cX0_open 34 = .ok (.ifCond .ne 13, 3) := by decide +kernel
theorem dX0_open_37 : decode cX0_open 37 = .ok (.aload_n 0, 1) := by decide +kernel
theorem dX0_open_38 : decode cX0_open 38 = .ok (.dup, 1) := by decide +kernel
theorem dX0_open_39 : decode cX0_open 39 = .ok (.getfield 54, 3) := by decide +kernel
theorem dX0_open_42 : decode cX0_open 42 = .ok (.iconst 1, 1) := by decide +kernel
theorem dX0_open_43 : decode cX0_open 43 = .ok (.iadd, 1) := by decide +kernel
theorem dX0_open_44 : decode cX0_open 44 = .ok (.putfield 54, 3) := by decide +kernel
theorem dX0_open_47 : decode cX0_open 47 = .ok (.return_, 1) := by decide +kernel
theorem dX0_cutBranch_0 : decode cX0_cutBranch 0 = .ok (.aload_n 0, 1) := by decide +kernel
theorem dX0_cutBranch_1 : decode cX0_cutBranch 1 = .ok (.iload_n 1, 1) := by decide +kernel
theorem dX0_cutBranch_2 : decode cX0_cutBranch 2 = .ok (.invokevirtual 93, 3) := by decide +kernel
theorem dX0_cutBranch_5 : decode cX0_cutBranch 5 = .ok (.istore_n 2, 1) := by decide +kernel
theorem dX0_cutBranch_6 : decode cX0_cutBranch 6 = .ok (.iload_n 1, 1) := by decide +kernel
theorem dX0_cutBranch_7 : decode cX0_cutBranch 7 = .ok (.iconst 1, 1) := by decide +kernel
theorem dX0_cutBranch_8 : decode cX0_cutBranch 8 = .ok (.iadd, 1) := by decide +kernel
theorem dX0_cutBranch_9 : decode cX0_cutBranch 9 = .ok (.istore_n 3, 1) := by decide +kernel
theorem dX0_cutBranch_10 : decode cX0_cutBranch 10 = .ok (.iload_n 3, 1) := by decide +kernel
theorem dX0_cutBranch_11 : decode cX0_cutBranch 11 = .ok (.aload_n 0, 1) := by decide +kernel
theorem dX0_cutBranch_12 : decode cX0_cutBranch 12 = .ok (.iload_n 2, 1) := by decide +kernel
theorem dX0_cutBranch_13 : decode cX0_cutBranch 13 = .ok (.invokevirtual 77, 3) := by decide +kernel
theorem dX0_cutBranch_16 : decode cX0_cutBranch 16 = .ok (.if_icmp .ge 28, 3) := by decide +kernel
theorem dX0_cutBranch_19 : decode cX0_cutBranch 19 = .ok (.aload_n 0, 1) := by decide +kernel
theorem dX0_cutBranch_20 : decode cX0_cutBranch 20 = .ok (.getfield 20, 3) := by decide +kernel
theorem dX0_cutBranch_23 : decode cX0_cutBranch 23 = .ok (.iload_n 3, 1) := by decide +kernel
theorem dX0_cutBranch_24 : decode cX0_cutBranch 24 = .ok (.invokevirtual 68, 3) := by decide +kernel
theorem dX0_cutBranch_27 : decode cX0_cutBranch 27 = .ok (.aload_n 0, 1) := by decide +kernel
theorem dX0_cutBranch_28 : decode cX0_cutBranch 28 = .ok (.getfield 20, 3) := by decide +kernel
theorem dX0_cutBranch_31 : decode cX0_cutBranch 31 = .ok (.iload_n 1, 1) := by decide +kernel
theorem dX0_cutBranch_32 : decode cX0_cutBranch 32 = .ok (.invokevirtual 68, 3) := by decide +kernel
theorem dX0_cutBranch_35 : decode cX0_cutBranch 35 = .ok (.if_icmp .le 9, 3) := by decide +kernel
theorem dX0_cutBranch_38 : decode cX0_cutBranch 38 = .ok (.iinc 3 1, 3) := by decide +kernel
theorem dX0_cutBranch_41 : decode cX0_cutBranch 41 = .ok (.goto (-31), 3) := by decide +kernel
theorem dX0_cutBranch_44 : decode cX0_cutBranch 44 = .ok (.aload_n 0, 1) := by decide +kernel
theorem dX0_cutBranch_45 : decode cX0_cutBranch 45 = .ok (.iload_n 3, 1) := by decide +kernel
theorem dX0_cutBranch_46 : decode cX0_cutBranch 46 = .ok (.iload_n 1, 1) := by decide +kernel
theorem dX0_cutBranch_47 : decode cX0_cutBranch 47 = .ok (.aload_n 0, 1) := by decide +kernel
theorem dX0_cutBranch_48 : decode cX0_cutBranch 48 = .ok (.getfield 50, 3) := by decide +kernel
theorem dX0_cutBranch_51 : decode cX0_cutBranch 51 = .ok (.iload_n 3, 1) := by decide +kernel
theorem dX0_cutBranch_52 : decode cX0_cutBranch 52 = .ok (.isub, 1) := by decide +kernel
theorem dX0_cutBranch_53 : decode cX0_cutBranch 53 = .ok (.invokevirtual 89, 3) := by decide +kernel
theorem dX0_cutBranch_56 : decode cX0_cutBranch 56 = .ok (.iload_n 3, 1) := by decide +kernel
theorem dX0_cutBranch_57 : decode cX0_cutBranch 57 = .ok (.iload_n 1, 1) := by decide +kernel
theorem dX0_cutBranch_58 : decode cX0_cutBranch 58 = .ok (.isub, 1) := by decide +kernel
theorem dX0_cutBranch_59 : decode cX0_cutBranch 59 = .ok (.istore 4, 2) := by decide +kernel
theorem dX0_cutBranch_61 : decode cX0_cutBranch 61 = .ok (.aload_n 0, 1) := by decide +kernel
theorem dX0_cutBranch_62 : decode cX0_cutBranch 62 = .ok (.dup, 1) := by decide +kernel
theorem dX0_cutBranch_63 : decode cX0_cutBranch 63 = .ok (.getfield 50, 3) := by decide +kernel
theorem dX0_cutBranch_66 : decode cX0_cutBranch 66 = .ok (.iload 4, 2) := by decide +kernel
theorem dX0_cutBranch_68 : decode cX0_cutBranch 68 = .ok (.isub, 1) := by decide +kernel
theorem dX0_cutBranch_69 : decode cX0_cutBranch 69 = .ok (.putfield 50, 3) := by decide +kernel
theorem dX0_cutBranch_72 : decode cX0_cutBranch 72 = .ok (.iload_n 2, 1) := by decide +kernel
theorem dX0_cutBranch_73 : decode cX0_cutBranch 73 = .ok (.ifCond .ne 14, 3) := by decide +kernel
theorem dX0_cutBranch_76 : decode cX0_cutBranch 76 = .ok (.aload_n 0, 1) := by decide +kernel
theorem dX0_cutBranch_77 : decode cX0_cutBranch 77 = .ok (.dup, 1) := by decide +kernel
theorem dX0_cutBranch_78 : decode cX0_cutBranch 78 = .ok (.getfield 54, 3) := by decide +kernel
theorem dX0_cutBranch_81 : decode cX0_cutBranch 81 = .ok (.iload 4, 2) := by decide +kernel
theorem dX0_cutBranch_83 : decode cX0_cutBranch 83 = .ok (.isub, 1) := by decide +kernel
theorem dX0_cutBranch_84 : decode cX0_cutBranch 84 = .ok (.putfield 54, 3) := by decide +kernel
theorem dX0_cutBranch_87 : decode cX0_cutBranch 87 = .ok (.iload 4, 2) := by decide +kernel
theorem dX0_cutBranch_89 : decode cX0_cutBranch 89 = .ok (.ireturn, 1) := by decide +kernel
theorem dX0_moveSections_0 : decode cX0_moveSections 0 = .ok (.aload_n 0, 1) := by decide +kernel
theorem dX0_moveSections_1 : decode cX0_moveSections 1 = .ok (.getfield 20, 3) := by decide +kernel
theorem dX0_moveSections_4 : decode cX0_moveSections 4 = .ok (.iload_n 1, 1) := by decide +kernel
theorem dX0_moveSections_5 : decode cX0_moveSections 5 = .ok (.iload_n 2, 1) := by decide +kernel
theorem dX0_moveSections_6 : decode cX0_moveSections 6 = .ok (.iload_n 3, 1) := by decide +kernel
theorem dX0_moveSections_7 : decode cX0_moveSections 7 = .ok (.invokevirtual 96, 3) := by decide +kernel
theorem dX0_moveSections_10 : decode cX0_moveSections 10 = .ok (.aload_n 0, 1) := by decide +kernel
theorem dX0_moveSections_11 : decode cX0_moveSections 11 = .ok (.getfield 23, 3) := by decide +kernel
theorem dX0_moveSections_14 : decode cX0_moveSections 14 = .ok (.iload_n 1, 1) := by decide +kernel
theorem dX0_moveSections_15 : decode cX0_moveSections 15 = .ok (.iload_n 2, 1) := by decide +kernel
theorem dX0_moveSections_16 : decode cX0_moveSections 16 = .ok (.iload_n 3, 1) := by decide +kernel
theorem dX0_moveSections_17 : decode cX0_moveSections 17 = .ok (.invokevirtual 96, 3) := by decide +kernel
theorem dX0_moveSections_20 : decode cX0_moveSections 20 = .ok (.aload_n 0, 1) := by decide +kernel
theorem dX0_moveSections_21 : decode cX0_moveSections 21 = .ok (.getfield 26, 3) := by decide +kernel
theorem dX0_moveSections_24 : decode cX0_moveSections 24 = .ok (.iload_n 1, 1) := by decide +kernel
theorem dX0_moveSections_25 : decode cX0_moveSections 25 = .ok (.iload_n 2, 1) := by decide +kernel
theorem dX0_moveSections_26 : decode cX0_moveSections 26 = .ok (.iload_n 3, 1) := by decide +kernel
theorem dX0_moveSections_27 : decode cX0_moveSections 27 = .ok (.invokevirtual 96, 3) := by decide +kernel
theorem dX0_moveSections_30 : decode cX0_moveSections 30 = .ok (.aload_n 0, 1) := by decide +kernel
theorem dX0_moveSections_31 : decode cX0_moveSections 31 = .ok (.getfield 36, 3) := by decide +kernel
theorem dX0_moveSections_34 : decode cX0_moveSections 34 = .ok (.iload_n 1, 1) := by decide +kernel
theorem dX0_moveSections_35 : decode cX0_moveSections 35 = .ok (.iload_n 2, 1) := by decide +kernel
theorem dX0_moveSections_36 : decode cX0_moveSections 36 = .ok (.iload_n 3, 1) := by decide +kernel
theorem dX0_moveSections_37 : decode cX0_moveSections 37 = .ok (.invokevirtual 96, 3) := by decide +kernel
theorem dX0_moveSections_40 : decode cX0_moveSections 40 = .ok (.aload_n 0, 1) := by decide +kernel
theorem dX0_moveSections_41 : decode cX0_moveSections 41 = .ok (.getfield 32, 3) := by decide +kernel
theorem dX0_moveSections_44 : decode cX0_moveSections 44 = .ok (.iload_n 1, 1) := by decide +kernel
theorem dX0_moveSections_45 : decode cX0_moveSections 45 = .ok (.bipush 8, 2) := by decide +kernel
theorem dX0_moveSections_47 : decode cX0_moveSections 47 = .ok (.imul, 1) := by decide +kernel
theorem dX0_moveSections_48 : decode cX0_moveSections 48 = .ok (.iload_n 2, 1) := by decide +kernel
theorem dX0_moveSections_49 : decode cX0_moveSections 49 = .ok (.bipush 8, 2) := by decide +kernel
theorem dX0_moveSections_51 : decode cX0_moveSections 51 = .ok (.imul, 1) := by decide +kernel
theorem dX0_moveSections_52 : decode cX0_moveSections 52 = .ok (.iload_n 3, 1) := by decide +kernel
theorem dX0_moveSections_53 : decode cX0_moveSections 53 = .ok (.bipush 8, 2) := by decide +kernel
theorem dX0_moveSections_55 : decode cX0_moveSections 55 = .ok (.imul, 1) := by decide +kernel
theorem dX0_moveSections_56 : decode cX0_moveSections 56 = .ok (.invokevirtual 99, 3) := by decide +kernel
theorem dX0_moveSections_59 : decode cX0_moveSections 59 = .ok (.return_, 1) := by decide +kernel
theorem dX1_init_0 : decode cX1_init 0 = .ok (.aload_n 0, 1) := by decide +kernel
theorem dX1_init_1 : decode cX1_init 1 = .ok (.invokespecial 3, 3) := by decide +kernel
theorem dX1_init_4 : decode cX1_init 4 = .ok (.aload_n 0, 1) := by decide +kernel
theorem dX1_init_5 : decode cX1_init 5 = .ok (.new 9, 3) := by decide +kernel
theorem dX1_init_8 : decode cX1_init 8 = .ok (.dup, 1) := by decide +kernel
theorem dX1_init_9 : decode cX1_init 9 = .ok (.invokespecial 11, 3) := by decide +kernel
theorem dX1_init_12 : decode cX1_init 12 = .ok (.putfield 12, 3) := by decide +kernel
theorem dX1_init_15 : decode cX1_init 15 = .ok (.aload_n 0, 1) := by decide +kernel
theorem dX1_init_16 : decode cX1_init 16 = .ok (.new 18, 3) := by decide +kernel
theorem dX1_init_19 : decode cX1_init 19 = .ok (.dup, 1) := by decide +kernel
theorem dX1_init_20 : decode cX1_init 20 = .ok (.invokespecial 20, 3) := by decide +kernel
theorem dX1_init_23 : decode cX1_init 23 = .ok (.putfield 21, 3) := by decide +kernel
theorem dX1_init_26 : decode cX1_init 26 = .ok (.aload_n 0, 1) := by decide +kernel
theorem dX1_init_27 : decode cX1_init 27 = .ok (.new 25, 3) := by decide +kernel
theorem dX1_init_30 : decode cX1_init 30 = .ok (.dup, 1) := by decide +kernel
theorem dX1_init_31 : decode cX1_init 31 = .ok (.invokespecial 27, 3) := by decide +kernel
theorem dX1_init_34 : decode cX1_init 34 = .ok (.putfield 28, 3) := by decide +kernel
theorem dX1_init_37 : decode cX1_init 37 = .ok (.return_, 1) := by decide +kernel
theorem dX1_layAnew_0 : decode cX1_layAnew 0 = .ok (.aload_n 0, 1) := by decide +kernel
theorem dX1_layAnew_1 : decode cX1_layAnew 1 = .ok (.getfield 12, 3) := by decide +kernel
theorem dX1_layAnew_4 : decode cX1_layAnew 4 = .ok (.aload_n 1, 1) := by decide +kernel
theorem dX1_layAnew_5 : decode cX1_layAnew 5 = .ok (.invokevirtual 32, 3) := by decide +kernel
theorem dX1_layAnew_8 : decode cX1_layAnew 8 = .ok (.aload_n 0, 1) := by decide +kernel
theorem dX1_layAnew_9 : decode cX1_layAnew 9 = .ok (.aload_n 1, 1) := by decide +kernel
theorem dX1_layAnew_10 : decode cX1_layAnew 10 = .ok (.invokevirtual 36, 3) := by decide +kernel
theorem dX1_layAnew_13 : decode cX1_layAnew 13 = .ok (.return_, 1) := by decide +kernel
theorem dX1_lay_0 : decode cX1_lay 0 = .ok (.aload_n 0, 1) := by decide +kernel
theorem dX1_lay_1 : decode cX1_lay 1 = .ok (.iconst 0, 1) := by decide +kernel
theorem dX1_lay_2 : decode cX1_lay 2 = .ok (.putfield 39, 3) := by decide +kernel
theorem dX1_lay_5 : decode cX1_lay 5 = .ok (.aload_n 0, 1) := by decide +kernel
theorem dX1_lay_6 : decode cX1_lay 6 = .ok (.aload_n 1, 1) := by decide +kernel
theorem dX1_lay_7 : decode cX1_lay 7 = .ok (.getfield 43, 3) := by decide +kernel
theorem dX1_lay_10 : decode cX1_lay 10 = .ok (.iconst 1, 1) := by decide +kernel
theorem dX1_lay_11 : decode cX1_lay 11 = .ok (.invokestatic 48, 3) := by decide +kernel
theorem dX1_lay_14 : decode cX1_lay 14 = .ok (.putfield 54, 3) := by decide +kernel
theorem dX1_lay_17 : decode cX1_lay 17 = .ok (.iconst 0, 1) := by decide +kernel
theorem dX1_lay_18 : decode cX1_lay 18 = .ok (.istore_n 2, 1) := by decide +kernel
theorem dX1_lay_19 : decode cX1_lay 19 = .ok (.iconst 0, 1) := by decide +kernel
theorem dX1_lay_20 : decode cX1_lay 20 = .ok (.istore_n 3, 1) := by decide +kernel
theorem dX1_lay_21 : decode cX1_lay 21 = .ok (.iload_n 3, 1) := by decide +kernel
theorem dX1_lay_22 : decode cX1_lay 22 = .ok (.bipush 8, 2) := by decide +kernel
theorem dX1_lay_24 : decode cX1_lay 24 = .ok (.if_icmp .ge 97, 3) := by decide +kernel
theorem dX1_lay_27 : decode cX1_lay 27 = .ok (.aload_n 0, 1) := by decide +kernel
theorem dX1_lay_28 : decode cX1_lay 28 = .ok (.getfield 21, 3) := by decide +kernel
theorem dX1_lay_31 : decode cX1_lay 31 = .ok (.aload_n 1, 1) := by decide +kernel
theorem dX1_lay_32 : decode cX1_lay 32 = .ok (.aload_n 0, 1) := by decide +kernel
theorem dX1_lay_33 : decode cX1_lay 33 = .ok (.getfield 54, 3) := by decide +kernel
theorem dX1_lay_36 : decode cX1_lay 36 = .ok (.invokevirtual 57, 3) := by decide +kernel
theorem dX1_lay_39 : decode cX1_lay 39 = .ok (.aload_n 0, 1) := by decide +kernel
theorem dX1_lay_40 : decode cX1_lay 40 = .ok (.getfield 28, 3) := by decide +kernel
theorem dX1_lay_43 : decode cX1_lay 43 = .ok (.aload_n 1, 1) := by decide +kernel
theorem dX1_lay_44 : decode cX1_lay 44 = .ok (.aload_n 0, 1) := by decide +kernel
theorem dX1_lay_45 : decode cX1_lay 45 = .ok (.getfield 12, 3) := by decide +kernel
theorem dX1_lay_48 : decode cX1_lay 48 = .ok (.aload_n 0, 1) := by decide +kernel
theorem dX1_lay_49 : decode cX1_lay 49 = .ok (.getfield 21, 3) := by decide +kernel
theorem dX1_lay_52 : decode cX1_lay 52 = .ok (.invokevirtual 60, 3) := by decide +kernel
theorem dX1_lay_55 : decode cX1_lay 55 = .ok (.aload_n 0, 1) := by decide +kernel
theorem dX1_lay_56 : decode cX1_lay 56 = .ok (.dup, 1) := by decide +kernel
theorem dX1_lay_57 : decode cX1_lay 57 = .ok (.getfield 39, 3) := by decide +kernel
theorem dX1_lay_60 : decode cX1_lay 60 = .ok (.aload_n 1, 1) := by decide +kernel
theorem dX1_lay_61 : decode cX1_lay 61 = .ok (.getfield 43, 3) := by decide +kernel
theorem dX1_lay_64 : decode cX1_lay 64 = .ok (.iconst 1, 1) := by decide +kernel
theorem dX1_lay_65 : decode cX1_lay 65 = .ok (.invokestatic 48, 3) := by decide +kernel
theorem dX1_lay_68 : decode cX1_lay 68 = .ok (.iadd, 1) := by decide +kernel
theorem dX1_lay_69 : decode cX1_lay 69 = .ok (.putfield 39, 3) := by decide +kernel
theorem dX1_lay_72 : decode cX1_lay 72 = .ok (.aload_n 0, 1) := by decide +kernel
theorem dX1_lay_73 : decode cX1_lay 73 = .ok (.getfield 28, 3) := by decide +kernel
theorem dX1_lay_76 : decode cX1_lay 76 = .ok (.getfield 63, 3) := by decide +kernel
theorem dX1_lay_79 : decode cX1_lay 79 = .ok (.aload_n 1, 1) := by decide +kernel
theorem dX1_lay_80 : decode cX1_lay 80 = .ok (.getfield 66, 3) := by decide +kernel
theorem dX1_lay_83 : decode cX1_lay 83 = .ok (.iconst 1, 1) := by decide +kernel
theorem dX1_lay_84 : decode cX1_lay 84 = .ok (.invokevirtual 70, 3) := by decide +kernel
theorem dX1_lay_87 : decode cX1_lay 87 = .ok (.invokestatic 76, 3) := by decide +kernel
theorem dX1_lay_90 : decode cX1_lay 90 = .ok (.istore 4, 2) := by decide +kernel
theorem dX1_lay_92 : decode cX1_lay 92 = .ok (.iload 4, 2) := by decide +kernel
theorem dX1_lay_94 : decode cX1_lay 94 = .ok (.aload_n 0, 1) := by decide +kernel
theorem dX1_lay_95 : decode cX1_lay 95 = .ok (.getfield 54, 3) := by decide +kernel
theorem dX1_lay_98 : decode cX1_lay 98 = .ok (.if_icmp .ne 4, 3) := by decide +kernel
theorem dX1_lay_101 : decode cX1_lay 101 = .ok (.return_, 1) := by decide +kernel
theorem dX1_lay_102 : decode cX1_lay 102 = .ok (.iload_n 2, 1) := by decide +kernel
theorem dX1_lay_103 : decode cX1_lay 103 = .ok (.iload 4, 2) := by decide +kernel
theorem dX1_lay_105 : decode cX1_lay 105 = .ok (.invokestatic 79, 3) := by decide +kernel
theorem dX1_lay_108 : decode cX1_lay 108 = .ok (.istore_n 2, 1) := by decide +kernel
theorem dX1_lay_109 : decode cX1_lay 109 = .ok (.aload_n 0, 1) := by decide +kernel
theorem dX1_lay_110 : decode cX1_lay 110 = .ok (.iload 4, 2) := by decide +kernel
theorem dX1_lay_112 : decode cX1_lay 112 = .ok (.putfield 54, 3) := by decide +kernel
theorem dX1_lay_115 : decode cX1_lay 115 = .ok (.iinc 3 1, 3) := by decide +kernel
theorem dX1_lay_118 : decode cX1_lay 118 = .ok (.goto (-97), 3) := by decide +kernel
theorem dX1_lay_121 : decode cX1_lay 121 = .ok (.aload_n 0, 1) := by decide +kernel
theorem dX1_lay_122 : decode cX1_lay 122 = .ok (.iload_n 2, 1) := by decide +kernel
theorem dX1_lay_123 : decode cX1_lay 123 = .ok (.putfield 54, 3) := by decide +kernel
theorem dX1_lay_126 : decode cX1_lay 126 = .ok (.aload_n 0, 1) := by decide +kernel
theorem dX1_lay_127 : decode cX1_lay 127 = .ok (.getfield 21, 3) := by decide +kernel
theorem dX1_lay_130 : decode cX1_lay 130 = .ok (.aload_n 1, 1) := by decide +kernel
theorem dX1_lay_131 : decode cX1_lay 131 = .ok (.aload_n 0, 1) := by decide +kernel
theorem dX1_lay_132 : decode cX1_lay 132 = .ok (.getfield 54, 3) := by decide +kernel
theorem dX1_lay_135 : decode cX1_lay 135 = .ok (.invokevirtual 57, 3) := by decide +kernel
theorem dX1_lay_138 : decode cX1_lay 138 = .ok (.aload_n 0, 1) := by decide +kernel
theorem dX1_lay_139 : decode cX1_lay 139 = .ok (.getfield 28, 3) := by decide +kernel
theorem dX1_lay_142 : decode cX1_lay 142 = .ok (.aload_n 1, 1) := by decide +kernel
theorem dX1_lay_143 : decode cX1_lay 143 = .ok (.aload_n 0, 1) := by decide +kernel
theorem dX1_lay_144 : decode cX1_lay 144 = .ok (.getfield 12, 3) := by decide +kernel
theorem dX1_lay_147 : decode cX1_lay 147 = .ok (.aload_n 0, 1) := by decide +kernel
theorem dX1_lay_148 : decode cX1_lay 148 = .ok (.getfield 21, 3) := by decide +kernel
theorem dX1_lay_151 : decode cX1_lay 151 = .ok (.invokevirtual 60, 3) := by decide +kernel
theorem dX1_lay_154 : decode cX1_lay 154 = .ok (.return_, 1) := by decide +kernel
theorem dX1_touchesNext_0 : decode cX1_touchesNext 0 = .ok (.iload_n 2, 1) := by decide +kernel
theorem dX1_touchesNext_1 : decode cX1_touchesNext 1 = .ok (.iconst 1, 1) := by decide +kernel
theorem dX1_touchesNext_2 : decode cX1_touchesNext 2 = .ok (.iadd, 1) := by decide +kernel
theorem dX1_touchesNext_3 : decode cX1_touchesNext 3 = .ok (.istore_n 3, 1) := by decide +kernel
theorem dX1_touchesNext_4 : decode cX1_touchesNext 4 = .ok (.aload_n 1, 1) := by decide +kernel
theorem dX1_touchesNext_5 : decode cX1_touchesNext 5 = .ok (.getfield 66, 3) := by decide +kernel
theorem dX1_touchesNext_8 : decode cX1_touchesNext 8 = .ok (.iconst 1, 1) := by decide +kernel
theorem dX1_touchesNext_9 : decode cX1_touchesNext 9 = .ok (.invokevirtual 70, 3) := by decide +kernel
theorem dX1_touchesNext_12 : decode cX1_touchesNext 12 = .ok (.istore 4, 2) := by decide +kernel
theorem dX1_touchesNext_14 : decode cX1_touchesNext 14 = .ok (.iload_n 3, 1) := by decide +kernel
theorem dX1_touchesNext_15 : decode cX1_touchesNext 15 = .ok (.aload_n 0, 1) := by decide +kernel
theorem dX1_touchesNext_16 : decode cX1_touchesNext 16 = .ok (.getfield 28, 3) := by decide +kernel
theorem dX1_touchesNext_19 : decode cX1_touchesNext 19 = .ok (.getfield 63, 3) := by decide +kernel
theorem dX1_touchesNext_22 : decode cX1_touchesNext 22 = .ok (.if_icmp .ge 18, 3) := by decide +kernel
theorem dX1_touchesNext_25 : decode cX1_touchesNext 25 = .ok (.iload_n 2, 1) := by decide +kernel
theorem dX1_touchesNext_26 : decode cX1_touchesNext 26 = .ok (.iload 4, 2) := by decide +kernel
theorem dX1_touchesNext_28 : decode cX1_touchesNext 28 = .ok (.invokestatic 82, 3) := by decide +kernel
theorem dX1_touchesNext_31 : decode cX1_touchesNext 31 = .ok (.iload_n 3, 1) := by decide +kernel
theorem dX1_touchesNext_32 : decode cX1_touchesNext 32 = .ok (.iload 4, 2) := by decide +kernel
theorem dX1_touchesNext_34 : decode cX1_touchesNext 34 = .ok (.invokestatic 82, 3) := by decide +kernel
theorem dX1_touchesNext_37 : decode cX1_touchesNext 37 = .ok (.if_icmp .eq 5, 3) := by decide +kernel
theorem dX1_touchesNext_40 : decode cX1_touchesNext 40 = .ok (.iconst 0, 1) := by decide +kernel
theorem dX1_touchesNext_41 : decode cX1_touchesNext 41 = .ok (.ireturn, 1) := by decide +kernel
theorem dX1_touchesNext_42 : decode cX1_touchesNext 42 = .ok (.aload_n 0, 1) := by decide +kernel
theorem dX1_touchesNext_43 : decode cX1_touchesNext 43 = .ok (.aload_n 1, 1) := by decide +kernel
theorem dX1_touchesNext_44 : decode cX1_touchesNext 44 = .ok (.iload_n 2, 1) := by decide +kernel
theorem dX1_touchesNext_45 : decode cX1_touchesNext 45 = .ok (.invokevirtual 85, 3) := by decide +kernel
theorem dX1_touchesNext_48 : decode cX1_touchesNext 48 = .ok (.ifCond .eq 12, 3) := by decide +kernel
theorem dX1_touchesNext_51 : decode cX1_touchesNext 51 = .ok (.aload_n 0, 1) := by decide +kernel
theorem dX1_touchesNext_52 : decode cX1_touchesNext 52 = .ok (.aload_n 1, 1) := by decide +kernel
theorem dX1_touchesNext_53 : decode cX1_touchesNext 53 = .ok (.iload_n 3, 1) := by decide +kernel
theorem dX1_touchesNext_54 : decode cX1_touchesNext 54 = .ok (.invokevirtual 85, 3) := by decide +kernel
theorem dX1_touchesNext_57 : decode cX1_touchesNext 57 = .ok (.ifCond .ne 5, 3) := by decide +kernel
theorem dX1_touchesNext_60 : decode cX1_touchesNext 60 = .ok (.iconst 0, 1) := by decide +kernel
theorem dX1_touchesNext_61 : decode cX1_touchesNext 61 = .ok (.ireturn, 1) := by decide +kernel
theorem dX1_touchesNext_62 : decode cX1_touchesNext 62 = .ok (.aload_n 0, 1) := by decide +kernel
theorem dX1_touchesNext_63 : decode cX1_touchesNext 63 = .ok (.getfield 21, 3) := by decide +kernel
theorem dX1_touchesNext_66 : decode cX1_touchesNext 66 = .ok (.getfield 89, 3) := by decide +kernel
theorem dX1_touchesNext_69 : decode cX1_touchesNext 69 = .ok (.aload_n 0, 1) := by decide +kernel
theorem dX1_touchesNext_70 : decode cX1_touchesNext 70 = .ok (.getfield 28, 3) := by decide +kernel
theorem dX1_touchesNext_73 : decode cX1_touchesNext 73 = .ok (.getfield 92, 3) := by decide +kernel
theorem dX1_touchesNext_76 : decode cX1_touchesNext 76 = .ok (.iload_n 2, 1) := by decide +kernel
theorem dX1_touchesNext_77 : decode cX1_touchesNext 77 = .ok (.invokevirtual 70, 3) := by decide +kernel
theorem dX1_touchesNext_80 : decode cX1_touchesNext 80 = .ok (.invokevirtual 70, 3) := by decide +kernel
theorem dX1_touchesNext_83 : decode cX1_touchesNext 83 = .ok (.istore 5, 2) := by decide +kernel
theorem dX1_touchesNext_85 : decode cX1_touchesNext 85 = .ok (.aload_n 0, 1) := by decide +kernel
theorem dX1_touchesNext_86 : decode cX1_touchesNext 86 = .ok (.getfield 21, 3) := by decide +kernel
theorem dX1_touchesNext_89 : decode cX1_touchesNext 89 = .ok (.getfield 89, 3) := by decide +kernel
theorem dX1_touchesNext_92 : decode cX1_touchesNext 92 = .ok (.aload_n 0, 1) := by decide +kernel
theorem dX1_touchesNext_93 : decode cX1_touchesNext 93 = .ok (.getfield 28, 3) := by decide +kernel
theorem dX1_touchesNext_96 : decode cX1_touchesNext 96 = .ok (.getfield 92, 3) := by decide +kernel
theorem dX1_touchesNext_99 : decode cX1_touchesNext 99 = .ok (.iload_n 3, 1) := by decide +kernel
theorem dX1_touchesNext_100 : decode cX1_touchesNext 100 = .ok (.invokevirtual 70, 3) := by decide +kernel
theorem dX1_touchesNext_103 : decode cX1_touchesNext 103 = .ok (.invokevirtual 70, 3) := by decide +kernel
theorem dX1_touchesNext_106 : decode cX1_touchesNext 106 = .ok (.istore 6, 2) := by decide +kernel
theorem dX1_touchesNext_108 : decode cX1_touchesNext 108 = .ok (.iload 5, 2) := by decide +kernel
theorem dX1_touchesNext_110 : decode cX1_touchesNext 110 = .ok (.iconst 0, 1) := by decide +kernel
theorem dX1_touchesNext_111 : decode cX1_touchesNext 111 = .ok (.invokestatic 95, 3) := by decide +kernel
theorem dX1_touchesNext_114 : decode cX1_touchesNext 114 = .ok (.iload 6, 2) := by decide +kernel
theorem dX1_touchesNext_116 : decode cX1_touchesNext 116 = .ok (.iconst 1, 1) := by decide +kernel
theorem dX1_touchesNext_117 : decode cX1_touchesNext 117 = .ok (.invokestatic 95, 3) := by decide +kernel
theorem dX1_touchesNext_120 : decode cX1_touchesNext 120 = .ok (.iand, 1) := by decide +kernel
theorem dX1_touchesNext_121 : decode cX1_touchesNext 121 = .ok (.ifCond .eq 7, 3) := by decide +kernel
theorem dX1_touchesNext_124 : decode cX1_touchesNext 124 = .ok (.iconst 1, 1) := by decide +kernel
theorem dX1_touchesNext_125 : decode cX1_touchesNext 125 = .ok (.goto 4, 3) := by decide +kernel
theorem dX1_touchesNext_128 : decode cX1_touchesNext 128 = .ok (.iconst 0, 1) := by decide +kernel
theorem dX1_touchesNext_129 : decode cX1_touchesNext 129 = .ok (.ireturn, 1) := by decide +kernel
theorem dX1_endsMainEntry_0 : decode cX1_endsMainEntry 0 = .ok (.aload_n 0, 1) := by decide +kernel
theorem dX1_endsMainEntry_1 : decode cX1_endsMainEntry 1 = .ok (.getfield 28, 3) := by decide +kernel
theorem dX1_endsMainEntry_4 : decode cX1_endsMainEntry 4 = .ok (.iload_n 2, 1) := by decide +kernel
theorem dX1_endsMainEntry_5 : decode cX1_endsMainEntry 5 = .ok (.invokevirtual 99, 3) := by decide +kernel
theorem dX1_endsMainEntry_8 : decode cX1_endsMainEntry 8 = .ok (.ifCond .eq 26, 3) := by decide +kernel
theorem dX1_endsMainEntry_11 : decode cX1_endsMainEntry 11 = .ok (.aload_n 1, 1) := by decide +kernel
theorem dX1_endsMainEntry_12 : decode cX1_endsMainEntry 12 = .ok (.aload_n 0, 1) := by decide +kernel
theorem dX1_endsMainEntry_13 : decode cX1_endsMainEntry 13 = .ok (.getfield 28, 3) := by decide +kernel
theorem dX1_endsMainEntry_16 : decode cX1_endsMainEntry 16 = .ok (.getfield 92, 3) := by decide +kernel
theorem dX1_endsMainEntry_19 : decode cX1_endsMainEntry 19 = .ok (.iload_n 2, 1) := by decide +kernel
theorem dX1_endsMainEntry_20 : decode cX1_endsMainEntry 20 = .ok (.invokevirtual 70, 3) := by decide +kernel
theorem dX1_endsMainEntry_23 : decode cX1_endsMainEntry 23 = .ok (.invokevirtual 103, 3) := by decide +kernel
theorem dX1_endsMainEntry_26 : decode cX1_endsMainEntry 26 = .ok (.iconst 1, 1) := by decide +kernel
theorem dX1_endsMainEntry_27 : decode cX1_endsMainEntry 27 = .ok (.if_icmp .ne 7, 3) := by decide +kernel
theorem dX1_endsMainEntry_30 : decode cX1_endsMainEntry 30 = .ok (.iconst 1, 1) := by decide +kernel
theorem dX1_endsMainEntry_31 : decode cX1_endsMainEntry 31 = .ok (.goto 4, 3) := by decide +kernel
theorem dX1_endsMainEntry_34 : decode cX1_endsMainEntry 34 = .ok (.iconst 0, 1) := by decide +kernel
theorem dX1_endsMainEntry_35 : decode cX1_endsMainEntry 35 = .ok (.ireturn, 1) := by decide +kernel
theorem dX1_unitsOf_0 : decode cX1_unitsOf 0 = .ok (.iconst 0, 1) := by decide +kernel
theorem dX1_unitsOf_1 : decode cX1_unitsOf 1 = .ok (.istore_n 2, 1) := by decide +kernel
theorem dX1_unitsOf_2 : decode cX1_unitsOf 2 = .ok (.iconst 0, 1) := by decide +kernel
theorem dX1_unitsOf_3 : decode cX1_unitsOf 3 = .ok (.istore_n 3, 1) := by decide +kernel
theorem dX1_unitsOf_4 : decode cX1_unitsOf 4 = .ok (.iload_n 0, 1) := by decide +kernel
theorem dX1_unitsOf_5 : decode cX1_unitsOf 5 = .ok (.istore 4, 2) := by decide +kernel
theorem dX1_unitsOf_7 : decode cX1_unitsOf 7 = .ok (.iload 4, 2) := by decide +kernel
theorem dX1_unitsOf_9 : decode cX1_unitsOf 9 = .ok (.ifCond .le 102, 3) := by decide +kernel
theorem dX1_unitsOf_12 : decode cX1_unitsOf 12 = .ok (.iload 4, 2) := by decide +kernel
theorem dX1_unitsOf_14 : decode cX1_unitsOf 14 = .ok (.bipush 10, 2) := by decide +kernel
theorem dX1_unitsOf_16 : decode cX1_unitsOf 16 = .ok (.irem, 1) := by decide +kernel
theorem dX1_unitsOf_17 : decode cX1_unitsOf 17 = .ok (.istore 5, 2) := by decide +kernel
theorem dX1_unitsOf_19 : decode cX1_unitsOf 19 = .ok (.bipush 48, 2) := by decide +kernel
theorem dX1_unitsOf_21 : decode cX1_unitsOf 21 = .ok (.iload 5, 2) := by decide +kernel
theorem dX1_unitsOf_23 : decode cX1_unitsOf 23 = .ok (.iadd, 1) := by decide +kernel
theorem dX1_unitsOf_24 : decode cX1_unitsOf 24 = .ok (.invokestatic 106, 3) := by decide +kernel
theorem dX1_unitsOf_27 : decode cX1_unitsOf 27 = .ok (.istore 6, 2) := by decide +kernel
theorem dX1_unitsOf_29 : decode cX1_unitsOf 29 = .ok (.iload 5, 2) := by decide +kernel
theorem dX1_unitsOf_31 : decode cX1_unitsOf 31 = .ok (.bipush 6, 2) := by decide +kernel
theorem dX1_unitsOf_33 : decode cX1_unitsOf 33 = .ok (.if_icmp .eq 10, 3) := by decide +kernel
theorem dX1_unitsOf_36 : decode cX1_unitsOf 36 = .ok (.iload 5, 2) := by decide +kernel
theorem dX1_unitsOf_38 : decode cX1_unitsOf 38 = .ok (.bipush 8, 2) := by decide +kernel
theorem dX1_unitsOf_40 : decode cX1_unitsOf 40 = .ok (.if_icmp .ne 7, 3) := by decide +kernel
theorem dX1_unitsOf_43 : decode cX1_unitsOf 43 = .ok (.iconst 1, 1) := by decide +kernel
theorem dX1_unitsOf_44 : decode cX1_unitsOf 44 = .ok (.goto 4, 3) := by decide +kernel
theorem dX1_unitsOf_47 : decode cX1_unitsOf 47 = .ok (.iconst 0, 1) := by decide +kernel
theorem dX1_unitsOf_48 : decode cX1_unitsOf 48 = .ok (.istore 7, 2) := by decide +kernel
theorem dX1_unitsOf_50 : decode cX1_unitsOf 50 = .ok (.iload 5, 2) := by decide +kernel
theorem dX1_unitsOf_52 : decode cX1_unitsOf 52 = .ok (.iconst 3, 1) := by decide +kernel
theorem dX1_unitsOf_53 : decode cX1_unitsOf 53 = .ok (.if_icmp .lt 12, 3) := by decide +kernel
theorem dX1_unitsOf_56 : decode cX1_unitsOf 56 = .ok (.iload 7, 2) := by decide +kernel
theorem dX1_unitsOf_58 : decode cX1_unitsOf 58 = .ok (.ifCond .ne 7, 3) := by decide +kernel
theorem dX1_unitsOf_61 : decode cX1_unitsOf 61 = .ok (.iconst 1, 1) := by decide +kernel
theorem dX1_unitsOf_62 : decode cX1_unitsOf 62 = .ok (.goto 4, 3) := by decide +kernel
theorem dX1_unitsOf_65 : decode cX1_unitsOf 65 = .ok (.iconst 0, 1) := by decide +kernel
theorem dX1_unitsOf_66 : decode cX1_unitsOf 66 = .ok (.istore 8, 2) := by decide +kernel
theorem dX1_unitsOf_68 : decode cX1_unitsOf 68 = .ok (.iload_n 1, 1) := by decide +kernel
theorem dX1_unitsOf_69 : decode cX1_unitsOf 69 = .ok (.ifCond .eq 11, 3) := by decide +kernel
theorem dX1_unitsOf_72 : decode cX1_unitsOf 72 = .ok (.iload 7, 2) := by decide +kernel
theorem dX1_unitsOf_74 : decode cX1_unitsOf 74 = .ok (.ifCond .eq 22, 3) := by decide +kernel
theorem dX1_unitsOf_77 : decode cX1_unitsOf 77 = .ok (.goto 8, 3) := by decide +kernel
theorem dX1_unitsOf_80 : decode cX1_unitsOf 80 = .ok (.iload 8, 2) := by decide +kernel
theorem dX1_unitsOf_82 : decode cX1_unitsOf 82 = .ok (.ifCond .eq 14, 3) := by decide +kernel
theorem dX1_unitsOf_85 : decode cX1_unitsOf 85 = .ok (.iload_n 2, 1) := by decide +kernel
theorem dX1_unitsOf_86 : decode cX1_unitsOf 86 = .ok (.iconst 1, 1) := by decide +kernel
theorem dX1_unitsOf_87 : decode cX1_unitsOf 87 = .ok (.iload 6, 2) := by decide +kernel
theorem dX1_unitsOf_89 : decode cX1_unitsOf 89 = .ok (.ishl, 1) := by decide +kernel
theorem dX1_unitsOf_90 : decode cX1_unitsOf 90 = .ok (.iconst 1, 1) := by decide +kernel
theorem dX1_unitsOf_91 : decode cX1_unitsOf 91 = .ok (.isub, 1) := by decide +kernel
theorem dX1_unitsOf_92 : decode cX1_unitsOf 92 = .ok (.iload_n 3, 1) := by decide +kernel
theorem dX1_unitsOf_93 : decode cX1_unitsOf 93 = .ok (.ishl, 1) := by decide +kernel
theorem dX1_unitsOf_94 : decode cX1_unitsOf 94 = .ok (.ior, 1) := by decide +kernel
theorem dX1_unitsOf_95 : decode cX1_unitsOf 95 = .ok (.istore_n 2, 1) := by decide +kernel
theorem dX1_unitsOf_96 : decode cX1_unitsOf 96 = .ok (.iload_n 3, 1) := by decide +kernel
theorem dX1_unitsOf_97 : decode cX1_unitsOf 97 = .ok (.iload 6, 2) := by decide +kernel
theorem dX1_unitsOf_99 : decode cX1_unitsOf 99 = .ok (.iadd, 1) := by decide +kernel
theorem dX1_unitsOf_100 : decode cX1_unitsOf 100 = .ok (.istore_n 3, 1) := by decide +kernel
theorem dX1_unitsOf_101 : decode cX1_unitsOf 101 = .ok (.iload 4, 2) := by decide +kernel
theorem dX1_unitsOf_103 : decode cX1_unitsOf 103 = .ok (.bipush 10, 2) := by decide +kernel
theorem dX1_unitsOf_105 : decode cX1_unitsOf 105 = .ok (.idiv, 1) := by decide +kernel
theorem dX1_unitsOf_106 : decode cX1_unitsOf 106 = .ok (.istore 4, 2) := by decide +kernel
theorem dX1_unitsOf_108 : decode cX1_unitsOf 108 = .ok (.goto (-101), 3) := by decide +kernel
theorem dX1_unitsOf_111 : decode cX1_unitsOf 111 = .ok (.iload_n 2, 1) := by decide +kernel
theorem dX1_unitsOf_112 : decode cX1_unitsOf 112 = .ok (.ireturn, 1) := by decide +kernel
theorem dX1_typeLines_0 : decode cX1_typeLines 0 = .ok (.aload_n 1, 1) := by decide +kernel
theorem dX1_typeLines_1 : decode cX1_typeLines 1 = .ok (.iconst 0, 1) := by decide +kernel
theorem dX1_typeLines_2 : decode cX1_typeLines 2 = .ok (.invokevirtual 109, 3) := by decide +kernel
theorem dX1_typeLines_5 : decode cX1_typeLines 5 = .ok (.iload_n 3, 1) := by decide +kernel
theorem dX1_typeLines_6 : decode cX1_typeLines 6 = .ok (.istore 5, 2) := by decide +kernel
theorem dX1_typeLines_8 : decode cX1_typeLines 8 = .ok (.iload 5, 2) := by decide +kernel
theorem dX1_typeLines_10 : decode cX1_typeLines 10 = .ok (.iload 4, 2) := by decide +kernel
theorem dX1_typeLines_12 : decode cX1_typeLines 12 = .ok (.if_icmp .ge 17, 3) := by decide +kernel
theorem dX1_typeLines_15 : decode cX1_typeLines 15 = .ok (.aload_n 0, 1) := by decide +kernel
theorem dX1_typeLines_16 : decode cX1_typeLines 16 = .ok (.aload_n 1, 1) := by decide +kernel
theorem dX1_typeLines_17 : decode cX1_typeLines 17 = .ok (.aload_n 2, 1) := by decide +kernel
theorem dX1_typeLines_18 : decode cX1_typeLines 18 = .ok (.iload 5, 2) := by decide +kernel
theorem dX1_typeLines_20 : decode cX1_typeLines 20 = .ok (.invokevirtual 115, 3) := by decide +kernel
theorem dX1_typeLines_23 : decode cX1_typeLines 23 = .ok (.iinc 5 1, 3) := by decide +kernel
theorem dX1_typeLines_26 : decode cX1_typeLines 26 = .ok (.goto (-18), 3) := by decide +kernel
theorem dX1_typeLines_29 : decode cX1_typeLines 29 = .ok (.return_, 1) := by decide +kernel
theorem dX1_typeLine_0 : decode cX1_typeLine 0 = .ok (.aload_n 0, 1) := by decide +kernel
theorem dX1_typeLine_1 : decode cX1_typeLine 1 = .ok (.getfield 28, 3) := by decide +kernel
theorem dX1_typeLine_4 : decode cX1_typeLine 4 = .ok (.getfield 92, 3) := by decide +kernel
theorem dX1_typeLine_7 : decode cX1_typeLine 7 = .ok (.iload_n 3, 1) := by decide +kernel
theorem dX1_typeLine_8 : decode cX1_typeLine 8 = .ok (.invokevirtual 70, 3) := by decide +kernel
theorem dX1_typeLine_11 : decode cX1_typeLine 11 = .ok (.istore 4, 2) := by decide +kernel
theorem dX1_typeLine_13 : decode cX1_typeLine 13 = .ok (.aload_n 0, 1) := by decide +kernel
theorem dX1_typeLine_14 : decode cX1_typeLine 14 = .ok (.getfield 28, 3) := by decide +kernel
theorem dX1_typeLine_17 : decode cX1_typeLine 17 = .ok (.getfield 119, 3) := by decide +kernel
theorem dX1_typeLine_20 : decode cX1_typeLine 20 = .ok (.iload_n 3, 1) := by decide +kernel
theorem dX1_typeLine_21 : decode cX1_typeLine 21 = .ok (.invokevirtual 70, 3) := by decide +kernel
theorem dX1_typeLine_24 : decode cX1_typeLine 24 = .ok (.istore 5, 2) := by decide +kernel
theorem dX1_typeLine_26 : decode cX1_typeLine 26 = .ok (.aload_n 1, 1) := by decide +kernel
theorem dX1_typeLine_27 : decode cX1_typeLine 27 = .ok (.bipush 32, 2) := by decide +kernel
theorem dX1_typeLine_29 : decode cX1_typeLine 29 = .ok (.aload_n 0, 1) := by decide +kernel
theorem dX1_typeLine_30 : decode cX1_typeLine 30 = .ok (.getfield 28, 3) := by decide +kernel
theorem dX1_typeLine_33 : decode cX1_typeLine 33 = .ok (.getfield 122, 3) := by decide +kernel
theorem dX1_typeLine_36 : decode cX1_typeLine 36 = .ok (.iload_n 3, 1) := by decide +kernel
theorem dX1_typeLine_37 : decode cX1_typeLine 37 = .ok (.invokevirtual 70, 3) := by decide +kernel
theorem dX1_typeLine_40 : decode cX1_typeLine 40 = .ok (.invokevirtual 125, 3) := by decide +kernel
theorem dX1_typeLine_43 : decode cX1_typeLine 43 = .ok (.iload 5, 2) := by decide +kernel
theorem dX1_typeLine_45 : decode cX1_typeLine 45 = .ok (.istore 6, 2) := by decide +kernel
theorem dX1_typeLine_47 : decode cX1_typeLine 47 = .ok (.iload 6, 2) := by decide +kernel
theorem dX1_typeLine_49 : decode cX1_typeLine 49 = .ok (.iload 5, 2) := by decide +kernel
theorem dX1_typeLine_51 : decode cX1_typeLine 51 = .ok (.aload_n 0, 1) := by decide +kernel
theorem dX1_typeLine_52 : decode cX1_typeLine 52 = .ok (.getfield 28, 3) := by decide +kernel
theorem dX1_typeLine_55 : decode cX1_typeLine 55 = .ok (.getfield 129, 3) := by decide +kernel
theorem dX1_typeLine_58 : decode cX1_typeLine 58 = .ok (.iload_n 3, 1) := by decide +kernel
theorem dX1_typeLine_59 : decode cX1_typeLine 59 = .ok (.invokevirtual 70, 3) := by decide +kernel
theorem dX1_typeLine_62 : decode cX1_typeLine 62 = .ok (.iadd, 1) := by decide +kernel
theorem dX1_typeLine_63 : decode cX1_typeLine 63 = .ok (.if_icmp .ge 64, 3) := by decide +kernel
theorem dX1_typeLine_66 : decode cX1_typeLine 66 = .ok (.iload 6, 2) := by decide +kernel
theorem dX1_typeLine_68 : decode cX1_typeLine 68 = .ok (.iload 5, 2) := by decide +kernel
theorem dX1_typeLine_70 : decode cX1_typeLine 70 = .ok (.if_icmp .le 9, 3) := by decide +kernel
theorem dX1_typeLine_73 : decode cX1_typeLine 73 = .ok (.aload_n 1, 1) := by decide +kernel
theorem dX1_typeLine_74 : decode cX1_typeLine 74 = .ok (.bipush 32, 2) := by decide +kernel
theorem dX1_typeLine_76 : decode cX1_typeLine 76 = .ok (.invokevirtual 132, 3) := by decide +kernel
theorem dX1_typeLine_79 : decode cX1_typeLine 79 = .ok (.iload 6, 2) := by decide +kernel
theorem dX1_typeLine_81 : decode cX1_typeLine 81 = .ok (.ifCond .ne 21, 3) := by decide +kernel
theorem dX1_typeLine_84 : decode cX1_typeLine 84 = .ok (.aload_n 2, 1) := by decide +kernel
theorem dX1_typeLine_85 : decode cX1_typeLine 85 = .ok (.iload 4, 2) := by decide +kernel
theorem dX1_typeLine_87 : decode cX1_typeLine 87 = .ok (.invokevirtual 103, 3) := by decide +kernel
theorem dX1_typeLine_90 : decode cX1_typeLine 90 = .ok (.iconst 1, 1) := by decide +kernel
theorem dX1_typeLine_91 : decode cX1_typeLine 91 = .ok (.if_icmp .ne 11, 3) := by decide +kernel
theorem dX1_typeLine_94 : decode cX1_typeLine 94 = .ok (.aload_n 0, 1) := by decide +kernel
theorem dX1_typeLine_95 : decode cX1_typeLine 95 = .ok (.aload_n 1, 1) := by decide +kernel
theorem dX1_typeLine_96 : decode cX1_typeLine 96 = .ok (.aload_n 2, 1) := by decide +kernel
theorem dX1_typeLine_97 : decode cX1_typeLine 97 = .ok (.iload 4, 2) := by decide +kernel
theorem dX1_typeLine_99 : decode cX1_typeLine 99 = .ok (.invokevirtual 135, 3) := by decide +kernel
theorem dX1_typeLine_102 : decode cX1_typeLine 102 = .ok (.aload_n 1, 1) := by decide +kernel
theorem dX1_typeLine_103 : decode cX1_typeLine 103 = .ok (.aload_n 2, 1) := by decide +kernel
theorem dX1_typeLine_104 : decode cX1_typeLine 104 = .ok (.getfield 138, 3) := by decide +kernel
theorem dX1_typeLine_107 : decode cX1_typeLine 107 = .ok (.iload 4, 2) := by decide +kernel
theorem dX1_typeLine_109 : decode cX1_typeLine 109 = .ok (.bipush 8, 2) := by decide +kernel
theorem dX1_typeLine_111 : decode cX1_typeLine 111 = .ok (.imul, 1) := by decide +kernel
theorem dX1_typeLine_112 : decode cX1_typeLine 112 = .ok (.iload 6, 2) := by decide +kernel
theorem dX1_typeLine_114 : decode cX1_typeLine 114 = .ok (.iadd, 1) := by decide +kernel
theorem dX1_typeLine_115 : decode cX1_typeLine 115 = .ok (.invokevirtual 142, 3) := by decide +kernel
theorem dX1_typeLine_118 : decode cX1_typeLine 118 = .ok (.invokevirtual 147, 3) := by decide +kernel
theorem dX1_typeLine_121 : decode cX1_typeLine 121 = .ok (.iinc 6 1, 3) := by decide +kernel
theorem dX1_typeLine_124 : decode cX1_typeLine 124 = .ok (.goto (-77), 3) := by decide +kernel
theorem dX1_typeLine_127 : decode cX1_typeLine 127 = .ok (.aload_n 0, 1) := by decide +kernel
theorem dX1_typeLine_128 : decode cX1_typeLine 128 = .ok (.getfield 28, 3) := by decide +kernel
theorem dX1_typeLine_131 : decode cX1_typeLine 131 = .ok (.iload_n 3, 1) := by decide +kernel
theorem dX1_typeLine_132 : decode cX1_typeLine 132 = .ok (.invokevirtual 99, 3) := by decide +kernel
theorem dX1_typeLine_135 : decode cX1_typeLine 135 = .ok (.ifCond .eq 77, 3) := by decide +kernel
theorem dX1_typeLine_138 : decode cX1_typeLine 138 = .ok (.aload_n 1, 1) := by decide +kernel
theorem dX1_typeLine_139 : decode cX1_typeLine 139 = .ok (.bipush 32, 2) := by decide +kernel
theorem dX1_typeLine_141 : decode cX1_typeLine 141 = .ok (.invokevirtual 132, 3) := by decide +kernel
theorem dX1_typeLine_144 : decode cX1_typeLine 144 = .ok (.aload_n 1, 1) := by decide +kernel
theorem dX1_typeLine_145 : decode cX1_typeLine 145 = .ok (.bipush 46, 2) := by decide +kernel
theorem dX1_typeLine_147 : decode cX1_typeLine 147 = .ok (.aload_n 0, 1) := by decide +kernel
theorem dX1_typeLine_148 : decode cX1_typeLine 148 = .ok (.getfield 28, 3) := by decide +kernel
theorem dX1_typeLine_151 : decode cX1_typeLine 151 = .ok (.getfield 151, 3) := by decide +kernel
theorem dX1_typeLine_154 : decode cX1_typeLine 154 = .ok (.iload 4, 2) := by decide +kernel
theorem dX1_typeLine_156 : decode cX1_typeLine 156 = .ok (.invokevirtual 70, 3) := by decide +kernel
theorem dX1_typeLine_159 : decode cX1_typeLine 159 = .ok (.invokevirtual 125, 3) := by decide +kernel
theorem dX1_typeLine_162 : decode cX1_typeLine 162 = .ok (.aload_n 1, 1) := by decide +kernel
theorem dX1_typeLine_163 : decode cX1_typeLine 163 = .ok (.bipush 32, 2) := by decide +kernel
theorem dX1_typeLine_165 : decode cX1_typeLine 165 = .ok (.invokevirtual 132, 3) := by decide +kernel
theorem dX1_typeLine_168 : decode cX1_typeLine 168 = .ok (.aload_n 2, 1) := by decide +kernel
theorem dX1_typeLine_169 : decode cX1_typeLine 169 = .ok (.iload 4, 2) := by decide +kernel
theorem dX1_typeLine_171 : decode cX1_typeLine 171 = .ok (.invokevirtual 103, 3) := by decide +kernel
theorem dX1_typeLine_174 : decode cX1_typeLine 174 = .ok (.ifCond .ne 22, 3) := by decide +kernel
theorem dX1_typeLine_177 : decode cX1_typeLine 177 = .ok (.aload_n 1, 1) := by decide +kernel
theorem dX1_typeLine_178 : decode cX1_typeLine 178 = .ok (.aload_n 0, 1) := by decide +kernel
theorem dX1_typeLine_179 : decode cX1_typeLine 179 = .ok (.getfield 21, 3) := by decide +kernel
theorem dX1_typeLine_182 : decode cX1_typeLine 182 = .ok (.getfield 89, 3) := by decide +kernel
theorem dX1_typeLine_185 : decode cX1_typeLine 185 = .ok (.iload 4, 2) := by decide +kernel
theorem dX1_typeLine_187 : decode cX1_typeLine 187 = .ok (.invokevirtual 70, 3) := by decide +kernel
theorem dX1_typeLine_190 : decode cX1_typeLine 190 = .ok (.invokevirtual 154, 3) := by decide +kernel
theorem dX1_typeLine_193 : decode cX1_typeLine 193 = .ok (.goto 19, 3) := by decide +kernel
theorem dX1_typeLine_196 : decode cX1_typeLine 196 = .ok (.aload_n 1, 1) := by decide +kernel
theorem dX1_typeLine_197 : decode cX1_typeLine 197 = .ok (.aload_n 0, 1) := by decide +kernel
theorem dX1_typeLine_198 : decode cX1_typeLine 198 = .ok (.getfield 21, 3) := by decide +kernel
theorem dX1_typeLine_201 : decode cX1_typeLine 201 = .ok (.getfield 89, 3) := by decide +kernel
theorem dX1_typeLine_204 : decode cX1_typeLine 204 = .ok (.iload 4, 2) := by decide +kernel
theorem dX1_typeLine_206 : decode cX1_typeLine 206 = .ok (.invokevirtual 70, 3) := by decide +kernel
theorem dX1_typeLine_209 : decode cX1_typeLine 209 = .ok (.invokevirtual 157, 3) := by decide +kernel
theorem dX1_typeLine_212 : decode cX1_typeLine 212 = .ok (.aload_n 1, 1) := by decide +kernel
theorem dX1_typeLine_213 : decode cX1_typeLine 213 = .ok (.bipush 10, 2) := by decide +kernel
theorem dX1_typeLine_215 : decode cX1_typeLine 215 = .ok (.invokevirtual 132, 3) := by decide +kernel
theorem dX1_typeLine_218 : decode cX1_typeLine 218 = .ok (.return_, 1) := by decide +kernel
theorem dX1_typeLabel_0 : decode cX1_typeLabel 0 = .ok (.iconst 1, 1) := by decide +kernel
theorem dX1_typeLabel_1 : decode cX1_typeLabel 1 = .ok (.istore 4, 2) := by decide +kernel
theorem dX1_typeLabel_3 : decode cX1_typeLabel 3 = .ok (.iload 4, 2) := by decide +kernel
theorem dX1_typeLabel_5 : decode cX1_typeLabel 5 = .ok (.aload_n 2, 1) := by decide +kernel
theorem dX1_typeLabel_6 : decode cX1_typeLabel 6 = .ok (.getfield 160, 3) := by decide +kernel
theorem dX1_typeLabel_9 : decode cX1_typeLabel 9 = .ok (.iload_n 3, 1) := by decide +kernel
theorem dX1_typeLabel_10 : decode cX1_typeLabel 10 = .ok (.invokevirtual 70, 3) := by decide +kernel
theorem dX1_typeLabel_13 : decode cX1_typeLabel 13 = .ok (.if_icmp .gt 36, 3) := by decide +kernel
theorem dX1_typeLabel_16 : decode cX1_typeLabel 16 = .ok (.iload 4, 2) := by decide +kernel
theorem dX1_typeLabel_18 : decode cX1_typeLabel 18 = .ok (.iconst 1, 1) := by decide +kernel
theorem dX1_typeLabel_19 : decode cX1_typeLabel 19 = .ok (.if_icmp .le 9, 3) := by decide +kernel
theorem dX1_typeLabel_22 : decode cX1_typeLabel 22 = .ok (.aload_n 1, 1) := by decide +kernel
theorem dX1_typeLabel_23 : decode cX1_typeLabel 23 = .ok (.bipush 46, 2) := by decide +kernel
theorem dX1_typeLabel_25 : decode cX1_typeLabel 25 = .ok (.invokevirtual 132, 3) := by decide +kernel
theorem dX1_typeLabel_28 : decode cX1_typeLabel 28 = .ok (.aload_n 1, 1) := by decide +kernel
theorem dX1_typeLabel_29 : decode cX1_typeLabel 29 = .ok (.aload_n 0, 1) := by decide +kernel
theorem dX1_typeLabel_30 : decode cX1_typeLabel 30 = .ok (.getfield 12, 3) := by decide +kernel
theorem dX1_typeLabel_33 : decode cX1_typeLabel 33 = .ok (.aload_n 2, 1) := by decide +kernel
theorem dX1_typeLabel_34 : decode cX1_typeLabel 34 = .ok (.iload_n 3, 1) := by decide +kernel
theorem dX1_typeLabel_35 : decode cX1_typeLabel 35 = .ok (.iload 4, 2) := by decide +kernel
theorem dX1_typeLabel_37 : decode cX1_typeLabel 37 = .ok (.invokevirtual 163, 3) := by decide +kernel
theorem dX1_typeLabel_40 : decode cX1_typeLabel 40 = .ok (.invokevirtual 157, 3) := by decide +kernel
theorem dX1_typeLabel_43 : decode cX1_typeLabel 43 = .ok (.iinc 4 1, 3) := by decide +kernel
theorem dX1_typeLabel_46 : decode cX1_typeLabel 46 = .ok (.goto (-43), 3) := by decide +kernel
theorem dX1_typeLabel_49 : decode cX1_typeLabel 49 = .ok (.aload_n 1, 1) := by decide +kernel
theorem dX1_typeLabel_50 : decode cX1_typeLabel 50 = .ok (.bipush 32, 2) := by decide +kernel
theorem dX1_typeLabel_52 : decode cX1_typeLabel 52 = .ok (.invokevirtual 132, 3) := by decide +kernel
theorem dX1_typeLabel_55 : decode cX1_typeLabel 55 = .ok (.return_, 1) := by decide +kernel
theorem dX2_init_0 : decode cX2_init 0 = .ok (.aload_n 0, 1) := by decide +kernel
theorem dX2_init_1 : decode cX2_init 1 = .ok (.invokespecial 3, 3) := by decide +kernel
theorem dX2_init_4 : decode cX2_init 4 = .ok (.aload_n 0, 1) := by decide +kernel
theorem dX2_init_5 : decode cX2_init 5 = .ok (.new 9, 3) := by decide +kernel
theorem dX2_init_8 : decode cX2_init 8 = .ok (.dup, 1) := by decide +kernel
theorem dX2_init_9 : decode cX2_init 9 = .ok (.bipush 24, 2) := by decide +kernel
theorem dX2_init_11 : decode cX2_init 11 = .ok (.invokespecial 11, 3) := by decide +kernel
theorem dX2_init_14 : decode cX2_init 14 = .ok (.putfield 14, 3) := by decide +kernel
theorem dX2_init_17 : decode cX2_init 17 = .ok (.aload_n 0, 1) := by decide +kernel
theorem dX2_init_18 : decode cX2_init 18 = .ok (.new 9, 3) := by decide +kernel
theorem dX2_init_21 : decode cX2_init 21 = .ok (.dup, 1) := by decide +kernel
theorem dX2_init_22 : decode cX2_init 22 = .ok (.bipush 24, 2) := by decide +kernel
theorem dX2_init_24 : decode cX2_init 24 = .ok (.invokespecial 11, 3) := by decide +kernel
theorem dX2_init_27 : decode cX2_init 27 = .ok (.putfield 20, 3) := by decide +kernel
theorem dX2_init_30 : decode cX2_init 30 = .ok (.aload_n 0, 1) := by decide +kernel
theorem dX2_init_31 : decode cX2_init 31 = .ok (.new 9, 3) := by decide +kernel
theorem dX2_init_34 : decode cX2_init 34 = .ok (.dup, 1) := by decide +kernel
theorem dX2_init_35 : decode cX2_init 35 = .ok (.bipush 24, 2) := by decide +kernel
theorem dX2_init_37 : decode cX2_init 37 = .ok (.invokespecial 11, 3) := by decide +kernel
theorem dX2_init_40 : decode cX2_init 40 = .ok (.putfield 23, 3) := by decide +kernel
theorem dX2_init_43 : decode cX2_init 43 = .ok (.aload_n 0, 1) := by decide +kernel
theorem dX2_init_44 : decode cX2_init 44 = .ok (.new 9, 3) := by decide +kernel
theorem dX2_init_47 : decode cX2_init 47 = .ok (.dup, 1) := by decide +kernel
theorem dX2_init_48 : decode cX2_init 48 = .ok (.bipush 24, 2) := by decide +kernel
theorem dX2_init_50 : decode cX2_init 50 = .ok (.invokespecial 11, 3) := by decide +kernel
theorem dX2_init_53 : decode cX2_init 53 = .ok (.putfield 26, 3) := by decide +kernel
theorem dX2_init_56 : decode cX2_init 56 = .ok (.aload_n 0, 1) := by decide +kernel
theorem dX2_init_57 : decode cX2_init 57 = .ok (.new 9, 3) := by decide +kernel
theorem dX2_init_60 : decode cX2_init 60 = .ok (.dup, 1) := by decide +kernel
theorem dX2_init_61 : decode cX2_init 61 = .ok (.sipush 192, 3) := by decide +kernel
theorem dX2_init_64 : decode cX2_init 64 = .ok (.invokespecial 11, 3) := by decide +kernel
theorem dX2_init_67 : decode cX2_init 67 = .ok (.putfield 29, 3) := by decide +kernel
theorem dX2_init_70 : decode cX2_init 70 = .ok (.aload_n 0, 1) := by decide +kernel
theorem dX2_init_71 : decode cX2_init 71 = .ok (.new 9, 3) := by decide +kernel
theorem dX2_init_74 : decode cX2_init 74 = .ok (.dup, 1) := by decide +kernel
theorem dX2_init_75 : decode cX2_init 75 = .ok (.bipush 24, 2) := by decide +kernel
theorem dX2_init_77 : decode cX2_init 77 = .ok (.invokespecial 11, 3) := by decide +kernel
theorem dX2_init_80 : decode cX2_init 80 = .ok (.putfield 32, 3) := by decide +kernel
theorem dX2_init_83 : decode cX2_init 83 = .ok (.return_, 1) := by decide +kernel
theorem dX2_measure_0 : decode cX2_measure 0 = .ok (.iconst 0, 1) := by decide +kernel
theorem dX2_measure_1 : decode cX2_measure 1 = .ok (.istore_n 2, 1) := by decide +kernel
theorem dX2_measure_2 : decode cX2_measure 2 = .ok (.iload_n 2, 1) := by decide +kernel
theorem dX2_measure_3 : decode cX2_measure 3 = .ok (.aload_n 1, 1) := by decide +kernel
theorem dX2_measure_4 : decode cX2_measure 4 = .ok (.getfield 35, 3) := by decide +kernel
theorem dX2_measure_7 : decode cX2_measure 7 = .ok (.if_icmp .ge 27, 3) := by decide +kernel
theorem dX2_measure_10 : decode cX2_measure 10 = .ok (.aload_n 0, 1) := by decide +kernel
theorem dX2_measure_11 : decode cX2_measure 11 = .ok (.aload_n 1, 1) := by decide +kernel
theorem dX2_measure_12 : decode cX2_measure 12 = .ok (.iload_n 2, 1) := by decide +kernel
theorem dX2_measure_13 : decode cX2_measure 13 = .ok (.invokevirtual 41, 3) := by decide +kernel
theorem dX2_measure_16 : decode cX2_measure 16 = .ok (.aload_n 0, 1) := by decide +kernel
theorem dX2_measure_17 : decode cX2_measure 17 = .ok (.aload_n 1, 1) := by decide +kernel
theorem dX2_measure_18 : decode cX2_measure 18 = .ok (.iload_n 2, 1) := by decide +kernel
theorem dX2_measure_19 : decode cX2_measure 19 = .ok (.invokevirtual 45, 3) := by decide +kernel
theorem dX2_measure_22 : decode cX2_measure 22 = .ok (.aload_n 0, 1) := by decide +kernel
theorem dX2_measure_23 : decode cX2_measure 23 = .ok (.aload_n 1, 1) := by decide +kernel
theorem dX2_measure_24 : decode cX2_measure 24 = .ok (.iload_n 2, 1) := by decide +kernel
theorem dX2_measure_25 : decode cX2_measure 25 = .ok (.invokevirtual 48, 3) := by decide +kernel
theorem dX2_measure_28 : decode cX2_measure 28 = .ok (.iinc 2 1, 3) := by decide +kernel
theorem dX2_measure_31 : decode cX2_measure 31 = .ok (.goto (-29), 3) := by decide +kernel
theorem dX2_measure_34 : decode cX2_measure 34 = .ok (.return_, 1) := by decide +kernel
theorem dX2_findPlace_0 : decode cX2_findPlace 0 = .ok (.aload_n 1, 1) := by decide +kernel
theorem dX2_findPlace_1 : decode cX2_findPlace 1 = .ok (.aload_n 1, 1) := by decide +kernel
theorem dX2_findPlace_2 : decode cX2_findPlace 2 = .ok (.iload_n 2, 1) := by decide +kernel
theorem dX2_findPlace_3 : decode cX2_findPlace 3 = .ok (.invokevirtual 51, 3) := by decide +kernel
theorem dX2_findPlace_6 : decode cX2_findPlace 6 = .ok (.invokevirtual 55, 3) := by decide +kernel
theorem dX2_findPlace_9 : decode cX2_findPlace 9 = .ok (.istore_n 3, 1) := by decide +kernel
theorem dX2_findPlace_10 : decode cX2_findPlace 10 = .ok (.iload_n 2, 1) := by decide +kernel
theorem dX2_findPlace_11 : decode cX2_findPlace 11 = .ok (.iconst 1, 1) := by decide +kernel
theorem dX2_findPlace_12 : decode cX2_findPlace 12 = .ok (.isub, 1) := by decide +kernel
theorem dX2_findPlace_13 : decode cX2_findPlace 13 = .ok (.istore 4, 2) := by decide +kernel
theorem dX2_findPlace_15 : decode cX2_findPlace 15 = .ok (.iload 4, 2) := by decide +kernel
theorem dX2_findPlace_17 : decode cX2_findPlace 17 = .ok (.iload_n 3, 1) := by decide +kernel
theorem dX2_findPlace_18 : decode cX2_findPlace 18 = .ok (.if_icmp .lt 29, 3) := by decide +kernel
theorem dX2_findPlace_21 : decode cX2_findPlace 21 = .ok (.aload_n 1, 1) := by decide +kernel
theorem dX2_findPlace_22 : decode cX2_findPlace 22 = .ok (.getfield 58, 3) := by decide +kernel
theorem dX2_findPlace_25 : decode cX2_findPlace 25 = .ok (.iload 4, 2) := by decide +kernel
theorem dX2_findPlace_27 : decode cX2_findPlace 27 = .ok (.invokevirtual 61, 3) := by decide +kernel
theorem dX2_findPlace_30 : decode cX2_findPlace 30 = .ok (.aload_n 1, 1) := by decide +kernel
theorem dX2_findPlace_31 : decode cX2_findPlace 31 = .ok (.getfield 58, 3) := by decide +kernel
theorem dX2_findPlace_34 : decode cX2_findPlace 34 = .ok (.iload_n 2, 1) := by decide +kernel
theorem dX2_findPlace_35 : decode cX2_findPlace 35 = .ok (.invokevirtual 61, 3) := by decide +kernel
theorem dX2_findPlace_38 : decode cX2_findPlace 38 = .ok (.if_icmp .lt 9, 3) := by decide +kernel
theorem dX2_findPlace_41 : decode cX2_findPlace 41 = .ok (.iinc 4 (-1), 3) := by decide +kernel
theorem dX2_findPlace_44 : decode cX2_findPlace 44 = .ok (.goto (-29), 3) := by decide +kernel
theorem dX2_findPlace_47 : decode cX2_findPlace 47 = .ok (.iload 4, 2) := by decide +kernel
theorem dX2_findPlace_49 : decode cX2_findPlace 49 = .ok (.iload_n 3, 1) := by decide +kernel
theorem dX2_findPlace_50 : decode cX2_findPlace 50 = .ok (.if_icmp .ge 7, 3) := by decide +kernel
theorem dX2_findPlace_53 : decode cX2_findPlace 53 = .ok (.iconst (-1), 1) := by decide +kernel
theorem dX2_findPlace_54 : decode cX2_findPlace 54 = .ok (.goto 5, 3) := by decide +kernel
theorem dX2_findPlace_57 : decode cX2_findPlace 57 = .ok (.iload 4, 2) := by decide +kernel
theorem dX2_findPlace_59 : decode cX2_findPlace 59 = .ok (.istore 4, 2) := by decide +kernel
theorem dX2_findPlace_61 : decode cX2_findPlace 61 = .ok (.iconst 1, 1) := by decide +kernel
theorem dX2_findPlace_62 : decode cX2_findPlace 62 = .ok (.istore 5, 2) := by decide +kernel
theorem dX2_findPlace_64 : decode cX2_findPlace 64 = .ok (.iload_n 3, 1) := by decide +kernel
theorem dX2_findPlace_65 : decode cX2_findPlace 65 = .ok (.istore 6, 2) := by decide +kernel
theorem dX2_findPlace_67 : decode cX2_findPlace 67 = .ok (.iload 6, 2) := by decide +kernel
theorem dX2_findPlace_69 : decode cX2_findPlace 69 = .ok (.iload_n 2, 1) := by decide +kernel
theorem dX2_findPlace_70 : decode cX2_findPlace 70 = .ok (.if_icmp .ge 26, 3) := by decide +kernel
theorem dX2_findPlace_73 : decode cX2_findPlace 73 = .ok (.aload_n 0, 1) := by decide +kernel
theorem dX2_findPlace_74 : decode cX2_findPlace 74 = .ok (.getfield 14, 3) := by decide +kernel
theorem dX2_findPlace_77 : decode cX2_findPlace 77 = .ok (.iload 6, 2) := by decide +kernel
theorem dX2_findPlace_79 : decode cX2_findPlace 79 = .ok (.invokevirtual 61, 3) := by decide +kernel
theorem dX2_findPlace_82 : decode cX2_findPlace 82 = .ok (.iload 4, 2) := by decide +kernel
theorem dX2_findPlace_84 : decode cX2_findPlace 84 = .ok (.if_icmp .ne 6, 3) := by decide +kernel
theorem dX2_findPlace_87 : decode cX2_findPlace 87 = .ok (.iinc 5 1, 3) := by decide +kernel
theorem dX2_findPlace_90 : decode cX2_findPlace 90 = .ok (.iinc 6 1, 3) := by decide +kernel
theorem dX2_findPlace_93 : decode cX2_findPlace 93 = .ok (.goto (-26), 3) := by decide +kernel
theorem dX2_findPlace_96 : decode cX2_findPlace 96 = .ok (.aload_n 0, 1) := by decide +kernel
theorem dX2_findPlace_97 : decode cX2_findPlace 97 = .ok (.getfield 14, 3) := by decide +kernel
theorem dX2_findPlace_100 : decode cX2_findPlace 100 = .ok (.iload_n 2, 1) := by decide +kernel
theorem dX2_findPlace_101 : decode cX2_findPlace 101 = .ok (.iload 4, 2) := by decide +kernel
theorem dX2_findPlace_103 : decode cX2_findPlace 103 = .ok (.invokevirtual 64, 3) := by decide +kernel
theorem dX2_findPlace_106 : decode cX2_findPlace 106 = .ok (.aload_n 0, 1) := by decide +kernel
theorem dX2_findPlace_107 : decode cX2_findPlace 107 = .ok (.getfield 20, 3) := by decide +kernel
theorem dX2_findPlace_110 : decode cX2_findPlace 110 = .ok (.iload_n 2, 1) := by decide +kernel
theorem dX2_findPlace_111 : decode cX2_findPlace 111 = .ok (.iconst 0, 1) := by decide +kernel
theorem dX2_findPlace_112 : decode cX2_findPlace 112 = .ok (.invokevirtual 64, 3) := by decide +kernel
theorem dX2_findPlace_115 : decode cX2_findPlace 115 = .ok (.aload_n 0, 1) := by decide +kernel
theorem dX2_findPlace_116 : decode cX2_findPlace 116 = .ok (.getfield 20, 3) := by decide +kernel
theorem dX2_findPlace_119 : decode cX2_findPlace 119 = .ok (.iload 4, 2) := by decide +kernel
theorem dX2_findPlace_121 : decode cX2_findPlace 121 = .ok (.iconst 1, 1) := by decide +kernel
theorem dX2_findPlace_122 : decode cX2_findPlace 122 = .ok (.invokevirtual 68, 3) := by decide +kernel
theorem dX2_findPlace_125 : decode cX2_findPlace 125 = .ok (.aload_n 0, 1) := by decide +kernel
theorem dX2_findPlace_126 : decode cX2_findPlace 126 = .ok (.getfield 23, 3) := by decide +kernel
theorem dX2_findPlace_129 : decode cX2_findPlace 129 = .ok (.iload_n 2, 1) := by decide +kernel
theorem dX2_findPlace_130 : decode cX2_findPlace 130 = .ok (.iload 5, 2) := by decide +kernel
theorem dX2_findPlace_132 : decode cX2_findPlace 132 = .ok (.invokevirtual 64, 3) := by decide +kernel
theorem dX2_findPlace_135 : decode cX2_findPlace 135 = .ok (.return_, 1) := by decide +kernel
theorem dX2_measureLabel_0 : decode cX2_measureLabel 0 = .ok (.iconst 0, 1) := by decide +kernel
theorem dX2_measureLabel_1 : decode cX2_measureLabel 1 = .ok (.istore_n 3, 1) := by decide +kernel
theorem dX2_measureLabel_2 : decode cX2_measureLabel 2 = .ok (.aload_n 1, 1) := by decide +kernel
theorem dX2_measureLabel_3 : decode cX2_measureLabel 3 = .ok (.iload_n 2, 1) := by decide +kernel
theorem dX2_measureLabel_4 : decode cX2_measureLabel 4 = .ok (.invokevirtual 51, 3) := by decide +kernel
theorem dX2_measureLabel_7 : decode cX2_measureLabel 7 = .ok (.iconst 1, 1) := by decide +kernel
theorem dX2_measureLabel_8 : decode cX2_measureLabel 8 = .ok (.if_icmp .ne 55, 3) := by decide +kernel
theorem dX2_measureLabel_11 : decode cX2_measureLabel 11 = .ok (.aload_n 0, 1) := by decide +kernel
theorem dX2_measureLabel_12 : decode cX2_measureLabel 12 = .ok (.getfield 14, 3) := by decide +kernel
theorem dX2_measureLabel_15 : decode cX2_measureLabel 15 = .ok (.iload_n 2, 1) := by decide +kernel
theorem dX2_measureLabel_16 : decode cX2_measureLabel 16 = .ok (.invokevirtual 61, 3) := by decide +kernel
theorem dX2_measureLabel_19 : decode cX2_measureLabel 19 = .ok (.istore 4, 2) := by decide +kernel
theorem dX2_measureLabel_21 : decode cX2_measureLabel 21 = .ok (.iload 4, 2) := by decide +kernel
theorem dX2_measureLabel_23 : decode cX2_measureLabel 23 = .ok (.iconst (-1), 1) := by decide +kernel
theorem dX2_measureLabel_24 : decode cX2_measureLabel 24 = .ok (.if_icmp .ne 7, 3) := by decide +kernel
theorem dX2_measureLabel_27 : decode cX2_measureLabel 27 = .ok (.iconst 0, 1) := by decide +kernel
theorem dX2_measureLabel_28 : decode cX2_measureLabel 28 = .ok (.goto 18, 3) := by decide +kernel
theorem dX2_measureLabel_31 : decode cX2_measureLabel 31 = .ok (.aload_n 0, 1) := by decide +kernel
theorem dX2_measureLabel_32 : decode cX2_measureLabel 32 = .ok (.getfield 26, 3) := by decide +kernel
theorem dX2_measureLabel_35 : decode cX2_measureLabel 35 = .ok (.iload 4, 2) := by decide +kernel
theorem dX2_measureLabel_37 : decode cX2_measureLabel 37 = .ok (.invokevirtual 61, 3) := by decide +kernel
theorem dX2_measureLabel_40 : decode cX2_measureLabel 40 = .ok (.bipush 46, 2) := by decide +kernel
theorem dX2_measureLabel_42 : decode cX2_measureLabel 42 = .ok (.invokestatic 71, 3) := by decide +kernel
theorem dX2_measureLabel_45 : decode cX2_measureLabel 45 = .ok (.iadd, 1) := by decide +kernel
theorem dX2_measureLabel_46 : decode cX2_measureLabel 46 = .ok (.istore 5, 2) := by decide +kernel
theorem dX2_measureLabel_48 : decode cX2_measureLabel 48 = .ok (.iload 5, 2) := by decide +kernel
theorem dX2_measureLabel_50 : decode cX2_measureLabel 50 = .ok (.aload_n 0, 1) := by decide +kernel
theorem dX2_measureLabel_51 : decode cX2_measureLabel 51 = .ok (.getfield 23, 3) := by decide +kernel
theorem dX2_measureLabel_54 : decode cX2_measureLabel 54 = .ok (.iload_n 2, 1) := by decide +kernel
theorem dX2_measureLabel_55 : decode cX2_measureLabel 55 = .ok (.invokevirtual 61, 3) := by decide +kernel
theorem dX2_measureLabel_58 : decode cX2_measureLabel 58 = .ok (.invokestatic 74, 3) := by decide +kernel
theorem dX2_measureLabel_61 : decode cX2_measureLabel 61 = .ok (.iadd, 1) := by decide +kernel
theorem dX2_measureLabel_62 : decode cX2_measureLabel 62 = .ok (.istore_n 3, 1) := by decide +kernel
theorem dX2_measureLabel_63 : decode cX2_measureLabel 63 = .ok (.aload_n 0, 1) := by decide +kernel
theorem dX2_measureLabel_64 : decode cX2_measureLabel 64 = .ok (.getfield 26, 3) := by decide +kernel
theorem dX2_measureLabel_67 : decode cX2_measureLabel 67 = .ok (.iload_n 2, 1) := by decide +kernel
theorem dX2_measureLabel_68 : decode cX2_measureLabel 68 = .ok (.iload_n 3, 1) := by decide +kernel
theorem dX2_measureLabel_69 : decode cX2_measureLabel 69 = .ok (.invokevirtual 64, 3) := by decide +kernel
theorem dX2_measureLabel_72 : decode cX2_measureLabel 72 = .ok (.return_, 1) := by decide +kernel
theorem dX2_measureTitle_0 : decode cX2_measureTitle 0 = .ok (.iconst 0, 1) := by decide +kernel
theorem dX2_measureTitle_1 : decode cX2_measureTitle 1 = .ok (.istore_n 3, 1) := by decide +kernel
theorem dX2_measureTitle_2 : decode cX2_measureTitle 2 = .ok (.iconst 0, 1) := by decide +kernel
theorem dX2_measureTitle_3 : decode cX2_measureTitle 3 = .ok (.istore 4, 2) := by decide +kernel
theorem dX2_measureTitle_5 : decode cX2_measureTitle 5 = .ok (.iload 4, 2) := by decide +kernel
theorem dX2_measureTitle_7 : decode cX2_measureTitle 7 = .ok (.aload_n 1, 1) := by decide +kernel
theorem dX2_measureTitle_8 : decode cX2_measureTitle 8 = .ok (.getfield 77, 3) := by decide +kernel
theorem dX2_measureTitle_11 : decode cX2_measureTitle 11 = .ok (.iload_n 2, 1) := by decide +kernel
theorem dX2_measureTitle_12 : decode cX2_measureTitle 12 = .ok (.invokevirtual 61, 3) := by decide +kernel
theorem dX2_measureTitle_15 : decode cX2_measureTitle 15 = .ok (.if_icmp .ge 98, 3) := by decide +kernel
theorem dX2_measureTitle_18 : decode cX2_measureTitle 18 = .ok (.iload_n 2, 1) := by decide +kernel
theorem dX2_measureTitle_19 : decode cX2_measureTitle 19 = .ok (.bipush 8, 2) := by decide +kernel
theorem dX2_measureTitle_21 : decode cX2_measureTitle 21 = .ok (.imul, 1) := by decide +kernel
theorem dX2_measureTitle_22 : decode cX2_measureTitle 22 = .ok (.iload 4, 2) := by decide +kernel
theorem dX2_measureTitle_24 : decode cX2_measureTitle 24 = .ok (.iadd, 1) := by decide +kernel
theorem dX2_measureTitle_25 : decode cX2_measureTitle 25 = .ok (.istore 5, 2) := by decide +kernel
theorem dX2_measureTitle_27 : decode cX2_measureTitle 27 = .ok (.aload_n 1, 1) := by decide +kernel
theorem dX2_measureTitle_28 : decode cX2_measureTitle 28 = .ok (.getfield 80, 3) := by decide +kernel
theorem dX2_measureTitle_31 : decode cX2_measureTitle 31 = .ok (.iload 5, 2) := by decide +kernel
theorem dX2_measureTitle_33 : decode cX2_measureTitle 33 = .ok (.invokevirtual 84, 3) := by decide +kernel
theorem dX2_measureTitle_36 : decode cX2_measureTitle 36 = .ok (.invokestatic 89, 3) := by decide +kernel
theorem dX2_measureTitle_39 : decode cX2_measureTitle 39 = .ok (.istore 6, 2) := by decide +kernel
theorem dX2_measureTitle_41 : decode cX2_measureTitle 41 = .ok (.iload 4, 2) := by decide +kernel
theorem dX2_measureTitle_43 : decode cX2_measureTitle 43 = .ok (.ifCond .ne 33, 3) := by decide +kernel
theorem dX2_measureTitle_46 : decode cX2_measureTitle 46 = .ok (.aload_n 0, 1) := by decide +kernel
theorem dX2_measureTitle_47 : decode cX2_measureTitle 47 = .ok (.getfield 26, 3) := by decide +kernel
theorem dX2_measureTitle_50 : decode cX2_measureTitle 50 = .ok (.iload_n 2, 1) := by decide +kernel
theorem dX2_measureTitle_51 : decode cX2_measureTitle 51 = .ok (.invokevirtual 61, 3) := by decide +kernel
theorem dX2_measureTitle_54 : decode cX2_measureTitle 54 = .ok (.ifCond .le 22, 3) := by decide +kernel
theorem dX2_measureTitle_57 : decode cX2_measureTitle 57 = .ok (.iload 6, 2) := by decide +kernel
theorem dX2_measureTitle_59 : decode cX2_measureTitle 59 = .ok (.aload_n 0, 1) := by decide +kernel
theorem dX2_measureTitle_60 : decode cX2_measureTitle 60 = .ok (.getfield 26, 3) := by decide +kernel
theorem dX2_measureTitle_63 : decode cX2_measureTitle 63 = .ok (.iload_n 2, 1) := by decide +kernel
theorem dX2_measureTitle_64 : decode cX2_measureTitle 64 = .ok (.invokevirtual 61, 3) := by decide +kernel
theorem dX2_measureTitle_67 : decode cX2_measureTitle 67 = .ok (.bipush 32, 2) := by decide +kernel
theorem dX2_measureTitle_69 : decode cX2_measureTitle 69 = .ok (.invokestatic 71, 3) := by decide +kernel
theorem dX2_measureTitle_72 : decode cX2_measureTitle 72 = .ok (.iadd, 1) := by decide +kernel
theorem dX2_measureTitle_73 : decode cX2_measureTitle 73 = .ok (.iadd, 1) := by decide +kernel
theorem dX2_measureTitle_74 : decode cX2_measureTitle 74 = .ok (.istore 6, 2) := by decide +kernel
theorem dX2_measureTitle_76 : decode cX2_measureTitle 76 = .ok (.aload_n 0, 1) := by decide +kernel
theorem dX2_measureTitle_77 : decode cX2_measureTitle 77 = .ok (.getfield 29, 3) := by decide +kernel
theorem dX2_measureTitle_80 : decode cX2_measureTitle 80 = .ok (.iload 5, 2) := by decide +kernel
theorem dX2_measureTitle_82 : decode cX2_measureTitle 82 = .ok (.iload 6, 2) := by decide +kernel
theorem dX2_measureTitle_84 : decode cX2_measureTitle 84 = .ok (.invokevirtual 64, 3) := by decide +kernel
theorem dX2_measureTitle_87 : decode cX2_measureTitle 87 = .ok (.iload_n 3, 1) := by decide +kernel
theorem dX2_measureTitle_88 : decode cX2_measureTitle 88 = .ok (.iload 6, 2) := by decide +kernel
theorem dX2_measureTitle_90 : decode cX2_measureTitle 90 = .ok (.iload 4, 2) := by decide +kernel
theorem dX2_measureTitle_92 : decode cX2_measureTitle 92 = .ok (.ifCond .ne 7, 3) := by decide +kernel
theorem dX2_measureTitle_95 : decode cX2_measureTitle 95 = .ok (.iconst 0, 1) := by decide +kernel
theorem dX2_measureTitle_96 : decode cX2_measureTitle 96 = .ok (.goto 8, 3) := by decide +kernel
theorem dX2_measureTitle_99 : decode cX2_measureTitle 99 = .ok (.bipush 32, 2) := by decide +kernel
theorem dX2_measureTitle_101 : decode cX2_measureTitle 101 = .ok (.invokestatic 71, 3) := by decide +kernel
theorem dX2_measureTitle_104 : decode cX2_measureTitle 104 = .ok (.iadd, 1) := by decide +kernel
theorem dX2_measureTitle_105 : decode cX2_measureTitle 105 = .ok (.iadd, 1) := by decide +kernel
theorem dX2_measureTitle_106 : decode cX2_measureTitle 106 = .ok (.istore_n 3, 1) := by decide +kernel
theorem dX2_measureTitle_107 : decode cX2_measureTitle 107 = .ok (.iinc 4 1, 3) := by decide +kernel
theorem dX2_measureTitle_110 : decode cX2_measureTitle 110 = .ok (.goto (-105), 3) := by decide +kernel
theorem dX2_measureTitle_113 : decode cX2_measureTitle 113 = .ok (.aload_n 0, 1) := by decide +kernel
theorem dX2_measureTitle_114 : decode cX2_measureTitle 114 = .ok (.getfield 32, 3) := by decide +kernel
theorem dX2_measureTitle_117 : decode cX2_measureTitle 117 = .ok (.iload_n 2, 1) := by decide +kernel
theorem dX2_measureTitle_118 : decode cX2_measureTitle 118 = .ok (.iload_n 3, 1) := by decide +kernel
theorem dX2_measureTitle_119 : decode cX2_measureTitle 119 = .ok (.invokevirtual 64, 3) := by decide +kernel
theorem dX2_measureTitle_122 : decode cX2_measureTitle 122 = .ok (.return_, 1) := by decide +kernel
theorem dX2_ordinalAt_0 : decode cX2_ordinalAt 0 = .ok (.iload_n 2, 1) := by decide +kernel
theorem dX2_ordinalAt_1 : decode cX2_ordinalAt 1 = .ok (.istore 4, 2) := by decide +kernel
theorem dX2_ordinalAt_3 : decode cX2_ordinalAt 3 = .ok (.aload_n 1, 1) := by decide +kernel
theorem dX2_ordinalAt_4 : decode cX2_ordinalAt 4 = .ok (.getfield 58, 3) := by decide +kernel
theorem dX2_ordinalAt_7 : decode cX2_ordinalAt 7 = .ok (.iload_n 2, 1) := by decide +kernel
theorem dX2_ordinalAt_8 : decode cX2_ordinalAt 8 = .ok (.invokevirtual 61, 3) := by decide +kernel
theorem dX2_ordinalAt_11 : decode cX2_ordinalAt 11 = .ok (.istore 5, 2) := by decide +kernel
theorem dX2_ordinalAt_13 : decode cX2_ordinalAt 13 = .ok (.iload 5, 2) := by decide +kernel
theorem dX2_ordinalAt_15 : decode cX2_ordinalAt 15 = .ok (.iload_n 3, 1) := by decide +kernel
theorem dX2_ordinalAt_16 : decode cX2_ordinalAt 16 = .ok (.if_icmp .le 20, 3) := by decide +kernel
theorem dX2_ordinalAt_19 : decode cX2_ordinalAt 19 = .ok (.aload_n 0, 1) := by decide +kernel
theorem dX2_ordinalAt_20 : decode cX2_ordinalAt 20 = .ok (.getfield 14, 3) := by decide +kernel
theorem dX2_ordinalAt_23 : decode cX2_ordinalAt 23 = .ok (.iload 4, 2) := by decide +kernel
theorem dX2_ordinalAt_25 : decode cX2_ordinalAt 25 = .ok (.invokevirtual 61, 3) := by decide +kernel
theorem dX2_ordinalAt_28 : decode cX2_ordinalAt 28 = .ok (.istore 4, 2) := by decide +kernel
theorem dX2_ordinalAt_30 : decode cX2_ordinalAt 30 = .ok (.iinc 5 (-1), 3) := by decide +kernel
theorem dX2_ordinalAt_33 : decode cX2_ordinalAt 33 = .ok (.goto (-20), 3) := by decide +kernel
theorem dX2_ordinalAt_36 : decode cX2_ordinalAt 36 = .ok (.aload_n 0, 1) := by decide +kernel
theorem dX2_ordinalAt_37 : decode cX2_ordinalAt 37 = .ok (.getfield 23, 3) := by decide +kernel
theorem dX2_ordinalAt_40 : decode cX2_ordinalAt 40 = .ok (.iload 4, 2) := by decide +kernel
theorem dX2_ordinalAt_42 : decode cX2_ordinalAt 42 = .ok (.invokevirtual 61, 3) := by decide +kernel
theorem dX2_ordinalAt_45 : decode cX2_ordinalAt 45 = .ok (.ireturn, 1) := by decide +kernel
theorem dX3_init_0 : decode cX3_init 0 = .ok (.aload_n 0, 1) := by decide +kernel
theorem dX3_init_1 : decode cX3_init 1 = .ok (.invokespecial 3, 3) := by decide +kernel
theorem dX3_init_4 : decode cX3_init 4 = .ok (.aload_n 0, 1) := by decide +kernel
theorem dX3_init_5 : decode cX3_init 5 = .ok (.new 9, 3) := by decide +kernel
theorem dX3_init_8 : decode cX3_init 8 = .ok (.dup, 1) := by decide +kernel
theorem dX3_init_9 : decode cX3_init 9 = .ok (.bipush 24, 2) := by decide +kernel
theorem dX3_init_11 : decode cX3_init 11 = .ok (.invokespecial 11, 3) := by decide +kernel
theorem dX3_init_14 : decode cX3_init 14 = .ok (.putfield 14, 3) := by decide +kernel
theorem dX3_init_17 : decode cX3_init 17 = .ok (.aload_n 0, 1) := by decide +kernel
theorem dX3_init_18 : decode cX3_init 18 = .ok (.new 9, 3) := by decide +kernel
theorem dX3_init_21 : decode cX3_init 21 = .ok (.dup, 1) := by decide +kernel
theorem dX3_init_22 : decode cX3_init 22 = .ok (.bipush 24, 2) := by decide +kernel
theorem dX3_init_24 : decode cX3_init 24 = .ok (.invokespecial 11, 3) := by decide +kernel
theorem dX3_init_27 : decode cX3_init 27 = .ok (.putfield 20, 3) := by decide +kernel
theorem dX3_init_30 : decode cX3_init 30 = .ok (.aload_n 0, 1) := by decide +kernel
theorem dX3_init_31 : decode cX3_init 31 = .ok (.new 9, 3) := by decide +kernel
theorem dX3_init_34 : decode cX3_init 34 = .ok (.dup, 1) := by decide +kernel
theorem dX3_init_35 : decode cX3_init 35 = .ok (.bipush 24, 2) := by decide +kernel
theorem dX3_init_37 : decode cX3_init 37 = .ok (.invokespecial 11, 3) := by decide +kernel
theorem dX3_init_40 : decode cX3_init 40 = .ok (.putfield 23, 3) := by decide +kernel
theorem dX3_init_43 : decode cX3_init 43 = .ok (.aload_n 0, 1) := by decide +kernel
theorem dX3_init_44 : decode cX3_init 44 = .ok (.new 9, 3) := by decide +kernel
theorem dX3_init_47 : decode cX3_init 47 = .ok (.dup, 1) := by decide +kernel
theorem dX3_init_48 : decode cX3_init 48 = .ok (.bipush 24, 2) := by decide +kernel
theorem dX3_init_50 : decode cX3_init 50 = .ok (.invokespecial 11, 3) := by decide +kernel
theorem dX3_init_53 : decode cX3_init 53 = .ok (.putfield 26, 3) := by decide +kernel
theorem dX3_init_56 : decode cX3_init 56 = .ok (.return_, 1) := by decide +kernel
theorem dX3_lay_0 : decode cX3_lay 0 = .ok (.iload_n 2, 1) := by decide +kernel
theorem dX3_lay_1 : decode cX3_lay 1 = .ok (.aload_n 0, 1) := by decide +kernel
theorem dX3_lay_2 : decode cX3_lay 2 = .ok (.aload_n 1, 1) := by decide +kernel
theorem dX3_lay_3 : decode cX3_lay 3 = .ok (.iconst 0, 1) := by decide +kernel
theorem dX3_lay_4 : decode cX3_lay 4 = .ok (.iload_n 2, 1) := by decide +kernel
theorem dX3_lay_5 : decode cX3_lay 5 = .ok (.invokevirtual 29, 3) := by decide +kernel
theorem dX3_lay_8 : decode cX3_lay 8 = .ok (.iadd, 1) := by decide +kernel
theorem dX3_lay_9 : decode cX3_lay 9 = .ok (.istore_n 3, 1) := by decide +kernel
theorem dX3_lay_10 : decode cX3_lay 10 = .ok (.iconst 1, 1) := by decide +kernel
theorem dX3_lay_11 : decode cX3_lay 11 = .ok (.iload_n 3, 1) := by decide +kernel
theorem dX3_lay_12 : decode cX3_lay 12 = .ok (.iconst 0, 1) := by decide +kernel
theorem dX3_lay_13 : decode cX3_lay 13 = .ok (.aload_n 1, 1) := by decide +kernel
theorem dX3_lay_14 : decode cX3_lay 14 = .ok (.getfield 33, 3) := by decide +kernel
theorem dX3_lay_17 : decode cX3_lay 17 = .ok (.invokestatic 39, 3) := by decide +kernel
theorem dX3_lay_20 : decode cX3_lay 20 = .ok (.iadd, 1) := by decide +kernel
theorem dX3_lay_21 : decode cX3_lay 21 = .ok (.istore 4, 2) := by decide +kernel
theorem dX3_lay_23 : decode cX3_lay 23 = .ok (.aload_n 0, 1) := by decide +kernel
theorem dX3_lay_24 : decode cX3_lay 24 = .ok (.aload_n 1, 1) := by decide +kernel
theorem dX3_lay_25 : decode cX3_lay 25 = .ok (.iconst 1, 1) := by decide +kernel
theorem dX3_lay_26 : decode cX3_lay 26 = .ok (.iconst 0, 1) := by decide +kernel
theorem dX3_lay_27 : decode cX3_lay 27 = .ok (.invokevirtual 29, 3) := by decide +kernel
theorem dX3_lay_30 : decode cX3_lay 30 = .ok (.istore 5, 2) := by decide +kernel
theorem dX3_lay_32 : decode cX3_lay 32 = .ok (.aload_n 0, 1) := by decide +kernel
theorem dX3_lay_33 : decode cX3_lay 33 = .ok (.iload 5, 2) := by decide +kernel
theorem dX3_lay_35 : decode cX3_lay 35 = .ok (.ifCond .le 8, 3) := by decide +kernel
theorem dX3_lay_38 : decode cX3_lay 38 = .ok (.iload 4, 2) := by decide +kernel
theorem dX3_lay_40 : decode cX3_lay 40 = .ok (.goto 4, 3) := by decide +kernel
theorem dX3_lay_43 : decode cX3_lay 43 = .ok (.iconst 0, 1) := by decide +kernel
theorem dX3_lay_44 : decode cX3_lay 44 = .ok (.putfield 43, 3) := by decide +kernel
theorem dX3_lay_47 : decode cX3_lay 47 = .ok (.aload_n 0, 1) := by decide +kernel
theorem dX3_lay_48 : decode cX3_lay 48 = .ok (.iload 5, 2) := by decide +kernel
theorem dX3_lay_50 : decode cX3_lay 50 = .ok (.ifCond .le 13, 3) := by decide +kernel
theorem dX3_lay_53 : decode cX3_lay 53 = .ok (.iload 4, 2) := by decide +kernel
theorem dX3_lay_55 : decode cX3_lay 55 = .ok (.iload 5, 2) := by decide +kernel
theorem dX3_lay_57 : decode cX3_lay 57 = .ok (.iadd, 1) := by decide +kernel
theorem dX3_lay_58 : decode cX3_lay 58 = .ok (.iconst 1, 1) := by decide +kernel
theorem dX3_lay_59 : decode cX3_lay 59 = .ok (.isub, 1) := by decide +kernel
theorem dX3_lay_60 : decode cX3_lay 60 = .ok (.goto 4, 3) := by decide +kernel
theorem dX3_lay_63 : decode cX3_lay 63 = .ok (.iload_n 3, 1) := by decide +kernel
theorem dX3_lay_64 : decode cX3_lay 64 = .ok (.putfield 47, 3) := by decide +kernel
theorem dX3_lay_67 : decode cX3_lay 67 = .ok (.iconst 0, 1) := by decide +kernel
theorem dX3_lay_68 : decode cX3_lay 68 = .ok (.istore 6, 2) := by decide +kernel
theorem dX3_lay_70 : decode cX3_lay 70 = .ok (.iload 6, 2) := by decide +kernel
theorem dX3_lay_72 : decode cX3_lay 72 = .ok (.aload_n 1, 1) := by decide +kernel
theorem dX3_lay_73 : decode cX3_lay 73 = .ok (.getfield 50, 3) := by decide +kernel
theorem dX3_lay_76 : decode cX3_lay 76 = .ok (.if_icmp .ge 89, 3) := by decide +kernel
theorem dX3_lay_79 : decode cX3_lay 79 = .ok (.aload_n 0, 1) := by decide +kernel
theorem dX3_lay_80 : decode cX3_lay 80 = .ok (.getfield 14, 3) := by decide +kernel
theorem dX3_lay_83 : decode cX3_lay 83 = .ok (.iload 6, 2) := by decide +kernel
theorem dX3_lay_85 : decode cX3_lay 85 = .ok (.invokevirtual 53, 3) := by decide +kernel
theorem dX3_lay_88 : decode cX3_lay 88 = .ok (.istore 7, 2) := by decide +kernel
theorem dX3_lay_90 : decode cX3_lay 90 = .ok (.aload_n 1, 1) := by decide +kernel
theorem dX3_lay_91 : decode cX3_lay 91 = .ok (.iload 6, 2) := by decide +kernel
theorem dX3_lay_93 : decode cX3_lay 93 = .ok (.invokevirtual 57, 3) := by decide +kernel
theorem dX3_lay_96 : decode cX3_lay 96 = .ok (.ifCond .ne 7, 3) := by decide +kernel
theorem dX3_lay_99 : decode cX3_lay 99 = .ok (.iconst 1, 1) := by decide +kernel
theorem dX3_lay_100 : decode cX3_lay 100 = .ok (.goto 4, 3) := by decide +kernel
theorem dX3_lay_103 : decode cX3_lay 103 = .ok (.iconst 0, 1) := by decide +kernel
theorem dX3_lay_104 : decode cX3_lay 104 = .ok (.istore 8, 2) := by decide +kernel
theorem dX3_lay_106 : decode cX3_lay 106 = .ok (.aload_n 0, 1) := by decide +kernel
theorem dX3_lay_107 : decode cX3_lay 107 = .ok (.getfield 20, 3) := by decide +kernel
theorem dX3_lay_110 : decode cX3_lay 110 = .ok (.iload 6, 2) := by decide +kernel
theorem dX3_lay_112 : decode cX3_lay 112 = .ok (.iload 8, 2) := by decide +kernel
theorem dX3_lay_114 : decode cX3_lay 114 = .ok (.ifCond .eq 8, 3) := by decide +kernel
theorem dX3_lay_117 : decode cX3_lay 117 = .ok (.iload 7, 2) := by decide +kernel
theorem dX3_lay_119 : decode cX3_lay 119 = .ok (.goto 10, 3) := by decide +kernel
theorem dX3_lay_122 : decode cX3_lay 122 = .ok (.iload 4, 2) := by decide +kernel
theorem dX3_lay_124 : decode cX3_lay 124 = .ok (.iload 7, 2) := by decide +kernel
theorem dX3_lay_126 : decode cX3_lay 126 = .ok (.iadd, 1) := by decide +kernel
theorem dX3_lay_127 : decode cX3_lay 127 = .ok (.iconst 1, 1) := by decide +kernel
theorem dX3_lay_128 : decode cX3_lay 128 = .ok (.isub, 1) := by decide +kernel
theorem dX3_lay_129 : decode cX3_lay 129 = .ok (.invokevirtual 60, 3) := by decide +kernel
theorem dX3_lay_132 : decode cX3_lay 132 = .ok (.aload_n 0, 1) := by decide +kernel
theorem dX3_lay_133 : decode cX3_lay 133 = .ok (.getfield 26, 3) := by decide +kernel
theorem dX3_lay_136 : decode cX3_lay 136 = .ok (.iload 6, 2) := by decide +kernel
theorem dX3_lay_138 : decode cX3_lay 138 = .ok (.iload 8, 2) := by decide +kernel
theorem dX3_lay_140 : decode cX3_lay 140 = .ok (.ifCond .eq 11, 3) := by decide +kernel
theorem dX3_lay_143 : decode cX3_lay 143 = .ok (.iload 7, 2) := by decide +kernel
theorem dX3_lay_145 : decode cX3_lay 145 = .ok (.invokestatic 64, 3) := by decide +kernel
theorem dX3_lay_148 : decode cX3_lay 148 = .ok (.goto 8, 3) := by decide +kernel
theorem dX3_lay_151 : decode cX3_lay 151 = .ok (.iload 7, 2) := by decide +kernel
theorem dX3_lay_153 : decode cX3_lay 153 = .ok (.invokestatic 67, 3) := by decide +kernel
theorem dX3_lay_156 : decode cX3_lay 156 = .ok (.invokevirtual 60, 3) := by decide +kernel
theorem dX3_lay_159 : decode cX3_lay 159 = .ok (.iinc 6 1, 3) := by decide +kernel
theorem dX3_lay_162 : decode cX3_lay 162 = .ok (.goto (-92), 3) := by decide +kernel
theorem dX3_lay_165 : decode cX3_lay 165 = .ok (.return_, 1) := by decide +kernel
theorem dX3_layPart_0 : decode cX3_layPart 0 = .ok (.aload_n 1, 1) := by decide +kernel
theorem dX3_layPart_1 : decode cX3_layPart 1 = .ok (.getfield 70, 3) := by decide +kernel
theorem dX3_layPart_4 : decode cX3_layPart 4 = .ok (.iconst 2, 1) := by decide +kernel
theorem dX3_layPart_5 : decode cX3_layPart 5 = .ok (.invokevirtual 53, 3) := by decide +kernel
theorem dX3_layPart_8 : decode cX3_layPart 8 = .ok (.istore 4, 2) := by decide +kernel
theorem dX3_layPart_10 : decode cX3_layPart 10 = .ok (.iconst 0, 1) := by decide +kernel
theorem dX3_layPart_11 : decode cX3_layPart 11 = .ok (.istore 5, 2) := by decide +kernel
theorem dX3_layPart_13 : decode cX3_layPart 13 = .ok (.aload_n 1, 1) := by decide +kernel
theorem dX3_layPart_14 : decode cX3_layPart 14 = .ok (.iload_n 2, 1) := by decide +kernel
theorem dX3_layPart_15 : decode cX3_layPart 15 = .ok (.invokevirtual 73, 3) := by decide +kernel
theorem dX3_layPart_18 : decode cX3_layPart 18 = .ok (.istore 6, 2) := by decide +kernel
theorem dX3_layPart_20 : decode cX3_layPart 20 = .ok (.iload 6, 2) := by decide +kernel
theorem dX3_layPart_22 : decode cX3_layPart 22 = .ok (.aload_n 1, 1) := by decide +kernel
theorem dX3_layPart_23 : decode cX3_layPart 23 = .ok (.iload_n 2, 1) := by decide +kernel
theorem dX3_layPart_24 : decode cX3_layPart 24 = .ok (.invokevirtual 76, 3) := by decide +kernel
theorem dX3_layPart_27 : decode cX3_layPart 27 = .ok (.if_icmp .ge 148, 3) := by decide +kernel
theorem dX3_layPart_30 : decode cX3_layPart 30 = .ok (.aload_n 1, 1) := by decide +kernel
theorem dX3_layPart_31 : decode cX3_layPart 31 = .ok (.getfield 79, 3) := by decide +kernel
theorem dX3_layPart_34 : decode cX3_layPart 34 = .ok (.iload 6, 2) := by decide +kernel
theorem dX3_layPart_36 : decode cX3_layPart 36 = .ok (.invokevirtual 53, 3) := by decide +kernel
theorem dX3_layPart_39 : decode cX3_layPart 39 = .ok (.iconst 1, 1) := by decide +kernel
theorem dX3_layPart_40 : decode cX3_layPart 40 = .ok (.if_icmp .ne 26, 3) := by decide +kernel
theorem dX3_layPart_43 : decode cX3_layPart 43 = .ok (.iload 4, 2) := by decide +kernel
theorem dX3_layPart_45 : decode cX3_layPart 45 = .ok (.iload 5, 2) := by decide +kernel
theorem dX3_layPart_47 : decode cX3_layPart 47 = .ok (.iload 4, 2) := by decide +kernel
theorem dX3_layPart_49 : decode cX3_layPart 49 = .ok (.invokestatic 82, 3) := by decide +kernel
theorem dX3_layPart_52 : decode cX3_layPart 52 = .ok (.iload_n 3, 1) := by decide +kernel
theorem dX3_layPart_53 : decode cX3_layPart 53 = .ok (.aload_n 1, 1) := by decide +kernel
theorem dX3_layPart_54 : decode cX3_layPart 54 = .ok (.getfield 33, 3) := by decide +kernel
theorem dX3_layPart_57 : decode cX3_layPart 57 = .ok (.invokestatic 39, 3) := by decide +kernel
theorem dX3_layPart_60 : decode cX3_layPart 60 = .ok (.imul, 1) := by decide +kernel
theorem dX3_layPart_61 : decode cX3_layPart 61 = .ok (.istore 5, 2) := by decide +kernel
theorem dX3_layPart_63 : decode cX3_layPart 63 = .ok (.goto 32, 3) := by decide +kernel
theorem dX3_layPart_66 : decode cX3_layPart 66 = .ok (.iload 4, 2) := by decide +kernel
theorem dX3_layPart_68 : decode cX3_layPart 68 = .ok (.iload 5, 2) := by decide +kernel
theorem dX3_layPart_70 : decode cX3_layPart 70 = .ok (.iload 4, 2) := by decide +kernel
theorem dX3_layPart_72 : decode cX3_layPart 72 = .ok (.invokestatic 82, 3) := by decide +kernel
theorem dX3_layPart_75 : decode cX3_layPart 75 = .ok (.imul, 1) := by decide +kernel
theorem dX3_layPart_76 : decode cX3_layPart 76 = .ok (.iload 5, 2) := by decide +kernel
theorem dX3_layPart_78 : decode cX3_layPart 78 = .ok (.isub, 1) := by decide +kernel
theorem dX3_layPart_79 : decode cX3_layPart 79 = .ok (.iconst 2, 1) := by decide +kernel
theorem dX3_layPart_80 : decode cX3_layPart 80 = .ok (.if_icmp .ge 15, 3) := by decide +kernel
theorem dX3_layPart_83 : decode cX3_layPart 83 = .ok (.iload 4, 2) := by decide +kernel
theorem dX3_layPart_85 : decode cX3_layPart 85 = .ok (.iload 5, 2) := by decide +kernel
theorem dX3_layPart_87 : decode cX3_layPart 87 = .ok (.iload 4, 2) := by decide +kernel
theorem dX3_layPart_89 : decode cX3_layPart 89 = .ok (.invokestatic 82, 3) := by decide +kernel
theorem dX3_layPart_92 : decode cX3_layPart 92 = .ok (.imul, 1) := by decide +kernel
theorem dX3_layPart_93 : decode cX3_layPart 93 = .ok (.istore 5, 2) := by decide +kernel
theorem dX3_layPart_95 : decode cX3_layPart 95 = .ok (.iload 5, 2) := by decide +kernel
theorem dX3_layPart_97 : decode cX3_layPart 97 = .ok (.iload 4, 2) := by decide +kernel
theorem dX3_layPart_99 : decode cX3_layPart 99 = .ok (.invokestatic 86, 3) := by decide +kernel
theorem dX3_layPart_102 : decode cX3_layPart 102 = .ok (.istore 7, 2) := by decide +kernel
theorem dX3_layPart_104 : decode cX3_layPart 104 = .ok (.aload_n 0, 1) := by decide +kernel
theorem dX3_layPart_105 : decode cX3_layPart 105 = .ok (.getfield 14, 3) := by decide +kernel
theorem dX3_layPart_108 : decode cX3_layPart 108 = .ok (.iload 6, 2) := by decide +kernel
theorem dX3_layPart_110 : decode cX3_layPart 110 = .ok (.iload_n 3, 1) := by decide +kernel
theorem dX3_layPart_111 : decode cX3_layPart 111 = .ok (.iload 7, 2) := by decide +kernel
theorem dX3_layPart_113 : decode cX3_layPart 113 = .ok (.iadd, 1) := by decide +kernel
theorem dX3_layPart_114 : decode cX3_layPart 114 = .ok (.iconst 1, 1) := by decide +kernel
theorem dX3_layPart_115 : decode cX3_layPart 115 = .ok (.iadd, 1) := by decide +kernel
theorem dX3_layPart_116 : decode cX3_layPart 116 = .ok (.invokevirtual 60, 3) := by decide +kernel
theorem dX3_layPart_119 : decode cX3_layPart 119 = .ok (.aload_n 0, 1) := by decide +kernel
theorem dX3_layPart_120 : decode cX3_layPart 120 = .ok (.getfield 23, 3) := by decide +kernel
theorem dX3_layPart_123 : decode cX3_layPart 123 = .ok (.iload 6, 2) := by decide +kernel
theorem dX3_layPart_125 : decode cX3_layPart 125 = .ok (.iload 5, 2) := by decide +kernel
theorem dX3_layPart_127 : decode cX3_layPart 127 = .ok (.iload 4, 2) := by decide +kernel
theorem dX3_layPart_129 : decode cX3_layPart 129 = .ok (.iload 7, 2) := by decide +kernel
theorem dX3_layPart_131 : decode cX3_layPart 131 = .ok (.imul, 1) := by decide +kernel
theorem dX3_layPart_132 : decode cX3_layPart 132 = .ok (.isub, 1) := by decide +kernel
theorem dX3_layPart_133 : decode cX3_layPart 133 = .ok (.invokevirtual 60, 3) := by decide +kernel
theorem dX3_layPart_136 : decode cX3_layPart 136 = .ok (.iload 5, 2) := by decide +kernel
theorem dX3_layPart_138 : decode cX3_layPart 138 = .ok (.aload_n 1, 1) := by decide +kernel
theorem dX3_layPart_139 : decode cX3_layPart 139 = .ok (.getfield 79, 3) := by decide +kernel
theorem dX3_layPart_142 : decode cX3_layPart 142 = .ok (.iload 6, 2) := by decide +kernel
theorem dX3_layPart_144 : decode cX3_layPart 144 = .ok (.invokevirtual 53, 3) := by decide +kernel
theorem dX3_layPart_147 : decode cX3_layPart 147 = .ok (.iconst 1, 1) := by decide +kernel
theorem dX3_layPart_148 : decode cX3_layPart 148 = .ok (.if_icmp .ne 7, 3) := by decide +kernel
theorem dX3_layPart_151 : decode cX3_layPart 151 = .ok (.iconst 3, 1) := by decide +kernel
theorem dX3_layPart_152 : decode cX3_layPart 152 = .ok (.goto 4, 3) := by decide +kernel
theorem dX3_layPart_155 : decode cX3_layPart 155 = .ok (.iconst 1, 1) := by decide +kernel
theorem dX3_layPart_156 : decode cX3_layPart 156 = .ok (.aload_n 1, 1) := by decide +kernel
theorem dX3_layPart_157 : decode cX3_layPart 157 = .ok (.getfield 89, 3) := by decide +kernel
theorem dX3_layPart_160 : decode cX3_layPart 160 = .ok (.iload 6, 2) := by decide +kernel
theorem dX3_layPart_162 : decode cX3_layPart 162 = .ok (.invokevirtual 53, 3) := by decide +kernel
theorem dX3_layPart_165 : decode cX3_layPart 165 = .ok (.iadd, 1) := by decide +kernel
theorem dX3_layPart_166 : decode cX3_layPart 166 = .ok (.iadd, 1) := by decide +kernel
theorem dX3_layPart_167 : decode cX3_layPart 167 = .ok (.istore 5, 2) := by decide +kernel
theorem dX3_layPart_169 : decode cX3_layPart 169 = .ok (.iinc 6 1, 3) := by decide +kernel
theorem dX3_layPart_172 : decode cX3_layPart 172 = .ok (.goto (-152), 3) := by decide +kernel
theorem dX3_layPart_175 : decode cX3_layPart 175 = .ok (.iload 5, 2) := by decide +kernel
theorem dX3_layPart_177 : decode cX3_layPart 177 = .ok (.iload 4, 2) := by decide +kernel
theorem dX3_layPart_179 : decode cX3_layPart 179 = .ok (.invokestatic 82, 3) := by decide +kernel
theorem dX3_layPart_182 : decode cX3_layPart 182 = .ok (.ireturn, 1) := by decide +kernel
theorem dX3_pagesBeforeChapter_0 : decode cX3_pagesBeforeChapter 0 = .ok (.iload_n 1, 1) := by decide +kernel
theorem dX3_pagesBeforeChapter_1 : decode cX3_pagesBeforeChapter 1 = .ok (.iload_n 0, 1) := by decide +kernel
theorem dX3_pagesBeforeChapter_2 : decode cX3_pagesBeforeChapter 2 = .ok (.iadd, 1) := by decide +kernel
theorem dX3_pagesBeforeChapter_3 : decode cX3_pagesBeforeChapter 3 = .ok (.iconst 1, 1) := by decide +kernel
theorem dX3_pagesBeforeChapter_4 : decode cX3_pagesBeforeChapter 4 = .ok (.iadd, 1) := by decide +kernel
theorem dX3_pagesBeforeChapter_5 : decode cX3_pagesBeforeChapter 5 = .ok (.iconst 2, 1) := by decide +kernel
theorem dX3_pagesBeforeChapter_6 : decode cX3_pagesBeforeChapter 6 = .ok (.irem, 1) := by decide +kernel
theorem dX3_pagesBeforeChapter_7 : decode cX3_pagesBeforeChapter 7 = .ok (.ifCond .ne 7, 3) := by decide +kernel
theorem dX3_pagesBeforeChapter_10 : decode cX3_pagesBeforeChapter 10 = .ok (.iconst 1, 1) := by decide +kernel
theorem dX3_pagesBeforeChapter_11 : decode cX3_pagesBeforeChapter 11 = .ok (.goto 4, 3) := by decide +kernel
theorem dX3_pagesBeforeChapter_14 : decode cX3_pagesBeforeChapter 14 = .ok (.iconst 0, 1) := by decide +kernel
theorem dX3_pagesBeforeChapter_15 : decode cX3_pagesBeforeChapter 15 = .ok (.istore_n 3, 1) := by decide +kernel
theorem dX3_pagesBeforeChapter_16 : decode cX3_pagesBeforeChapter 16 = .ok (.iload_n 2, 1) := by decide +kernel
theorem dX3_pagesBeforeChapter_17 : decode cX3_pagesBeforeChapter 17 = .ok (.ifCond .eq 13, 3) := by decide +kernel
theorem dX3_pagesBeforeChapter_20 : decode cX3_pagesBeforeChapter 20 = .ok (.iload_n 3, 1) := by decide +kernel
theorem dX3_pagesBeforeChapter_21 : decode cX3_pagesBeforeChapter 21 = .ok (.ifCond .eq 9, 3) := by decide +kernel
theorem dX3_pagesBeforeChapter_24 : decode cX3_pagesBeforeChapter 24 = .ok (.iload_n 0, 1) := by decide +kernel
theorem dX3_pagesBeforeChapter_25 : decode cX3_pagesBeforeChapter 25 = .ok (.iconst 1, 1) := by decide +kernel
theorem dX3_pagesBeforeChapter_26 : decode cX3_pagesBeforeChapter 26 = .ok (.iadd, 1) := by decide +kernel
theorem dX3_pagesBeforeChapter_27 : decode cX3_pagesBeforeChapter 27 = .ok (.goto 4, 3) := by decide +kernel
theorem dX3_pagesBeforeChapter_30 : decode cX3_pagesBeforeChapter 30 = .ok (.iload_n 0, 1) := by decide +kernel
theorem dX3_pagesBeforeChapter_31 : decode cX3_pagesBeforeChapter 31 = .ok (.ireturn, 1) := by decide +kernel
theorem dX3_hasNumbersOf_0 : decode cX3_hasNumbersOf 0 = .ok (.iconst 0, 1) := by decide +kernel
theorem dX3_hasNumbersOf_1 : decode cX3_hasNumbersOf 1 = .ok (.istore_n 3, 1) := by decide +kernel
theorem dX3_hasNumbersOf_2 : decode cX3_hasNumbersOf 2 = .ok (.iload_n 3, 1) := by decide +kernel
theorem dX3_hasNumbersOf_3 : decode cX3_hasNumbersOf 3 = .ok (.iload_n 2, 1) := by decide +kernel
theorem dX3_hasNumbersOf_4 : decode cX3_hasNumbersOf 4 = .ok (.if_icmp .ge 30, 3) := by decide +kernel
theorem dX3_hasNumbersOf_7 : decode cX3_hasNumbersOf 7 = .ok (.aload_n 0, 1) := by decide +kernel
theorem dX3_hasNumbersOf_8 : decode cX3_hasNumbersOf 8 = .ok (.getfield 14, 3) := by decide +kernel
theorem dX3_hasNumbersOf_11 : decode cX3_hasNumbersOf 11 = .ok (.iload_n 3, 1) := by decide +kernel
theorem dX3_hasNumbersOf_12 : decode cX3_hasNumbersOf 12 = .ok (.invokevirtual 53, 3) := by decide +kernel
theorem dX3_hasNumbersOf_15 : decode cX3_hasNumbersOf 15 = .ok (.aload_n 1, 1) := by decide +kernel
theorem dX3_hasNumbersOf_16 : decode cX3_hasNumbersOf 16 = .ok (.getfield 14, 3) := by decide +kernel
theorem dX3_hasNumbersOf_19 : decode cX3_hasNumbersOf 19 = .ok (.iload_n 3, 1) := by decide +kernel
theorem dX3_hasNumbersOf_20 : decode cX3_hasNumbersOf 20 = .ok (.invokevirtual 53, 3) := by decide +kernel
theorem dX3_hasNumbersOf_23 : decode cX3_hasNumbersOf 23 = .ok (.if_icmp .eq 5, 3) := by decide +kernel
theorem dX3_hasNumbersOf_26 : decode cX3_hasNumbersOf 26 = .ok (.iconst 0, 1) := by decide +kernel
theorem dX3_hasNumbersOf_27 : decode cX3_hasNumbersOf 27 = .ok (.ireturn, 1) := by decide +kernel
theorem dX3_hasNumbersOf_28 : decode cX3_hasNumbersOf 28 = .ok (.iinc 3 1, 3) := by decide +kernel
theorem dX3_hasNumbersOf_31 : decode cX3_hasNumbersOf 31 = .ok (.goto (-29), 3) := by decide +kernel
theorem dX3_hasNumbersOf_34 : decode cX3_hasNumbersOf 34 = .ok (.iconst 1, 1) := by decide +kernel
theorem dX3_hasNumbersOf_35 : decode cX3_hasNumbersOf 35 = .ok (.ireturn, 1) := by decide +kernel
theorem dX3_isFirstOnPage_0 : decode cX3_isFirstOnPage 0 = .ok (.iload_n 1, 1) := by decide +kernel
theorem dX3_isFirstOnPage_1 : decode cX3_isFirstOnPage 1 = .ok (.ifCond .eq 24, 3) := by decide +kernel
theorem dX3_isFirstOnPage_4 : decode cX3_isFirstOnPage 4 = .ok (.aload_n 0, 1) := by decide +kernel
theorem dX3_isFirstOnPage_5 : decode cX3_isFirstOnPage 5 = .ok (.getfield 20, 3) := by decide +kernel
theorem dX3_isFirstOnPage_8 : decode cX3_isFirstOnPage 8 = .ok (.iload_n 1, 1) := by decide +kernel
theorem dX3_isFirstOnPage_9 : decode cX3_isFirstOnPage 9 = .ok (.iconst 1, 1) := by decide +kernel
theorem dX3_isFirstOnPage_10 : decode cX3_isFirstOnPage 10 = .ok (.isub, 1) := by decide +kernel
theorem dX3_isFirstOnPage_11 : decode cX3_isFirstOnPage 11 = .ok (.invokevirtual 53, 3) := by decide +kernel
theorem dX3_isFirstOnPage_14 : decode cX3_isFirstOnPage 14 = .ok (.aload_n 0, 1) := by decide +kernel
theorem dX3_isFirstOnPage_15 : decode cX3_isFirstOnPage 15 = .ok (.getfield 20, 3) := by decide +kernel
theorem dX3_isFirstOnPage_18 : decode cX3_isFirstOnPage 18 = .ok (.iload_n 1, 1) := by decide +kernel
theorem dX3_isFirstOnPage_19 : decode cX3_isFirstOnPage 19 = .ok (.invokevirtual 53, 3) := by decide +kernel
theorem dX3_isFirstOnPage_22 : decode cX3_isFirstOnPage 22 = .ok (.if_icmp .eq 7, 3) := by decide +kernel
theorem dX3_isFirstOnPage_25 : decode cX3_isFirstOnPage 25 = .ok (.iconst 1, 1) := by decide +kernel
theorem dX3_isFirstOnPage_26 : decode cX3_isFirstOnPage 26 = .ok (.goto 4, 3) := by decide +kernel
theorem dX3_isFirstOnPage_29 : decode cX3_isFirstOnPage 29 = .ok (.iconst 0, 1) := by decide +kernel
theorem dX3_isFirstOnPage_30 : decode cX3_isFirstOnPage 30 = .ok (.ireturn, 1) := by decide +kernel
theorem dX3_beginners_0 : decode cX3_beginners 0 = .ok (.iconst 0, 1) := by decide +kernel
theorem dX3_beginners_1 : decode cX3_beginners 1 = .ok (.istore_n 3, 1) := by decide +kernel
theorem dX3_beginners_2 : decode cX3_beginners 2 = .ok (.iconst 0, 1) := by decide +kernel
theorem dX3_beginners_3 : decode cX3_beginners 3 = .ok (.istore 4, 2) := by decide +kernel
theorem dX3_beginners_5 : decode cX3_beginners 5 = .ok (.iload 4, 2) := by decide +kernel
theorem dX3_beginners_7 : decode cX3_beginners 7 = .ok (.iload_n 2, 1) := by decide +kernel
theorem dX3_beginners_8 : decode cX3_beginners 8 = .ok (.if_icmp .ge 32, 3) := by decide +kernel
theorem dX3_beginners_11 : decode cX3_beginners 11 = .ok (.aload_n 0, 1) := by decide +kernel
theorem dX3_beginners_12 : decode cX3_beginners 12 = .ok (.getfield 20, 3) := by decide +kernel
theorem dX3_beginners_15 : decode cX3_beginners 15 = .ok (.iload 4, 2) := by decide +kernel
theorem dX3_beginners_17 : decode cX3_beginners 17 = .ok (.invokevirtual 53, 3) := by decide +kernel
theorem dX3_beginners_20 : decode cX3_beginners 20 = .ok (.aload_n 0, 1) := by decide +kernel
theorem dX3_beginners_21 : decode cX3_beginners 21 = .ok (.getfield 20, 3) := by decide +kernel
theorem dX3_beginners_24 : decode cX3_beginners 24 = .ok (.iload_n 1, 1) := by decide +kernel
theorem dX3_beginners_25 : decode cX3_beginners 25 = .ok (.invokevirtual 53, 3) := by decide +kernel
theorem dX3_beginners_28 : decode cX3_beginners 28 = .ok (.if_icmp .ne 6, 3) := by decide +kernel
theorem dX3_beginners_31 : decode cX3_beginners 31 = .ok (.iinc 3 1, 3) := by decide +kernel
theorem dX3_beginners_34 : decode cX3_beginners 34 = .ok (.iinc 4 1, 3) := by decide +kernel
theorem dX3_beginners_37 : decode cX3_beginners 37 = .ok (.goto (-32), 3) := by decide +kernel
theorem dX3_beginners_40 : decode cX3_beginners 40 = .ok (.iload_n 3, 1) := by decide +kernel
theorem dX3_beginners_41 : decode cX3_beginners 41 = .ok (.ireturn, 1) := by decide +kernel
theorem dX4_init_0 : decode cX4_init 0 = .ok (.aload_n 0, 1) := by decide +kernel
theorem dX4_init_1 : decode cX4_init 1 = .ok (.invokespecial 3, 3) := by decide +kernel
theorem dX4_init_4 : decode cX4_init 4 = .ok (.aload_n 0, 1) := by decide +kernel
theorem dX4_init_5 : decode cX4_init 5 = .ok (.iconst 0, 1) := by decide +kernel
theorem dX4_init_6 : decode cX4_init 6 = .ok (.putfield 9, 3) := by decide +kernel
theorem dX4_init_9 : decode cX4_init 9 = .ok (.aload_n 0, 1) := by decide +kernel
theorem dX4_init_10 : decode cX4_init 10 = .ok (.iconst (-1), 1) := by decide +kernel
theorem dX4_init_11 : decode cX4_init 11 = .ok (.putfield 15, 3) := by decide +kernel
theorem dX4_init_14 : decode cX4_init 14 = .ok (.aload_n 0, 1) := by decide +kernel
theorem dX4_init_15 : decode cX4_init 15 = .ok (.new 18, 3) := by decide +kernel
theorem dX4_init_18 : decode cX4_init 18 = .ok (.dup, 1) := by decide +kernel
theorem dX4_init_19 : decode cX4_init 19 = .ok (.bipush 8, 2) := by decide +kernel
theorem dX4_init_21 : decode cX4_init 21 = .ok (.invokespecial 20, 3) := by decide +kernel
theorem dX4_init_24 : decode cX4_init 24 = .ok (.putfield 23, 3) := by decide +kernel
theorem dX4_init_27 : decode cX4_init 27 = .ok (.aload_n 0, 1) := by decide +kernel
theorem dX4_init_28 : decode cX4_init 28 = .ok (.iconst 0, 1) := by decide +kernel
theorem dX4_init_29 : decode cX4_init 29 = .ok (.putfield 27, 3) := by decide +kernel
theorem dX4_init_32 : decode cX4_init 32 = .ok (.aload_n 0, 1) := by decide +kernel
theorem dX4_init_33 : decode cX4_init 33 = .ok (.new 30, 3) := by decide +kernel
theorem dX4_init_36 : decode cX4_init 36 = .ok (.dup, 1) := by decide +kernel
theorem dX4_init_37 : decode cX4_init 37 = .ok (.iconst 0, 1) := by decide +kernel
theorem dX4_init_38 : decode cX4_init 38 = .ok (.invokespecial 32, 3) := by decide +kernel
theorem dX4_init_41 : decode cX4_init 41 = .ok (.putfield 33, 3) := by decide +kernel
theorem dX4_init_44 : decode cX4_init 44 = .ok (.aload_n 0, 1) := by decide +kernel
theorem dX4_init_45 : decode cX4_init 45 = .ok (.iconst 0, 1) := by decide +kernel
theorem dX4_init_46 : decode cX4_init 46 = .ok (.putfield 37, 3) := by decide +kernel
theorem dX4_init_49 : decode cX4_init 49 = .ok (.aload_n 0, 1) := by decide +kernel
theorem dX4_init_50 : decode cX4_init 50 = .ok (.iconst 0, 1) := by decide +kernel
theorem dX4_init_51 : decode cX4_init 51 = .ok (.putfield 40, 3) := by decide +kernel
theorem dX4_init_54 : decode cX4_init 54 = .ok (.aload_n 0, 1) := by decide +kernel
theorem dX4_init_55 : decode cX4_init 55 = .ok (.iconst 0, 1) := by decide +kernel
theorem dX4_init_56 : decode cX4_init 56 = .ok (.putfield 43, 3) := by decide +kernel
theorem dX4_init_59 : decode cX4_init 59 = .ok (.aload_n 0, 1) := by decide +kernel
theorem dX4_init_60 : decode cX4_init 60 = .ok (.iconst 0, 1) := by decide +kernel
theorem dX4_init_61 : decode cX4_init 61 = .ok (.putfield 46, 3) := by decide +kernel
theorem dX4_init_64 : decode cX4_init 64 = .ok (.aload_n 0, 1) := by decide +kernel
theorem dX4_init_65 : decode cX4_init 65 = .ok (.iconst 0, 1) := by decide +kernel
theorem dX4_init_66 : decode cX4_init 66 = .ok (.putfield 49, 3) := by decide +kernel
theorem dX4_init_69 : decode cX4_init 69 = .ok (.aload_n 0, 1) := by decide +kernel
theorem dX4_init_70 : decode cX4_init 70 = .ok (.iconst 0, 1) := by decide +kernel
theorem dX4_init_71 : decode cX4_init 71 = .ok (.putfield 53, 3) := by decide +kernel
theorem dX4_init_74 : decode cX4_init 74 = .ok (.aload_n 0, 1) := by decide +kernel
theorem dX4_init_75 : decode cX4_init 75 = .ok (.iconst 0, 1) := by decide +kernel
theorem dX4_init_76 : decode cX4_init 76 = .ok (.putfield 56, 3) := by decide +kernel
theorem dX4_init_79 : decode cX4_init 79 = .ok (.return_, 1) := by decide +kernel
theorem dX4_readBook_0 : decode cX4_readBook 0 = .ok (.aload_n 2, 1) := by decide +kernel
theorem dX4_readBook_1 : decode cX4_readBook 1 = .ok (.invokevirtual 59, 3) := by decide +kernel
theorem dX4_readBook_4 : decode cX4_readBook 4 = .ok (.aload_n 0, 1) := by decide +kernel
theorem dX4_readBook_5 : decode cX4_readBook 5 = .ok (.iconst 0, 1) := by decide +kernel
theorem dX4_readBook_6 : decode cX4_readBook 6 = .ok (.putfield 49, 3) := by decide +kernel
theorem dX4_readBook_9 : decode cX4_readBook 9 = .ok (.aload_n 0, 1) := by decide +kernel
theorem dX4_readBook_10 : decode cX4_readBook 10 = .ok (.iconst 0, 1) := by decide +kernel
theorem dX4_readBook_11 : decode cX4_readBook 11 = .ok (.putfield 53, 3) := by decide +kernel
theorem dX4_readBook_14 : decode cX4_readBook 14 = .ok (.aload_n 0, 1) := by decide +kernel
theorem dX4_readBook_15 : decode cX4_readBook 15 = .ok (.iconst 0, 1) := by decide +kernel
theorem dX4_readBook_16 : decode cX4_readBook 16 = .ok (.putfield 56, 3) := by decide +kernel
theorem dX4_readBook_19 : decode cX4_readBook 19 = .ok (.aload_n 0, 1) := by decide +kernel
theorem dX4_readBook_20 : decode cX4_readBook 20 = .ok (.aload_n 1, 1) := by decide +kernel
theorem dX4_readBook_21 : decode cX4_readBook 21 = .ok (.invokevirtual 64, 3) := by decide +kernel
theorem dX4_readBook_24 : decode cX4_readBook 24 = .ok (.aload_n 0, 1) := by decide +kernel
theorem dX4_readBook_25 : decode cX4_readBook 25 = .ok (.aload_n 2, 1) := by decide +kernel
theorem dX4_readBook_26 : decode cX4_readBook 26 = .ok (.invokevirtual 68, 3) := by decide +kernel
theorem dX4_readBook_29 : decode cX4_readBook 29 = .ok (.ifCond .ne 5, 3) := by decide +kernel
theorem dX4_readBook_32 : decode cX4_readBook 32 = .ok (.iconst 0, 1) := by decide +kernel
theorem dX4_readBook_33 : decode cX4_readBook 33 = .ok (.ireturn, 1) := by decide +kernel
theorem dX4_readBook_34 : decode cX4_readBook 34 = .ok (.iconst 0, 1) := by decide +kernel
theorem dX4_readBook_35 : decode cX4_readBook 35 = .ok (.istore_n 3, 1) := by decide +kernel
theorem dX4_readBook_36 : decode cX4_readBook 36 = .ok (.iload_n 3, 1) := by decide +kernel
theorem dX4_readBook_37 : decode cX4_readBook 37 = .ok (.aload_n 1, 1) := by decide +kernel
theorem dX4_readBook_38 : decode cX4_readBook 38 = .ok (.invokevirtual 72, 3) := by decide +kernel
theorem dX4_readBook_41 : decode cX4_readBook 41 = .ok (.if_icmp .ge 26, 3) := by decide +kernel
theorem dX4_readBook_44 : decode cX4_readBook 44 = .ok (.aload_n 0, 1) := by decide +kernel
theorem dX4_readBook_45 : decode cX4_readBook 45 = .ok (.getfield 37, 3) := by decide +kernel
theorem dX4_readBook_48 : decode cX4_readBook 48 = .ok (.ifCond .eq 19, 3) := by decide +kernel
theorem dX4_readBook_51 : decode cX4_readBook 51 = .ok (.aload_n 0, 1) := by decide +kernel
theorem dX4_readBook_52 : decode cX4_readBook 52 = .ok (.aload_n 2, 1) := by decide +kernel
theorem dX4_readBook_53 : decode cX4_readBook 53 = .ok (.invokevirtual 76, 3) := by decide +kernel
theorem dX4_readBook_56 : decode cX4_readBook 56 = .ok (.ifCond .ne 5, 3) := by decide +kernel
theorem dX4_readBook_59 : decode cX4_readBook 59 = .ok (.iconst 0, 1) := by decide +kernel
theorem dX4_readBook_60 : decode cX4_readBook 60 = .ok (.ireturn, 1) := by decide +kernel
theorem dX4_readBook_61 : decode cX4_readBook 61 = .ok (.iinc 3 1, 3) := by decide +kernel
theorem dX4_readBook_64 : decode cX4_readBook 64 = .ok (.goto (-28), 3) := by decide +kernel
theorem dX4_readBook_67 : decode cX4_readBook 67 = .ok (.iconst 1, 1) := by decide +kernel
theorem dX4_readBook_68 : decode cX4_readBook 68 = .ok (.ireturn, 1) := by decide +kernel
theorem dX4_readTitle_0 : decode cX4_readTitle 0 = .ok (.aload_n 0, 1) := by decide +kernel
theorem dX4_readTitle_1 : decode cX4_readTitle 1 = .ok (.aload_n 1, 1) := by decide +kernel
theorem dX4_readTitle_2 : decode cX4_readTitle 2 = .ok (.invokevirtual 64, 3) := by decide +kernel
theorem dX4_readTitle_5 : decode cX4_readTitle 5 = .ok (.aload_n 0, 1) := by decide +kernel
theorem dX4_readTitle_6 : decode cX4_readTitle 6 = .ok (.invokevirtual 79, 3) := by decide +kernel
theorem dX4_readTitle_9 : decode cX4_readTitle 9 = .ok (.ifCond .eq 14, 3) := by decide +kernel
theorem dX4_readTitle_12 : decode cX4_readTitle 12 = .ok (.aload_n 0, 1) := by decide +kernel
theorem dX4_readTitle_13 : decode cX4_readTitle 13 = .ok (.getfield 37, 3) := by decide +kernel
theorem dX4_readTitle_16 : decode cX4_readTitle 16 = .ok (.ifCond .ne 7, 3) := by decide +kernel
theorem dX4_readTitle_19 : decode cX4_readTitle 19 = .ok (.iconst 1, 1) := by decide +kernel
theorem dX4_readTitle_20 : decode cX4_readTitle 20 = .ok (.goto 4, 3) := by decide +kernel
theorem dX4_readTitle_23 : decode cX4_readTitle 23 = .ok (.iconst 0, 1) := by decide +kernel
theorem dX4_readTitle_24 : decode cX4_readTitle 24 = .ok (.ireturn, 1) := by decide +kernel
theorem dX4_start_0 : decode cX4_start 0 = .ok (.aload_n 0, 1) := by decide +kernel
theorem dX4_start_1 : decode cX4_start 1 = .ok (.aload_n 1, 1) := by decide +kernel
theorem dX4_start_2 : decode cX4_start 2 = .ok (.putfield 33, 3) := by decide +kernel
theorem dX4_start_5 : decode cX4_start 5 = .ok (.aload_n 0, 1) := by decide +kernel
theorem dX4_start_6 : decode cX4_start 6 = .ok (.iconst 0, 1) := by decide +kernel
theorem dX4_start_7 : decode cX4_start 7 = .ok (.putfield 9, 3) := by decide +kernel
theorem dX4_start_10 : decode cX4_start 10 = .ok (.aload_n 0, 1) := by decide +kernel
theorem dX4_start_11 : decode cX4_start 11 = .ok (.iconst (-1), 1) := by decide +kernel
theorem dX4_start_12 : decode cX4_start 12 = .ok (.putfield 15, 3) := by decide +kernel
theorem dX4_start_15 : decode cX4_start 15 = .ok (.aload_n 0, 1) := by decide +kernel
theorem dX4_start_16 : decode cX4_start 16 = .ok (.iconst 0, 1) := by decide +kernel
theorem dX4_start_17 : decode cX4_start 17 = .ok (.putfield 43, 3) := by decide +kernel
theorem dX4_start_20 : decode cX4_start 20 = .ok (.aload_n 0, 1) := by decide +kernel
theorem dX4_start_21 : decode cX4_start 21 = .ok (.invokevirtual 83, 3) := by decide +kernel
theorem dX4_start_24 : decode cX4_start 24 = .ok (.return_, 1) := by decide +kernel
theorem dX4_kindOf_0 : decode cX4_kindOf 0 = .ok (.iload_n 0, 1) := by decide +kernel
theorem dX4_kindOf_1 : decode cX4_kindOf 1 = .ok (.bipush 97, 2) := by decide +kernel
theorem dX4_kindOf_3 : decode cX4_kindOf 3 = .ok (.if_icmp .lt 11, 3) := by decide +kernel
theorem dX4_kindOf_6 : decode cX4_kindOf 6 = .ok (.iload_n 0, 1) := by decide +kernel
theorem dX4_kindOf_7 : decode cX4_kindOf 7 = .ok (.bipush 122, 2) := by decide +kernel
theorem dX4_kindOf_9 : decode cX4_kindOf 9 = .ok (.if_icmp .gt 5, 3) := by decide +kernel
theorem dX4_kindOf_12 : decode cX4_kindOf 12 = .ok (.iconst 1, 1) := by decide +kernel
theorem dX4_kindOf_13 : decode cX4_kindOf 13 = .ok (.ireturn, 1) := by decide +kernel
theorem dX4_kindOf_14 : decode cX4_kindOf 14 = .ok (.iload_n 0, 1) := by decide +kernel
theorem dX4_kindOf_15 : decode cX4_kindOf 15 = .ok (.bipush 48, 2) := by decide +kernel
theorem dX4_kindOf_17 : decode cX4_kindOf 17 = .ok (.if_icmp .lt 11, 3) := by decide +kernel
theorem dX4_kindOf_20 : decode cX4_kindOf 20 = .ok (.iload_n 0, 1) := by decide +kernel
theorem dX4_kindOf_21 : decode cX4_kindOf 21 = .ok (.bipush 57, 2) := by decide +kernel
theorem dX4_kindOf_23 : decode cX4_kindOf 23 = .ok (.if_icmp .gt 5, 3) := by decide +kernel
theorem dX4_kindOf_26 : decode cX4_kindOf 26 = .ok (.iconst 2, 1) := by decide +kernel
theorem dX4_kindOf_27 : decode cX4_kindOf 27 = .ok (.ireturn, 1) := by decide +kernel
theorem dX4_kindOf_28 : decode cX4_kindOf 28 = .ok (.iload_n 0, 1) := by decide +kernel
theorem dX4_kindOf_29 : decode cX4_kindOf 29 = .ok (.bipush 32, 2) := by decide +kernel
theorem dX4_kindOf_31 : decode cX4_kindOf 31 = .ok (.if_icmp .eq 9, 3) := by decide +kernel
theorem dX4_kindOf_34 : decode cX4_kindOf 34 = .ok (.iload_n 0, 1) := by decide +kernel
theorem dX4_kindOf_35 : decode cX4_kindOf 35 = .ok (.bipush 10, 2) := by decide +kernel
theorem dX4_kindOf_37 : decode cX4_kindOf 37 = .ok (.if_icmp .ne 7, 3) := by decide +kernel
theorem dX4_kindOf_40 : decode cX4_kindOf 40 = .ok (.iconst 4, 1) := by decide +kernel
theorem dX4_kindOf_41 : decode cX4_kindOf 41 = .ok (.goto 4, 3) := by decide +kernel
theorem dX4_kindOf_44 : decode cX4_kindOf 44 = .ok (.iconst 3, 1) := by decide +kernel
theorem dX4_kindOf_45 : decode cX4_kindOf 45 = .ok (.ireturn, 1) := by decide +kernel
theorem dX4_advance_0 : decode cX4_advance 0 = .ok (.aload_n 0, 1) := by decide +kernel
theorem dX4_advance_1 : decode cX4_advance 1 = .ok (.aload_n 0, 1) := by decide +kernel
theorem dX4_advance_2 : decode cX4_advance 2 = .ok (.getfield 43, 3) := by decide +kernel
theorem dX4_advance_5 : decode cX4_advance 5 = .ok (.putfield 40, 3) := by decide +kernel
theorem dX4_advance_8 : decode cX4_advance 8 = .ok (.aload_n 0, 1) := by decide +kernel
theorem dX4_advance_9 : decode cX4_advance 9 = .ok (.getfield 40, 3) := by decide +kernel
theorem dX4_advance_12 : decode cX4_advance 12 = .ok (.aload_n 0, 1) := by decide +kernel
theorem dX4_advance_13 : decode cX4_advance 13 = .ok (.getfield 33, 3) := by decide +kernel
theorem dX4_advance_16 : decode cX4_advance 16 = .ok (.invokevirtual 72, 3) := by decide +kernel
theorem dX4_advance_19 : decode cX4_advance 19 = .ok (.if_icmp .ge 34, 3) := by decide +kernel
theorem dX4_advance_22 : decode cX4_advance 22 = .ok (.aload_n 0, 1) := by decide +kernel
theorem dX4_advance_23 : decode cX4_advance 23 = .ok (.getfield 33, 3) := by decide +kernel
theorem dX4_advance_26 : decode cX4_advance 26 = .ok (.aload_n 0, 1) := by decide +kernel
theorem dX4_advance_27 : decode cX4_advance 27 = .ok (.getfield 40, 3) := by decide +kernel
theorem dX4_advance_30 : decode cX4_advance 30 = .ok (.invokevirtual 86, 3) := by decide +kernel
theorem dX4_advance_33 : decode cX4_advance 33 = .ok (.invokestatic 90, 3) := by decide +kernel
theorem dX4_advance_36 : decode cX4_advance 36 = .ok (.iconst 4, 1) := by decide +kernel
theorem dX4_advance_37 : decode cX4_advance 37 = .ok (.if_icmp .ne 16, 3) := by decide +kernel
theorem dX4_advance_40 : decode cX4_advance 40 = .ok (.aload_n 0, 1) := by decide +kernel
theorem dX4_advance_41 : decode cX4_advance 41 = .ok (.dup, 1) := by decide +kernel
theorem dX4_advance_42 : decode cX4_advance 42 = .ok (.getfield 40, 3) := by decide +kernel
theorem dX4_advance_45 : decode cX4_advance 45 = .ok (.iconst 1, 1) := by decide +kernel
theorem dX4_advance_46 : decode cX4_advance 46 = .ok (.iadd, 1) := by decide +kernel
theorem dX4_advance_47 : decode cX4_advance 47 = .ok (.putfield 40, 3) := by decide +kernel
theorem dX4_advance_50 : decode cX4_advance 50 = .ok (.goto (-42), 3) := by decide +kernel
theorem dX4_advance_53 : decode cX4_advance 53 = .ok (.aload_n 0, 1) := by decide +kernel
theorem dX4_advance_54 : decode cX4_advance 54 = .ok (.aload_n 0, 1) := by decide +kernel
theorem dX4_advance_55 : decode cX4_advance 55 = .ok (.getfield 40, 3) := by decide +kernel
theorem dX4_advance_58 : decode cX4_advance 58 = .ok (.aload_n 0, 1) := by decide +kernel
theorem dX4_advance_59 : decode cX4_advance 59 = .ok (.getfield 33, 3) := by decide +kernel
theorem dX4_advance_62 : decode cX4_advance 62 = .ok (.invokevirtual 72, 3) := by decide +kernel
theorem dX4_advance_65 : decode cX4_advance 65 = .ok (.if_icmp .ge 20, 3) := by decide +kernel
theorem dX4_advance_68 : decode cX4_advance 68 = .ok (.aload_n 0, 1) := by decide +kernel
theorem dX4_advance_69 : decode cX4_advance 69 = .ok (.getfield 33, 3) := by decide +kernel
theorem dX4_advance_72 : decode cX4_advance 72 = .ok (.aload_n 0, 1) := by decide +kernel
theorem dX4_advance_73 : decode cX4_advance 73 = .ok (.getfield 40, 3) := by decide +kernel
theorem dX4_advance_76 : decode cX4_advance 76 = .ok (.invokevirtual 86, 3) := by decide +kernel
theorem dX4_advance_79 : decode cX4_advance 79 = .ok (.invokestatic 90, 3) := by decide +kernel
theorem dX4_advance_82 : decode cX4_advance 82 = .ok (.goto 4, 3) := by decide +kernel
theorem dX4_advance_85 : decode cX4_advance 85 = .ok (.iconst 0, 1) := by decide +kernel
theorem dX4_advance_86 : decode cX4_advance 86 = .ok (.putfield 37, 3) := by decide +kernel
theorem dX4_advance_89 : decode cX4_advance 89 = .ok (.aload_n 0, 1) := by decide +kernel
theorem dX4_advance_90 : decode cX4_advance 90 = .ok (.getfield 37, 3) := by decide +kernel
theorem dX4_advance_93 : decode cX4_advance 93 = .ok (.iconst 3, 1) := by decide +kernel
theorem dX4_advance_94 : decode cX4_advance 94 = .ok (.if_icmp .ne 12, 3) := by decide +kernel
theorem dX4_advance_97 : decode cX4_advance 97 = .ok (.aload_n 0, 1) := by decide +kernel
theorem dX4_advance_98 : decode cX4_advance 98 = .ok (.getfield 40, 3) := by decide +kernel
theorem dX4_advance_101 : decode cX4_advance 101 = .ok (.iconst 1, 1) := by decide +kernel
theorem dX4_advance_102 : decode cX4_advance 102 = .ok (.iadd, 1) := by decide +kernel
theorem dX4_advance_103 : decode cX4_advance 103 = .ok (.goto 10, 3) := by decide +kernel
theorem dX4_advance_106 : decode cX4_advance 106 = .ok (.aload_n 0, 1) := by decide +kernel
theorem dX4_advance_107 : decode cX4_advance 107 = .ok (.getfield 33, 3) := by decide +kernel
theorem dX4_advance_110 : decode cX4_advance 110 = .ok (.invokevirtual 72, 3) := by decide +kernel
theorem dX4_advance_113 : decode cX4_advance 113 = .ok (.istore_n 1, 1) := by decide +kernel
theorem dX4_advance_114 : decode cX4_advance 114 = .ok (.aload_n 0, 1) := by decide +kernel
theorem dX4_advance_115 : decode cX4_advance 115 = .ok (.aload_n 0, 1) := by decide +kernel
theorem dX4_advance_116 : decode cX4_advance 116 = .ok (.getfield 40, 3) := by decide +kernel
theorem dX4_advance_119 : decode cX4_advance 119 = .ok (.putfield 43, 3) := by decide +kernel
theorem dX4_advance_122 : decode cX4_advance 122 = .ok (.aload_n 0, 1) := by decide +kernel
theorem dX4_advance_123 : decode cX4_advance 123 = .ok (.iconst 0, 1) := by decide +kernel
theorem dX4_advance_124 : decode cX4_advance 124 = .ok (.putfield 46, 3) := by decide +kernel
theorem dX4_advance_127 : decode cX4_advance 127 = .ok (.aload_n 0, 1) := by decide +kernel
theorem dX4_advance_128 : decode cX4_advance 128 = .ok (.getfield 43, 3) := by decide +kernel
theorem dX4_advance_131 : decode cX4_advance 131 = .ok (.iload_n 1, 1) := by decide +kernel
theorem dX4_advance_132 : decode cX4_advance 132 = .ok (.if_icmp .ge 80, 3) := by decide +kernel
theorem dX4_advance_135 : decode cX4_advance 135 = .ok (.aload_n 0, 1) := by decide +kernel
theorem dX4_advance_136 : decode cX4_advance 136 = .ok (.getfield 33, 3) := by decide +kernel
theorem dX4_advance_139 : decode cX4_advance 139 = .ok (.aload_n 0, 1) := by decide +kernel
theorem dX4_advance_140 : decode cX4_advance 140 = .ok (.getfield 43, 3) := by decide +kernel
theorem dX4_advance_143 : decode cX4_advance 143 = .ok (.invokevirtual 86, 3) := by decide +kernel
theorem dX4_advance_146 : decode cX4_advance 146 = .ok (.invokestatic 90, 3) := by decide +kernel
theorem dX4_advance_149 : decode cX4_advance 149 = .ok (.aload_n 0, 1) := by decide +kernel
theorem dX4_advance_150 : decode cX4_advance 150 = .ok (.getfield 37, 3) := by decide +kernel
theorem dX4_advance_153 : decode cX4_advance 153 = .ok (.if_icmp .ne 59, 3) := by decide +kernel
theorem dX4_advance_156 : decode cX4_advance 156 = .ok (.aload_n 0, 1) := by decide +kernel
theorem dX4_advance_157 : decode cX4_advance 157 = .ok (.aload_n 0, 1) := by decide +kernel
theorem dX4_advance_158 : decode cX4_advance 158 = .ok (.getfield 37, 3) := by decide +kernel
theorem dX4_advance_161 : decode cX4_advance 161 = .ok (.iconst 2, 1) := by decide +kernel
theorem dX4_advance_162 : decode cX4_advance 162 = .ok (.if_icmp .ne 33, 3) := by decide +kernel
theorem dX4_advance_165 : decode cX4_advance 165 = .ok (.aload_n 0, 1) := by decide +kernel
theorem dX4_advance_166 : decode cX4_advance 166 = .ok (.getfield 46, 3) := by decide +kernel
theorem dX4_advance_169 : decode cX4_advance 169 = .ok (.bipush 10, 2) := by decide +kernel
theorem dX4_advance_171 : decode cX4_advance 171 = .ok (.imul, 1) := by decide +kernel
theorem dX4_advance_172 : decode cX4_advance 172 = .ok (.aload_n 0, 1) := by decide +kernel
theorem dX4_advance_173 : decode cX4_advance 173 = .ok (.getfield 33, 3) := by decide +kernel
theorem dX4_advance_176 : decode cX4_advance 176 = .ok (.aload_n 0, 1) := by decide +kernel
theorem dX4_advance_177 : decode cX4_advance 177 = .ok (.getfield 43, 3) := by decide +kernel
theorem dX4_advance_180 : decode cX4_advance 180 = .ok (.invokevirtual 86, 3) := by decide +kernel
theorem dX4_advance_183 : decode cX4_advance 183 = .ok (.iadd, 1) := by decide +kernel
theorem dX4_advance_184 : decode cX4_advance 184 = .ok (.bipush 48, 2) := by decide +kernel
theorem dX4_advance_186 : decode cX4_advance 186 = .ok (.isub, 1) := by decide +kernel
theorem dX4_advance_187 : decode cX4_advance 187 = .ok (.ldc 93, 2) := by decide +kernel
theorem dX4_advance_189 : decode cX4_advance 189 = .ok (.invokestatic 94, 3) := by decide +kernel
theorem dX4_advance_192 : decode cX4_advance 192 = .ok (.goto 4, 3) := by decide +kernel
theorem dX4_advance_195 : decode cX4_advance 195 = .ok (.iconst 0, 1) := by decide +kernel
theorem dX4_advance_196 : decode cX4_advance 196 = .ok (.putfield 46, 3) := by decide +kernel
theorem dX4_advance_199 : decode cX4_advance 199 = .ok (.aload_n 0, 1) := by decide +kernel
theorem dX4_advance_200 : decode cX4_advance 200 = .ok (.dup, 1) := by decide +kernel
theorem dX4_advance_201 : decode cX4_advance 201 = .ok (.getfield 43, 3) := by decide +kernel
theorem dX4_advance_204 : decode cX4_advance 204 = .ok (.iconst 1, 1) := by decide +kernel
theorem dX4_advance_205 : decode cX4_advance 205 = .ok (.iadd, 1) := by decide +kernel
theorem dX4_advance_206 : decode cX4_advance 206 = .ok (.putfield 43, 3) := by decide +kernel
theorem dX4_advance_209 : decode cX4_advance 209 = .ok (.goto (-82), 3) := by decide +kernel
theorem dX4_advance_212 : decode cX4_advance 212 = .ok (.return_, 1) := by decide +kernel
theorem dX4_fail_0 : decode cX4_fail 0 = .ok (.aload_n 0, 1) := by decide +kernel
theorem dX4_fail_1 : decode cX4_fail 1 = .ok (.iload_n 1, 1) := by decide +kernel
theorem dX4_fail_2 : decode cX4_fail 2 = .ok (.putfield 9, 3) := by decide +kernel
theorem dX4_fail_5 : decode cX4_fail 5 = .ok (.aload_n 0, 1) := by decide +kernel
theorem dX4_fail_6 : decode cX4_fail 6 = .ok (.aload_n 0, 1) := by decide +kernel
theorem dX4_fail_7 : decode cX4_fail 7 = .ok (.getfield 40, 3) := by decide +kernel
theorem dX4_fail_10 : decode cX4_fail 10 = .ok (.putfield 15, 3) := by decide +kernel
theorem dX4_fail_13 : decode cX4_fail 13 = .ok (.iconst 0, 1) := by decide +kernel
theorem dX4_fail_14 : decode cX4_fail 14 = .ok (.ireturn, 1) := by decide +kernel
theorem dX4_isAt_0 : decode cX4_isAt 0 = .ok (.aload_n 0, 1) := by decide +kernel
theorem dX4_isAt_1 : decode cX4_isAt 1 = .ok (.getfield 37, 3) := by decide +kernel
theorem dX4_isAt_4 : decode cX4_isAt 4 = .ok (.iconst 1, 1) := by decide +kernel
theorem dX4_isAt_5 : decode cX4_isAt 5 = .ok (.if_icmp .ne 19, 3) := by decide +kernel
theorem dX4_isAt_8 : decode cX4_isAt 8 = .ok (.aload_n 0, 1) := by decide +kernel
theorem dX4_isAt_9 : decode cX4_isAt 9 = .ok (.getfield 43, 3) := by decide +kernel
theorem dX4_isAt_12 : decode cX4_isAt 12 = .ok (.aload_n 0, 1) := by decide +kernel
theorem dX4_isAt_13 : decode cX4_isAt 13 = .ok (.getfield 40, 3) := by decide +kernel
theorem dX4_isAt_16 : decode cX4_isAt 16 = .ok (.isub, 1) := by decide +kernel
theorem dX4_isAt_17 : decode cX4_isAt 17 = .ok (.aload_n 1, 1) := by decide +kernel
theorem dX4_isAt_18 : decode cX4_isAt 18 = .ok (.invokevirtual 100, 3) := by decide +kernel
theorem dX4_isAt_21 : decode cX4_isAt 21 = .ok (.if_icmp .eq 5, 3) := by decide +kernel
theorem dX4_isAt_24 : decode cX4_isAt 24 = .ok (.iconst 0, 1) := by decide +kernel
theorem dX4_isAt_25 : decode cX4_isAt 25 = .ok (.ireturn, 1) := by decide +kernel
theorem dX4_isAt_26 : decode cX4_isAt 26 = .ok (.iconst 0, 1) := by decide +kernel
theorem dX4_isAt_27 : decode cX4_isAt 27 = .ok (.istore_n 2, 1) := by decide +kernel
theorem dX4_isAt_28 : decode cX4_isAt 28 = .ok (.iload_n 2, 1) := by decide +kernel
theorem dX4_isAt_29 : decode cX4_isAt 29 = .ok (.aload_n 1, 1) := by decide +kernel
theorem dX4_isAt_30 : decode cX4_isAt 30 = .ok (.invokevirtual 100, 3) := by decide +kernel
theorem dX4_isAt_33 : decode cX4_isAt 33 = .ok (.if_icmp .ge 32, 3) := by decide +kernel
theorem dX4_isAt_36 : decode cX4_isAt 36 = .ok (.aload_n 0, 1) := by decide +kernel
theorem dX4_isAt_37 : decode cX4_isAt 37 = .ok (.getfield 33, 3) := by decide +kernel
theorem dX4_isAt_40 : decode cX4_isAt 40 = .ok (.aload_n 0, 1) := by decide +kernel
theorem dX4_isAt_41 : decode cX4_isAt 41 = .ok (.getfield 40, 3) := by decide +kernel
theorem dX4_isAt_44 : decode cX4_isAt 44 = .ok (.iload_n 2, 1) := by decide +kernel
theorem dX4_isAt_45 : decode cX4_isAt 45 = .ok (.iadd, 1) := by decide +kernel
theorem dX4_isAt_46 : decode cX4_isAt 46 = .ok (.invokevirtual 86, 3) := by decide +kernel
theorem dX4_isAt_49 : decode cX4_isAt 49 = .ok (.aload_n 1, 1) := by decide +kernel
theorem dX4_isAt_50 : decode cX4_isAt 50 = .ok (.iload_n 2, 1) := by decide +kernel
theorem dX4_isAt_51 : decode cX4_isAt 51 = .ok (.invokevirtual 103, 3) := by decide +kernel
theorem dX4_isAt_54 : decode cX4_isAt 54 = .ok (.if_icmp .eq 5, 3) := by decide +kernel
theorem dX4_isAt_57 : decode cX4_isAt 57 = .ok (.iconst 0, 1) := by decide +kernel
theorem dX4_isAt_58 : decode cX4_isAt 58 = .ok (.ireturn, 1) := by decide +kernel
theorem dX4_isAt_59 : decode cX4_isAt 59 = .ok (.iinc 2 1, 3) := by decide +kernel
theorem dX4_isAt_62 : decode cX4_isAt 62 = .ok (.goto (-34), 3) := by decide +kernel
theorem dX4_isAt_65 : decode cX4_isAt 65 = .ok (.iconst 1, 1) := by decide +kernel
theorem dX4_isAt_66 : decode cX4_isAt 66 = .ok (.ireturn, 1) := by decide +kernel
theorem dX4_semicolon_0 : decode cX4_semicolon 0 = .ok (.aload_n 0, 1) := by decide +kernel
theorem dX4_semicolon_1 : decode cX4_semicolon 1 = .ok (.getfield 37, 3) := by decide +kernel
theorem dX4_semicolon_4 : decode cX4_semicolon 4 = .ok (.iconst 3, 1) := by decide +kernel
theorem dX4_semicolon_5 : decode cX4_semicolon 5 = .ok (.if_icmp .ne 19, 3) := by decide +kernel
theorem dX4_semicolon_8 : decode cX4_semicolon 8 = .ok (.aload_n 0, 1) := by decide +kernel
theorem dX4_semicolon_9 : decode cX4_semicolon 9 = .ok (.getfield 33, 3) := by decide +kernel
theorem dX4_semicolon_12 : decode cX4_semicolon 12 = .ok (.aload_n 0, 1) := by decide +kernel
theorem dX4_semicolon_13 : decode cX4_semicolon 13 = .ok (.getfield 40, 3) := by decide +kernel
theorem dX4_semicolon_16 : decode cX4_semicolon 16 = .ok (.invokevirtual 86, 3) := by decide +kernel
theorem dX4_semicolon_19 : decode cX4_semicolon 19 = .ok (.bipush 59, 2) := by decide +kernel
theorem dX4_semicolon_21 : decode cX4_semicolon 21 = .ok (.if_icmp .eq 9, 3) := by decide +kernel
theorem dX4_semicolon_24 : decode cX4_semicolon 24 = .ok (.aload_n 0, 1) := by decide +kernel
theorem dX4_semicolon_25 : decode cX4_semicolon 25 = .ok (.iconst 1, 1) := by decide +kernel
theorem dX4_semicolon_26 : decode cX4_semicolon 26 = .ok (.invokevirtual 107, 3) := by decide +kernel
theorem dX4_semicolon_29 : decode cX4_semicolon 29 = .ok (.ireturn, 1) := by decide +kernel
theorem dX4_semicolon_30 : decode cX4_semicolon 30 = .ok (.aload_n 0, 1) := by decide +kernel
theorem dX4_semicolon_31 : decode cX4_semicolon 31 = .ok (.invokevirtual 83, 3) := by decide +kernel
theorem dX4_semicolon_34 : decode cX4_semicolon 34 = .ok (.iconst 1, 1) := by decide +kernel
theorem dX4_semicolon_35 : decode cX4_semicolon 35 = .ok (.ireturn, 1) := by decide +kernel
theorem dX4_number_0 : decode cX4_number 0 = .ok (.aload_n 0, 1) := by decide +kernel
theorem dX4_number_1 : decode cX4_number 1 = .ok (.aload_n 1, 1) := by decide +kernel
theorem dX4_number_2 : decode cX4_number 2 = .ok (.invokevirtual 111, 3) := by decide +kernel
theorem dX4_number_5 : decode cX4_number 5 = .ok (.ifCond .ne 9, 3) := by decide +kernel
theorem dX4_number_8 : decode cX4_number 8 = .ok (.aload_n 0, 1) := by decide +kernel
theorem dX4_number_9 : decode cX4_number 9 = .ok (.iconst 1, 1) := by decide +kernel
theorem dX4_number_10 : decode cX4_number 10 = .ok (.invokevirtual 107, 3) := by decide +kernel
theorem dX4_number_13 : decode cX4_number 13 = .ok (.ireturn, 1) := by decide +kernel
theorem dX4_number_14 : decode cX4_number 14 = .ok (.aload_n 0, 1) := by decide +kernel
theorem dX4_number_15 : decode cX4_number 15 = .ok (.invokevirtual 83, 3) := by decide +kernel
theorem dX4_number_18 : decode cX4_number 18 = .ok (.aload_n 0, 1) := by decide +kernel
theorem dX4_number_19 : decode cX4_number 19 = .ok (.getfield 37, 3) := by decide +kernel
theorem dX4_number_22 : decode cX4_number 22 = .ok (.iconst 2, 1) := by decide +kernel
theorem dX4_number_23 : decode cX4_number 23 = .ok (.if_icmp .eq 9, 3) := by decide +kernel
theorem dX4_number_26 : decode cX4_number 26 = .ok (.aload_n 0, 1) := by decide +kernel
theorem dX4_number_27 : decode cX4_number 27 = .ok (.iconst 1, 1) := by decide +kernel
theorem dX4_number_28 : decode cX4_number 28 = .ok (.invokevirtual 107, 3) := by decide +kernel
theorem dX4_number_31 : decode cX4_number 31 = .ok (.ireturn, 1) := by decide +kernel
theorem dX4_number_32 : decode cX4_number 32 = .ok (.aload_n 0, 1) := by decide +kernel
theorem dX4_number_33 : decode cX4_number 33 = .ok (.getfield 46, 3) := by decide +kernel
theorem dX4_number_36 : decode cX4_number 36 = .ok (.iload_n 2, 1) := by decide +kernel
theorem dX4_number_37 : decode cX4_number 37 = .ok (.if_icmp .lt 11, 3) := by decide +kernel
theorem dX4_number_40 : decode cX4_number 40 = .ok (.aload_n 0, 1) := by decide +kernel
theorem dX4_number_41 : decode cX4_number 41 = .ok (.getfield 46, 3) := by decide +kernel
theorem dX4_number_44 : decode cX4_number 44 = .ok (.iload_n 3, 1) := by decide +kernel
theorem dX4_number_45 : decode cX4_number 45 = .ok (.if_icmp .le 9, 3) := by decide +kernel
theorem dX4_number_48 : decode cX4_number 48 = .ok (.aload_n 0, 1) := by decide +kernel
theorem dX4_number_49 : decode cX4_number 49 = .ok (.iconst 2, 1) := by decide +kernel
theorem dX4_number_50 : decode cX4_number 50 = .ok (.invokevirtual 107, 3) := by decide +kernel
theorem dX4_number_53 : decode cX4_number 53 = .ok (.ireturn, 1) := by decide +kernel
theorem dX4_number_54 : decode cX4_number 54 = .ok (.aload 4, 2) := by decide +kernel
theorem dX4_number_56 : decode cX4_number 56 = .ok (.iload 5, 2) := by decide +kernel
theorem dX4_number_58 : decode cX4_number 58 = .ok (.aload_n 0, 1) := by decide +kernel
theorem dX4_number_59 : decode cX4_number 59 = .ok (.getfield 46, 3) := by decide +kernel
theorem dX4_number_62 : decode cX4_number 62 = .ok (.invokevirtual 115, 3) := by decide +kernel
theorem dX4_number_65 : decode cX4_number 65 = .ok (.aload_n 0, 1) := by decide +kernel
theorem dX4_number_66 : decode cX4_number 66 = .ok (.invokevirtual 83, 3) := by decide +kernel
theorem dX4_number_69 : decode cX4_number 69 = .ok (.iconst 1, 1) := by decide +kernel
theorem dX4_number_70 : decode cX4_number 70 = .ok (.ireturn, 1) := by decide +kernel
theorem dX4_bookStatement_0 : decode cX4_bookStatement 0 = .ok (.aload_n 0, 1) := by decide +kernel
theorem dX4_bookStatement_1 : decode cX4_bookStatement 1 = .ok (.ldc 121, 2) := by decide +kernel
theorem dX4_bookStatement_3 : decode cX4_bookStatement 3 = .ok (.invokevirtual 111, 3) := by decide +kernel
theorem dX4_bookStatement_6 : decode cX4_bookStatement 6 = .ok (.ifCond .ne 9, 3) := by decide +kernel
theorem dX4_bookStatement_9 : decode cX4_bookStatement 9 = .ok (.aload_n 0, 1) := by decide +kernel
theorem dX4_bookStatement_10 : decode cX4_bookStatement 10 = .ok (.iconst 1, 1) := by decide +kernel
theorem dX4_bookStatement_11 : decode cX4_bookStatement 11 = .ok (.invokevirtual 107, 3) := by decide +kernel
theorem dX4_bookStatement_14 : decode cX4_bookStatement 14 = .ok (.ireturn, 1) := by decide +kernel
theorem dX4_bookStatement_15 : decode cX4_bookStatement 15 = .ok (.aload_n 0, 1) := by decide +kernel
theorem dX4_bookStatement_16 : decode cX4_bookStatement 16 = .ok (.invokevirtual 83, 3) := by decide +kernel
theorem dX4_bookStatement_19 : decode cX4_bookStatement 19 = .ok (.aload_n 0, 1) := by decide +kernel
theorem dX4_bookStatement_20 : decode cX4_bookStatement 20 = .ok (.ldc 123, 2) := by decide +kernel
theorem dX4_bookStatement_22 : decode cX4_bookStatement 22 = .ok (.bipush 20, 2) := by decide +kernel
theorem dX4_bookStatement_24 : decode cX4_bookStatement 24 = .ok (.bipush 120, 2) := by decide +kernel
theorem dX4_bookStatement_26 : decode cX4_bookStatement 26 = .ok (.aload_n 1, 1) := by decide +kernel
theorem dX4_bookStatement_27 : decode cX4_bookStatement 27 = .ok (.getfield 125, 3) := by decide +kernel
theorem dX4_bookStatement_30 : decode cX4_bookStatement 30 = .ok (.iconst 0, 1) := by decide +kernel
theorem dX4_bookStatement_31 : decode cX4_bookStatement 31 = .ok (.invokevirtual 129, 3) := by decide +kernel
theorem dX4_bookStatement_34 : decode cX4_bookStatement 34 = .ok (.ifCond .eq 48, 3) := by decide +kernel
theorem dX4_bookStatement_37 : decode cX4_bookStatement 37 = .ok (.aload_n 0, 1) := by decide +kernel
theorem dX4_bookStatement_38 : decode cX4_bookStatement 38 = .ok (.ldc 133, 2) := by decide +kernel
theorem dX4_bookStatement_40 : decode cX4_bookStatement 40 = .ok (.iconst 2, 1) := by decide +kernel
theorem dX4_bookStatement_41 : decode cX4_bookStatement 41 = .ok (.bipush 60, 2) := by decide +kernel
theorem dX4_bookStatement_43 : decode cX4_bookStatement 43 = .ok (.aload_n 1, 1) := by decide +kernel
theorem dX4_bookStatement_44 : decode cX4_bookStatement 44 = .ok (.getfield 125, 3) := by decide +kernel
theorem dX4_bookStatement_47 : decode cX4_bookStatement 47 = .ok (.iconst 1, 1) := by decide +kernel
theorem dX4_bookStatement_48 : decode cX4_bookStatement 48 = .ok (.invokevirtual 129, 3) := by decide +kernel
theorem dX4_bookStatement_51 : decode cX4_bookStatement 51 = .ok (.ifCond .eq 31, 3) := by decide +kernel
theorem dX4_bookStatement_54 : decode cX4_bookStatement 54 = .ok (.aload_n 0, 1) := by decide +kernel
theorem dX4_bookStatement_55 : decode cX4_bookStatement 55 = .ok (.ldc 135, 2) := by decide +kernel
theorem dX4_bookStatement_57 : decode cX4_bookStatement 57 = .ok (.iconst 5, 1) := by decide +kernel
theorem dX4_bookStatement_58 : decode cX4_bookStatement 58 = .ok (.bipush 99, 2) := by decide +kernel
theorem dX4_bookStatement_60 : decode cX4_bookStatement 60 = .ok (.aload_n 1, 1) := by decide +kernel
theorem dX4_bookStatement_61 : decode cX4_bookStatement 61 = .ok (.getfield 125, 3) := by decide +kernel
theorem dX4_bookStatement_64 : decode cX4_bookStatement 64 = .ok (.iconst 2, 1) := by decide +kernel
theorem dX4_bookStatement_65 : decode cX4_bookStatement 65 = .ok (.invokevirtual 129, 3) := by decide +kernel
theorem dX4_bookStatement_68 : decode cX4_bookStatement 68 = .ok (.ifCond .eq 14, 3) := by decide +kernel
theorem dX4_bookStatement_71 : decode cX4_bookStatement 71 = .ok (.aload_n 0, 1) := by decide +kernel
theorem dX4_bookStatement_72 : decode cX4_bookStatement 72 = .ok (.invokevirtual 137, 3) := by decide +kernel
theorem dX4_bookStatement_75 : decode cX4_bookStatement 75 = .ok (.ifCond .eq 7, 3) := by decide +kernel
theorem dX4_bookStatement_78 : decode cX4_bookStatement 78 = .ok (.iconst 1, 1) := by decide +kernel
theorem dX4_bookStatement_79 : decode cX4_bookStatement 79 = .ok (.goto 4, 3) := by decide +kernel
theorem dX4_bookStatement_82 : decode cX4_bookStatement 82 = .ok (.iconst 0, 1) := by decide +kernel
theorem dX4_bookStatement_83 : decode cX4_bookStatement 83 = .ok (.ireturn, 1) := by decide +kernel
theorem dX4_statement_0 : decode cX4_statement 0 = .ok (.aload_n 0, 1) := by decide +kernel
theorem dX4_statement_1 : decode cX4_statement 1 = .ok (.ldc 140, 2) := by decide +kernel
theorem dX4_statement_3 : decode cX4_statement 3 = .ok (.invokevirtual 111, 3) := by decide +kernel
theorem dX4_statement_6 : decode cX4_statement 6 = .ok (.ifCond .eq 9, 3) := by decide +kernel
theorem dX4_statement_9 : decode cX4_statement 9 = .ok (.aload_n 0, 1) := by decide +kernel
theorem dX4_statement_10 : decode cX4_statement 10 = .ok (.aload_n 1, 1) := by decide +kernel
theorem dX4_statement_11 : decode cX4_statement 11 = .ok (.invokevirtual 142, 3) := by decide +kernel
theorem dX4_statement_14 : decode cX4_statement 14 = .ok (.ireturn, 1) := by decide +kernel
theorem dX4_statement_15 : decode cX4_statement 15 = .ok (.aload_n 0, 1) := by decide +kernel
theorem dX4_statement_16 : decode cX4_statement 16 = .ok (.ldc 145, 2) := by decide +kernel
theorem dX4_statement_18 : decode cX4_statement 18 = .ok (.invokevirtual 111, 3) := by decide +kernel
theorem dX4_statement_21 : decode cX4_statement 21 = .ok (.ifCond .eq 9, 3) := by decide +kernel
theorem dX4_statement_24 : decode cX4_statement 24 = .ok (.aload_n 0, 1) := by decide +kernel
theorem dX4_statement_25 : decode cX4_statement 25 = .ok (.aload_n 1, 1) := by decide +kernel
theorem dX4_statement_26 : decode cX4_statement 26 = .ok (.invokevirtual 147, 3) := by decide +kernel
theorem dX4_statement_29 : decode cX4_statement 29 = .ok (.ireturn, 1) := by decide +kernel
theorem dX4_statement_30 : decode cX4_statement 30 = .ok (.aload_n 0, 1) := by decide +kernel
theorem dX4_statement_31 : decode cX4_statement 31 = .ok (.ldc 150, 2) := by decide +kernel
theorem dX4_statement_33 : decode cX4_statement 33 = .ok (.invokevirtual 111, 3) := by decide +kernel
theorem dX4_statement_36 : decode cX4_statement 36 = .ok (.ifCond .eq 8, 3) := by decide +kernel
theorem dX4_statement_39 : decode cX4_statement 39 = .ok (.aload_n 0, 1) := by decide +kernel
theorem dX4_statement_40 : decode cX4_statement 40 = .ok (.invokevirtual 152, 3) := by decide +kernel
theorem dX4_statement_43 : decode cX4_statement 43 = .ok (.ireturn, 1) := by decide +kernel
theorem dX4_statement_44 : decode cX4_statement 44 = .ok (.aload_n 0, 1) := by decide +kernel
theorem dX4_statement_45 : decode cX4_statement 45 = .ok (.ldc 155, 2) := by decide +kernel
theorem dX4_statement_47 : decode cX4_statement 47 = .ok (.invokevirtual 111, 3) := by decide +kernel
theorem dX4_statement_50 : decode cX4_statement 50 = .ok (.ifCond .eq 9, 3) := by decide +kernel
theorem dX4_statement_53 : decode cX4_statement 53 = .ok (.aload_n 0, 1) := by decide +kernel
theorem dX4_statement_54 : decode cX4_statement 54 = .ok (.aload_n 1, 1) := by decide +kernel
theorem dX4_statement_55 : decode cX4_statement 55 = .ok (.invokevirtual 157, 3) := by decide +kernel
theorem dX4_statement_58 : decode cX4_statement 58 = .ok (.ireturn, 1) := by decide +kernel
theorem dX4_statement_59 : decode cX4_statement 59 = .ok (.aload_n 0, 1) := by decide +kernel
theorem dX4_statement_60 : decode cX4_statement 60 = .ok (.iconst 1, 1) := by decide +kernel
theorem dX4_statement_61 : decode cX4_statement 61 = .ok (.invokevirtual 107, 3) := by decide +kernel
theorem dX4_statement_64 : decode cX4_statement 64 = .ok (.ireturn, 1) := by decide +kernel
theorem dX4_styleStatement_0 : decode cX4_styleStatement 0 = .ok (.aload_n 0, 1) := by decide +kernel
theorem dX4_styleStatement_1 : decode cX4_styleStatement 1 = .ok (.getfield 49, 3) := by decide +kernel
theorem dX4_styleStatement_4 : decode cX4_styleStatement 4 = .ok (.ifCond .eq 9, 3) := by decide +kernel
theorem dX4_styleStatement_7 : decode cX4_styleStatement 7 = .ok (.aload_n 0, 1) := by decide +kernel
theorem dX4_styleStatement_8 : decode cX4_styleStatement 8 = .ok (.iconst 3, 1) := by decide +kernel
theorem dX4_styleStatement_9 : decode cX4_styleStatement 9 = .ok (.invokevirtual 107, 3) := by decide +kernel
theorem dX4_styleStatement_12 : decode cX4_styleStatement 12 = .ok (.ireturn, 1) := by decide +kernel
theorem dX4_styleStatement_13 : decode cX4_styleStatement 13 = .ok (.aload_n 0, 1) := by decide +kernel
theorem dX4_styleStatement_14 : decode cX4_styleStatement 14 = .ok (.iconst 1, 1) := by decide +kernel
theorem dX4_styleStatement_15 : decode cX4_styleStatement 15 = .ok (.putfield 49, 3) := by decide +kernel
theorem dX4_styleStatement_18 : decode cX4_styleStatement 18 = .ok (.aload_n 0, 1) := by decide +kernel
theorem dX4_styleStatement_19 : decode cX4_styleStatement 19 = .ok (.invokevirtual 83, 3) := by decide +kernel
theorem dX4_styleStatement_22 : decode cX4_styleStatement 22 = .ok (.aload_n 0, 1) := by decide +kernel
theorem dX4_styleStatement_23 : decode cX4_styleStatement 23 = .ok (.ldc 160, 2) := by decide +kernel
theorem dX4_styleStatement_25 : decode cX4_styleStatement 25 = .ok (.iconst 0, 1) := by decide +kernel
theorem dX4_styleStatement_26 : decode cX4_styleStatement 26 = .ok (.bipush 9, 2) := by decide +kernel
theorem dX4_styleStatement_28 : decode cX4_styleStatement 28 = .ok (.aload_n 1, 1) := by decide +kernel
theorem dX4_styleStatement_29 : decode cX4_styleStatement 29 = .ok (.getfield 125, 3) := by decide +kernel
theorem dX4_styleStatement_32 : decode cX4_styleStatement 32 = .ok (.iconst 3, 1) := by decide +kernel
theorem dX4_styleStatement_33 : decode cX4_styleStatement 33 = .ok (.invokevirtual 129, 3) := by decide +kernel
theorem dX4_styleStatement_36 : decode cX4_styleStatement 36 = .ok (.ifCond .eq 84, 3) := by decide +kernel
theorem dX4_styleStatement_39 : decode cX4_styleStatement 39 = .ok (.aload_n 0, 1) := by decide +kernel
theorem dX4_styleStatement_40 : decode cX4_styleStatement 40 = .ok (.ldc 162, 2) := by decide +kernel
theorem dX4_styleStatement_42 : decode cX4_styleStatement 42 = .ok (.iconst 0, 1) := by decide +kernel
theorem dX4_styleStatement_43 : decode cX4_styleStatement 43 = .ok (.bipush 9, 2) := by decide +kernel
theorem dX4_styleStatement_45 : decode cX4_styleStatement 45 = .ok (.aload_n 1, 1) := by decide +kernel
theorem dX4_styleStatement_46 : decode cX4_styleStatement 46 = .ok (.getfield 125, 3) := by decide +kernel
theorem dX4_styleStatement_49 : decode cX4_styleStatement 49 = .ok (.iconst 4, 1) := by decide +kernel
theorem dX4_styleStatement_50 : decode cX4_styleStatement 50 = .ok (.invokevirtual 129, 3) := by decide +kernel
theorem dX4_styleStatement_53 : decode cX4_styleStatement 53 = .ok (.ifCond .eq 67, 3) := by decide +kernel
theorem dX4_styleStatement_56 : decode cX4_styleStatement 56 = .ok (.aload_n 0, 1) := by decide +kernel
theorem dX4_styleStatement_57 : decode cX4_styleStatement 57 = .ok (.ldc 164, 2) := by decide +kernel
theorem dX4_styleStatement_59 : decode cX4_styleStatement 59 = .ok (.iconst 0, 1) := by decide +kernel
theorem dX4_styleStatement_60 : decode cX4_styleStatement 60 = .ok (.bipush 9, 2) := by decide +kernel
theorem dX4_styleStatement_62 : decode cX4_styleStatement 62 = .ok (.aload_n 1, 1) := by decide +kernel
theorem dX4_styleStatement_63 : decode cX4_styleStatement 63 = .ok (.getfield 125, 3) := by decide +kernel
theorem dX4_styleStatement_66 : decode cX4_styleStatement 66 = .ok (.iconst 5, 1) := by decide +kernel
theorem dX4_styleStatement_67 : decode cX4_styleStatement 67 = .ok (.invokevirtual 129, 3) := by decide +kernel
theorem dX4_styleStatement_70 : decode cX4_styleStatement 70 = .ok (.ifCond .eq 50, 3) := by decide +kernel
theorem dX4_styleStatement_73 : decode cX4_styleStatement 73 = .ok (.aload_n 0, 1) := by decide +kernel
theorem dX4_styleStatement_74 : decode cX4_styleStatement 74 = .ok (.ldc 166, 2) := by decide +kernel
theorem dX4_styleStatement_76 : decode cX4_styleStatement 76 = .ok (.iconst 0, 1) := by decide +kernel
theorem dX4_styleStatement_77 : decode cX4_styleStatement 77 = .ok (.bipush 9, 2) := by decide +kernel
theorem dX4_styleStatement_79 : decode cX4_styleStatement 79 = .ok (.aload_n 1, 1) := by decide +kernel
theorem dX4_styleStatement_80 : decode cX4_styleStatement 80 = .ok (.getfield 125, 3) := by decide +kernel
theorem dX4_styleStatement_83 : decode cX4_styleStatement 83 = .ok (.bipush 6, 2) := by decide +kernel
theorem dX4_styleStatement_85 : decode cX4_styleStatement 85 = .ok (.invokevirtual 129, 3) := by decide +kernel
theorem dX4_styleStatement_88 : decode cX4_styleStatement 88 = .ok (.ifCond .eq 32, 3) := by decide +kernel
theorem dX4_styleStatement_91 : decode cX4_styleStatement 91 = .ok (.aload_n 0, 1) := by decide +kernel
theorem dX4_styleStatement_92 : decode cX4_styleStatement 92 = .ok (.ldc 168, 2) := by decide +kernel
theorem dX4_styleStatement_94 : decode cX4_styleStatement 94 = .ok (.iconst 1, 1) := by decide +kernel
theorem dX4_styleStatement_95 : decode cX4_styleStatement 95 = .ok (.bipush 9, 2) := by decide +kernel
theorem dX4_styleStatement_97 : decode cX4_styleStatement 97 = .ok (.aload_n 1, 1) := by decide +kernel
theorem dX4_styleStatement_98 : decode cX4_styleStatement 98 = .ok (.getfield 125, 3) := by decide +kernel
theorem dX4_styleStatement_101 : decode cX4_styleStatement 101 = .ok (.bipush 7, 2) := by decide +kernel
theorem dX4_styleStatement_103 : decode cX4_styleStatement 103 = .ok (.invokevirtual 129, 3) := by decide +kernel
theorem dX4_styleStatement_106 : decode cX4_styleStatement 106 = .ok (.ifCond .eq 14, 3) := by decide +kernel
theorem dX4_styleStatement_109 : decode cX4_styleStatement 109 = .ok (.aload_n 0, 1) := by decide +kernel
theorem dX4_styleStatement_110 : decode cX4_styleStatement 110 = .ok (.invokevirtual 137, 3) := by decide +kernel
theorem dX4_styleStatement_113 : decode cX4_styleStatement 113 = .ok (.ifCond .eq 7, 3) := by decide +kernel
theorem dX4_styleStatement_116 : decode cX4_styleStatement 116 = .ok (.iconst 1, 1) := by decide +kernel
theorem dX4_styleStatement_117 : decode cX4_styleStatement 117 = .ok (.goto 4, 3) := by decide +kernel
theorem dX4_styleStatement_120 : decode cX4_styleStatement 120 = .ok (.iconst 0, 1) := by decide +kernel
theorem dX4_styleStatement_121 : decode cX4_styleStatement 121 = .ok (.ireturn, 1) := by decide +kernel
theorem dX4_rightStatement_0 : decode cX4_rightStatement 0 = .ok (.aload_n 0, 1) := by decide +kernel
theorem dX4_rightStatement_1 : decode cX4_rightStatement 1 = .ok (.getfield 53, 3) := by decide +kernel
theorem dX4_rightStatement_4 : decode cX4_rightStatement 4 = .ok (.ifCond .eq 9, 3) := by decide +kernel
theorem dX4_rightStatement_7 : decode cX4_rightStatement 7 = .ok (.aload_n 0, 1) := by decide +kernel
theorem dX4_rightStatement_8 : decode cX4_rightStatement 8 = .ok (.iconst 3, 1) := by decide +kernel
theorem dX4_rightStatement_9 : decode cX4_rightStatement 9 = .ok (.invokevirtual 107, 3) := by decide +kernel
theorem dX4_rightStatement_12 : decode cX4_rightStatement 12 = .ok (.ireturn, 1) := by decide +kernel
theorem dX4_rightStatement_13 : decode cX4_rightStatement 13 = .ok (.aload_n 0, 1) := by decide +kernel
theorem dX4_rightStatement_14 : decode cX4_rightStatement 14 = .ok (.iconst 1, 1) := by decide +kernel
theorem dX4_rightStatement_15 : decode cX4_rightStatement 15 = .ok (.putfield 53, 3) := by decide +kernel
theorem dX4_rightStatement_18 : decode cX4_rightStatement 18 = .ok (.aload_n 1, 1) := by decide +kernel
theorem dX4_rightStatement_19 : decode cX4_rightStatement 19 = .ok (.iconst 1, 1) := by decide +kernel
theorem dX4_rightStatement_20 : decode cX4_rightStatement 20 = .ok (.putfield 170, 3) := by decide +kernel
theorem dX4_rightStatement_23 : decode cX4_rightStatement 23 = .ok (.aload_n 0, 1) := by decide +kernel
theorem dX4_rightStatement_24 : decode cX4_rightStatement 24 = .ok (.invokevirtual 83, 3) := by decide +kernel
theorem dX4_rightStatement_27 : decode cX4_rightStatement 27 = .ok (.aload_n 0, 1) := by decide +kernel
theorem dX4_rightStatement_28 : decode cX4_rightStatement 28 = .ok (.invokevirtual 137, 3) := by decide +kernel
theorem dX4_rightStatement_31 : decode cX4_rightStatement 31 = .ok (.ireturn, 1) := by decide +kernel
theorem dX4_mainStatement_0 : decode cX4_mainStatement 0 = .ok (.aload_n 0, 1) := by decide +kernel
theorem dX4_mainStatement_1 : decode cX4_mainStatement 1 = .ok (.getfield 56, 3) := by decide +kernel
theorem dX4_mainStatement_4 : decode cX4_mainStatement 4 = .ok (.ifCond .eq 9, 3) := by decide +kernel
theorem dX4_mainStatement_7 : decode cX4_mainStatement 7 = .ok (.aload_n 0, 1) := by decide +kernel
theorem dX4_mainStatement_8 : decode cX4_mainStatement 8 = .ok (.iconst 3, 1) := by decide +kernel
theorem dX4_mainStatement_9 : decode cX4_mainStatement 9 = .ok (.invokevirtual 107, 3) := by decide +kernel
theorem dX4_mainStatement_12 : decode cX4_mainStatement 12 = .ok (.ireturn, 1) := by decide +kernel
theorem dX4_mainStatement_13 : decode cX4_mainStatement 13 = .ok (.aload_n 0, 1) := by decide +kernel
theorem dX4_mainStatement_14 : decode cX4_mainStatement 14 = .ok (.iconst 1, 1) := by decide +kernel
theorem dX4_mainStatement_15 : decode cX4_mainStatement 15 = .ok (.putfield 56, 3) := by decide +kernel
theorem dX4_mainStatement_18 : decode cX4_mainStatement 18 = .ok (.aload_n 0, 1) := by decide +kernel
theorem dX4_mainStatement_19 : decode cX4_mainStatement 19 = .ok (.invokevirtual 83, 3) := by decide +kernel
theorem dX4_mainStatement_22 : decode cX4_mainStatement 22 = .ok (.aload_n 0, 1) := by decide +kernel
theorem dX4_mainStatement_23 : decode cX4_mainStatement 23 = .ok (.invokevirtual 137, 3) := by decide +kernel
theorem dX4_mainStatement_26 : decode cX4_mainStatement 26 = .ok (.ireturn, 1) := by decide +kernel
theorem dX4_sectionStatement_0 : decode cX4_sectionStatement 0 = .ok (.aload_n 1, 1) := by decide +kernel
theorem dX4_sectionStatement_1 : decode cX4_sectionStatement 1 = .ok (.getfield 172, 3) := by decide +kernel
theorem dX4_sectionStatement_4 : decode cX4_sectionStatement 4 = .ok (.bipush 24, 2) := by decide +kernel
theorem dX4_sectionStatement_6 : decode cX4_sectionStatement 6 = .ok (.if_icmp .lt 9, 3) := by decide +kernel
theorem dX4_sectionStatement_9 : decode cX4_sectionStatement 9 = .ok (.aload_n 0, 1) := by decide +kernel
theorem dX4_sectionStatement_10 : decode cX4_sectionStatement 10 = .ok (.iconst 4, 1) := by decide +kernel
theorem dX4_sectionStatement_11 : decode cX4_sectionStatement 11 = .ok (.invokevirtual 107, 3) := by decide +kernel
theorem dX4_sectionStatement_14 : decode cX4_sectionStatement 14 = .ok (.ireturn, 1) := by decide +kernel
theorem dX4_sectionStatement_15 : decode cX4_sectionStatement 15 = .ok (.aload_n 1, 1) := by decide +kernel
theorem dX4_sectionStatement_16 : decode cX4_sectionStatement 16 = .ok (.getfield 172, 3) := by decide +kernel
theorem dX4_sectionStatement_19 : decode cX4_sectionStatement 19 = .ok (.istore_n 2, 1) := by decide +kernel
theorem dX4_sectionStatement_20 : decode cX4_sectionStatement 20 = .ok (.aload_n 0, 1) := by decide +kernel
theorem dX4_sectionStatement_21 : decode cX4_sectionStatement 21 = .ok (.getfield 56, 3) := by decide +kernel
theorem dX4_sectionStatement_24 : decode cX4_sectionStatement 24 = .ok (.ifCond .eq 7, 3) := by decide +kernel
theorem dX4_sectionStatement_27 : decode cX4_sectionStatement 27 = .ok (.iconst 1, 1) := by decide +kernel
theorem dX4_sectionStatement_28 : decode cX4_sectionStatement 28 = .ok (.goto 4, 3) := by decide +kernel
theorem dX4_sectionStatement_31 : decode cX4_sectionStatement 31 = .ok (.iconst 0, 1) := by decide +kernel
theorem dX4_sectionStatement_32 : decode cX4_sectionStatement 32 = .ok (.istore_n 3, 1) := by decide +kernel
theorem dX4_sectionStatement_33 : decode cX4_sectionStatement 33 = .ok (.aload_n 0, 1) := by decide +kernel
theorem dX4_sectionStatement_34 : decode cX4_sectionStatement 34 = .ok (.ldc 155, 2) := by decide +kernel
theorem dX4_sectionStatement_36 : decode cX4_sectionStatement 36 = .ok (.iconst 1, 1) := by decide +kernel
theorem dX4_sectionStatement_37 : decode cX4_sectionStatement 37 = .ok (.aload_n 1, 1) := by decide +kernel
theorem dX4_sectionStatement_38 : decode cX4_sectionStatement 38 = .ok (.iload_n 3, 1) := by decide +kernel
theorem dX4_sectionStatement_39 : decode cX4_sectionStatement 39 = .ok (.iload_n 2, 1) := by decide +kernel
theorem dX4_sectionStatement_40 : decode cX4_sectionStatement 40 = .ok (.invokevirtual 175, 3) := by decide +kernel
theorem dX4_sectionStatement_43 : decode cX4_sectionStatement 43 = .ok (.aload_n 1, 1) := by decide +kernel
theorem dX4_sectionStatement_44 : decode cX4_sectionStatement 44 = .ok (.getfield 178, 3) := by decide +kernel
theorem dX4_sectionStatement_47 : decode cX4_sectionStatement 47 = .ok (.iload_n 2, 1) := by decide +kernel
theorem dX4_sectionStatement_48 : decode cX4_sectionStatement 48 = .ok (.invokevirtual 129, 3) := by decide +kernel
theorem dX4_sectionStatement_51 : decode cX4_sectionStatement 51 = .ok (.ifCond .eq 32, 3) := by decide +kernel
theorem dX4_sectionStatement_54 : decode cX4_sectionStatement 54 = .ok (.aload_n 0, 1) := by decide +kernel
theorem dX4_sectionStatement_55 : decode cX4_sectionStatement 55 = .ok (.ldc 133, 2) := by decide +kernel
theorem dX4_sectionStatement_57 : decode cX4_sectionStatement 57 = .ok (.iconst 0, 1) := by decide +kernel
theorem dX4_sectionStatement_58 : decode cX4_sectionStatement 58 = .ok (.sipush 500, 3) := by decide +kernel
theorem dX4_sectionStatement_61 : decode cX4_sectionStatement 61 = .ok (.aload_n 1, 1) := by decide +kernel
theorem dX4_sectionStatement_62 : decode cX4_sectionStatement 62 = .ok (.getfield 181, 3) := by decide +kernel
theorem dX4_sectionStatement_65 : decode cX4_sectionStatement 65 = .ok (.iload_n 2, 1) := by decide +kernel
theorem dX4_sectionStatement_66 : decode cX4_sectionStatement 66 = .ok (.invokevirtual 129, 3) := by decide +kernel
theorem dX4_sectionStatement_69 : decode cX4_sectionStatement 69 = .ok (.ifCond .eq 14, 3) := by decide +kernel
theorem dX4_sectionStatement_72 : decode cX4_sectionStatement 72 = .ok (.aload_n 0, 1) := by decide +kernel
theorem dX4_sectionStatement_73 : decode cX4_sectionStatement 73 = .ok (.invokevirtual 79, 3) := by decide +kernel
theorem dX4_sectionStatement_76 : decode cX4_sectionStatement 76 = .ok (.ifCond .eq 7, 3) := by decide +kernel
theorem dX4_sectionStatement_79 : decode cX4_sectionStatement 79 = .ok (.iconst 1, 1) := by decide +kernel
theorem dX4_sectionStatement_80 : decode cX4_sectionStatement 80 = .ok (.goto 4, 3) := by decide +kernel
theorem dX4_sectionStatement_83 : decode cX4_sectionStatement 83 = .ok (.iconst 0, 1) := by decide +kernel
theorem dX4_sectionStatement_84 : decode cX4_sectionStatement 84 = .ok (.istore 4, 2) := by decide +kernel
theorem dX4_sectionStatement_86 : decode cX4_sectionStatement 86 = .ok (.iload 4, 2) := by decide +kernel
theorem dX4_sectionStatement_88 : decode cX4_sectionStatement 88 = .ok (.ifCond .ne 5, 3) := by decide +kernel
theorem dX4_sectionStatement_91 : decode cX4_sectionStatement 91 = .ok (.iconst 0, 1) := by decide +kernel
theorem dX4_sectionStatement_92 : decode cX4_sectionStatement 92 = .ok (.ireturn, 1) := by decide +kernel
theorem dX4_sectionStatement_93 : decode cX4_sectionStatement 93 = .ok (.aload_n 1, 1) := by decide +kernel
theorem dX4_sectionStatement_94 : decode cX4_sectionStatement 94 = .ok (.iload_n 2, 1) := by decide +kernel
theorem dX4_sectionStatement_95 : decode cX4_sectionStatement 95 = .ok (.iload_n 3, 1) := by decide +kernel
theorem dX4_sectionStatement_96 : decode cX4_sectionStatement 96 = .ok (.invokevirtual 184, 3) := by decide +kernel
theorem dX4_sectionStatement_99 : decode cX4_sectionStatement 99 = .ok (.aload_n 1, 1) := by decide +kernel
theorem dX4_sectionStatement_100 : decode cX4_sectionStatement 100 = .ok (.iload_n 2, 1) := by decide +kernel
theorem dX4_sectionStatement_101 : decode cX4_sectionStatement 101 = .ok (.aload_n 0, 1) := by decide +kernel
theorem dX4_sectionStatement_102 : decode cX4_sectionStatement 102 = .ok (.getfield 23, 3) := by decide +kernel
theorem dX4_sectionStatement_105 : decode cX4_sectionStatement 105 = .ok (.aload_n 0, 1) := by decide +kernel
theorem dX4_sectionStatement_106 : decode cX4_sectionStatement 106 = .ok (.getfield 27, 3) := by decide +kernel
theorem dX4_sectionStatement_109 : decode cX4_sectionStatement 109 = .ok (.invokevirtual 187, 3) := by decide +kernel
theorem dX4_sectionStatement_112 : decode cX4_sectionStatement 112 = .ok (.aload_n 0, 1) := by decide +kernel
theorem dX4_sectionStatement_113 : decode cX4_sectionStatement 113 = .ok (.invokevirtual 137, 3) := by decide +kernel
theorem dX4_sectionStatement_116 : decode cX4_sectionStatement 116 = .ok (.ireturn, 1) := by decide +kernel
theorem dX4_titleOf_0 : decode cX4_titleOf 0 = .ok (.aload_n 0, 1) := by decide +kernel
theorem dX4_titleOf_1 : decode cX4_titleOf 1 = .ok (.iconst 0, 1) := by decide +kernel
theorem dX4_titleOf_2 : decode cX4_titleOf 2 = .ok (.putfield 27, 3) := by decide +kernel
theorem dX4_titleOf_5 : decode cX4_titleOf 5 = .ok (.iconst 0, 1) := by decide +kernel
theorem dX4_titleOf_6 : decode cX4_titleOf 6 = .ok (.istore_n 1, 1) := by decide +kernel
theorem dX4_titleOf_7 : decode cX4_titleOf 7 = .ok (.iload_n 1, 1) := by decide +kernel
theorem dX4_titleOf_8 : decode cX4_titleOf 8 = .ok (.bipush 8, 2) := by decide +kernel
theorem dX4_titleOf_10 : decode cX4_titleOf 10 = .ok (.if_icmp .gt 92, 3) := by decide +kernel
theorem dX4_titleOf_13 : decode cX4_titleOf 13 = .ok (.aload_n 0, 1) := by decide +kernel
theorem dX4_titleOf_14 : decode cX4_titleOf 14 = .ok (.getfield 37, 3) := by decide +kernel
theorem dX4_titleOf_17 : decode cX4_titleOf 17 = .ok (.iconst 1, 1) := by decide +kernel
theorem dX4_titleOf_18 : decode cX4_titleOf 18 = .ok (.if_icmp .ne 84, 3) := by decide +kernel
theorem dX4_titleOf_21 : decode cX4_titleOf 21 = .ok (.aload_n 0, 1) := by decide +kernel
theorem dX4_titleOf_22 : decode cX4_titleOf 22 = .ok (.getfield 43, 3) := by decide +kernel
theorem dX4_titleOf_25 : decode cX4_titleOf 25 = .ok (.aload_n 0, 1) := by decide +kernel
theorem dX4_titleOf_26 : decode cX4_titleOf 26 = .ok (.getfield 40, 3) := by decide +kernel
theorem dX4_titleOf_29 : decode cX4_titleOf 29 = .ok (.isub, 1) := by decide +kernel
theorem dX4_titleOf_30 : decode cX4_titleOf 30 = .ok (.bipush 12, 2) := by decide +kernel
theorem dX4_titleOf_32 : decode cX4_titleOf 32 = .ok (.if_icmp .le 9, 3) := by decide +kernel
theorem dX4_titleOf_35 : decode cX4_titleOf 35 = .ok (.aload_n 0, 1) := by decide +kernel
theorem dX4_titleOf_36 : decode cX4_titleOf 36 = .ok (.iconst 1, 1) := by decide +kernel
theorem dX4_titleOf_37 : decode cX4_titleOf 37 = .ok (.invokevirtual 107, 3) := by decide +kernel
theorem dX4_titleOf_40 : decode cX4_titleOf 40 = .ok (.ireturn, 1) := by decide +kernel
theorem dX4_titleOf_41 : decode cX4_titleOf 41 = .ok (.aload_n 0, 1) := by decide +kernel
theorem dX4_titleOf_42 : decode cX4_titleOf 42 = .ok (.getfield 27, 3) := by decide +kernel
theorem dX4_titleOf_45 : decode cX4_titleOf 45 = .ok (.bipush 8, 2) := by decide +kernel
theorem dX4_titleOf_47 : decode cX4_titleOf 47 = .ok (.if_icmp .lt 9, 3) := by decide +kernel
theorem dX4_titleOf_50 : decode cX4_titleOf 50 = .ok (.aload_n 0, 1) := by decide +kernel
theorem dX4_titleOf_51 : decode cX4_titleOf 51 = .ok (.iconst 4, 1) := by decide +kernel
theorem dX4_titleOf_52 : decode cX4_titleOf 52 = .ok (.invokevirtual 107, 3) := by decide +kernel
theorem dX4_titleOf_55 : decode cX4_titleOf 55 = .ok (.ireturn, 1) := by decide +kernel
theorem dX4_titleOf_56 : decode cX4_titleOf 56 = .ok (.aload_n 0, 1) := by decide +kernel
theorem dX4_titleOf_57 : decode cX4_titleOf 57 = .ok (.getfield 23, 3) := by decide +kernel
theorem dX4_titleOf_60 : decode cX4_titleOf 60 = .ok (.aload_n 0, 1) := by decide +kernel
theorem dX4_titleOf_61 : decode cX4_titleOf 61 = .ok (.getfield 27, 3) := by decide +kernel
theorem dX4_titleOf_64 : decode cX4_titleOf 64 = .ok (.aload_n 0, 1) := by decide +kernel
theorem dX4_titleOf_65 : decode cX4_titleOf 65 = .ok (.getfield 33, 3) := by decide +kernel
theorem dX4_titleOf_68 : decode cX4_titleOf 68 = .ok (.aload_n 0, 1) := by decide +kernel
theorem dX4_titleOf_69 : decode cX4_titleOf 69 = .ok (.getfield 40, 3) := by decide +kernel
theorem dX4_titleOf_72 : decode cX4_titleOf 72 = .ok (.aload_n 0, 1) := by decide +kernel
theorem dX4_titleOf_73 : decode cX4_titleOf 73 = .ok (.getfield 43, 3) := by decide +kernel
theorem dX4_titleOf_76 : decode cX4_titleOf 76 = .ok (.invokevirtual 191, 3) := by decide +kernel
theorem dX4_titleOf_79 : decode cX4_titleOf 79 = .ok (.invokevirtual 195, 3) := by decide +kernel
theorem dX4_titleOf_82 : decode cX4_titleOf 82 = .ok (.aload_n 0, 1) := by decide +kernel
theorem dX4_titleOf_83 : decode cX4_titleOf 83 = .ok (.dup, 1) := by decide +kernel
theorem dX4_titleOf_84 : decode cX4_titleOf 84 = .ok (.getfield 27, 3) := by decide +kernel
theorem dX4_titleOf_87 : decode cX4_titleOf 87 = .ok (.iconst 1, 1) := by decide +kernel
theorem dX4_titleOf_88 : decode cX4_titleOf 88 = .ok (.iadd, 1) := by decide +kernel
theorem dX4_titleOf_89 : decode cX4_titleOf 89 = .ok (.putfield 27, 3) := by decide +kernel
theorem dX4_titleOf_92 : decode cX4_titleOf 92 = .ok (.aload_n 0, 1) := by decide +kernel
theorem dX4_titleOf_93 : decode cX4_titleOf 93 = .ok (.invokevirtual 83, 3) := by decide +kernel
theorem dX4_titleOf_96 : decode cX4_titleOf 96 = .ok (.iinc 1 1, 3) := by decide +kernel
theorem dX4_titleOf_99 : decode cX4_titleOf 99 = .ok (.goto (-92), 3) := by decide +kernel
theorem dX4_titleOf_102 : decode cX4_titleOf 102 = .ok (.aload_n 0, 1) := by decide +kernel
theorem dX4_titleOf_103 : decode cX4_titleOf 103 = .ok (.getfield 27, 3) := by decide +kernel
theorem dX4_titleOf_106 : decode cX4_titleOf 106 = .ok (.ifCond .gt 11, 3) := by decide +kernel
theorem dX4_titleOf_109 : decode cX4_titleOf 109 = .ok (.aload_n 0, 1) := by decide +kernel
theorem dX4_titleOf_110 : decode cX4_titleOf 110 = .ok (.iconst 1, 1) := by decide +kernel
theorem dX4_titleOf_111 : decode cX4_titleOf 111 = .ok (.invokevirtual 107, 3) := by decide +kernel
theorem dX4_titleOf_114 : decode cX4_titleOf 114 = .ok (.ifCond .eq 7, 3) := by decide +kernel
theorem dX4_titleOf_117 : decode cX4_titleOf 117 = .ok (.iconst 1, 1) := by decide +kernel
theorem dX4_titleOf_118 : decode cX4_titleOf 118 = .ok (.goto 4, 3) := by decide +kernel
theorem dX4_titleOf_121 : decode cX4_titleOf 121 = .ok (.iconst 0, 1) := by decide +kernel
theorem dX4_titleOf_122 : decode cX4_titleOf 122 = .ok (.ireturn, 1) := by decide +kernel
theorem dX5_init_0 : decode cX5_init 0 = .ok (.aload_n 0, 1) := by decide +kernel
theorem dX5_init_1 : decode cX5_init 1 = .ok (.invokespecial 1, 3) := by decide +kernel
theorem dX5_init_4 : decode cX5_init 4 = .ok (.aload_n 0, 1) := by decide +kernel
theorem dX5_init_5 : decode cX5_init 5 = .ok (.iload_n 1, 1) := by decide +kernel
theorem dX5_init_6 : decode cX5_init 6 = .ok (.iconst 0, 1) := by decide +kernel
theorem dX5_init_7 : decode cX5_init 7 = .ok (.invokestatic 7, 3) := by decide +kernel
theorem dX5_init_10 : decode cX5_init 10 = .ok (.newarray .int, 2) := by decide +kernel
theorem dX5_init_12 : decode cX5_init 12 = .ok (.putfield 13, 3) := by decide +kernel
theorem dX5_init_15 : decode cX5_init 15 = .ok (.return_, 1) := by decide +kernel
theorem dX5_at_0 : decode cX5_at 0 = .ok (.iload_n 1, 1) := by decide +kernel
theorem dX5_at_1 : decode cX5_at 1 = .ok (.ifCond .lt 21, 3) := by decide +kernel
theorem dX5_at_4 : decode cX5_at 4 = .ok (.iload_n 1, 1) := by decide +kernel
theorem dX5_at_5 : decode cX5_at 5 = .ok (.aload_n 0, 1) := by decide +kernel
theorem dX5_at_6 : decode cX5_at 6 = .ok (.getfield 13, 3) := by decide +kernel
theorem dX5_at_9 : decode cX5_at 9 = .ok (.arraylength, 1) := by decide +kernel
theorem dX5_at_10 : decode cX5_at 10 = .ok (.if_icmp .ge 12, 3) := by decide +kernel
theorem dX5_at_13 : decode cX5_at 13 = .ok (.aload_n 0, 1) := by decide +kernel
theorem dX5_at_14 : decode cX5_at 14 = .ok (.getfield 13, 3) := by decide +kernel
theorem dX5_at_17 : decode cX5_at 17 = .ok (.iload_n 1, 1) := by decide +kernel
theorem dX5_at_18 : decode cX5_at 18 = .ok (.iaload, 1) := by decide +kernel
theorem dX5_at_19 : decode cX5_at 19 = .ok (.goto 4, 3) := by decide +kernel
theorem dX5_at_22 : decode cX5_at 22 = .ok (.iconst 0, 1) := by decide +kernel
theorem dX5_at_23 : decode cX5_at 23 = .ok (.ireturn, 1) := by decide +kernel
theorem dX5_put_0 : decode cX5_put 0 = .ok (.iload_n 1, 1) := by decide +kernel
theorem dX5_put_1 : decode cX5_put 1 = .ok (.ifCond .lt 19, 3) := by decide +kernel
theorem dX5_put_4 : decode cX5_put 4 = .ok (.iload_n 1, 1) := by decide +kernel
theorem dX5_put_5 : decode cX5_put 5 = .ok (.aload_n 0, 1) := by decide +kernel
theorem dX5_put_6 : decode cX5_put 6 = .ok (.getfield 13, 3) := by decide +kernel
theorem dX5_put_9 : decode cX5_put 9 = .ok (.arraylength, 1) := by decide +kernel
theorem dX5_put_10 : decode cX5_put 10 = .ok (.if_icmp .ge 10, 3) := by decide +kernel
theorem dX5_put_13 : decode cX5_put 13 = .ok (.aload_n 0, 1) := by decide +kernel
theorem dX5_put_14 : decode cX5_put 14 = .ok (.getfield 13, 3) := by decide +kernel
theorem dX5_put_17 : decode cX5_put 17 = .ok (.iload_n 1, 1) := by decide +kernel
theorem dX5_put_18 : decode cX5_put 18 = .ok (.iload_n 2, 1) := by decide +kernel
theorem dX5_put_19 : decode cX5_put 19 = .ok (.iastore, 1) := by decide +kernel
theorem dX5_put_20 : decode cX5_put 20 = .ok (.return_, 1) := by decide +kernel
theorem dX5_add_0 : decode cX5_add 0 = .ok (.iload_n 1, 1) := by decide +kernel
theorem dX5_add_1 : decode cX5_add 1 = .ok (.ifCond .lt 22, 3) := by decide +kernel
theorem dX5_add_4 : decode cX5_add 4 = .ok (.iload_n 1, 1) := by decide +kernel
theorem dX5_add_5 : decode cX5_add 5 = .ok (.aload_n 0, 1) := by decide +kernel
theorem dX5_add_6 : decode cX5_add 6 = .ok (.getfield 13, 3) := by decide +kernel
theorem dX5_add_9 : decode cX5_add 9 = .ok (.arraylength, 1) := by decide +kernel
theorem dX5_add_10 : decode cX5_add 10 = .ok (.if_icmp .ge 13, 3) := by decide +kernel
theorem dX5_add_13 : decode cX5_add 13 = .ok (.aload_n 0, 1) := by decide +kernel
theorem dX5_add_14 : decode cX5_add 14 = .ok (.getfield 13, 3) := by decide +kernel
theorem dX5_add_17 : decode cX5_add 17 = .ok (.iload_n 1, 1) := by decide +kernel
theorem dX5_add_18 : decode cX5_add 18 = .ok (.dup2, 1) := by decide +kernel
theorem dX5_add_19 : decode cX5_add 19 = .ok (.iaload, 1) := by decide +kernel
theorem dX5_add_20 : decode cX5_add 20 = .ok (.iload_n 2, 1) := by decide +kernel
theorem dX5_add_21 : decode cX5_add 21 = .ok (.iadd, 1) := by decide +kernel
theorem dX5_add_22 : decode cX5_add 22 = .ok (.iastore, 1) := by decide +kernel
theorem dX5_add_23 : decode cX5_add 23 = .ok (.return_, 1) := by decide +kernel
theorem dX5_take_0 : decode cX5_take 0 = .ok (.aload_n 1, 1) := by decide +kernel
theorem dX5_take_1 : decode cX5_take 1 = .ok (.getfield 13, 3) := by decide +kernel
theorem dX5_take_4 : decode cX5_take 4 = .ok (.iconst 0, 1) := by decide +kernel
theorem dX5_take_5 : decode cX5_take 5 = .ok (.aload_n 0, 1) := by decide +kernel
theorem dX5_take_6 : decode cX5_take 6 = .ok (.getfield 13, 3) := by decide +kernel
theorem dX5_take_9 : decode cX5_take 9 = .ok (.iconst 0, 1) := by decide +kernel
theorem dX5_take_10 : decode cX5_take 10 = .ok (.aload_n 0, 1) := by decide +kernel
theorem dX5_take_11 : decode cX5_take 11 = .ok (.getfield 13, 3) := by decide +kernel
theorem dX5_take_14 : decode cX5_take 14 = .ok (.arraylength, 1) := by decide +kernel
theorem dX5_take_15 : decode cX5_take 15 = .ok (.aload_n 1, 1) := by decide +kernel
theorem dX5_take_16 : decode cX5_take 16 = .ok (.getfield 13, 3) := by decide +kernel
theorem dX5_take_19 : decode cX5_take 19 = .ok (.arraylength, 1) := by decide +kernel
theorem dX5_take_20 : decode cX5_take 20 = .ok (.invokestatic 19, 3) := by decide +kernel
theorem dX5_take_23 : decode cX5_take 23 = .ok (.invokestatic 22, 3) := by decide +kernel
theorem dX5_take_26 : decode cX5_take 26 = .ok (.return_, 1) := by decide +kernel
theorem dX5_move_0 : decode cX5_move 0 = .ok (.iload_n 3, 1) := by decide +kernel
theorem dX5_move_1 : decode cX5_move 1 = .ok (.ifCond .le 40, 3) := by decide +kernel
theorem dX5_move_4 : decode cX5_move 4 = .ok (.iload_n 1, 1) := by decide +kernel
theorem dX5_move_5 : decode cX5_move 5 = .ok (.ifCond .lt 36, 3) := by decide +kernel
theorem dX5_move_8 : decode cX5_move 8 = .ok (.iload_n 2, 1) := by decide +kernel
theorem dX5_move_9 : decode cX5_move 9 = .ok (.ifCond .lt 32, 3) := by decide +kernel
theorem dX5_move_12 : decode cX5_move 12 = .ok (.iload_n 3, 1) := by decide +kernel
theorem dX5_move_13 : decode cX5_move 13 = .ok (.aload_n 0, 1) := by decide +kernel
theorem dX5_move_14 : decode cX5_move 14 = .ok (.getfield 13, 3) := by decide +kernel
theorem dX5_move_17 : decode cX5_move 17 = .ok (.arraylength, 1) := by decide +kernel
theorem dX5_move_18 : decode cX5_move 18 = .ok (.iload_n 1, 1) := by decide +kernel
theorem dX5_move_19 : decode cX5_move 19 = .ok (.iload_n 2, 1) := by decide +kernel
theorem dX5_move_20 : decode cX5_move 20 = .ok (.invokestatic 7, 3) := by decide +kernel
theorem dX5_move_23 : decode cX5_move 23 = .ok (.isub, 1) := by decide +kernel
theorem dX5_move_24 : decode cX5_move 24 = .ok (.if_icmp .gt 17, 3) := by decide +kernel
theorem dX5_move_27 : decode cX5_move 27 = .ok (.aload_n 0, 1) := by decide +kernel
theorem dX5_move_28 : decode cX5_move 28 = .ok (.getfield 13, 3) := by decide +kernel
theorem dX5_move_31 : decode cX5_move 31 = .ok (.iload_n 1, 1) := by decide +kernel
theorem dX5_move_32 : decode cX5_move 32 = .ok (.aload_n 0, 1) := by decide +kernel
theorem dX5_move_33 : decode cX5_move 33 = .ok (.getfield 13, 3) := by decide +kernel
theorem dX5_move_36 : decode cX5_move 36 = .ok (.iload_n 2, 1) := by decide +kernel
theorem dX5_move_37 : decode cX5_move 37 = .ok (.iload_n 3, 1) := by decide +kernel
theorem dX5_move_38 : decode cX5_move 38 = .ok (.invokestatic 22, 3) := by decide +kernel
theorem dX5_move_41 : decode cX5_move 41 = .ok (.return_, 1) := by decide +kernel
theorem dX6_init_0 : decode cX6_init 0 = .ok (.aload_n 0, 1) := by decide +kernel
theorem dX6_init_1 : decode cX6_init 1 = .ok (.invokespecial 1, 3) := by decide +kernel
theorem dX6_init_4 : decode cX6_init 4 = .ok (.aload_n 0, 1) := by decide +kernel
theorem dX6_init_5 : decode cX6_init 5 = .ok (.new 7, 3) := by decide +kernel
theorem dX6_init_8 : decode cX6_init 8 = .ok (.dup, 1) := by decide +kernel
theorem dX6_init_9 : decode cX6_init 9 = .ok (.invokespecial 9, 3) := by decide +kernel
theorem dX6_init_12 : decode cX6_init 12 = .ok (.putfield 10, 3) := by decide +kernel
theorem dX6_init_15 : decode cX6_init 15 = .ok (.aload_n 0, 1) := by decide +kernel
theorem dX6_init_16 : decode cX6_init 16 = .ok (.new 7, 3) := by decide +kernel
theorem dX6_init_19 : decode cX6_init 19 = .ok (.dup, 1) := by decide +kernel
theorem dX6_init_20 : decode cX6_init 20 = .ok (.invokespecial 9, 3) := by decide +kernel
theorem dX6_init_23 : decode cX6_init 23 = .ok (.putfield 16, 3) := by decide +kernel
theorem dX6_init_26 : decode cX6_init 26 = .ok (.aload_n 0, 1) := by decide +kernel
theorem dX6_init_27 : decode cX6_init 27 = .ok (.iconst 0, 1) := by decide +kernel
theorem dX6_init_28 : decode cX6_init 28 = .ok (.putfield 19, 3) := by decide +kernel
theorem dX6_init_31 : decode cX6_init 31 = .ok (.return_, 1) := by decide +kernel
theorem dX6_take_0 : decode cX6_take 0 = .ok (.aload_n 0, 1) := by decide +kernel
theorem dX6_take_1 : decode cX6_take 1 = .ok (.getfield 10, 3) := by decide +kernel
theorem dX6_take_4 : decode cX6_take 4 = .ok (.aload_n 1, 1) := by decide +kernel
theorem dX6_take_5 : decode cX6_take 5 = .ok (.getfield 10, 3) := by decide +kernel
theorem dX6_take_8 : decode cX6_take 8 = .ok (.invokevirtual 23, 3) := by decide +kernel
theorem dX6_take_11 : decode cX6_take 11 = .ok (.aload_n 0, 1) := by decide +kernel
theorem dX6_take_12 : decode cX6_take 12 = .ok (.getfield 16, 3) := by decide +kernel
theorem dX6_take_15 : decode cX6_take 15 = .ok (.aload_n 1, 1) := by decide +kernel
theorem dX6_take_16 : decode cX6_take 16 = .ok (.getfield 16, 3) := by decide +kernel
theorem dX6_take_19 : decode cX6_take 19 = .ok (.invokevirtual 23, 3) := by decide +kernel
theorem dX6_take_22 : decode cX6_take 22 = .ok (.aload_n 0, 1) := by decide +kernel
theorem dX6_take_23 : decode cX6_take 23 = .ok (.aload_n 1, 1) := by decide +kernel
theorem dX6_take_24 : decode cX6_take 24 = .ok (.getfield 19, 3) := by decide +kernel
theorem dX6_take_27 : decode cX6_take 27 = .ok (.putfield 19, 3) := by decide +kernel
theorem dX6_take_30 : decode cX6_take 30 = .ok (.return_, 1) := by decide +kernel
theorem dX6_keepProof_0 : decode cX6_keepProof 0 = .ok (.iconst 0, 1) := by decide +kernel
theorem dX6_keepProof_1 : decode cX6_keepProof 1 = .ok (.istore_n 1, 1) := by decide +kernel
theorem dX6_keepProof_2 : decode cX6_keepProof 2 = .ok (.iload_n 1, 1) := by decide +kernel
theorem dX6_keepProof_3 : decode cX6_keepProof 3 = .ok (.aload_n 0, 1) := by decide +kernel
theorem dX6_keepProof_4 : decode cX6_keepProof 4 = .ok (.getfield 10, 3) := by decide +kernel
theorem dX6_keepProof_7 : decode cX6_keepProof 7 = .ok (.getfield 27, 3) := by decide +kernel
theorem dX6_keepProof_10 : decode cX6_keepProof 10 = .ok (.if_icmp .ge 21, 3) := by decide +kernel
theorem dX6_keepProof_13 : decode cX6_keepProof 13 = .ok (.aload_n 0, 1) := by decide +kernel
theorem dX6_keepProof_14 : decode cX6_keepProof 14 = .ok (.getfield 10, 3) := by decide +kernel
theorem dX6_keepProof_17 : decode cX6_keepProof 17 = .ok (.getfield 31, 3) := by decide +kernel
theorem dX6_keepProof_20 : decode cX6_keepProof 20 = .ok (.iload_n 1, 1) := by decide +kernel
theorem dX6_keepProof_21 : decode cX6_keepProof 21 = .ok (.iload_n 1, 1) := by decide +kernel
theorem dX6_keepProof_22 : decode cX6_keepProof 22 = .ok (.invokevirtual 35, 3) := by decide +kernel
theorem dX6_keepProof_25 : decode cX6_keepProof 25 = .ok (.iinc 1 1, 3) := by decide +kernel
theorem dX6_keepProof_28 : decode cX6_keepProof 28 = .ok (.goto (-26), 3) := by decide +kernel
theorem dX6_keepProof_31 : decode cX6_keepProof 31 = .ok (.aload_n 0, 1) := by decide +kernel
theorem dX6_keepProof_32 : decode cX6_keepProof 32 = .ok (.getfield 16, 3) := by decide +kernel
theorem dX6_keepProof_35 : decode cX6_keepProof 35 = .ok (.aload_n 0, 1) := by decide +kernel
theorem dX6_keepProof_36 : decode cX6_keepProof 36 = .ok (.getfield 10, 3) := by decide +kernel
theorem dX6_keepProof_39 : decode cX6_keepProof 39 = .ok (.invokevirtual 23, 3) := by decide +kernel
theorem dX6_keepProof_42 : decode cX6_keepProof 42 = .ok (.aload_n 0, 1) := by decide +kernel
theorem dX6_keepProof_43 : decode cX6_keepProof 43 = .ok (.iconst 1, 1) := by decide +kernel
theorem dX6_keepProof_44 : decode cX6_keepProof 44 = .ok (.putfield 19, 3) := by decide +kernel
theorem dX6_keepProof_47 : decode cX6_keepProof 47 = .ok (.return_, 1) := by decide +kernel
theorem dX7_init_0 : decode cX7_init 0 = .ok (.aload_n 0, 1) := by decide +kernel
theorem dX7_init_1 : decode cX7_init 1 = .ok (.invokespecial 3, 3) := by decide +kernel
theorem dX7_init_4 : decode cX7_init 4 = .ok (.aload_n 0, 1) := by decide +kernel
theorem dX7_init_5 : decode cX7_init 5 = .ok (.new 9, 3) := by decide +kernel
theorem dX7_init_8 : decode cX7_init 8 = .ok (.dup, 1) := by decide +kernel
theorem dX7_init_9 : decode cX7_init 9 = .ok (.sipush 192, 3) := by decide +kernel
theorem dX7_init_12 : decode cX7_init 12 = .ok (.invokespecial 11, 3) := by decide +kernel
theorem dX7_init_15 : decode cX7_init 15 = .ok (.putfield 14, 3) := by decide +kernel
theorem dX7_init_18 : decode cX7_init 18 = .ok (.aload_n 0, 1) := by decide +kernel
theorem dX7_init_19 : decode cX7_init 19 = .ok (.new 9, 3) := by decide +kernel
theorem dX7_init_22 : decode cX7_init 22 = .ok (.dup, 1) := by decide +kernel
theorem dX7_init_23 : decode cX7_init 23 = .ok (.sipush 192, 3) := by decide +kernel
theorem dX7_init_26 : decode cX7_init 26 = .ok (.invokespecial 11, 3) := by decide +kernel
theorem dX7_init_29 : decode cX7_init 29 = .ok (.putfield 20, 3) := by decide +kernel
theorem dX7_init_32 : decode cX7_init 32 = .ok (.aload_n 0, 1) := by decide +kernel
theorem dX7_init_33 : decode cX7_init 33 = .ok (.new 9, 3) := by decide +kernel
theorem dX7_init_36 : decode cX7_init 36 = .ok (.dup, 1) := by decide +kernel
theorem dX7_init_37 : decode cX7_init 37 = .ok (.sipush 192, 3) := by decide +kernel
theorem dX7_init_40 : decode cX7_init 40 = .ok (.invokespecial 11, 3) := by decide +kernel
theorem dX7_init_43 : decode cX7_init 43 = .ok (.putfield 23, 3) := by decide +kernel
theorem dX7_init_46 : decode cX7_init 46 = .ok (.aload_n 0, 1) := by decide +kernel
theorem dX7_init_47 : decode cX7_init 47 = .ok (.new 9, 3) := by decide +kernel
theorem dX7_init_50 : decode cX7_init 50 = .ok (.dup, 1) := by decide +kernel
theorem dX7_init_51 : decode cX7_init 51 = .ok (.sipush 192, 3) := by decide +kernel
theorem dX7_init_54 : decode cX7_init 54 = .ok (.invokespecial 11, 3) := by decide +kernel
theorem dX7_init_57 : decode cX7_init 57 = .ok (.putfield 26, 3) := by decide +kernel
theorem dX7_init_60 : decode cX7_init 60 = .ok (.aload_n 0, 1) := by decide +kernel
theorem dX7_init_61 : decode cX7_init 61 = .ok (.new 9, 3) := by decide +kernel
theorem dX7_init_64 : decode cX7_init 64 = .ok (.dup, 1) := by decide +kernel
theorem dX7_init_65 : decode cX7_init 65 = .ok (.sipush 192, 3) := by decide +kernel
theorem dX7_init_68 : decode cX7_init 68 = .ok (.invokespecial 11, 3) := by decide +kernel
theorem dX7_init_71 : decode cX7_init 71 = .ok (.putfield 29, 3) := by decide +kernel
theorem dX7_init_74 : decode cX7_init 74 = .ok (.aload_n 0, 1) := by decide +kernel
theorem dX7_init_75 : decode cX7_init 75 = .ok (.new 9, 3) := by decide +kernel
theorem dX7_init_78 : decode cX7_init 78 = .ok (.dup, 1) := by decide +kernel
theorem dX7_init_79 : decode cX7_init 79 = .ok (.bipush 24, 2) := by decide +kernel
theorem dX7_init_81 : decode cX7_init 81 = .ok (.invokespecial 11, 3) := by decide +kernel
theorem dX7_init_84 : decode cX7_init 84 = .ok (.putfield 32, 3) := by decide +kernel
theorem dX7_init_87 : decode cX7_init 87 = .ok (.aload_n 0, 1) := by decide +kernel
theorem dX7_init_88 : decode cX7_init 88 = .ok (.new 9, 3) := by decide +kernel
theorem dX7_init_91 : decode cX7_init 91 = .ok (.dup, 1) := by decide +kernel
theorem dX7_init_92 : decode cX7_init 92 = .ok (.bipush 24, 2) := by decide +kernel
theorem dX7_init_94 : decode cX7_init 94 = .ok (.invokespecial 11, 3) := by decide +kernel
theorem dX7_init_97 : decode cX7_init 97 = .ok (.putfield 35, 3) := by decide +kernel
theorem dX7_init_100 : decode cX7_init 100 = .ok (.aload_n 0, 1) := by decide +kernel
theorem dX7_init_101 : decode cX7_init 101 = .ok (.new 9, 3) := by decide +kernel
theorem dX7_init_104 : decode cX7_init 104 = .ok (.dup, 1) := by decide +kernel
theorem dX7_init_105 : decode cX7_init 105 = .ok (.bipush 24, 2) := by decide +kernel
theorem dX7_init_107 : decode cX7_init 107 = .ok (.invokespecial 11, 3) := by decide +kernel
theorem dX7_init_110 : decode cX7_init 110 = .ok (.putfield 38, 3) := by decide +kernel
theorem dX7_init_113 : decode cX7_init 113 = .ok (.aload_n 0, 1) := by decide +kernel
theorem dX7_init_114 : decode cX7_init 114 = .ok (.new 9, 3) := by decide +kernel
theorem dX7_init_117 : decode cX7_init 117 = .ok (.dup, 1) := by decide +kernel
theorem dX7_init_118 : decode cX7_init 118 = .ok (.bipush 24, 2) := by decide +kernel
theorem dX7_init_120 : decode cX7_init 120 = .ok (.invokespecial 11, 3) := by decide +kernel
theorem dX7_init_123 : decode cX7_init 123 = .ok (.putfield 41, 3) := by decide +kernel
theorem dX7_init_126 : decode cX7_init 126 = .ok (.return_, 1) := by decide +kernel
theorem dX7_lay_0 : decode cX7_lay 0 = .ok (.aload_n 0, 1) := by decide +kernel
theorem dX7_lay_1 : decode cX7_lay 1 = .ok (.iconst 0, 1) := by decide +kernel
theorem dX7_lay_2 : decode cX7_lay 2 = .ok (.putfield 44, 3) := by decide +kernel
theorem dX7_lay_5 : decode cX7_lay 5 = .ok (.iconst 0, 1) := by decide +kernel
theorem dX7_lay_6 : decode cX7_lay 6 = .ok (.istore 4, 2) := by decide +kernel
theorem dX7_lay_8 : decode cX7_lay 8 = .ok (.iload 4, 2) := by decide +kernel
theorem dX7_lay_10 : decode cX7_lay 10 = .ok (.aload_n 1, 1) := by decide +kernel
theorem dX7_lay_11 : decode cX7_lay 11 = .ok (.getfield 48, 3) := by decide +kernel
theorem dX7_lay_14 : decode cX7_lay 14 = .ok (.if_icmp .ge 29, 3) := by decide +kernel
theorem dX7_lay_17 : decode cX7_lay 17 = .ok (.aload_n 0, 1) := by decide +kernel
theorem dX7_lay_18 : decode cX7_lay 18 = .ok (.aload_n 0, 1) := by decide +kernel
theorem dX7_lay_19 : decode cX7_lay 19 = .ok (.getfield 44, 3) := by decide +kernel
theorem dX7_lay_22 : decode cX7_lay 22 = .ok (.aload_n 3, 1) := by decide +kernel
theorem dX7_lay_23 : decode cX7_lay 23 = .ok (.getfield 53, 3) := by decide +kernel
theorem dX7_lay_26 : decode cX7_lay 26 = .ok (.iload 4, 2) := by decide +kernel
theorem dX7_lay_28 : decode cX7_lay 28 = .ok (.invokevirtual 58, 3) := by decide +kernel
theorem dX7_lay_31 : decode cX7_lay 31 = .ok (.invokestatic 62, 3) := by decide +kernel
theorem dX7_lay_34 : decode cX7_lay 34 = .ok (.putfield 44, 3) := by decide +kernel
theorem dX7_lay_37 : decode cX7_lay 37 = .ok (.iinc 4 1, 3) := by decide +kernel
theorem dX7_lay_40 : decode cX7_lay 40 = .ok (.goto (-32), 3) := by decide +kernel
theorem dX7_lay_43 : decode cX7_lay 43 = .ok (.aload_n 0, 1) := by decide +kernel
theorem dX7_lay_44 : decode cX7_lay 44 = .ok (.aload_n 1, 1) := by decide +kernel
theorem dX7_lay_45 : decode cX7_lay 45 = .ok (.getfield 68, 3) := by decide +kernel
theorem dX7_lay_48 : decode cX7_lay 48 = .ok (.iconst 0, 1) := by decide +kernel
theorem dX7_lay_49 : decode cX7_lay 49 = .ok (.invokevirtual 58, 3) := by decide +kernel
theorem dX7_lay_52 : decode cX7_lay 52 = .ok (.aload_n 0, 1) := by decide +kernel
theorem dX7_lay_53 : decode cX7_lay 53 = .ok (.getfield 44, 3) := by decide +kernel
theorem dX7_lay_56 : decode cX7_lay 56 = .ok (.isub, 1) := by decide +kernel
theorem dX7_lay_57 : decode cX7_lay 57 = .ok (.aload_n 1, 1) := by decide +kernel
theorem dX7_lay_58 : decode cX7_lay 58 = .ok (.getfield 68, 3) := by decide +kernel
theorem dX7_lay_61 : decode cX7_lay 61 = .ok (.iconst 5, 1) := by decide +kernel
theorem dX7_lay_62 : decode cX7_lay 62 = .ok (.invokevirtual 58, 3) := by decide +kernel
theorem dX7_lay_65 : decode cX7_lay 65 = .ok (.isub, 1) := by decide +kernel
theorem dX7_lay_66 : decode cX7_lay 66 = .ok (.putfield 71, 3) := by decide +kernel
theorem dX7_lay_69 : decode cX7_lay 69 = .ok (.aload_n 0, 1) := by decide +kernel
theorem dX7_lay_70 : decode cX7_lay 70 = .ok (.iconst 0, 1) := by decide +kernel
theorem dX7_lay_71 : decode cX7_lay 71 = .ok (.putfield 74, 3) := by decide +kernel
theorem dX7_lay_74 : decode cX7_lay 74 = .ok (.iconst 0, 1) := by decide +kernel
theorem dX7_lay_75 : decode cX7_lay 75 = .ok (.istore 4, 2) := by decide +kernel
theorem dX7_lay_77 : decode cX7_lay 77 = .ok (.iload 4, 2) := by decide +kernel
theorem dX7_lay_79 : decode cX7_lay 79 = .ok (.aload_n 1, 1) := by decide +kernel
theorem dX7_lay_80 : decode cX7_lay 80 = .ok (.getfield 48, 3) := by decide +kernel
theorem dX7_lay_83 : decode cX7_lay 83 = .ok (.if_icmp .ge 131, 3) := by decide +kernel
theorem dX7_lay_86 : decode cX7_lay 86 = .ok (.aload_n 0, 1) := by decide +kernel
theorem dX7_lay_87 : decode cX7_lay 87 = .ok (.getfield 32, 3) := by decide +kernel
theorem dX7_lay_90 : decode cX7_lay 90 = .ok (.iload 4, 2) := by decide +kernel
theorem dX7_lay_92 : decode cX7_lay 92 = .ok (.aload_n 0, 1) := by decide +kernel
theorem dX7_lay_93 : decode cX7_lay 93 = .ok (.getfield 74, 3) := by decide +kernel
theorem dX7_lay_96 : decode cX7_lay 96 = .ok (.invokevirtual 77, 3) := by decide +kernel
theorem dX7_lay_99 : decode cX7_lay 99 = .ok (.aload_n 0, 1) := by decide +kernel
theorem dX7_lay_100 : decode cX7_lay 100 = .ok (.aload_n 1, 1) := by decide +kernel
theorem dX7_lay_101 : decode cX7_lay 101 = .ok (.aload_n 2, 1) := by decide +kernel
theorem dX7_lay_102 : decode cX7_lay 102 = .ok (.iload 4, 2) := by decide +kernel
theorem dX7_lay_104 : decode cX7_lay 104 = .ok (.invokevirtual 81, 3) := by decide +kernel
theorem dX7_lay_107 : decode cX7_lay 107 = .ok (.aload_n 0, 1) := by decide +kernel
theorem dX7_lay_108 : decode cX7_lay 108 = .ok (.aload_n 1, 1) := by decide +kernel
theorem dX7_lay_109 : decode cX7_lay 109 = .ok (.iload 4, 2) := by decide +kernel
theorem dX7_lay_111 : decode cX7_lay 111 = .ok (.aload_n 3, 1) := by decide +kernel
theorem dX7_lay_112 : decode cX7_lay 112 = .ok (.getfield 53, 3) := by decide +kernel
theorem dX7_lay_115 : decode cX7_lay 115 = .ok (.iload 4, 2) := by decide +kernel
theorem dX7_lay_117 : decode cX7_lay 117 = .ok (.invokevirtual 58, 3) := by decide +kernel
theorem dX7_lay_120 : decode cX7_lay 120 = .ok (.invokevirtual 85, 3) := by decide +kernel
theorem dX7_lay_123 : decode cX7_lay 123 = .ok (.aload_n 0, 1) := by decide +kernel
theorem dX7_lay_124 : decode cX7_lay 124 = .ok (.getfield 41, 3) := by decide +kernel
theorem dX7_lay_127 : decode cX7_lay 127 = .ok (.iload 4, 2) := by decide +kernel
theorem dX7_lay_129 : decode cX7_lay 129 = .ok (.invokevirtual 58, 3) := by decide +kernel
theorem dX7_lay_132 : decode cX7_lay 132 = .ok (.aload_n 1, 1) := by decide +kernel
theorem dX7_lay_133 : decode cX7_lay 133 = .ok (.getfield 68, 3) := by decide +kernel
theorem dX7_lay_136 : decode cX7_lay 136 = .ok (.bipush 6, 2) := by decide +kernel
theorem dX7_lay_138 : decode cX7_lay 138 = .ok (.invokevirtual 58, 3) := by decide +kernel
theorem dX7_lay_141 : decode cX7_lay 141 = .ok (.if_icmp .ge 44, 3) := by decide +kernel
theorem dX7_lay_144 : decode cX7_lay 144 = .ok (.aload_n 0, 1) := by decide +kernel
theorem dX7_lay_145 : decode cX7_lay 145 = .ok (.getfield 26, 3) := by decide +kernel
theorem dX7_lay_148 : decode cX7_lay 148 = .ok (.aload_n 0, 1) := by decide +kernel
theorem dX7_lay_149 : decode cX7_lay 149 = .ok (.getfield 74, 3) := by decide +kernel
theorem dX7_lay_152 : decode cX7_lay 152 = .ok (.iconst 1, 1) := by decide +kernel
theorem dX7_lay_153 : decode cX7_lay 153 = .ok (.isub, 1) := by decide +kernel
theorem dX7_lay_154 : decode cX7_lay 154 = .ok (.invokevirtual 58, 3) := by decide +kernel
theorem dX7_lay_157 : decode cX7_lay 157 = .ok (.iconst 1, 1) := by decide +kernel
theorem dX7_lay_158 : decode cX7_lay 158 = .ok (.if_icmp .le 27, 3) := by decide +kernel
theorem dX7_lay_161 : decode cX7_lay 161 = .ok (.aload_n 0, 1) := by decide +kernel
theorem dX7_lay_162 : decode cX7_lay 162 = .ok (.aload_n 1, 1) := by decide +kernel
theorem dX7_lay_163 : decode cX7_lay 163 = .ok (.aload_n 2, 1) := by decide +kernel
theorem dX7_lay_164 : decode cX7_lay 164 = .ok (.iload 4, 2) := by decide +kernel
theorem dX7_lay_166 : decode cX7_lay 166 = .ok (.invokevirtual 89, 3) := by decide +kernel
theorem dX7_lay_169 : decode cX7_lay 169 = .ok (.aload_n 0, 1) := by decide +kernel
theorem dX7_lay_170 : decode cX7_lay 170 = .ok (.aload_n 1, 1) := by decide +kernel
theorem dX7_lay_171 : decode cX7_lay 171 = .ok (.iload 4, 2) := by decide +kernel
theorem dX7_lay_173 : decode cX7_lay 173 = .ok (.aload_n 3, 1) := by decide +kernel
theorem dX7_lay_174 : decode cX7_lay 174 = .ok (.getfield 53, 3) := by decide +kernel
theorem dX7_lay_177 : decode cX7_lay 177 = .ok (.iload 4, 2) := by decide +kernel
theorem dX7_lay_179 : decode cX7_lay 179 = .ok (.invokevirtual 58, 3) := by decide +kernel
theorem dX7_lay_182 : decode cX7_lay 182 = .ok (.invokevirtual 85, 3) := by decide +kernel
theorem dX7_lay_185 : decode cX7_lay 185 = .ok (.aload_n 0, 1) := by decide +kernel
theorem dX7_lay_186 : decode cX7_lay 186 = .ok (.getfield 35, 3) := by decide +kernel
theorem dX7_lay_189 : decode cX7_lay 189 = .ok (.iload 4, 2) := by decide +kernel
theorem dX7_lay_191 : decode cX7_lay 191 = .ok (.aload_n 0, 1) := by decide +kernel
theorem dX7_lay_192 : decode cX7_lay 192 = .ok (.getfield 74, 3) := by decide +kernel
theorem dX7_lay_195 : decode cX7_lay 195 = .ok (.aload_n 0, 1) := by decide +kernel
theorem dX7_lay_196 : decode cX7_lay 196 = .ok (.getfield 32, 3) := by decide +kernel
theorem dX7_lay_199 : decode cX7_lay 199 = .ok (.iload 4, 2) := by decide +kernel
theorem dX7_lay_201 : decode cX7_lay 201 = .ok (.invokevirtual 58, 3) := by decide +kernel
theorem dX7_lay_204 : decode cX7_lay 204 = .ok (.isub, 1) := by decide +kernel
theorem dX7_lay_205 : decode cX7_lay 205 = .ok (.invokevirtual 77, 3) := by decide +kernel
theorem dX7_lay_208 : decode cX7_lay 208 = .ok (.iinc 4 1, 3) := by decide +kernel
theorem dX7_lay_211 : decode cX7_lay 211 = .ok (.goto (-134), 3) := by decide +kernel
theorem dX7_lay_214 : decode cX7_lay 214 = .ok (.return_, 1) := by decide +kernel
theorem dX7_firstStart_0 : decode cX7_firstStart 0 = .ok (.aload_n 0, 1) := by decide +kernel
theorem dX7_firstStart_1 : decode cX7_firstStart 1 = .ok (.getfield 68, 3) := by decide +kernel
theorem dX7_firstStart_4 : decode cX7_firstStart 4 = .ok (.iconst 3, 1) := by decide +kernel
theorem dX7_firstStart_5 : decode cX7_firstStart 5 = .ok (.invokevirtual 58, 3) := by decide +kernel
theorem dX7_firstStart_8 : decode cX7_firstStart 8 = .ok (.aload_n 0, 1) := by decide +kernel
theorem dX7_firstStart_9 : decode cX7_firstStart 9 = .ok (.getfield 92, 3) := by decide +kernel
theorem dX7_firstStart_12 : decode cX7_firstStart 12 = .ok (.iload_n 1, 1) := by decide +kernel
theorem dX7_firstStart_13 : decode cX7_firstStart 13 = .ok (.invokevirtual 58, 3) := by decide +kernel
theorem dX7_firstStart_16 : decode cX7_firstStart 16 = .ok (.iconst 1, 1) := by decide +kernel
theorem dX7_firstStart_17 : decode cX7_firstStart 17 = .ok (.isub, 1) := by decide +kernel
theorem dX7_firstStart_18 : decode cX7_firstStart 18 = .ok (.imul, 1) := by decide +kernel
theorem dX7_firstStart_19 : decode cX7_firstStart 19 = .ok (.ireturn, 1) := by decide +kernel
theorem dX7_layTokens_0 : decode cX7_layTokens 0 = .ok (.aload_n 1, 1) := by decide +kernel
theorem dX7_layTokens_1 : decode cX7_layTokens 1 = .ok (.iload_n 3, 1) := by decide +kernel
theorem dX7_layTokens_2 : decode cX7_layTokens 2 = .ok (.invokestatic 95, 3) := by decide +kernel
theorem dX7_layTokens_5 : decode cX7_layTokens 5 = .ok (.istore 4, 2) := by decide +kernel
theorem dX7_layTokens_7 : decode cX7_layTokens 7 = .ok (.iconst 0, 1) := by decide +kernel
theorem dX7_layTokens_8 : decode cX7_layTokens 8 = .ok (.istore 5, 2) := by decide +kernel
theorem dX7_layTokens_10 : decode cX7_layTokens 10 = .ok (.iload 5, 2) := by decide +kernel
theorem dX7_layTokens_12 : decode cX7_layTokens 12 = .ok (.aload_n 1, 1) := by decide +kernel
theorem dX7_layTokens_13 : decode cX7_layTokens 13 = .ok (.getfield 99, 3) := by decide +kernel
theorem dX7_layTokens_16 : decode cX7_layTokens 16 = .ok (.iload_n 3, 1) := by decide +kernel
theorem dX7_layTokens_17 : decode cX7_layTokens 17 = .ok (.invokevirtual 58, 3) := by decide +kernel
theorem dX7_layTokens_20 : decode cX7_layTokens 20 = .ok (.if_icmp .ge 125, 3) := by decide +kernel
theorem dX7_layTokens_23 : decode cX7_layTokens 23 = .ok (.aload_n 2, 1) := by decide +kernel
theorem dX7_layTokens_24 : decode cX7_layTokens 24 = .ok (.getfield 102, 3) := by decide +kernel
theorem dX7_layTokens_27 : decode cX7_layTokens 27 = .ok (.iload_n 3, 1) := by decide +kernel
theorem dX7_layTokens_28 : decode cX7_layTokens 28 = .ok (.bipush 8, 2) := by decide +kernel
theorem dX7_layTokens_30 : decode cX7_layTokens 30 = .ok (.imul, 1) := by decide +kernel
theorem dX7_layTokens_31 : decode cX7_layTokens 31 = .ok (.iload 5, 2) := by decide +kernel
theorem dX7_layTokens_33 : decode cX7_layTokens 33 = .ok (.iadd, 1) := by decide +kernel
theorem dX7_layTokens_34 : decode cX7_layTokens 34 = .ok (.invokevirtual 58, 3) := by decide +kernel
theorem dX7_layTokens_37 : decode cX7_layTokens 37 = .ok (.istore 6, 2) := by decide +kernel
theorem dX7_layTokens_39 : decode cX7_layTokens 39 = .ok (.aload_n 0, 1) := by decide +kernel
theorem dX7_layTokens_40 : decode cX7_layTokens 40 = .ok (.getfield 74, 3) := by decide +kernel
theorem dX7_layTokens_43 : decode cX7_layTokens 43 = .ok (.iconst 1, 1) := by decide +kernel
theorem dX7_layTokens_44 : decode cX7_layTokens 44 = .ok (.isub, 1) := by decide +kernel
theorem dX7_layTokens_45 : decode cX7_layTokens 45 = .ok (.istore 7, 2) := by decide +kernel
theorem dX7_layTokens_47 : decode cX7_layTokens 47 = .ok (.aload_n 0, 1) := by decide +kernel
theorem dX7_layTokens_48 : decode cX7_layTokens 48 = .ok (.getfield 23, 3) := by decide +kernel
theorem dX7_layTokens_51 : decode cX7_layTokens 51 = .ok (.iload 7, 2) := by decide +kernel
theorem dX7_layTokens_53 : decode cX7_layTokens 53 = .ok (.invokevirtual 58, 3) := by decide +kernel
theorem dX7_layTokens_56 : decode cX7_layTokens 56 = .ok (.bipush 32, 2) := by decide +kernel
theorem dX7_layTokens_58 : decode cX7_layTokens 58 = .ok (.invokestatic 107, 3) := by decide +kernel
theorem dX7_layTokens_61 : decode cX7_layTokens 61 = .ok (.iadd, 1) := by decide +kernel
theorem dX7_layTokens_62 : decode cX7_layTokens 62 = .ok (.iload 6, 2) := by decide +kernel
theorem dX7_layTokens_64 : decode cX7_layTokens 64 = .ok (.iadd, 1) := by decide +kernel
theorem dX7_layTokens_65 : decode cX7_layTokens 65 = .ok (.istore 8, 2) := by decide +kernel
theorem dX7_layTokens_67 : decode cX7_layTokens 67 = .ok (.iload 5, 2) := by decide +kernel
theorem dX7_layTokens_69 : decode cX7_layTokens 69 = .ok (.ifCond .ne 17, 3) := by decide +kernel
theorem dX7_layTokens_72 : decode cX7_layTokens 72 = .ok (.aload_n 0, 1) := by decide +kernel
theorem dX7_layTokens_73 : decode cX7_layTokens 73 = .ok (.iload_n 3, 1) := by decide +kernel
theorem dX7_layTokens_74 : decode cX7_layTokens 74 = .ok (.iload 4, 2) := by decide +kernel
theorem dX7_layTokens_76 : decode cX7_layTokens 76 = .ok (.iload 5, 2) := by decide +kernel
theorem dX7_layTokens_78 : decode cX7_layTokens 78 = .ok (.iload 6, 2) := by decide +kernel
theorem dX7_layTokens_80 : decode cX7_layTokens 80 = .ok (.invokevirtual 110, 3) := by decide +kernel
theorem dX7_layTokens_83 : decode cX7_layTokens 83 = .ok (.goto 56, 3) := by decide +kernel
theorem dX7_layTokens_86 : decode cX7_layTokens 86 = .ok (.iload 8, 2) := by decide +kernel
theorem dX7_layTokens_88 : decode cX7_layTokens 88 = .ok (.aload_n 0, 1) := by decide +kernel
theorem dX7_layTokens_89 : decode cX7_layTokens 89 = .ok (.getfield 71, 3) := by decide +kernel
theorem dX7_layTokens_92 : decode cX7_layTokens 92 = .ok (.if_icmp .gt 27, 3) := by decide +kernel
theorem dX7_layTokens_95 : decode cX7_layTokens 95 = .ok (.aload_n 0, 1) := by decide +kernel
theorem dX7_layTokens_96 : decode cX7_layTokens 96 = .ok (.getfield 23, 3) := by decide +kernel
theorem dX7_layTokens_99 : decode cX7_layTokens 99 = .ok (.iload 7, 2) := by decide +kernel
theorem dX7_layTokens_101 : decode cX7_layTokens 101 = .ok (.iload 8, 2) := by decide +kernel
theorem dX7_layTokens_103 : decode cX7_layTokens 103 = .ok (.invokevirtual 77, 3) := by decide +kernel
theorem dX7_layTokens_106 : decode cX7_layTokens 106 = .ok (.aload_n 0, 1) := by decide +kernel
theorem dX7_layTokens_107 : decode cX7_layTokens 107 = .ok (.getfield 26, 3) := by decide +kernel
theorem dX7_layTokens_110 : decode cX7_layTokens 110 = .ok (.iload 7, 2) := by decide +kernel
theorem dX7_layTokens_112 : decode cX7_layTokens 112 = .ok (.iconst 1, 1) := by decide +kernel
theorem dX7_layTokens_113 : decode cX7_layTokens 113 = .ok (.invokevirtual 114, 3) := by decide +kernel
theorem dX7_layTokens_116 : decode cX7_layTokens 116 = .ok (.goto 23, 3) := by decide +kernel
theorem dX7_layTokens_119 : decode cX7_layTokens 119 = .ok (.aload_n 0, 1) := by decide +kernel
theorem dX7_layTokens_120 : decode cX7_layTokens 120 = .ok (.iload_n 3, 1) := by decide +kernel
theorem dX7_layTokens_121 : decode cX7_layTokens 121 = .ok (.iload 4, 2) := by decide +kernel
theorem dX7_layTokens_123 : decode cX7_layTokens 123 = .ok (.aload_n 1, 1) := by decide +kernel
theorem dX7_layTokens_124 : decode cX7_layTokens 124 = .ok (.getfield 68, 3) := by decide +kernel
theorem dX7_layTokens_127 : decode cX7_layTokens 127 = .ok (.iconst 4, 1) := by decide +kernel
theorem dX7_layTokens_128 : decode cX7_layTokens 128 = .ok (.invokevirtual 58, 3) := by decide +kernel
theorem dX7_layTokens_131 : decode cX7_layTokens 131 = .ok (.iadd, 1) := by decide +kernel
theorem dX7_layTokens_132 : decode cX7_layTokens 132 = .ok (.iload 5, 2) := by decide +kernel
theorem dX7_layTokens_134 : decode cX7_layTokens 134 = .ok (.iload 6, 2) := by decide +kernel
theorem dX7_layTokens_136 : decode cX7_layTokens 136 = .ok (.invokevirtual 110, 3) := by decide +kernel
theorem dX7_layTokens_139 : decode cX7_layTokens 139 = .ok (.iinc 5 1, 3) := by decide +kernel
theorem dX7_layTokens_142 : decode cX7_layTokens 142 = .ok (.goto (-132), 3) := by decide +kernel
theorem dX7_layTokens_145 : decode cX7_layTokens 145 = .ok (.return_, 1) := by decide +kernel
theorem dX7_openLine_0 : decode cX7_openLine 0 = .ok (.aload_n 0, 1) := by decide +kernel
theorem dX7_openLine_1 : decode cX7_openLine 1 = .ok (.getfield 14, 3) := by decide +kernel
theorem dX7_openLine_4 : decode cX7_openLine 4 = .ok (.aload_n 0, 1) := by decide +kernel
theorem dX7_openLine_5 : decode cX7_openLine 5 = .ok (.getfield 74, 3) := by decide +kernel
theorem dX7_openLine_8 : decode cX7_openLine 8 = .ok (.iload_n 1, 1) := by decide +kernel
theorem dX7_openLine_9 : decode cX7_openLine 9 = .ok (.invokevirtual 77, 3) := by decide +kernel
theorem dX7_openLine_12 : decode cX7_openLine 12 = .ok (.aload_n 0, 1) := by decide +kernel
theorem dX7_openLine_13 : decode cX7_openLine 13 = .ok (.getfield 20, 3) := by decide +kernel
theorem dX7_openLine_16 : decode cX7_openLine 16 = .ok (.aload_n 0, 1) := by decide +kernel
theorem dX7_openLine_17 : decode cX7_openLine 17 = .ok (.getfield 74, 3) := by decide +kernel
theorem dX7_openLine_20 : decode cX7_openLine 20 = .ok (.iload_n 2, 1) := by decide +kernel
theorem dX7_openLine_21 : decode cX7_openLine 21 = .ok (.invokevirtual 77, 3) := by decide +kernel
theorem dX7_openLine_24 : decode cX7_openLine 24 = .ok (.aload_n 0, 1) := by decide +kernel
theorem dX7_openLine_25 : decode cX7_openLine 25 = .ok (.getfield 23, 3) := by decide +kernel
theorem dX7_openLine_28 : decode cX7_openLine 28 = .ok (.aload_n 0, 1) := by decide +kernel
theorem dX7_openLine_29 : decode cX7_openLine 29 = .ok (.getfield 74, 3) := by decide +kernel
theorem dX7_openLine_32 : decode cX7_openLine 32 = .ok (.iload_n 2, 1) := by decide +kernel
theorem dX7_openLine_33 : decode cX7_openLine 33 = .ok (.iload 4, 2) := by decide +kernel
theorem dX7_openLine_35 : decode cX7_openLine 35 = .ok (.iadd, 1) := by decide +kernel
theorem dX7_openLine_36 : decode cX7_openLine 36 = .ok (.invokevirtual 77, 3) := by decide +kernel
theorem dX7_openLine_39 : decode cX7_openLine 39 = .ok (.aload_n 0, 1) := by decide +kernel
theorem dX7_openLine_40 : decode cX7_openLine 40 = .ok (.getfield 26, 3) := by decide +kernel
theorem dX7_openLine_43 : decode cX7_openLine 43 = .ok (.aload_n 0, 1) := by decide +kernel
theorem dX7_openLine_44 : decode cX7_openLine 44 = .ok (.getfield 74, 3) := by decide +kernel
theorem dX7_openLine_47 : decode cX7_openLine 47 = .ok (.iconst 1, 1) := by decide +kernel
theorem dX7_openLine_48 : decode cX7_openLine 48 = .ok (.invokevirtual 77, 3) := by decide +kernel
theorem dX7_openLine_51 : decode cX7_openLine 51 = .ok (.aload_n 0, 1) := by decide +kernel
theorem dX7_openLine_52 : decode cX7_openLine 52 = .ok (.getfield 29, 3) := by decide +kernel
theorem dX7_openLine_55 : decode cX7_openLine 55 = .ok (.aload_n 0, 1) := by decide +kernel
theorem dX7_openLine_56 : decode cX7_openLine 56 = .ok (.getfield 74, 3) := by decide +kernel
theorem dX7_openLine_59 : decode cX7_openLine 59 = .ok (.iload_n 3, 1) := by decide +kernel
theorem dX7_openLine_60 : decode cX7_openLine 60 = .ok (.invokevirtual 77, 3) := by decide +kernel
theorem dX7_openLine_63 : decode cX7_openLine 63 = .ok (.aload_n 0, 1) := by decide +kernel
theorem dX7_openLine_64 : decode cX7_openLine 64 = .ok (.dup, 1) := by decide +kernel
theorem dX7_openLine_65 : decode cX7_openLine 65 = .ok (.getfield 74, 3) := by decide +kernel
theorem dX7_openLine_68 : decode cX7_openLine 68 = .ok (.iconst 1, 1) := by decide +kernel
theorem dX7_openLine_69 : decode cX7_openLine 69 = .ok (.iadd, 1) := by decide +kernel
theorem dX7_openLine_70 : decode cX7_openLine 70 = .ok (.putfield 74, 3) := by decide +kernel
theorem dX7_openLine_73 : decode cX7_openLine 73 = .ok (.return_, 1) := by decide +kernel
theorem dX7_breakLastToken_0 : decode cX7_breakLastToken 0 = .ok (.aload_n 1, 1) := by decide +kernel
theorem dX7_breakLastToken_1 : decode cX7_breakLastToken 1 = .ok (.getfield 99, 3) := by decide +kernel
theorem dX7_breakLastToken_4 : decode cX7_breakLastToken 4 = .ok (.iload_n 3, 1) := by decide +kernel
theorem dX7_breakLastToken_5 : decode cX7_breakLastToken 5 = .ok (.invokevirtual 58, 3) := by decide +kernel
theorem dX7_breakLastToken_8 : decode cX7_breakLastToken 8 = .ok (.iconst 1, 1) := by decide +kernel
theorem dX7_breakLastToken_9 : decode cX7_breakLastToken 9 = .ok (.isub, 1) := by decide +kernel
theorem dX7_breakLastToken_10 : decode cX7_breakLastToken 10 = .ok (.istore 4, 2) := by decide +kernel
theorem dX7_breakLastToken_12 : decode cX7_breakLastToken 12 = .ok (.aload_n 2, 1) := by decide +kernel
theorem dX7_breakLastToken_13 : decode cX7_breakLastToken 13 = .ok (.getfield 102, 3) := by decide +kernel
theorem dX7_breakLastToken_16 : decode cX7_breakLastToken 16 = .ok (.iload_n 3, 1) := by decide +kernel
theorem dX7_breakLastToken_17 : decode cX7_breakLastToken 17 = .ok (.bipush 8, 2) := by decide +kernel
theorem dX7_breakLastToken_19 : decode cX7_breakLastToken 19 = .ok (.imul, 1) := by decide +kernel
theorem dX7_breakLastToken_20 : decode cX7_breakLastToken 20 = .ok (.iload 4, 2) := by decide +kernel
theorem dX7_breakLastToken_22 : decode cX7_breakLastToken 22 = .ok (.iadd, 1) := by decide +kernel
theorem dX7_breakLastToken_23 : decode cX7_breakLastToken 23 = .ok (.invokevirtual 58, 3) := by decide +kernel
theorem dX7_breakLastToken_26 : decode cX7_breakLastToken 26 = .ok (.istore 5, 2) := by decide +kernel
theorem dX7_breakLastToken_28 : decode cX7_breakLastToken 28 = .ok (.aload_n 0, 1) := by decide +kernel
theorem dX7_breakLastToken_29 : decode cX7_breakLastToken 29 = .ok (.getfield 23, 3) := by decide +kernel
theorem dX7_breakLastToken_32 : decode cX7_breakLastToken 32 = .ok (.aload_n 0, 1) := by decide +kernel
theorem dX7_breakLastToken_33 : decode cX7_breakLastToken 33 = .ok (.getfield 74, 3) := by decide +kernel
theorem dX7_breakLastToken_36 : decode cX7_breakLastToken 36 = .ok (.iconst 1, 1) := by decide +kernel
theorem dX7_breakLastToken_37 : decode cX7_breakLastToken 37 = .ok (.isub, 1) := by decide +kernel
theorem dX7_breakLastToken_38 : decode cX7_breakLastToken 38 = .ok (.iload 5, 2) := by decide +kernel
theorem dX7_breakLastToken_40 : decode cX7_breakLastToken 40 = .ok (.ineg, 1) := by decide +kernel
theorem dX7_breakLastToken_41 : decode cX7_breakLastToken 41 = .ok (.bipush 32, 2) := by decide +kernel
theorem dX7_breakLastToken_43 : decode cX7_breakLastToken 43 = .ok (.invokestatic 107, 3) := by decide +kernel
theorem dX7_breakLastToken_46 : decode cX7_breakLastToken 46 = .ok (.isub, 1) := by decide +kernel
theorem dX7_breakLastToken_47 : decode cX7_breakLastToken 47 = .ok (.invokevirtual 114, 3) := by decide +kernel
theorem dX7_breakLastToken_50 : decode cX7_breakLastToken 50 = .ok (.aload_n 0, 1) := by decide +kernel
theorem dX7_breakLastToken_51 : decode cX7_breakLastToken 51 = .ok (.getfield 26, 3) := by decide +kernel
theorem dX7_breakLastToken_54 : decode cX7_breakLastToken 54 = .ok (.aload_n 0, 1) := by decide +kernel
theorem dX7_breakLastToken_55 : decode cX7_breakLastToken 55 = .ok (.getfield 74, 3) := by decide +kernel
theorem dX7_breakLastToken_58 : decode cX7_breakLastToken 58 = .ok (.iconst 1, 1) := by decide +kernel
theorem dX7_breakLastToken_59 : decode cX7_breakLastToken 59 = .ok (.isub, 1) := by decide +kernel
theorem dX7_breakLastToken_60 : decode cX7_breakLastToken 60 = .ok (.iconst (-1), 1) := by decide +kernel
theorem dX7_breakLastToken_61 : decode cX7_breakLastToken 61 = .ok (.invokevirtual 114, 3) := by decide +kernel
theorem dX7_breakLastToken_64 : decode cX7_breakLastToken 64 = .ok (.aload_n 0, 1) := by decide +kernel
theorem dX7_breakLastToken_65 : decode cX7_breakLastToken 65 = .ok (.iload_n 3, 1) := by decide +kernel
theorem dX7_breakLastToken_66 : decode cX7_breakLastToken 66 = .ok (.aload_n 1, 1) := by decide +kernel
theorem dX7_breakLastToken_67 : decode cX7_breakLastToken 67 = .ok (.iload_n 3, 1) := by decide +kernel
theorem dX7_breakLastToken_68 : decode cX7_breakLastToken 68 = .ok (.invokestatic 95, 3) := by decide +kernel
theorem dX7_breakLastToken_71 : decode cX7_breakLastToken 71 = .ok (.aload_n 1, 1) := by decide +kernel
theorem dX7_breakLastToken_72 : decode cX7_breakLastToken 72 = .ok (.getfield 68, 3) := by decide +kernel
theorem dX7_breakLastToken_75 : decode cX7_breakLastToken 75 = .ok (.iconst 4, 1) := by decide +kernel
theorem dX7_breakLastToken_76 : decode cX7_breakLastToken 76 = .ok (.invokevirtual 58, 3) := by decide +kernel
theorem dX7_breakLastToken_79 : decode cX7_breakLastToken 79 = .ok (.iadd, 1) := by decide +kernel
theorem dX7_breakLastToken_80 : decode cX7_breakLastToken 80 = .ok (.iload 4, 2) := by decide +kernel
theorem dX7_breakLastToken_82 : decode cX7_breakLastToken 82 = .ok (.iload 5, 2) := by decide +kernel
theorem dX7_breakLastToken_84 : decode cX7_breakLastToken 84 = .ok (.invokevirtual 110, 3) := by decide +kernel
theorem dX7_breakLastToken_87 : decode cX7_breakLastToken 87 = .ok (.return_, 1) := by decide +kernel
theorem dX7_layDots_0 : decode cX7_layDots 0 = .ok (.aload_n 1, 1) := by decide +kernel
theorem dX7_layDots_1 : decode cX7_layDots 1 = .ok (.getfield 68, 3) := by decide +kernel
theorem dX7_layDots_4 : decode cX7_layDots 4 = .ok (.iconst 5, 1) := by decide +kernel
theorem dX7_layDots_5 : decode cX7_layDots 5 = .ok (.invokevirtual 58, 3) := by decide +kernel
theorem dX7_layDots_8 : decode cX7_layDots 8 = .ok (.istore 4, 2) := by decide +kernel
theorem dX7_layDots_10 : decode cX7_layDots 10 = .ok (.aload_n 1, 1) := by decide +kernel
theorem dX7_layDots_11 : decode cX7_layDots 11 = .ok (.getfield 68, 3) := by decide +kernel
theorem dX7_layDots_14 : decode cX7_layDots 14 = .ok (.bipush 7, 2) := by decide +kernel
theorem dX7_layDots_16 : decode cX7_layDots 16 = .ok (.invokevirtual 58, 3) := by decide +kernel
theorem dX7_layDots_19 : decode cX7_layDots 19 = .ok (.istore 5, 2) := by decide +kernel
theorem dX7_layDots_21 : decode cX7_layDots 21 = .ok (.aload_n 0, 1) := by decide +kernel
theorem dX7_layDots_22 : decode cX7_layDots 22 = .ok (.getfield 23, 3) := by decide +kernel
theorem dX7_layDots_25 : decode cX7_layDots 25 = .ok (.aload_n 0, 1) := by decide +kernel
theorem dX7_layDots_26 : decode cX7_layDots 26 = .ok (.getfield 74, 3) := by decide +kernel
theorem dX7_layDots_29 : decode cX7_layDots 29 = .ok (.iconst 1, 1) := by decide +kernel
theorem dX7_layDots_30 : decode cX7_layDots 30 = .ok (.isub, 1) := by decide +kernel
theorem dX7_layDots_31 : decode cX7_layDots 31 = .ok (.invokevirtual 58, 3) := by decide +kernel
theorem dX7_layDots_34 : decode cX7_layDots 34 = .ok (.iload 4, 2) := by decide +kernel
theorem dX7_layDots_36 : decode cX7_layDots 36 = .ok (.iadd, 1) := by decide +kernel
theorem dX7_layDots_37 : decode cX7_layDots 37 = .ok (.iload 5, 2) := by decide +kernel
theorem dX7_layDots_39 : decode cX7_layDots 39 = .ok (.invokestatic 117, 3) := by decide +kernel
theorem dX7_layDots_42 : decode cX7_layDots 42 = .ok (.iload 5, 2) := by decide +kernel
theorem dX7_layDots_44 : decode cX7_layDots 44 = .ok (.imul, 1) := by decide +kernel
theorem dX7_layDots_45 : decode cX7_layDots 45 = .ok (.istore 6, 2) := by decide +kernel
theorem dX7_layDots_47 : decode cX7_layDots 47 = .ok (.aload_n 1, 1) := by decide +kernel
theorem dX7_layDots_48 : decode cX7_layDots 48 = .ok (.getfield 68, 3) := by decide +kernel
theorem dX7_layDots_51 : decode cX7_layDots 51 = .ok (.iconst 0, 1) := by decide +kernel
theorem dX7_layDots_52 : decode cX7_layDots 52 = .ok (.invokevirtual 58, 3) := by decide +kernel
theorem dX7_layDots_55 : decode cX7_layDots 55 = .ok (.iload_n 3, 1) := by decide +kernel
theorem dX7_layDots_56 : decode cX7_layDots 56 = .ok (.isub, 1) := by decide +kernel
theorem dX7_layDots_57 : decode cX7_layDots 57 = .ok (.iload 4, 2) := by decide +kernel
theorem dX7_layDots_59 : decode cX7_layDots 59 = .ok (.isub, 1) := by decide +kernel
theorem dX7_layDots_60 : decode cX7_layDots 60 = .ok (.iconst 1, 1) := by decide +kernel
theorem dX7_layDots_61 : decode cX7_layDots 61 = .ok (.isub, 1) := by decide +kernel
theorem dX7_layDots_62 : decode cX7_layDots 62 = .ok (.istore 7, 2) := by decide +kernel
theorem dX7_layDots_64 : decode cX7_layDots 64 = .ok (.iload 6, 2) := by decide +kernel
theorem dX7_layDots_66 : decode cX7_layDots 66 = .ok (.iload 7, 2) := by decide +kernel
theorem dX7_layDots_68 : decode cX7_layDots 68 = .ok (.if_icmp .le 7, 3) := by decide +kernel
theorem dX7_layDots_71 : decode cX7_layDots 71 = .ok (.iconst 1, 1) := by decide +kernel
theorem dX7_layDots_72 : decode cX7_layDots 72 = .ok (.goto 4, 3) := by decide +kernel
theorem dX7_layDots_75 : decode cX7_layDots 75 = .ok (.iconst 0, 1) := by decide +kernel
theorem dX7_layDots_76 : decode cX7_layDots 76 = .ok (.istore 8, 2) := by decide +kernel
theorem dX7_layDots_78 : decode cX7_layDots 78 = .ok (.aload_n 0, 1) := by decide +kernel
theorem dX7_layDots_79 : decode cX7_layDots 79 = .ok (.getfield 38, 3) := by decide +kernel
theorem dX7_layDots_82 : decode cX7_layDots 82 = .ok (.iload_n 2, 1) := by decide +kernel
theorem dX7_layDots_83 : decode cX7_layDots 83 = .ok (.iload 8, 2) := by decide +kernel
theorem dX7_layDots_85 : decode cX7_layDots 85 = .ok (.ifCond .eq 7, 3) := by decide +kernel
theorem dX7_layDots_88 : decode cX7_layDots 88 = .ok (.iconst (-1), 1) := by decide +kernel
theorem dX7_layDots_89 : decode cX7_layDots 89 = .ok (.goto 5, 3) := by decide +kernel
theorem dX7_layDots_92 : decode cX7_layDots 92 = .ok (.iload 6, 2) := by decide +kernel
theorem dX7_layDots_94 : decode cX7_layDots 94 = .ok (.invokevirtual 77, 3) := by decide +kernel
theorem dX7_layDots_97 : decode cX7_layDots 97 = .ok (.aload_n 0, 1) := by decide +kernel
theorem dX7_layDots_98 : decode cX7_layDots 98 = .ok (.getfield 41, 3) := by decide +kernel
theorem dX7_layDots_101 : decode cX7_layDots 101 = .ok (.iload_n 2, 1) := by decide +kernel
theorem dX7_layDots_102 : decode cX7_layDots 102 = .ok (.iload 8, 2) := by decide +kernel
theorem dX7_layDots_104 : decode cX7_layDots 104 = .ok (.ifCond .eq 7, 3) := by decide +kernel
theorem dX7_layDots_107 : decode cX7_layDots 107 = .ok (.iconst 0, 1) := by decide +kernel
theorem dX7_layDots_108 : decode cX7_layDots 108 = .ok (.goto 15, 3) := by decide +kernel
theorem dX7_layDots_111 : decode cX7_layDots 111 = .ok (.iload 7, 2) := by decide +kernel
theorem dX7_layDots_113 : decode cX7_layDots 113 = .ok (.iload 6, 2) := by decide +kernel
theorem dX7_layDots_115 : decode cX7_layDots 115 = .ok (.isub, 1) := by decide +kernel
theorem dX7_layDots_116 : decode cX7_layDots 116 = .ok (.iload 5, 2) := by decide +kernel
theorem dX7_layDots_118 : decode cX7_layDots 118 = .ok (.invokestatic 120, 3) := by decide +kernel
theorem dX7_layDots_121 : decode cX7_layDots 121 = .ok (.iconst 1, 1) := by decide +kernel
theorem dX7_layDots_122 : decode cX7_layDots 122 = .ok (.iadd, 1) := by decide +kernel
theorem dX7_layDots_123 : decode cX7_layDots 123 = .ok (.invokevirtual 77, 3) := by decide +kernel
theorem dX7_layDots_126 : decode cX7_layDots 126 = .ok (.return_, 1) := by decide +kernel
theorem dX7_hasDotAt_0 : decode cX7_hasDotAt 0 = .ok (.iload_n 2, 1) := by decide +kernel
theorem dX7_hasDotAt_1 : decode cX7_hasDotAt 1 = .ok (.aload_n 0, 1) := by decide +kernel
theorem dX7_hasDotAt_2 : decode cX7_hasDotAt 2 = .ok (.getfield 38, 3) := by decide +kernel
theorem dX7_hasDotAt_5 : decode cX7_hasDotAt 5 = .ok (.iload_n 1, 1) := by decide +kernel
theorem dX7_hasDotAt_6 : decode cX7_hasDotAt 6 = .ok (.invokevirtual 58, 3) := by decide +kernel
theorem dX7_hasDotAt_9 : decode cX7_hasDotAt 9 = .ok (.isub, 1) := by decide +kernel
theorem dX7_hasDotAt_10 : decode cX7_hasDotAt 10 = .ok (.istore 4, 2) := by decide +kernel
theorem dX7_hasDotAt_12 : decode cX7_hasDotAt 12 = .ok (.iload 4, 2) := by decide +kernel
theorem dX7_hasDotAt_14 : decode cX7_hasDotAt 14 = .ok (.iload_n 3, 1) := by decide +kernel
theorem dX7_hasDotAt_15 : decode cX7_hasDotAt 15 = .ok (.invokestatic 120, 3) := by decide +kernel
theorem dX7_hasDotAt_18 : decode cX7_hasDotAt 18 = .ok (.istore 5, 2) := by decide +kernel
theorem dX7_hasDotAt_20 : decode cX7_hasDotAt 20 = .ok (.iload 4, 2) := by decide +kernel
theorem dX7_hasDotAt_22 : decode cX7_hasDotAt 22 = .ok (.ifCond .lt 29, 3) := by decide +kernel
theorem dX7_hasDotAt_25 : decode cX7_hasDotAt 25 = .ok (.iload 5, 2) := by decide +kernel
theorem dX7_hasDotAt_27 : decode cX7_hasDotAt 27 = .ok (.aload_n 0, 1) := by decide +kernel
theorem dX7_hasDotAt_28 : decode cX7_hasDotAt 28 = .ok (.getfield 41, 3) := by decide +kernel
theorem dX7_hasDotAt_31 : decode cX7_hasDotAt 31 = .ok (.iload_n 1, 1) := by decide +kernel
theorem dX7_hasDotAt_32 : decode cX7_hasDotAt 32 = .ok (.invokevirtual 58, 3) := by decide +kernel
theorem dX7_hasDotAt_35 : decode cX7_hasDotAt 35 = .ok (.if_icmp .ge 16, 3) := by decide +kernel
theorem dX7_hasDotAt_38 : decode cX7_hasDotAt 38 = .ok (.iload 5, 2) := by decide +kernel
theorem dX7_hasDotAt_40 : decode cX7_hasDotAt 40 = .ok (.iload_n 3, 1) := by decide +kernel
theorem dX7_hasDotAt_41 : decode cX7_hasDotAt 41 = .ok (.imul, 1) := by decide +kernel
theorem dX7_hasDotAt_42 : decode cX7_hasDotAt 42 = .ok (.iload 4, 2) := by decide +kernel
theorem dX7_hasDotAt_44 : decode cX7_hasDotAt 44 = .ok (.if_icmp .ne 7, 3) := by decide +kernel
theorem dX7_hasDotAt_47 : decode cX7_hasDotAt 47 = .ok (.iconst 1, 1) := by decide +kernel
theorem dX7_hasDotAt_48 : decode cX7_hasDotAt 48 = .ok (.goto 4, 3) := by decide +kernel
theorem dX7_hasDotAt_51 : decode cX7_hasDotAt 51 = .ok (.iconst 0, 1) := by decide +kernel
theorem dX7_hasDotAt_52 : decode cX7_hasDotAt 52 = .ok (.ireturn, 1) := by decide +kernel
theorem dX7_isLastLine_0 : decode cX7_isLastLine 0 = .ok (.aload_n 0, 1) := by decide +kernel
theorem dX7_isLastLine_1 : decode cX7_isLastLine 1 = .ok (.getfield 14, 3) := by decide +kernel
theorem dX7_isLastLine_4 : decode cX7_isLastLine 4 = .ok (.iload_n 1, 1) := by decide +kernel
theorem dX7_isLastLine_5 : decode cX7_isLastLine 5 = .ok (.invokevirtual 58, 3) := by decide +kernel
theorem dX7_isLastLine_8 : decode cX7_isLastLine 8 = .ok (.istore_n 2, 1) := by decide +kernel
theorem dX7_isLastLine_9 : decode cX7_isLastLine 9 = .ok (.iload_n 1, 1) := by decide +kernel
theorem dX7_isLastLine_10 : decode cX7_isLastLine 10 = .ok (.aload_n 0, 1) := by decide +kernel
theorem dX7_isLastLine_11 : decode cX7_isLastLine 11 = .ok (.iload_n 2, 1) := by decide +kernel
theorem dX7_isLastLine_12 : decode cX7_isLastLine 12 = .ok (.invokevirtual 123, 3) := by decide +kernel
theorem dX7_isLastLine_15 : decode cX7_isLastLine 15 = .ok (.iconst 1, 1) := by decide +kernel
theorem dX7_isLastLine_16 : decode cX7_isLastLine 16 = .ok (.isub, 1) := by decide +kernel
theorem dX7_isLastLine_17 : decode cX7_isLastLine 17 = .ok (.if_icmp .ne 7, 3) := by decide +kernel
theorem dX7_isLastLine_20 : decode cX7_isLastLine 20 = .ok (.iconst 1, 1) := by decide +kernel
theorem dX7_isLastLine_21 : decode cX7_isLastLine 21 = .ok (.goto 4, 3) := by decide +kernel
theorem dX7_isLastLine_24 : decode cX7_isLastLine 24 = .ok (.iconst 0, 1) := by decide +kernel
theorem dX7_isLastLine_25 : decode cX7_isLastLine 25 = .ok (.ireturn, 1) := by decide +kernel
theorem dX7_lineBehind_0 : decode cX7_lineBehind 0 = .ok (.aload_n 0, 1) := by decide +kernel
theorem dX7_lineBehind_1 : decode cX7_lineBehind 1 = .ok (.getfield 32, 3) := by decide +kernel
theorem dX7_lineBehind_4 : decode cX7_lineBehind 4 = .ok (.iload_n 1, 1) := by decide +kernel
theorem dX7_lineBehind_5 : decode cX7_lineBehind 5 = .ok (.invokevirtual 58, 3) := by decide +kernel
theorem dX7_lineBehind_8 : decode cX7_lineBehind 8 = .ok (.aload_n 0, 1) := by decide +kernel
theorem dX7_lineBehind_9 : decode cX7_lineBehind 9 = .ok (.getfield 35, 3) := by decide +kernel
theorem dX7_lineBehind_12 : decode cX7_lineBehind 12 = .ok (.iload_n 1, 1) := by decide +kernel
theorem dX7_lineBehind_13 : decode cX7_lineBehind 13 = .ok (.invokevirtual 58, 3) := by decide +kernel
theorem dX7_lineBehind_16 : decode cX7_lineBehind 16 = .ok (.iadd, 1) := by decide +kernel
theorem dX7_lineBehind_17 : decode cX7_lineBehind 17 = .ok (.ireturn, 1) := by decide +kernel
theorem dX7_isBeyondLimit_0 : decode cX7_isBeyondLimit 0 = .ok (.aload_n 0, 1) := by decide +kernel
theorem dX7_isBeyondLimit_1 : decode cX7_isBeyondLimit 1 = .ok (.getfield 23, 3) := by decide +kernel
theorem dX7_isBeyondLimit_4 : decode cX7_isBeyondLimit 4 = .ok (.iload_n 1, 1) := by decide +kernel
theorem dX7_isBeyondLimit_5 : decode cX7_isBeyondLimit 5 = .ok (.invokevirtual 58, 3) := by decide +kernel
theorem dX7_isBeyondLimit_8 : decode cX7_isBeyondLimit 8 = .ok (.aload_n 0, 1) := by decide +kernel
theorem dX7_isBeyondLimit_9 : decode cX7_isBeyondLimit 9 = .ok (.getfield 71, 3) := by decide +kernel
theorem dX7_isBeyondLimit_12 : decode cX7_isBeyondLimit 12 = .ok (.if_icmp .le 7, 3) := by decide +kernel
theorem dX7_isBeyondLimit_15 : decode cX7_isBeyondLimit 15 = .ok (.iconst 1, 1) := by decide +kernel
theorem dX7_isBeyondLimit_16 : decode cX7_isBeyondLimit 16 = .ok (.goto 4, 3) := by decide +kernel
theorem dX7_isBeyondLimit_19 : decode cX7_isBeyondLimit 19 = .ok (.iconst 0, 1) := by decide +kernel
theorem dX7_isBeyondLimit_20 : decode cX7_isBeyondLimit 20 = .ok (.ireturn, 1) := by decide +kernel
theorem dX7_linesBeyondLimit_0 : decode cX7_linesBeyondLimit 0 = .ok (.iconst 0, 1) := by decide +kernel
theorem dX7_linesBeyondLimit_1 : decode cX7_linesBeyondLimit 1 = .ok (.istore_n 1, 1) := by decide +kernel
theorem dX7_linesBeyondLimit_2 : decode cX7_linesBeyondLimit 2 = .ok (.iconst 0, 1) := by decide +kernel
theorem dX7_linesBeyondLimit_3 : decode cX7_linesBeyondLimit 3 = .ok (.istore_n 2, 1) := by decide +kernel
theorem dX7_linesBeyondLimit_4 : decode cX7_linesBeyondLimit 4 = .ok (.iload_n 2, 1) := by decide +kernel
theorem dX7_linesBeyondLimit_5 : decode cX7_linesBeyondLimit 5 = .ok (.aload_n 0, 1) := by decide +kernel
theorem dX7_linesBeyondLimit_6 : decode cX7_linesBeyondLimit 6 = .ok (.getfield 74, 3) := by decide +kernel
theorem dX7_linesBeyondLimit_9 : decode cX7_linesBeyondLimit 9 = .ok (.if_icmp .ge 20, 3) := by decide +kernel
theorem dX7_linesBeyondLimit_12 : decode cX7_linesBeyondLimit 12 = .ok (.aload_n 0, 1) := by decide +kernel
theorem dX7_linesBeyondLimit_13 : decode cX7_linesBeyondLimit 13 = .ok (.iload_n 2, 1) := by decide +kernel
theorem dX7_linesBeyondLimit_14 : decode cX7_linesBeyondLimit 14 = .ok (.invokevirtual 126, 3) := by decide +kernel
theorem dX7_linesBeyondLimit_17 : decode cX7_linesBeyondLimit 17 = .ok (.ifCond .eq 6, 3) := by decide +kernel
theorem dX7_linesBeyondLimit_20 : decode cX7_linesBeyondLimit 20 = .ok (.iinc 1 1, 3) := by decide +kernel
theorem dX7_linesBeyondLimit_23 : decode cX7_linesBeyondLimit 23 = .ok (.iinc 2 1, 3) := by decide +kernel
theorem dX7_linesBeyondLimit_26 : decode cX7_linesBeyondLimit 26 = .ok (.goto (-22), 3) := by decide +kernel
theorem dX7_linesBeyondLimit_29 : decode cX7_linesBeyondLimit 29 = .ok (.iload_n 1, 1) := by decide +kernel
theorem dX7_linesBeyondLimit_30 : decode cX7_linesBeyondLimit 30 = .ok (.ireturn, 1) := by decide +kernel
theorem dX8_init_0 : decode cX8_init 0 = .ok (.aload_n 0, 1) := by decide +kernel
theorem dX8_init_1 : decode cX8_init 1 = .ok (.invokespecial 3, 3) := by decide +kernel
theorem dX8_init_4 : decode cX8_init 4 = .ok (.aload_n 0, 1) := by decide +kernel
theorem dX8_init_5 : decode cX8_init 5 = .ok (.iconst 0, 1) := by decide +kernel
theorem dX8_init_6 : decode cX8_init 6 = .ok (.putfield 9, 3) := by decide +kernel
theorem dX8_init_9 : decode cX8_init 9 = .ok (.aload_n 0, 1) := by decide +kernel
theorem dX8_init_10 : decode cX8_init 10 = .ok (.iload_n 1, 1) := by decide +kernel
theorem dX8_init_11 : decode cX8_init 11 = .ok (.iconst 0, 1) := by decide +kernel
theorem dX8_init_12 : decode cX8_init 12 = .ok (.invokestatic 15, 3) := by decide +kernel
theorem dX8_init_15 : decode cX8_init 15 = .ok (.newarray .byte, 2) := by decide +kernel
theorem dX8_init_17 : decode cX8_init 17 = .ok (.putfield 21, 3) := by decide +kernel
theorem dX8_init_20 : decode cX8_init 20 = .ok (.return_, 1) := by decide +kernel
theorem dX8_length_0 : decode cX8_length 0 = .ok (.aload_n 0, 1) := by decide +kernel
theorem dX8_length_1 : decode cX8_length 1 = .ok (.getfield 9, 3) := by decide +kernel
theorem dX8_length_4 : decode cX8_length 4 = .ok (.ireturn, 1) := by decide +kernel
theorem dX8_at_0 : decode cX8_at 0 = .ok (.iload_n 1, 1) := by decide +kernel
theorem dX8_at_1 : decode cX8_at 1 = .ok (.ifCond .lt 29, 3) := by decide +kernel
theorem dX8_at_4 : decode cX8_at 4 = .ok (.iload_n 1, 1) := by decide +kernel
theorem dX8_at_5 : decode cX8_at 5 = .ok (.aload_n 0, 1) := by decide +kernel
theorem dX8_at_6 : decode cX8_at 6 = .ok (.getfield 9, 3) := by decide +kernel
theorem dX8_at_9 : decode cX8_at 9 = .ok (.if_icmp .ge 21, 3) := by decide +kernel
theorem dX8_at_12 : decode cX8_at 12 = .ok (.iload_n 1, 1) := by decide +kernel
theorem dX8_at_13 : decode cX8_at 13 = .ok (.aload_n 0, 1) := by decide +kernel
theorem dX8_at_14 : decode cX8_at 14 = .ok (.getfield 21, 3) := by decide +kernel
theorem dX8_at_17 : decode cX8_at 17 = .ok (.arraylength, 1) := by decide +kernel
theorem dX8_at_18 : decode cX8_at 18 = .ok (.if_icmp .ge 12, 3) := by decide +kernel
theorem dX8_at_21 : decode cX8_at 21 = .ok (.aload_n 0, 1) := by decide +kernel
theorem dX8_at_22 : decode cX8_at 22 = .ok (.getfield 21, 3) := by decide +kernel
theorem dX8_at_25 : decode cX8_at 25 = .ok (.iload_n 1, 1) := by decide +kernel
theorem dX8_at_26 : decode cX8_at 26 = .ok (.baload, 1) := by decide +kernel
theorem dX8_at_27 : decode cX8_at 27 = .ok (.goto 4, 3) := by decide +kernel
theorem dX8_at_30 : decode cX8_at 30 = .ok (.iconst 0, 1) := by decide +kernel
theorem dX8_at_31 : decode cX8_at 31 = .ok (.ireturn, 1) := by decide +kernel
theorem dX8_put_0 : decode cX8_put 0 = .ok (.aload_n 0, 1) := by decide +kernel
theorem dX8_put_1 : decode cX8_put 1 = .ok (.getfield 9, 3) := by decide +kernel
theorem dX8_put_4 : decode cX8_put 4 = .ok (.ifCond .lt 36, 3) := by decide +kernel
theorem dX8_put_7 : decode cX8_put 7 = .ok (.aload_n 0, 1) := by decide +kernel
theorem dX8_put_8 : decode cX8_put 8 = .ok (.getfield 9, 3) := by decide +kernel
theorem dX8_put_11 : decode cX8_put 11 = .ok (.aload_n 0, 1) := by decide +kernel
theorem dX8_put_12 : decode cX8_put 12 = .ok (.getfield 21, 3) := by decide +kernel
theorem dX8_put_15 : decode cX8_put 15 = .ok (.arraylength, 1) := by decide +kernel
theorem dX8_put_16 : decode cX8_put 16 = .ok (.if_icmp .ge 24, 3) := by decide +kernel
theorem dX8_put_19 : decode cX8_put 19 = .ok (.aload_n 0, 1) := by decide +kernel
theorem dX8_put_20 : decode cX8_put 20 = .ok (.getfield 21, 3) := by decide +kernel
theorem dX8_put_23 : decode cX8_put 23 = .ok (.aload_n 0, 1) := by decide +kernel
theorem dX8_put_24 : decode cX8_put 24 = .ok (.getfield 9, 3) := by decide +kernel
theorem dX8_put_27 : decode cX8_put 27 = .ok (.iload_n 1, 1) := by decide +kernel
theorem dX8_put_28 : decode cX8_put 28 = .ok (.i2b, 1) := by decide +kernel
theorem dX8_put_29 : decode cX8_put 29 = .ok (.bastore, 1) := by decide +kernel
theorem dX8_put_30 : decode cX8_put 30 = .ok (.aload_n 0, 1) := by decide +kernel
theorem dX8_put_31 : decode cX8_put 31 = .ok (.dup, 1) := by decide +kernel
theorem dX8_put_32 : decode cX8_put 32 = .ok (.getfield 9, 3) := by decide +kernel
theorem dX8_put_35 : decode cX8_put 35 = .ok (.iconst 1, 1) := by decide +kernel
theorem dX8_put_36 : decode cX8_put 36 = .ok (.iadd, 1) := by decide +kernel
theorem dX8_put_37 : decode cX8_put 37 = .ok (.putfield 9, 3) := by decide +kernel
theorem dX8_put_40 : decode cX8_put 40 = .ok (.return_, 1) := by decide +kernel
theorem dX8_cut_0 : decode cX8_cut 0 = .ok (.aload_n 0, 1) := by decide +kernel
theorem dX8_cut_1 : decode cX8_cut 1 = .ok (.iload_n 1, 1) := by decide +kernel
theorem dX8_cut_2 : decode cX8_cut 2 = .ok (.putfield 9, 3) := by decide +kernel
theorem dX8_cut_5 : decode cX8_cut 5 = .ok (.return_, 1) := by decide +kernel
theorem dX8_putFour_0 : decode cX8_putFour 0 = .ok (.aload_n 0, 1) := by decide +kernel
theorem dX8_putFour_1 : decode cX8_putFour 1 = .ok (.iload_n 1, 1) := by decide +kernel
theorem dX8_putFour_2 : decode cX8_putFour 2 = .ok (.bipush 24, 2) := by decide +kernel
theorem dX8_putFour_4 : decode cX8_putFour 4 = .ok (.ishr, 1) := by decide +kernel
theorem dX8_putFour_5 : decode cX8_putFour 5 = .ok (.invokevirtual 25, 3) := by decide +kernel
theorem dX8_putFour_8 : decode cX8_putFour 8 = .ok (.aload_n 0, 1) := by decide +kernel
theorem dX8_putFour_9 : decode cX8_putFour 9 = .ok (.iload_n 1, 1) := by decide +kernel
theorem dX8_putFour_10 : decode cX8_putFour 10 = .ok (.bipush 16, 2) := by decide +kernel
theorem dX8_putFour_12 : decode cX8_putFour 12 = .ok (.ishr, 1) := by decide +kernel
theorem dX8_putFour_13 : decode cX8_putFour 13 = .ok (.invokevirtual 25, 3) := by decide +kernel
theorem dX8_putFour_16 : decode cX8_putFour 16 = .ok (.aload_n 0, 1) := by decide +kernel
theorem dX8_putFour_17 : decode cX8_putFour 17 = .ok (.iload_n 1, 1) := by decide +kernel
theorem dX8_putFour_18 : decode cX8_putFour 18 = .ok (.bipush 8, 2) := by decide +kernel
theorem dX8_putFour_20 : decode cX8_putFour 20 = .ok (.ishr, 1) := by decide +kernel
theorem dX8_putFour_21 : decode cX8_putFour 21 = .ok (.invokevirtual 25, 3) := by decide +kernel
theorem dX8_putFour_24 : decode cX8_putFour 24 = .ok (.aload_n 0, 1) := by decide +kernel
theorem dX8_putFour_25 : decode cX8_putFour 25 = .ok (.iload_n 1, 1) := by decide +kernel
theorem dX8_putFour_26 : decode cX8_putFour 26 = .ok (.invokevirtual 25, 3) := by decide +kernel
theorem dX8_putFour_29 : decode cX8_putFour 29 = .ok (.return_, 1) := by decide +kernel
theorem dX8_putTimes_0 : decode cX8_putTimes 0 = .ok (.iconst 0, 1) := by decide +kernel
theorem dX8_putTimes_1 : decode cX8_putTimes 1 = .ok (.istore_n 3, 1) := by decide +kernel
theorem dX8_putTimes_2 : decode cX8_putTimes 2 = .ok (.iload_n 3, 1) := by decide +kernel
theorem dX8_putTimes_3 : decode cX8_putTimes 3 = .ok (.iload_n 2, 1) := by decide +kernel
theorem dX8_putTimes_4 : decode cX8_putTimes 4 = .ok (.if_icmp .ge 14, 3) := by decide +kernel
theorem dX8_putTimes_7 : decode cX8_putTimes 7 = .ok (.aload_n 0, 1) := by decide +kernel
theorem dX8_putTimes_8 : decode cX8_putTimes 8 = .ok (.iload_n 1, 1) := by decide +kernel
theorem dX8_putTimes_9 : decode cX8_putTimes 9 = .ok (.invokevirtual 25, 3) := by decide +kernel
theorem dX8_putTimes_12 : decode cX8_putTimes 12 = .ok (.iinc 3 1, 3) := by decide +kernel
theorem dX8_putTimes_15 : decode cX8_putTimes 15 = .ok (.goto (-13), 3) := by decide +kernel
theorem dX8_putTimes_18 : decode cX8_putTimes 18 = .ok (.return_, 1) := by decide +kernel
theorem dX8_putWord_0 : decode cX8_putWord 0 = .ok (.iconst 0, 1) := by decide +kernel
theorem dX8_putWord_1 : decode cX8_putWord 1 = .ok (.istore_n 3, 1) := by decide +kernel
theorem dX8_putWord_2 : decode cX8_putWord 2 = .ok (.iload_n 3, 1) := by decide +kernel
theorem dX8_putWord_3 : decode cX8_putWord 3 = .ok (.bipush 12, 2) := by decide +kernel
theorem dX8_putWord_5 : decode cX8_putWord 5 = .ok (.if_icmp .ge 29, 3) := by decide +kernel
theorem dX8_putWord_8 : decode cX8_putWord 8 = .ok (.lload_n 1, 1) := by decide +kernel
theorem dX8_putWord_9 : decode cX8_putWord 9 = .ok (.iload_n 3, 1) := by decide +kernel
theorem dX8_putWord_10 : decode cX8_putWord 10 = .ok (.invokestatic 29, 3) := by decide +kernel
theorem dX8_putWord_13 : decode cX8_putWord 13 = .ok (.ifCond .eq 21, 3) := by decide +kernel
theorem dX8_putWord_16 : decode cX8_putWord 16 = .ok (.aload_n 0, 1) := by decide +kernel
theorem dX8_putWord_17 : decode cX8_putWord 17 = .ok (.bipush 96, 2) := by decide +kernel
theorem dX8_putWord_19 : decode cX8_putWord 19 = .ok (.lload_n 1, 1) := by decide +kernel
theorem dX8_putWord_20 : decode cX8_putWord 20 = .ok (.iload_n 3, 1) := by decide +kernel
theorem dX8_putWord_21 : decode cX8_putWord 21 = .ok (.invokestatic 29, 3) := by decide +kernel
theorem dX8_putWord_24 : decode cX8_putWord 24 = .ok (.iadd, 1) := by decide +kernel
theorem dX8_putWord_25 : decode cX8_putWord 25 = .ok (.invokevirtual 25, 3) := by decide +kernel
theorem dX8_putWord_28 : decode cX8_putWord 28 = .ok (.iinc 3 1, 3) := by decide +kernel
theorem dX8_putWord_31 : decode cX8_putWord 31 = .ok (.goto (-29), 3) := by decide +kernel
theorem dX8_putWord_34 : decode cX8_putWord 34 = .ok (.return_, 1) := by decide +kernel
theorem dX8_putArabic_0 : decode cX8_putArabic 0 = .ok (.iconst 1, 1) := by decide +kernel
theorem dX8_putArabic_1 : decode cX8_putArabic 1 = .ok (.istore_n 2, 1) := by decide +kernel
theorem dX8_putArabic_2 : decode cX8_putArabic 2 = .ok (.iload_n 2, 1) := by decide +kernel
theorem dX8_putArabic_3 : decode cX8_putArabic 3 = .ok (.ldc 35, 2) := by decide +kernel
theorem dX8_putArabic_5 : decode cX8_putArabic 5 = .ok (.if_icmp .ge 21, 3) := by decide +kernel
theorem dX8_putArabic_8 : decode cX8_putArabic 8 = .ok (.iload_n 1, 1) := by decide +kernel
theorem dX8_putArabic_9 : decode cX8_putArabic 9 = .ok (.iload_n 2, 1) := by decide +kernel
theorem dX8_putArabic_10 : decode cX8_putArabic 10 = .ok (.invokestatic 36, 3) := by decide +kernel
theorem dX8_putArabic_13 : decode cX8_putArabic 13 = .ok (.bipush 10, 2) := by decide +kernel
theorem dX8_putArabic_15 : decode cX8_putArabic 15 = .ok (.if_icmp .lt 11, 3) := by decide +kernel
theorem dX8_putArabic_18 : decode cX8_putArabic 18 = .ok (.iload_n 2, 1) := by decide +kernel
theorem dX8_putArabic_19 : decode cX8_putArabic 19 = .ok (.bipush 10, 2) := by decide +kernel
theorem dX8_putArabic_21 : decode cX8_putArabic 21 = .ok (.imul, 1) := by decide +kernel
theorem dX8_putArabic_22 : decode cX8_putArabic 22 = .ok (.istore_n 2, 1) := by decide +kernel
theorem dX8_putArabic_23 : decode cX8_putArabic 23 = .ok (.goto (-21), 3) := by decide +kernel
theorem dX8_putArabic_26 : decode cX8_putArabic 26 = .ok (.iload_n 2, 1) := by decide +kernel
theorem dX8_putArabic_27 : decode cX8_putArabic 27 = .ok (.ifCond .le 26, 3) := by decide +kernel
theorem dX8_putArabic_30 : decode cX8_putArabic 30 = .ok (.aload_n 0, 1) := by decide +kernel
theorem dX8_putArabic_31 : decode cX8_putArabic 31 = .ok (.bipush 48, 2) := by decide +kernel
theorem dX8_putArabic_33 : decode cX8_putArabic 33 = .ok (.iload_n 1, 1) := by decide +kernel
theorem dX8_putArabic_34 : decode cX8_putArabic 34 = .ok (.iload_n 2, 1) := by decide +kernel
theorem dX8_putArabic_35 : decode cX8_putArabic 35 = .ok (.invokestatic 36, 3) := by decide +kernel
theorem dX8_putArabic_38 : decode cX8_putArabic 38 = .ok (.bipush 10, 2) := by decide +kernel
theorem dX8_putArabic_40 : decode cX8_putArabic 40 = .ok (.irem, 1) := by decide +kernel
theorem dX8_putArabic_41 : decode cX8_putArabic 41 = .ok (.iadd, 1) := by decide +kernel
theorem dX8_putArabic_42 : decode cX8_putArabic 42 = .ok (.invokevirtual 25, 3) := by decide +kernel
theorem dX8_putArabic_45 : decode cX8_putArabic 45 = .ok (.iload_n 2, 1) := by decide +kernel
theorem dX8_putArabic_46 : decode cX8_putArabic 46 = .ok (.bipush 10, 2) := by decide +kernel
theorem dX8_putArabic_48 : decode cX8_putArabic 48 = .ok (.idiv, 1) := by decide +kernel
theorem dX8_putArabic_49 : decode cX8_putArabic 49 = .ok (.istore_n 2, 1) := by decide +kernel
theorem dX8_putArabic_50 : decode cX8_putArabic 50 = .ok (.goto (-24), 3) := by decide +kernel
theorem dX8_putArabic_53 : decode cX8_putArabic 53 = .ok (.return_, 1) := by decide +kernel
theorem dX8_putRoman_0 : decode cX8_putRoman 0 = .ok (.aload_n 0, 1) := by decide +kernel
theorem dX8_putRoman_1 : decode cX8_putRoman 1 = .ok (.bipush 109, 2) := by decide +kernel
theorem dX8_putRoman_3 : decode cX8_putRoman 3 = .ok (.iload_n 1, 1) := by decide +kernel
theorem dX8_putRoman_4 : decode cX8_putRoman 4 = .ok (.sipush 1000, 3) := by decide +kernel
theorem dX8_putRoman_7 : decode cX8_putRoman 7 = .ok (.idiv, 1) := by decide +kernel
theorem dX8_putRoman_8 : decode cX8_putRoman 8 = .ok (.invokevirtual 39, 3) := by decide +kernel
theorem dX8_putRoman_11 : decode cX8_putRoman 11 = .ok (.aload_n 0, 1) := by decide +kernel
theorem dX8_putRoman_12 : decode cX8_putRoman 12 = .ok (.iload_n 1, 1) := by decide +kernel
theorem dX8_putRoman_13 : decode cX8_putRoman 13 = .ok (.bipush 100, 2) := by decide +kernel
theorem dX8_putRoman_15 : decode cX8_putRoman 15 = .ok (.idiv, 1) := by decide +kernel
theorem dX8_putRoman_16 : decode cX8_putRoman 16 = .ok (.bipush 10, 2) := by decide +kernel
theorem dX8_putRoman_18 : decode cX8_putRoman 18 = .ok (.irem, 1) := by decide +kernel
theorem dX8_putRoman_19 : decode cX8_putRoman 19 = .ok (.bipush 99, 2) := by decide +kernel
theorem dX8_putRoman_21 : decode cX8_putRoman 21 = .ok (.bipush 100, 2) := by decide +kernel
theorem dX8_putRoman_23 : decode cX8_putRoman 23 = .ok (.bipush 109, 2) := by decide +kernel
theorem dX8_putRoman_25 : decode cX8_putRoman 25 = .ok (.invokevirtual 43, 3) := by decide +kernel
theorem dX8_putRoman_28 : decode cX8_putRoman 28 = .ok (.aload_n 0, 1) := by decide +kernel
theorem dX8_putRoman_29 : decode cX8_putRoman 29 = .ok (.iload_n 1, 1) := by decide +kernel
theorem dX8_putRoman_30 : decode cX8_putRoman 30 = .ok (.bipush 10, 2) := by decide +kernel
theorem dX8_putRoman_32 : decode cX8_putRoman 32 = .ok (.idiv, 1) := by decide +kernel
theorem dX8_putRoman_33 : decode cX8_putRoman 33 = .ok (.bipush 10, 2) := by decide +kernel
theorem dX8_putRoman_35 : decode cX8_putRoman 35 = .ok (.irem, 1) := by decide +kernel
theorem dX8_putRoman_36 : decode cX8_putRoman 36 = .ok (.bipush 120, 2) := by decide +kernel
theorem dX8_putRoman_38 : decode cX8_putRoman 38 = .ok (.bipush 108, 2) := by decide +kernel
theorem dX8_putRoman_40 : decode cX8_putRoman 40 = .ok (.bipush 99, 2) := by decide +kernel
theorem dX8_putRoman_42 : decode cX8_putRoman 42 = .ok (.invokevirtual 43, 3) := by decide +kernel
theorem dX8_putRoman_45 : decode cX8_putRoman 45 = .ok (.aload_n 0, 1) := by decide +kernel
theorem dX8_putRoman_46 : decode cX8_putRoman 46 = .ok (.iload_n 1, 1) := by decide +kernel
theorem dX8_putRoman_47 : decode cX8_putRoman 47 = .ok (.bipush 10, 2) := by decide +kernel
theorem dX8_putRoman_49 : decode cX8_putRoman 49 = .ok (.irem, 1) := by decide +kernel
theorem dX8_putRoman_50 : decode cX8_putRoman 50 = .ok (.bipush 105, 2) := by decide +kernel
theorem dX8_putRoman_52 : decode cX8_putRoman 52 = .ok (.bipush 118, 2) := by decide +kernel
theorem dX8_putRoman_54 : decode cX8_putRoman 54 = .ok (.bipush 120, 2) := by decide +kernel
theorem dX8_putRoman_56 : decode cX8_putRoman 56 = .ok (.invokevirtual 43, 3) := by decide +kernel
theorem dX8_putRoman_59 : decode cX8_putRoman 59 = .ok (.return_, 1) := by decide +kernel
theorem dX8_putRomanFigure_0 : decode cX8_putRomanFigure 0 = .ok (.iload_n 1, 1) := by decide +kernel
theorem dX8_putRomanFigure_1 : decode cX8_putRomanFigure 1 = .ok (.bipush 9, 2) := by decide +kernel
theorem dX8_putRomanFigure_3 : decode cX8_putRomanFigure 3 = .ok (.if_icmp .ne 17, 3) := by decide +kernel
theorem dX8_putRomanFigure_6 : decode cX8_putRomanFigure 6 = .ok (.aload_n 0, 1) := by decide +kernel
theorem dX8_putRomanFigure_7 : decode cX8_putRomanFigure 7 = .ok (.iload_n 2, 1) := by decide +kernel
theorem dX8_putRomanFigure_8 : decode cX8_putRomanFigure 8 = .ok (.invokevirtual 25, 3) := by decide +kernel
theorem dX8_putRomanFigure_11 : decode cX8_putRomanFigure 11 = .ok (.aload_n 0, 1) := by decide +kernel
theorem dX8_putRomanFigure_12 : decode cX8_putRomanFigure 12 = .ok (.iload 4, 2) := by decide +kernel
theorem dX8_putRomanFigure_14 : decode cX8_putRomanFigure 14 = .ok (.invokevirtual 25, 3) := by decide +kernel
theorem dX8_putRomanFigure_17 : decode cX8_putRomanFigure 17 = .ok (.goto 52, 3) := by decide +kernel
theorem dX8_putRomanFigure_20 : decode cX8_putRomanFigure 20 = .ok (.iload_n 1, 1) := by decide +kernel
theorem dX8_putRomanFigure_21 : decode cX8_putRomanFigure 21 = .ok (.iconst 4, 1) := by decide +kernel
theorem dX8_putRomanFigure_22 : decode cX8_putRomanFigure 22 = .ok (.if_icmp .ne 16, 3) := by decide +kernel
theorem dX8_putRomanFigure_25 : decode cX8_putRomanFigure 25 = .ok (.aload_n 0, 1) := by decide +kernel
theorem dX8_putRomanFigure_26 : decode cX8_putRomanFigure 26 = .ok (.iload_n 2, 1) := by decide +kernel
theorem dX8_putRomanFigure_27 : decode cX8_putRomanFigure 27 = .ok (.invokevirtual 25, 3) := by decide +kernel
theorem dX8_putRomanFigure_30 : decode cX8_putRomanFigure 30 = .ok (.aload_n 0, 1) := by decide +kernel
theorem dX8_putRomanFigure_31 : decode cX8_putRomanFigure 31 = .ok (.iload_n 3, 1) := by decide +kernel
theorem dX8_putRomanFigure_32 : decode cX8_putRomanFigure 32 = .ok (.invokevirtual 25, 3) := by decide +kernel
theorem dX8_putRomanFigure_35 : decode cX8_putRomanFigure 35 = .ok (.goto 34, 3) := by decide +kernel
theorem dX8_putRomanFigure_38 : decode cX8_putRomanFigure 38 = .ok (.iload_n 1, 1) := by decide +kernel
theorem dX8_putRomanFigure_39 : decode cX8_putRomanFigure 39 = .ok (.iconst 5, 1) := by decide +kernel
theorem dX8_putRomanFigure_40 : decode cX8_putRomanFigure 40 = .ok (.if_icmp .lt 8, 3) := by decide +kernel
theorem dX8_putRomanFigure_43 : decode cX8_putRomanFigure 43 = .ok (.aload_n 0, 1) := by decide +kernel
theorem dX8_putRomanFigure_44 : decode cX8_putRomanFigure 44 = .ok (.iload_n 3, 1) := by decide +kernel
theorem dX8_putRomanFigure_45 : decode cX8_putRomanFigure 45 = .ok (.invokevirtual 25, 3) := by decide +kernel
theorem dX8_putRomanFigure_48 : decode cX8_putRomanFigure 48 = .ok (.iload_n 1, 1) := by decide +kernel
theorem dX8_putRomanFigure_49 : decode cX8_putRomanFigure 49 = .ok (.iconst 5, 1) := by decide +kernel
theorem dX8_putRomanFigure_50 : decode cX8_putRomanFigure 50 = .ok (.irem, 1) := by decide +kernel
theorem dX8_putRomanFigure_51 : decode cX8_putRomanFigure 51 = .ok (.istore 5, 2) := by decide +kernel
theorem dX8_putRomanFigure_53 : decode cX8_putRomanFigure 53 = .ok (.iload 5, 2) := by decide +kernel
theorem dX8_putRomanFigure_55 : decode cX8_putRomanFigure 55 = .ok (.ifCond .le 14, 3) := by decide +kernel
theorem dX8_putRomanFigure_58 : decode cX8_putRomanFigure 58 = .ok (.aload_n 0, 1) := by decide +kernel
theorem dX8_putRomanFigure_59 : decode cX8_putRomanFigure 59 = .ok (.iload_n 2, 1) := by decide +kernel
theorem dX8_putRomanFigure_60 : decode cX8_putRomanFigure 60 = .ok (.invokevirtual 25, 3) := by decide +kernel
theorem dX8_putRomanFigure_63 : decode cX8_putRomanFigure 63 = .ok (.iinc 5 (-1), 3) := by decide +kernel
theorem dX8_putRomanFigure_66 : decode cX8_putRomanFigure 66 = .ok (.goto (-13), 3) := by decide +kernel
theorem dX8_putRomanFigure_69 : decode cX8_putRomanFigure 69 = .ok (.return_, 1) := by decide +kernel
theorem dX8_wordBetween_0 : decode cX8_wordBetween 0 = .ok (.iload_n 2, 1) := by decide +kernel
theorem dX8_wordBetween_1 : decode cX8_wordBetween 1 = .ok (.iload_n 1, 1) := by decide +kernel
theorem dX8_wordBetween_2 : decode cX8_wordBetween 2 = .ok (.isub, 1) := by decide +kernel
theorem dX8_wordBetween_3 : decode cX8_wordBetween 3 = .ok (.bipush 12, 2) := by decide +kernel
theorem dX8_wordBetween_5 : decode cX8_wordBetween 5 = .ok (.if_icmp .le 5, 3) := by decide +kernel
theorem dX8_wordBetween_8 : decode cX8_wordBetween 8 = .ok (.lconst 0, 1) := by decide +kernel
theorem dX8_wordBetween_9 : decode cX8_wordBetween 9 = .ok (.lreturn, 1) := by decide +kernel
theorem dX8_wordBetween_10 : decode cX8_wordBetween 10 = .ok (.lconst 0, 1) := by decide +kernel
theorem dX8_wordBetween_11 : decode cX8_wordBetween 11 = .ok (.lstore_n 3, 1) := by decide +kernel
theorem dX8_wordBetween_12 : decode cX8_wordBetween 12 = .ok (.iload_n 1, 1) := by decide +kernel
theorem dX8_wordBetween_13 : decode cX8_wordBetween 13 = .ok (.istore 5, 2) := by decide +kernel
theorem dX8_wordBetween_15 : decode cX8_wordBetween 15 = .ok (.iload 5, 2) := by decide +kernel
theorem dX8_wordBetween_17 : decode cX8_wordBetween 17 = .ok (.iload_n 2, 1) := by decide +kernel
theorem dX8_wordBetween_18 : decode cX8_wordBetween 18 = .ok (.if_icmp .ge 56, 3) := by decide +kernel
theorem dX8_wordBetween_21 : decode cX8_wordBetween 21 = .ok (.aload_n 0, 1) := by decide +kernel
theorem dX8_wordBetween_22 : decode cX8_wordBetween 22 = .ok (.iload 5, 2) := by decide +kernel
theorem dX8_wordBetween_24 : decode cX8_wordBetween 24 = .ok (.invokevirtual 47, 3) := by decide +kernel
theorem dX8_wordBetween_27 : decode cX8_wordBetween 27 = .ok (.bipush 97, 2) := by decide +kernel
theorem dX8_wordBetween_29 : decode cX8_wordBetween 29 = .ok (.isub, 1) := by decide +kernel
theorem dX8_wordBetween_30 : decode cX8_wordBetween 30 = .ok (.iconst 1, 1) := by decide +kernel
theorem dX8_wordBetween_31 : decode cX8_wordBetween 31 = .ok (.iadd, 1) := by decide +kernel
theorem dX8_wordBetween_32 : decode cX8_wordBetween 32 = .ok (.i2l, 1) := by decide +kernel
theorem dX8_wordBetween_33 : decode cX8_wordBetween 33 = .ok (.lstore 6, 2) := by decide +kernel
theorem dX8_wordBetween_35 : decode cX8_wordBetween 35 = .ok (.lload 6, 2) := by decide +kernel
theorem dX8_wordBetween_37 : decode cX8_wordBetween 37 = .ok (.lconst 1, 1) := by decide +kernel
theorem dX8_wordBetween_38 : decode cX8_wordBetween 38 = .ok (.lcmp, 1) := by decide +kernel
theorem dX8_wordBetween_39 : decode cX8_wordBetween 39 = .ok (.ifCond .lt 12, 3) := by decide +kernel
theorem dX8_wordBetween_42 : decode cX8_wordBetween 42 = .ok (.lload 6, 2) := by decide +kernel
theorem dX8_wordBetween_44 : decode cX8_wordBetween 44 = .ok (.ldc2_w 51, 3) := by decide +kernel
theorem dX8_wordBetween_47 : decode cX8_wordBetween 47 = .ok (.lcmp, 1) := by decide +kernel
theorem dX8_wordBetween_48 : decode cX8_wordBetween 48 = .ok (.ifCond .le 5, 3) := by decide +kernel
theorem dX8_wordBetween_51 : decode cX8_wordBetween 51 = .ok (.lconst 0, 1) := by decide +kernel
theorem dX8_wordBetween_52 : decode cX8_wordBetween 52 = .ok (.lreturn, 1) := by decide +kernel
theorem dX8_wordBetween_53 : decode cX8_wordBetween 53 = .ok (.lload_n 3, 1) := by decide +kernel
theorem dX8_wordBetween_54 : decode cX8_wordBetween 54 = .ok (.lload 6, 2) := by decide +kernel
theorem dX8_wordBetween_56 : decode cX8_wordBetween 56 = .ok (.bipush 55, 2) := by decide +kernel
theorem dX8_wordBetween_58 : decode cX8_wordBetween 58 = .ok (.iconst 5, 1) := by decide +kernel
theorem dX8_wordBetween_59 : decode cX8_wordBetween 59 = .ok (.iload 5, 2) := by decide +kernel
theorem dX8_wordBetween_61 : decode cX8_wordBetween 61 = .ok (.iload_n 1, 1) := by decide +kernel
theorem dX8_wordBetween_62 : decode cX8_wordBetween 62 = .ok (.isub, 1) := by decide +kernel
theorem dX8_wordBetween_63 : decode cX8_wordBetween 63 = .ok (.imul, 1) := by decide +kernel
theorem dX8_wordBetween_64 : decode cX8_wordBetween 64 = .ok (.isub, 1) := by decide +kernel
theorem dX8_wordBetween_65 : decode cX8_wordBetween 65 = .ok (.lshl, 1) := by decide +kernel
theorem dX8_wordBetween_66 : decode cX8_wordBetween 66 = .ok (.lor, 1) := by decide +kernel
theorem dX8_wordBetween_67 : decode cX8_wordBetween 67 = .ok (.lstore_n 3, 1) := by decide +kernel
theorem dX8_wordBetween_68 : decode cX8_wordBetween 68 = .ok (.iinc 5 1, 3) := by decide +kernel
theorem dX8_wordBetween_71 : decode cX8_wordBetween 71 = .ok (.goto (-56), 3) := by decide +kernel
theorem dX8_wordBetween_74 : decode cX8_wordBetween 74 = .ok (.lload_n 3, 1) := by decide +kernel
theorem dX8_wordBetween_75 : decode cX8_wordBetween 75 = .ok (.lreturn, 1) := by decide +kernel
theorem dX8_isLike_0 : decode cX8_isLike 0 = .ok (.aload_n 0, 1) := by decide +kernel
theorem dX8_isLike_1 : decode cX8_isLike 1 = .ok (.getfield 9, 3) := by decide +kernel
theorem dX8_isLike_4 : decode cX8_isLike 4 = .ok (.aload_n 1, 1) := by decide +kernel
theorem dX8_isLike_5 : decode cX8_isLike 5 = .ok (.getfield 9, 3) := by decide +kernel
theorem dX8_isLike_8 : decode cX8_isLike 8 = .ok (.if_icmp .eq 5, 3) := by decide +kernel
theorem dX8_isLike_11 : decode cX8_isLike 11 = .ok (.iconst 0, 1) := by decide +kernel
theorem dX8_isLike_12 : decode cX8_isLike 12 = .ok (.ireturn, 1) := by decide +kernel
theorem dX8_isLike_13 : decode cX8_isLike 13 = .ok (.iconst 0, 1) := by decide +kernel
theorem dX8_isLike_14 : decode cX8_isLike 14 = .ok (.istore_n 2, 1) := by decide +kernel
theorem dX8_isLike_15 : decode cX8_isLike 15 = .ok (.iload_n 2, 1) := by decide +kernel
theorem dX8_isLike_16 : decode cX8_isLike 16 = .ok (.aload_n 0, 1) := by decide +kernel
theorem dX8_isLike_17 : decode cX8_isLike 17 = .ok (.getfield 9, 3) := by decide +kernel
theorem dX8_isLike_20 : decode cX8_isLike 20 = .ok (.if_icmp .ge 24, 3) := by decide +kernel
theorem dX8_isLike_23 : decode cX8_isLike 23 = .ok (.aload_n 0, 1) := by decide +kernel
theorem dX8_isLike_24 : decode cX8_isLike 24 = .ok (.iload_n 2, 1) := by decide +kernel
theorem dX8_isLike_25 : decode cX8_isLike 25 = .ok (.invokevirtual 47, 3) := by decide +kernel
theorem dX8_isLike_28 : decode cX8_isLike 28 = .ok (.aload_n 1, 1) := by decide +kernel
theorem dX8_isLike_29 : decode cX8_isLike 29 = .ok (.iload_n 2, 1) := by decide +kernel
theorem dX8_isLike_30 : decode cX8_isLike 30 = .ok (.invokevirtual 47, 3) := by decide +kernel
theorem dX8_isLike_33 : decode cX8_isLike 33 = .ok (.if_icmp .eq 5, 3) := by decide +kernel
theorem dX8_isLike_36 : decode cX8_isLike 36 = .ok (.iconst 0, 1) := by decide +kernel
theorem dX8_isLike_37 : decode cX8_isLike 37 = .ok (.ireturn, 1) := by decide +kernel
theorem dX8_isLike_38 : decode cX8_isLike 38 = .ok (.iinc 2 1, 3) := by decide +kernel
theorem dX8_isLike_41 : decode cX8_isLike 41 = .ok (.goto (-26), 3) := by decide +kernel
theorem dX8_isLike_44 : decode cX8_isLike 44 = .ok (.iconst 1, 1) := by decide +kernel
theorem dX8_isLike_45 : decode cX8_isLike 45 = .ok (.ireturn, 1) := by decide +kernel
theorem dX9_init_0 : decode cX9_init 0 = .ok (.aload_n 0, 1) := by decide +kernel
theorem dX9_init_1 : decode cX9_init 1 = .ok (.invokespecial 5, 3) := by decide +kernel
theorem dX9_init_4 : decode cX9_init 4 = .ok (.aload_n 0, 1) := by decide +kernel
theorem dX9_init_5 : decode cX9_init 5 = .ok (.iload_n 1, 1) := by decide +kernel
theorem dX9_init_6 : decode cX9_init 6 = .ok (.iconst 0, 1) := by decide +kernel
theorem dX9_init_7 : decode cX9_init 7 = .ok (.invokestatic 11, 3) := by decide +kernel
theorem dX9_init_10 : decode cX9_init 10 = .ok (.newarray .long, 2) := by decide +kernel
theorem dX9_init_12 : decode cX9_init 12 = .ok (.putfield 17, 3) := by decide +kernel
theorem dX9_init_15 : decode cX9_init 15 = .ok (.return_, 1) := by decide +kernel
theorem dX9_at_0 : decode cX9_at 0 = .ok (.iload_n 1, 1) := by decide +kernel
theorem dX9_at_1 : decode cX9_at 1 = .ok (.ifCond .lt 21, 3) := by decide +kernel
theorem dX9_at_4 : decode cX9_at 4 = .ok (.iload_n 1, 1) := by decide +kernel
theorem dX9_at_5 : decode cX9_at 5 = .ok (.aload_n 0, 1) := by decide +kernel
theorem dX9_at_6 : decode cX9_at 6 = .ok (.getfield 17, 3) := by decide +kernel
theorem dX9_at_9 : decode cX9_at 9 = .ok (.arraylength, 1) := by decide +kernel
theorem dX9_at_10 : decode cX9_at 10 = .ok (.if_icmp .ge 12, 3) := by decide +kernel
theorem dX9_at_13 : decode cX9_at 13 = .ok (.aload_n 0, 1) := by decide +kernel
theorem dX9_at_14 : decode cX9_at 14 = .ok (.getfield 17, 3) := by decide +kernel
theorem dX9_at_17 : decode cX9_at 17 = .ok (.iload_n 1, 1) := by decide +kernel
theorem dX9_at_18 : decode cX9_at 18 = .ok (.laload, 1) := by decide +kernel
theorem dX9_at_19 : decode cX9_at 19 = .ok (.goto 4, 3) := by decide +kernel
theorem dX9_at_22 : decode cX9_at 22 = .ok (.lconst 0, 1) := by decide +kernel
theorem dX9_at_23 : decode cX9_at 23 = .ok (.lreturn, 1) := by decide +kernel
theorem dX9_put_0 : decode cX9_put 0 = .ok (.iload_n 1, 1) := by decide +kernel
theorem dX9_put_1 : decode cX9_put 1 = .ok (.ifCond .lt 19, 3) := by decide +kernel
theorem dX9_put_4 : decode cX9_put 4 = .ok (.iload_n 1, 1) := by decide +kernel
theorem dX9_put_5 : decode cX9_put 5 = .ok (.aload_n 0, 1) := by decide +kernel
theorem dX9_put_6 : decode cX9_put 6 = .ok (.getfield 17, 3) := by decide +kernel
theorem dX9_put_9 : decode cX9_put 9 = .ok (.arraylength, 1) := by decide +kernel
theorem dX9_put_10 : decode cX9_put 10 = .ok (.if_icmp .ge 10, 3) := by decide +kernel
theorem dX9_put_13 : decode cX9_put 13 = .ok (.aload_n 0, 1) := by decide +kernel
theorem dX9_put_14 : decode cX9_put 14 = .ok (.getfield 17, 3) := by decide +kernel
theorem dX9_put_17 : decode cX9_put 17 = .ok (.iload_n 1, 1) := by decide +kernel
theorem dX9_put_18 : decode cX9_put 18 = .ok (.lload_n 2, 1) := by decide +kernel
theorem dX9_put_19 : decode cX9_put 19 = .ok (.lastore, 1) := by decide +kernel
theorem dX9_put_20 : decode cX9_put 20 = .ok (.return_, 1) := by decide +kernel
theorem dX9_take_0 : decode cX9_take 0 = .ok (.aload_n 1, 1) := by decide +kernel
theorem dX9_take_1 : decode cX9_take 1 = .ok (.getfield 17, 3) := by decide +kernel
theorem dX9_take_4 : decode cX9_take 4 = .ok (.iconst 0, 1) := by decide +kernel
theorem dX9_take_5 : decode cX9_take 5 = .ok (.aload_n 0, 1) := by decide +kernel
theorem dX9_take_6 : decode cX9_take 6 = .ok (.getfield 17, 3) := by decide +kernel
theorem dX9_take_9 : decode cX9_take 9 = .ok (.iconst 0, 1) := by decide +kernel
theorem dX9_take_10 : decode cX9_take 10 = .ok (.aload_n 0, 1) := by decide +kernel
theorem dX9_take_11 : decode cX9_take 11 = .ok (.getfield 17, 3) := by decide +kernel
theorem dX9_take_14 : decode cX9_take 14 = .ok (.arraylength, 1) := by decide +kernel
theorem dX9_take_15 : decode cX9_take 15 = .ok (.aload_n 1, 1) := by decide +kernel
theorem dX9_take_16 : decode cX9_take 16 = .ok (.getfield 17, 3) := by decide +kernel
theorem dX9_take_19 : decode cX9_take 19 = .ok (.arraylength, 1) := by decide +kernel
theorem dX9_take_20 : decode cX9_take 20 = .ok (.invokestatic 21, 3) := by decide +kernel
theorem dX9_take_23 : decode cX9_take 23 = .ok (.invokestatic 24, 3) := by decide +kernel
theorem dX9_take_26 : decode cX9_take 26 = .ok (.return_, 1) := by decide +kernel
theorem dX9_move_0 : decode cX9_move 0 = .ok (.iload_n 3, 1) := by decide +kernel
theorem dX9_move_1 : decode cX9_move 1 = .ok (.ifCond .le 40, 3) := by decide +kernel
theorem dX9_move_4 : decode cX9_move 4 = .ok (.iload_n 1, 1) := by decide +kernel
theorem dX9_move_5 : decode cX9_move 5 = .ok (.ifCond .lt 36, 3) := by decide +kernel
theorem dX9_move_8 : decode cX9_move 8 = .ok (.iload_n 2, 1) := by decide +kernel
theorem dX9_move_9 : decode cX9_move 9 = .ok (.ifCond .lt 32, 3) := by decide +kernel
theorem dX9_move_12 : decode cX9_move 12 = .ok (.iload_n 3, 1) := by decide +kernel
theorem dX9_move_13 : decode cX9_move 13 = .ok (.aload_n 0, 1) := by decide +kernel
theorem dX9_move_14 : decode cX9_move 14 = .ok (.getfield 17, 3) := by decide +kernel
theorem dX9_move_17 : decode cX9_move 17 = .ok (.arraylength, 1) := by decide +kernel
theorem dX9_move_18 : decode cX9_move 18 = .ok (.iload_n 1, 1) := by decide +kernel
theorem dX9_move_19 : decode cX9_move 19 = .ok (.iload_n 2, 1) := by decide +kernel
theorem dX9_move_20 : decode cX9_move 20 = .ok (.invokestatic 11, 3) := by decide +kernel
theorem dX9_move_23 : decode cX9_move 23 = .ok (.isub, 1) := by decide +kernel
theorem dX9_move_24 : decode cX9_move 24 = .ok (.if_icmp .gt 17, 3) := by decide +kernel
theorem dX9_move_27 : decode cX9_move 27 = .ok (.aload_n 0, 1) := by decide +kernel
theorem dX9_move_28 : decode cX9_move 28 = .ok (.getfield 17, 3) := by decide +kernel
theorem dX9_move_31 : decode cX9_move 31 = .ok (.iload_n 1, 1) := by decide +kernel
theorem dX9_move_32 : decode cX9_move 32 = .ok (.aload_n 0, 1) := by decide +kernel
theorem dX9_move_33 : decode cX9_move 33 = .ok (.getfield 17, 3) := by decide +kernel
theorem dX9_move_36 : decode cX9_move 36 = .ok (.iload_n 2, 1) := by decide +kernel
theorem dX9_move_37 : decode cX9_move 37 = .ok (.iload_n 3, 1) := by decide +kernel
theorem dX9_move_38 : decode cX9_move 38 = .ok (.invokestatic 24, 3) := by decide +kernel
theorem dX9_move_41 : decode cX9_move 41 = .ok (.return_, 1) := by decide +kernel
theorem dX9_letterOf_0 : decode cX9_letterOf 0 = .ok (.lload_n 0, 1) := by decide +kernel
theorem dX9_letterOf_1 : decode cX9_letterOf 1 = .ok (.bipush 55, 2) := by decide +kernel
theorem dX9_letterOf_3 : decode cX9_letterOf 3 = .ok (.iconst 5, 1) := by decide +kernel
theorem dX9_letterOf_4 : decode cX9_letterOf 4 = .ok (.iload_n 2, 1) := by decide +kernel
theorem dX9_letterOf_5 : decode cX9_letterOf 5 = .ok (.imul, 1) := by decide +kernel
theorem dX9_letterOf_6 : decode cX9_letterOf 6 = .ok (.isub, 1) := by decide +kernel
theorem dX9_letterOf_7 : decode cX9_letterOf 7 = .ok (.lshr, 1) := by decide +kernel
theorem dX9_letterOf_8 : decode cX9_letterOf 8 = .ok (.l2i, 1) := by decide +kernel
theorem dX9_letterOf_9 : decode cX9_letterOf 9 = .ok (.bipush 31, 2) := by decide +kernel
theorem dX9_letterOf_11 : decode cX9_letterOf 11 = .ok (.iand, 1) := by decide +kernel
theorem dX9_letterOf_12 : decode cX9_letterOf 12 = .ok (.ireturn, 1) := by decide +kernel
theorem dX9_widthOf_0 : decode cX9_widthOf 0 = .ok (.iconst 0, 1) := by decide +kernel
theorem dX9_widthOf_1 : decode cX9_widthOf 1 = .ok (.istore_n 2, 1) := by decide +kernel
theorem dX9_widthOf_2 : decode cX9_widthOf 2 = .ok (.iconst 0, 1) := by decide +kernel
theorem dX9_widthOf_3 : decode cX9_widthOf 3 = .ok (.istore_n 3, 1) := by decide +kernel
theorem dX9_widthOf_4 : decode cX9_widthOf 4 = .ok (.iload_n 3, 1) := by decide +kernel
theorem dX9_widthOf_5 : decode cX9_widthOf 5 = .ok (.bipush 12, 2) := by decide +kernel
theorem dX9_widthOf_7 : decode cX9_widthOf 7 = .ok (.if_icmp .ge 31, 3) := by decide +kernel
theorem dX9_widthOf_10 : decode cX9_widthOf 10 = .ok (.lload_n 0, 1) := by decide +kernel
theorem dX9_widthOf_11 : decode cX9_widthOf 11 = .ok (.iload_n 3, 1) := by decide +kernel
theorem dX9_widthOf_12 : decode cX9_widthOf 12 = .ok (.invokestatic 30, 3) := by decide +kernel
theorem dX9_widthOf_15 : decode cX9_widthOf 15 = .ok (.ifCond .eq 23, 3) := by decide +kernel
theorem dX9_widthOf_18 : decode cX9_widthOf 18 = .ok (.iload_n 2, 1) := by decide +kernel
theorem dX9_widthOf_19 : decode cX9_widthOf 19 = .ok (.bipush 96, 2) := by decide +kernel
theorem dX9_widthOf_21 : decode cX9_widthOf 21 = .ok (.lload_n 0, 1) := by decide +kernel
theorem dX9_widthOf_22 : decode cX9_widthOf 22 = .ok (.iload_n 3, 1) := by decide +kernel
theorem dX9_widthOf_23 : decode cX9_widthOf 23 = .ok (.invokestatic 30, 3) := by decide +kernel
theorem dX9_widthOf_26 : decode cX9_widthOf 26 = .ok (.iadd, 1) := by decide +kernel
theorem dX9_widthOf_27 : decode cX9_widthOf 27 = .ok (.invokestatic 34, 3) := by decide +kernel
theorem dX9_widthOf_30 : decode cX9_widthOf 30 = .ok (.iadd, 1) := by decide +kernel
theorem dX9_widthOf_31 : decode cX9_widthOf 31 = .ok (.istore_n 2, 1) := by decide +kernel
theorem dX9_widthOf_32 : decode cX9_widthOf 32 = .ok (.iinc 3 1, 3) := by decide +kernel
theorem dX9_widthOf_35 : decode cX9_widthOf 35 = .ok (.goto (-31), 3) := by decide +kernel
theorem dX9_widthOf_38 : decode cX9_widthOf 38 = .ok (.iload_n 2, 1) := by decide +kernel
theorem dX9_widthOf_39 : decode cX9_widthOf 39 = .ok (.ireturn, 1) := by decide +kernel
theorem dX10_init_0 : decode cX10_init 0 = .ok (.aload_n 0, 1) := by decide +kernel
theorem dX10_init_1 : decode cX10_init 1 = .ok (.invokespecial 3, 3) := by decide +kernel
theorem dX10_init_4 : decode cX10_init 4 = .ok (.aload_n 0, 1) := by decide +kernel
theorem dX10_init_5 : decode cX10_init 5 = .ok (.new 9, 3) := by decide +kernel
theorem dX10_init_8 : decode cX10_init 8 = .ok (.dup, 1) := by decide +kernel
theorem dX10_init_9 : decode cX10_init 9 = .ok (.sipush 192, 3) := by decide +kernel
theorem dX10_init_12 : decode cX10_init 12 = .ok (.invokespecial 11, 3) := by decide +kernel
theorem dX10_init_15 : decode cX10_init 15 = .ok (.putfield 14, 3) := by decide +kernel
theorem dX10_init_18 : decode cX10_init 18 = .ok (.aload_n 0, 1) := by decide +kernel
theorem dX10_init_19 : decode cX10_init 19 = .ok (.new 20, 3) := by decide +kernel
theorem dX10_init_22 : decode cX10_init 22 = .ok (.dup, 1) := by decide +kernel
theorem dX10_init_23 : decode cX10_init 23 = .ok (.sipush 192, 3) := by decide +kernel
theorem dX10_init_26 : decode cX10_init 26 = .ok (.invokespecial 22, 3) := by decide +kernel
theorem dX10_init_29 : decode cX10_init 29 = .ok (.putfield 23, 3) := by decide +kernel
theorem dX10_init_32 : decode cX10_init 32 = .ok (.aload_n 0, 1) := by decide +kernel
theorem dX10_init_33 : decode cX10_init 33 = .ok (.iconst 0, 1) := by decide +kernel
theorem dX10_init_34 : decode cX10_init 34 = .ok (.putfield 27, 3) := by decide +kernel
theorem dX10_init_37 : decode cX10_init 37 = .ok (.return_, 1) := by decide +kernel
theorem dX10_gather_0 : decode cX10_gather 0 = .ok (.aload_n 0, 1) := by decide +kernel
theorem dX10_gather_1 : decode cX10_gather 1 = .ok (.iconst 0, 1) := by decide +kernel
theorem dX10_gather_2 : decode cX10_gather 2 = .ok (.putfield 27, 3) := by decide +kernel
theorem dX10_gather_5 : decode cX10_gather 5 = .ok (.iconst 0, 1) := by decide +kernel
theorem dX10_gather_6 : decode cX10_gather 6 = .ok (.istore_n 2, 1) := by decide +kernel
theorem dX10_gather_7 : decode cX10_gather 7 = .ok (.iload_n 2, 1) := by decide +kernel
theorem dX10_gather_8 : decode cX10_gather 8 = .ok (.aload_n 1, 1) := by decide +kernel
theorem dX10_gather_9 : decode cX10_gather 9 = .ok (.getfield 31, 3) := by decide +kernel
theorem dX10_gather_12 : decode cX10_gather 12 = .ok (.if_icmp .ge 49, 3) := by decide +kernel
theorem dX10_gather_15 : decode cX10_gather 15 = .ok (.iconst 0, 1) := by decide +kernel
theorem dX10_gather_16 : decode cX10_gather 16 = .ok (.istore_n 3, 1) := by decide +kernel
theorem dX10_gather_17 : decode cX10_gather 17 = .ok (.iload_n 3, 1) := by decide +kernel
theorem dX10_gather_18 : decode cX10_gather 18 = .ok (.aload_n 1, 1) := by decide +kernel
theorem dX10_gather_19 : decode cX10_gather 19 = .ok (.getfield 36, 3) := by decide +kernel
theorem dX10_gather_22 : decode cX10_gather 22 = .ok (.iload_n 2, 1) := by decide +kernel
theorem dX10_gather_23 : decode cX10_gather 23 = .ok (.invokevirtual 39, 3) := by decide +kernel
theorem dX10_gather_26 : decode cX10_gather 26 = .ok (.if_icmp .ge 29, 3) := by decide +kernel
theorem dX10_gather_29 : decode cX10_gather 29 = .ok (.aload_n 0, 1) := by decide +kernel
theorem dX10_gather_30 : decode cX10_gather 30 = .ok (.aload_n 1, 1) := by decide +kernel
theorem dX10_gather_31 : decode cX10_gather 31 = .ok (.getfield 43, 3) := by decide +kernel
theorem dX10_gather_34 : decode cX10_gather 34 = .ok (.iload_n 2, 1) := by decide +kernel
theorem dX10_gather_35 : decode cX10_gather 35 = .ok (.bipush 8, 2) := by decide +kernel
theorem dX10_gather_37 : decode cX10_gather 37 = .ok (.imul, 1) := by decide +kernel
theorem dX10_gather_38 : decode cX10_gather 38 = .ok (.iload_n 3, 1) := by decide +kernel
theorem dX10_gather_39 : decode cX10_gather 39 = .ok (.iadd, 1) := by decide +kernel
theorem dX10_gather_40 : decode cX10_gather 40 = .ok (.invokevirtual 46, 3) := by decide +kernel
theorem dX10_gather_43 : decode cX10_gather 43 = .ok (.iconst 1, 1) := by decide +kernel
theorem dX10_gather_44 : decode cX10_gather 44 = .ok (.iload_n 2, 1) := by decide +kernel
theorem dX10_gather_45 : decode cX10_gather 45 = .ok (.ishl, 1) := by decide +kernel
theorem dX10_gather_46 : decode cX10_gather 46 = .ok (.invokevirtual 49, 3) := by decide +kernel
theorem dX10_gather_49 : decode cX10_gather 49 = .ok (.iinc 3 1, 3) := by decide +kernel
theorem dX10_gather_52 : decode cX10_gather 52 = .ok (.goto (-35), 3) := by decide +kernel
theorem dX10_gather_55 : decode cX10_gather 55 = .ok (.iinc 2 1, 3) := by decide +kernel
theorem dX10_gather_58 : decode cX10_gather 58 = .ok (.goto (-51), 3) := by decide +kernel
theorem dX10_gather_61 : decode cX10_gather 61 = .ok (.return_, 1) := by decide +kernel
theorem dX10_note_0 : decode cX10_note 0 = .ok (.iconst 0, 1) := by decide +kernel
theorem dX10_note_1 : decode cX10_note 1 = .ok (.istore 4, 2) := by decide +kernel
theorem dX10_note_3 : decode cX10_note 3 = .ok (.iload 4, 2) := by decide +kernel
theorem dX10_note_5 : decode cX10_note 5 = .ok (.aload_n 0, 1) := by decide +kernel
theorem dX10_note_6 : decode cX10_note 6 = .ok (.getfield 27, 3) := by decide +kernel
theorem dX10_note_9 : decode cX10_note 9 = .ok (.if_icmp .ge 23, 3) := by decide +kernel
theorem dX10_note_12 : decode cX10_note 12 = .ok (.aload_n 0, 1) := by decide +kernel
theorem dX10_note_13 : decode cX10_note 13 = .ok (.getfield 14, 3) := by decide +kernel
theorem dX10_note_16 : decode cX10_note 16 = .ok (.iload 4, 2) := by decide +kernel
theorem dX10_note_18 : decode cX10_note 18 = .ok (.invokevirtual 46, 3) := by decide +kernel
theorem dX10_note_21 : decode cX10_note 21 = .ok (.lload_n 1, 1) := by decide +kernel
theorem dX10_note_22 : decode cX10_note 22 = .ok (.lcmp, 1) := by decide +kernel
theorem dX10_note_23 : decode cX10_note 23 = .ok (.ifCond .ge 9, 3) := by decide +kernel
theorem dX10_note_26 : decode cX10_note 26 = .ok (.iinc 4 1, 3) := by decide +kernel
theorem dX10_note_29 : decode cX10_note 29 = .ok (.goto (-26), 3) := by decide +kernel
theorem dX10_note_32 : decode cX10_note 32 = .ok (.iload 4, 2) := by decide +kernel
theorem dX10_note_34 : decode cX10_note 34 = .ok (.aload_n 0, 1) := by decide +kernel
theorem dX10_note_35 : decode cX10_note 35 = .ok (.getfield 27, 3) := by decide +kernel
theorem dX10_note_38 : decode cX10_note 38 = .ok (.if_icmp .eq 17, 3) := by decide +kernel
theorem dX10_note_41 : decode cX10_note 41 = .ok (.aload_n 0, 1) := by decide +kernel
theorem dX10_note_42 : decode cX10_note 42 = .ok (.getfield 14, 3) := by decide +kernel
theorem dX10_note_45 : decode cX10_note 45 = .ok (.iload 4, 2) := by decide +kernel
theorem dX10_note_47 : decode cX10_note 47 = .ok (.invokevirtual 46, 3) := by decide +kernel
theorem dX10_note_50 : decode cX10_note 50 = .ok (.lload_n 1, 1) := by decide +kernel
theorem dX10_note_51 : decode cX10_note 51 = .ok (.lcmp, 1) := by decide +kernel
theorem dX10_note_52 : decode cX10_note 52 = .ok (.ifCond .eq 73, 3) := by decide +kernel
theorem dX10_note_55 : decode cX10_note 55 = .ok (.aload_n 0, 1) := by decide +kernel
theorem dX10_note_56 : decode cX10_note 56 = .ok (.getfield 14, 3) := by decide +kernel
theorem dX10_note_59 : decode cX10_note 59 = .ok (.iload 4, 2) := by decide +kernel
theorem dX10_note_61 : decode cX10_note 61 = .ok (.iload 4, 2) := by decide +kernel
theorem dX10_note_63 : decode cX10_note 63 = .ok (.iconst 1, 1) := by decide +kernel
theorem dX10_note_64 : decode cX10_note 64 = .ok (.iadd, 1) := by decide +kernel
theorem dX10_note_65 : decode cX10_note 65 = .ok (.aload_n 0, 1) := by decide +kernel
theorem dX10_note_66 : decode cX10_note 66 = .ok (.getfield 27, 3) := by decide +kernel
theorem dX10_note_69 : decode cX10_note 69 = .ok (.iload 4, 2) := by decide +kernel
theorem dX10_note_71 : decode cX10_note 71 = .ok (.isub, 1) := by decide +kernel
theorem dX10_note_72 : decode cX10_note 72 = .ok (.invokevirtual 53, 3) := by decide +kernel
theorem dX10_note_75 : decode cX10_note 75 = .ok (.aload_n 0, 1) := by decide +kernel
theorem dX10_note_76 : decode cX10_note 76 = .ok (.getfield 23, 3) := by decide +kernel
theorem dX10_note_79 : decode cX10_note 79 = .ok (.iload 4, 2) := by decide +kernel
theorem dX10_note_81 : decode cX10_note 81 = .ok (.iload 4, 2) := by decide +kernel
theorem dX10_note_83 : decode cX10_note 83 = .ok (.iconst 1, 1) := by decide +kernel
theorem dX10_note_84 : decode cX10_note 84 = .ok (.iadd, 1) := by decide +kernel
theorem dX10_note_85 : decode cX10_note 85 = .ok (.aload_n 0, 1) := by decide +kernel
theorem dX10_note_86 : decode cX10_note 86 = .ok (.getfield 27, 3) := by decide +kernel
theorem dX10_note_89 : decode cX10_note 89 = .ok (.iload 4, 2) := by decide +kernel
theorem dX10_note_91 : decode cX10_note 91 = .ok (.isub, 1) := by decide +kernel
theorem dX10_note_92 : decode cX10_note 92 = .ok (.invokevirtual 57, 3) := by decide +kernel
theorem dX10_note_95 : decode cX10_note 95 = .ok (.aload_n 0, 1) := by decide +kernel
theorem dX10_note_96 : decode cX10_note 96 = .ok (.getfield 14, 3) := by decide +kernel
theorem dX10_note_99 : decode cX10_note 99 = .ok (.iload 4, 2) := by decide +kernel
theorem dX10_note_101 : decode cX10_note 101 = .ok (.lload_n 1, 1) := by decide +kernel
theorem dX10_note_102 : decode cX10_note 102 = .ok (.invokevirtual 58, 3) := by decide +kernel
theorem dX10_note_105 : decode cX10_note 105 = .ok (.aload_n 0, 1) := by decide +kernel
theorem dX10_note_106 : decode cX10_note 106 = .ok (.getfield 23, 3) := by decide +kernel
theorem dX10_note_109 : decode cX10_note 109 = .ok (.iload 4, 2) := by decide +kernel
theorem dX10_note_111 : decode cX10_note 111 = .ok (.iconst 0, 1) := by decide +kernel
theorem dX10_note_112 : decode cX10_note 112 = .ok (.invokevirtual 62, 3) := by decide +kernel
theorem dX10_note_115 : decode cX10_note 115 = .ok (.aload_n 0, 1) := by decide +kernel
theorem dX10_note_116 : decode cX10_note 116 = .ok (.dup, 1) := by decide +kernel
theorem dX10_note_117 : decode cX10_note 117 = .ok (.getfield 27, 3) := by decide +kernel
theorem dX10_note_120 : decode cX10_note 120 = .ok (.iconst 1, 1) := by decide +kernel
theorem dX10_note_121 : decode cX10_note 121 = .ok (.iadd, 1) := by decide +kernel
theorem dX10_note_122 : decode cX10_note 122 = .ok (.putfield 27, 3) := by decide +kernel
