theorem dX12_putRoman_47 : decode cX12_putRoman 47 = .ok (.irem, 1) := by decide +kernel
theorem dX12_putRoman_48 : decode cX12_putRoman 48 = .ok (.bipush 120, 2) := by decide +kernel
theorem dX12_putRoman_50 : decode cX12_putRoman 50 = .ok (.bipush 108, 2) := by decide +kernel
theorem dX12_putRoman_52 : decode cX12_putRoman 52 = .ok (.bipush 99, 2) := by decide +kernel
theorem dX12_putRoman_54 : decode cX12_putRoman 54 = .ok (.invokevirtual 274, 3) := by decide +kernel
theorem dX12_putRoman_57 : decode cX12_putRoman 57 = .ok (.aload_n 0, 1) := by decide +kernel
theorem dX12_putRoman_58 : decode cX12_putRoman 58 = .ok (.iload_n 1, 1) := by decide +kernel
theorem dX12_putRoman_59 : decode cX12_putRoman 59 = .ok (.bipush 10, 2) := by decide +kernel
theorem dX12_putRoman_61 : decode cX12_putRoman 61 = .ok (.irem, 1) := by decide +kernel
theorem dX12_putRoman_62 : decode cX12_putRoman 62 = .ok (.bipush 105, 2) := by decide +kernel
theorem dX12_putRoman_64 : decode cX12_putRoman 64 = .ok (.bipush 118, 2) := by decide +kernel
theorem dX12_putRoman_66 : decode cX12_putRoman 66 = .ok (.bipush 120, 2) := by decide +kernel
theorem dX12_putRoman_68 : decode cX12_putRoman 68 = .ok (.invokevirtual 274, 3) := by decide +kernel
theorem dX12_putRoman_71 : decode cX12_putRoman 71 = .ok (.return_, 1) := by decide +kernel
theorem dX12_widthOf_0 : decode cX12_widthOf 0 = .ok (.iload_n 0, 1) := by decide +kernel
theorem dX12_widthOf_1 : decode cX12_widthOf 1 = .ok (.bipush 102, 2) := by decide +kernel
theorem dX12_widthOf_3 : decode cX12_widthOf 3 = .ok (.if_icmp .eq 51, 3) := by decide +kernel
theorem dX12_widthOf_6 : decode cX12_widthOf 6 = .ok (.iload_n 0, 1) := by decide +kernel
theorem dX12_widthOf_7 : decode cX12_widthOf 7 = .ok (.bipush 105, 2) := by decide +kernel
theorem dX12_widthOf_9 : decode cX12_widthOf 9 = .ok (.if_icmp .eq 45, 3) := by decide +kernel
theorem dX12_widthOf_12 : decode cX12_widthOf 12 = .ok (.iload_n 0, 1) := by decide +kernel
theorem dX12_widthOf_13 : decode cX12_widthOf 13 = .ok (.bipush 106, 2) := by decide +kernel
theorem dX12_widthOf_15 : decode cX12_widthOf 15 = .ok (.if_icmp .eq 39, 3) := by decide +kernel
theorem dX12_widthOf_18 : decode cX12_widthOf 18 = .ok (.iload_n 0, 1) := by decide +kernel
theorem dX12_widthOf_19 : decode cX12_widthOf 19 = .ok (.bipush 108, 2) := by decide +kernel
theorem dX12_widthOf_21 : decode cX12_widthOf 21 = .ok (.if_icmp .eq 33, 3) := by decide +kernel
theorem dX12_widthOf_24 : decode cX12_widthOf 24 = .ok (.iload_n 0, 1) := by decide +kernel
theorem dX12_widthOf_25 : decode cX12_widthOf 25 = .ok (.bipush 114, 2) := by decide +kernel
theorem dX12_widthOf_27 : decode cX12_widthOf 27 = .ok (.if_icmp .eq 27, 3) := by decide +kernel
theorem dX12_widthOf_30 : decode cX12_widthOf 30 = .ok (.iload_n 0, 1) := by decide +kernel
theorem dX12_widthOf_31 : decode cX12_widthOf 31 = .ok (.bipush 116, 2) := by decide +kernel
theorem dX12_widthOf_33 : decode cX12_widthOf 33 = .ok (.if_icmp .eq 21, 3) := by decide +kernel
theorem dX12_widthOf_36 : decode cX12_widthOf 36 = .ok (.iload_n 0, 1) := by decide +kernel
theorem dX12_widthOf_37 : decode cX12_widthOf 37 = .ok (.bipush 49, 2) := by decide +kernel
theorem dX12_widthOf_39 : decode cX12_widthOf 39 = .ok (.if_icmp .eq 15, 3) := by decide +kernel
theorem dX12_widthOf_42 : decode cX12_widthOf 42 = .ok (.iload_n 0, 1) := by decide +kernel
theorem dX12_widthOf_43 : decode cX12_widthOf 43 = .ok (.bipush 46, 2) := by decide +kernel
theorem dX12_widthOf_45 : decode cX12_widthOf 45 = .ok (.if_icmp .eq 9, 3) := by decide +kernel
theorem dX12_widthOf_48 : decode cX12_widthOf 48 = .ok (.iload_n 0, 1) := by decide +kernel
theorem dX12_widthOf_49 : decode cX12_widthOf 49 = .ok (.bipush 32, 2) := by decide +kernel
theorem dX12_widthOf_51 : decode cX12_widthOf 51 = .ok (.if_icmp .ne 5, 3) := by decide +kernel
theorem dX12_widthOf_54 : decode cX12_widthOf 54 = .ok (.iconst 1, 1) := by decide +kernel
theorem dX12_widthOf_55 : decode cX12_widthOf 55 = .ok (.ireturn, 1) := by decide +kernel
theorem dX12_widthOf_56 : decode cX12_widthOf 56 = .ok (.iload_n 0, 1) := by decide +kernel
theorem dX12_widthOf_57 : decode cX12_widthOf 57 = .ok (.bipush 109, 2) := by decide +kernel
theorem dX12_widthOf_59 : decode cX12_widthOf 59 = .ok (.if_icmp .eq 9, 3) := by decide +kernel
theorem dX12_widthOf_62 : decode cX12_widthOf 62 = .ok (.iload_n 0, 1) := by decide +kernel
theorem dX12_widthOf_63 : decode cX12_widthOf 63 = .ok (.bipush 119, 2) := by decide +kernel
theorem dX12_widthOf_65 : decode cX12_widthOf 65 = .ok (.if_icmp .ne 7, 3) := by decide +kernel
theorem dX12_widthOf_68 : decode cX12_widthOf 68 = .ok (.iconst 3, 1) := by decide +kernel
theorem dX12_widthOf_69 : decode cX12_widthOf 69 = .ok (.goto 4, 3) := by decide +kernel
theorem dX12_widthOf_72 : decode cX12_widthOf 72 = .ok (.iconst 2, 1) := by decide +kernel
theorem dX12_widthOf_73 : decode cX12_widthOf 73 = .ok (.ireturn, 1) := by decide +kernel
theorem dX12_textWidth_0 : decode cX12_textWidth 0 = .ok (.iconst 0, 1) := by decide +kernel
theorem dX12_textWidth_1 : decode cX12_textWidth 1 = .ok (.istore_n 2, 1) := by decide +kernel
theorem dX12_textWidth_2 : decode cX12_textWidth 2 = .ok (.iload_n 1, 1) := by decide +kernel
theorem dX12_textWidth_3 : decode cX12_textWidth 3 = .ok (.istore_n 3, 1) := by decide +kernel
theorem dX12_textWidth_4 : decode cX12_textWidth 4 = .ok (.iload_n 3, 1) := by decide +kernel
theorem dX12_textWidth_5 : decode cX12_textWidth 5 = .ok (.aload_n 0, 1) := by decide +kernel
theorem dX12_textWidth_6 : decode cX12_textWidth 6 = .ok (.getfield 264, 3) := by decide +kernel
theorem dX12_textWidth_9 : decode cX12_textWidth 9 = .ok (.if_icmp .ge 21, 3) := by decide +kernel
theorem dX12_textWidth_12 : decode cX12_textWidth 12 = .ok (.iload_n 2, 1) := by decide +kernel
theorem dX12_textWidth_13 : decode cX12_textWidth 13 = .ok (.aload_n 0, 1) := by decide +kernel
theorem dX12_textWidth_14 : decode cX12_textWidth 14 = .ok (.getfield 34, 3) := by decide +kernel
theorem dX12_textWidth_17 : decode cX12_textWidth 17 = .ok (.iload_n 3, 1) := by decide +kernel
theorem dX12_textWidth_18 : decode cX12_textWidth 18 = .ok (.baload, 1) := by decide +kernel
theorem dX12_textWidth_19 : decode cX12_textWidth 19 = .ok (.invokestatic 278, 3) := by decide +kernel
theorem dX12_textWidth_22 : decode cX12_textWidth 22 = .ok (.iadd, 1) := by decide +kernel
theorem dX12_textWidth_23 : decode cX12_textWidth 23 = .ok (.istore_n 2, 1) := by decide +kernel
theorem dX12_textWidth_24 : decode cX12_textWidth 24 = .ok (.iinc 3 1, 3) := by decide +kernel
theorem dX12_textWidth_27 : decode cX12_textWidth 27 = .ok (.goto (-23), 3) := by decide +kernel
theorem dX12_textWidth_30 : decode cX12_textWidth 30 = .ok (.iload_n 2, 1) := by decide +kernel
theorem dX12_textWidth_31 : decode cX12_textWidth 31 = .ok (.ireturn, 1) := by decide +kernel
theorem dX12_parentOf_0 : decode cX12_parentOf 0 = .ok (.iload_n 1, 1) := by decide +kernel
theorem dX12_parentOf_1 : decode cX12_parentOf 1 = .ok (.iconst 1, 1) := by decide +kernel
theorem dX12_parentOf_2 : decode cX12_parentOf 2 = .ok (.isub, 1) := by decide +kernel
theorem dX12_parentOf_3 : decode cX12_parentOf 3 = .ok (.istore_n 2, 1) := by decide +kernel
theorem dX12_parentOf_4 : decode cX12_parentOf 4 = .ok (.iload_n 2, 1) := by decide +kernel
theorem dX12_parentOf_5 : decode cX12_parentOf 5 = .ok (.ifCond .lt 41, 3) := by decide +kernel
theorem dX12_parentOf_8 : decode cX12_parentOf 8 = .ok (.aload_n 0, 1) := by decide +kernel
theorem dX12_parentOf_9 : decode cX12_parentOf 9 = .ok (.iload_n 2, 1) := by decide +kernel
theorem dX12_parentOf_10 : decode cX12_parentOf 10 = .ok (.iconst 2, 1) := by decide +kernel
theorem dX12_parentOf_11 : decode cX12_parentOf 11 = .ok (.invokevirtual 107, 3) := by decide +kernel
theorem dX12_parentOf_14 : decode cX12_parentOf 14 = .ok (.aload_n 0, 1) := by decide +kernel
theorem dX12_parentOf_15 : decode cX12_parentOf 15 = .ok (.iload_n 1, 1) := by decide +kernel
theorem dX12_parentOf_16 : decode cX12_parentOf 16 = .ok (.iconst 2, 1) := by decide +kernel
theorem dX12_parentOf_17 : decode cX12_parentOf 17 = .ok (.invokevirtual 107, 3) := by decide +kernel
theorem dX12_parentOf_20 : decode cX12_parentOf 20 = .ok (.if_icmp .ne 26, 3) := by decide +kernel
theorem dX12_parentOf_23 : decode cX12_parentOf 23 = .ok (.aload_n 0, 1) := by decide +kernel
theorem dX12_parentOf_24 : decode cX12_parentOf 24 = .ok (.iload_n 2, 1) := by decide +kernel
theorem dX12_parentOf_25 : decode cX12_parentOf 25 = .ok (.iconst 0, 1) := by decide +kernel
theorem dX12_parentOf_26 : decode cX12_parentOf 26 = .ok (.invokevirtual 107, 3) := by decide +kernel
theorem dX12_parentOf_29 : decode cX12_parentOf 29 = .ok (.aload_n 0, 1) := by decide +kernel
theorem dX12_parentOf_30 : decode cX12_parentOf 30 = .ok (.iload_n 1, 1) := by decide +kernel
theorem dX12_parentOf_31 : decode cX12_parentOf 31 = .ok (.iconst 0, 1) := by decide +kernel
theorem dX12_parentOf_32 : decode cX12_parentOf 32 = .ok (.invokevirtual 107, 3) := by decide +kernel
theorem dX12_parentOf_35 : decode cX12_parentOf 35 = .ok (.if_icmp .ge 5, 3) := by decide +kernel
theorem dX12_parentOf_38 : decode cX12_parentOf 38 = .ok (.iload_n 2, 1) := by decide +kernel
theorem dX12_parentOf_39 : decode cX12_parentOf 39 = .ok (.ireturn, 1) := by decide +kernel
theorem dX12_parentOf_40 : decode cX12_parentOf 40 = .ok (.iinc 2 (-1), 3) := by decide +kernel
theorem dX12_parentOf_43 : decode cX12_parentOf 43 = .ok (.goto (-39), 3) := by decide +kernel
theorem dX12_parentOf_46 : decode cX12_parentOf 46 = .ok (.iconst (-1), 1) := by decide +kernel
theorem dX12_parentOf_47 : decode cX12_parentOf 47 = .ok (.ireturn, 1) := by decide +kernel
theorem dX12_layLabels_0 : decode cX12_layLabels 0 = .ok (.iconst 0, 1) := by decide +kernel
theorem dX12_layLabels_1 : decode cX12_layLabels 1 = .ok (.istore_n 1, 1) := by decide +kernel
theorem dX12_layLabels_2 : decode cX12_layLabels 2 = .ok (.iload_n 1, 1) := by decide +kernel
theorem dX12_layLabels_3 : decode cX12_layLabels 3 = .ok (.aload_n 0, 1) := by decide +kernel
theorem dX12_layLabels_4 : decode cX12_layLabels 4 = .ok (.getfield 24, 3) := by decide +kernel
theorem dX12_layLabels_7 : decode cX12_layLabels 7 = .ok (.bipush 9, 2) := by decide +kernel
theorem dX12_layLabels_9 : decode cX12_layLabels 9 = .ok (.iaload, 1) := by decide +kernel
theorem dX12_layLabels_10 : decode cX12_layLabels 10 = .ok (.if_icmp .ge 84, 3) := by decide +kernel
theorem dX12_layLabels_13 : decode cX12_layLabels 13 = .ok (.aload_n 0, 1) := by decide +kernel
theorem dX12_layLabels_14 : decode cX12_layLabels 14 = .ok (.getfield 37, 3) := by decide +kernel
theorem dX12_layLabels_17 : decode cX12_layLabels 17 = .ok (.iload_n 1, 1) := by decide +kernel
theorem dX12_layLabels_18 : decode cX12_layLabels 18 = .ok (.aload_n 0, 1) := by decide +kernel
theorem dX12_layLabels_19 : decode cX12_layLabels 19 = .ok (.iload_n 1, 1) := by decide +kernel
theorem dX12_layLabels_20 : decode cX12_layLabels 20 = .ok (.invokevirtual 281, 3) := by decide +kernel
theorem dX12_layLabels_23 : decode cX12_layLabels 23 = .ok (.iastore, 1) := by decide +kernel
theorem dX12_layLabels_24 : decode cX12_layLabels 24 = .ok (.aload_n 0, 1) := by decide +kernel
theorem dX12_layLabels_25 : decode cX12_layLabels 25 = .ok (.getfield 40, 3) := by decide +kernel
theorem dX12_layLabels_28 : decode cX12_layLabels 28 = .ok (.iload_n 1, 1) := by decide +kernel
theorem dX12_layLabels_29 : decode cX12_layLabels 29 = .ok (.iconst 1, 1) := by decide +kernel
theorem dX12_layLabels_30 : decode cX12_layLabels 30 = .ok (.iastore, 1) := by decide +kernel
theorem dX12_layLabels_31 : decode cX12_layLabels 31 = .ok (.iconst 0, 1) := by decide +kernel
theorem dX12_layLabels_32 : decode cX12_layLabels 32 = .ok (.istore_n 2, 1) := by decide +kernel
theorem dX12_layLabels_33 : decode cX12_layLabels 33 = .ok (.iload_n 2, 1) := by decide +kernel
theorem dX12_layLabels_34 : decode cX12_layLabels 34 = .ok (.iload_n 1, 1) := by decide +kernel
theorem dX12_layLabels_35 : decode cX12_layLabels 35 = .ok (.if_icmp .ge 53, 3) := by decide +kernel
theorem dX12_layLabels_38 : decode cX12_layLabels 38 = .ok (.aload_n 0, 1) := by decide +kernel
theorem dX12_layLabels_39 : decode cX12_layLabels 39 = .ok (.getfield 40, 3) := by decide +kernel
theorem dX12_layLabels_42 : decode cX12_layLabels 42 = .ok (.iload_n 1, 1) := by decide +kernel
theorem dX12_layLabels_43 : decode cX12_layLabels 43 = .ok (.dup2, 1) := by decide +kernel
theorem dX12_layLabels_44 : decode cX12_layLabels 44 = .ok (.iaload, 1) := by decide +kernel
theorem dX12_layLabels_45 : decode cX12_layLabels 45 = .ok (.aload_n 0, 1) := by decide +kernel
theorem dX12_layLabels_46 : decode cX12_layLabels 46 = .ok (.iload_n 2, 1) := by decide +kernel
theorem dX12_layLabels_47 : decode cX12_layLabels 47 = .ok (.iconst 2, 1) := by decide +kernel
theorem dX12_layLabels_48 : decode cX12_layLabels 48 = .ok (.invokevirtual 107, 3) := by decide +kernel
theorem dX12_layLabels_51 : decode cX12_layLabels 51 = .ok (.aload_n 0, 1) := by decide +kernel
theorem dX12_layLabels_52 : decode cX12_layLabels 52 = .ok (.iload_n 1, 1) := by decide +kernel
theorem dX12_layLabels_53 : decode cX12_layLabels 53 = .ok (.iconst 2, 1) := by decide +kernel
theorem dX12_layLabels_54 : decode cX12_layLabels 54 = .ok (.invokevirtual 107, 3) := by decide +kernel
theorem dX12_layLabels_57 : decode cX12_layLabels 57 = .ok (.if_icmp .ne 22, 3) := by decide +kernel
theorem dX12_layLabels_60 : decode cX12_layLabels 60 = .ok (.aload_n 0, 1) := by decide +kernel
theorem dX12_layLabels_61 : decode cX12_layLabels 61 = .ok (.getfield 37, 3) := by decide +kernel
theorem dX12_layLabels_64 : decode cX12_layLabels 64 = .ok (.iload_n 2, 1) := by decide +kernel
theorem dX12_layLabels_65 : decode cX12_layLabels 65 = .ok (.iaload, 1) := by decide +kernel
theorem dX12_layLabels_66 : decode cX12_layLabels 66 = .ok (.aload_n 0, 1) := by decide +kernel
theorem dX12_layLabels_67 : decode cX12_layLabels 67 = .ok (.getfield 37, 3) := by decide +kernel
theorem dX12_layLabels_70 : decode cX12_layLabels 70 = .ok (.iload_n 1, 1) := by decide +kernel
theorem dX12_layLabels_71 : decode cX12_layLabels 71 = .ok (.iaload, 1) := by decide +kernel
theorem dX12_layLabels_72 : decode cX12_layLabels 72 = .ok (.if_icmp .ne 7, 3) := by decide +kernel
theorem dX12_layLabels_75 : decode cX12_layLabels 75 = .ok (.iconst 1, 1) := by decide +kernel
theorem dX12_layLabels_76 : decode cX12_layLabels 76 = .ok (.goto 4, 3) := by decide +kernel
theorem dX12_layLabels_79 : decode cX12_layLabels 79 = .ok (.iconst 0, 1) := by decide +kernel
theorem dX12_layLabels_80 : decode cX12_layLabels 80 = .ok (.iadd, 1) := by decide +kernel
theorem dX12_layLabels_81 : decode cX12_layLabels 81 = .ok (.iastore, 1) := by decide +kernel
theorem dX12_layLabels_82 : decode cX12_layLabels 82 = .ok (.iinc 2 1, 3) := by decide +kernel
theorem dX12_layLabels_85 : decode cX12_layLabels 85 = .ok (.goto (-52), 3) := by decide +kernel
theorem dX12_layLabels_88 : decode cX12_layLabels 88 = .ok (.iinc 1 1, 3) := by decide +kernel
theorem dX12_layLabels_91 : decode cX12_layLabels 91 = .ok (.goto (-89), 3) := by decide +kernel
theorem dX12_layLabels_94 : decode cX12_layLabels 94 = .ok (.return_, 1) := by decide +kernel
theorem dX12_putLabel_0 : decode cX12_putLabel 0 = .ok (.iconst 0, 1) := by decide +kernel
theorem dX12_putLabel_1 : decode cX12_putLabel 1 = .ok (.istore_n 2, 1) := by decide +kernel
theorem dX12_putLabel_2 : decode cX12_putLabel 2 = .ok (.iload_n 1, 1) := by decide +kernel
theorem dX12_putLabel_3 : decode cX12_putLabel 3 = .ok (.istore_n 3, 1) := by decide +kernel
theorem dX12_putLabel_4 : decode cX12_putLabel 4 = .ok (.iload_n 3, 1) := by decide +kernel
theorem dX12_putLabel_5 : decode cX12_putLabel 5 = .ok (.iconst (-1), 1) := by decide +kernel
theorem dX12_putLabel_6 : decode cX12_putLabel 6 = .ok (.if_icmp .eq 28, 3) := by decide +kernel
theorem dX12_putLabel_9 : decode cX12_putLabel 9 = .ok (.aload_n 0, 1) := by decide +kernel
theorem dX12_putLabel_10 : decode cX12_putLabel 10 = .ok (.getfield 43, 3) := by decide +kernel
theorem dX12_putLabel_13 : decode cX12_putLabel 13 = .ok (.iload_n 2, 1) := by decide +kernel
theorem dX12_putLabel_14 : decode cX12_putLabel 14 = .ok (.aload_n 0, 1) := by decide +kernel
theorem dX12_putLabel_15 : decode cX12_putLabel 15 = .ok (.getfield 40, 3) := by decide +kernel
theorem dX12_putLabel_18 : decode cX12_putLabel 18 = .ok (.iload_n 3, 1) := by decide +kernel
theorem dX12_putLabel_19 : decode cX12_putLabel 19 = .ok (.iaload, 1) := by decide +kernel
theorem dX12_putLabel_20 : decode cX12_putLabel 20 = .ok (.iastore, 1) := by decide +kernel
theorem dX12_putLabel_21 : decode cX12_putLabel 21 = .ok (.iinc 2 1, 3) := by decide +kernel
theorem dX12_putLabel_24 : decode cX12_putLabel 24 = .ok (.aload_n 0, 1) := by decide +kernel
theorem dX12_putLabel_25 : decode cX12_putLabel 25 = .ok (.getfield 37, 3) := by decide +kernel
theorem dX12_putLabel_28 : decode cX12_putLabel 28 = .ok (.iload_n 3, 1) := by decide +kernel
theorem dX12_putLabel_29 : decode cX12_putLabel 29 = .ok (.iaload, 1) := by decide +kernel
theorem dX12_putLabel_30 : decode cX12_putLabel 30 = .ok (.istore_n 3, 1) := by decide +kernel
theorem dX12_putLabel_31 : decode cX12_putLabel 31 = .ok (.goto (-27), 3) := by decide +kernel
theorem dX12_putLabel_34 : decode cX12_putLabel 34 = .ok (.iload_n 2, 1) := by decide +kernel
theorem dX12_putLabel_35 : decode cX12_putLabel 35 = .ok (.iconst 1, 1) := by decide +kernel
theorem dX12_putLabel_36 : decode cX12_putLabel 36 = .ok (.isub, 1) := by decide +kernel
theorem dX12_putLabel_37 : decode cX12_putLabel 37 = .ok (.istore_n 3, 1) := by decide +kernel
theorem dX12_putLabel_38 : decode cX12_putLabel 38 = .ok (.iload_n 3, 1) := by decide +kernel
theorem dX12_putLabel_39 : decode cX12_putLabel 39 = .ok (.ifCond .lt 29, 3) := by decide +kernel
theorem dX12_putLabel_42 : decode cX12_putLabel 42 = .ok (.aload_n 0, 1) := by decide +kernel
theorem dX12_putLabel_43 : decode cX12_putLabel 43 = .ok (.aload_n 0, 1) := by decide +kernel
theorem dX12_putLabel_44 : decode cX12_putLabel 44 = .ok (.getfield 43, 3) := by decide +kernel
theorem dX12_putLabel_47 : decode cX12_putLabel 47 = .ok (.iload_n 3, 1) := by decide +kernel
theorem dX12_putLabel_48 : decode cX12_putLabel 48 = .ok (.iaload, 1) := by decide +kernel
theorem dX12_putLabel_49 : decode cX12_putLabel 49 = .ok (.invokevirtual 284, 3) := by decide +kernel
theorem dX12_putLabel_52 : decode cX12_putLabel 52 = .ok (.iload_n 3, 1) := by decide +kernel
theorem dX12_putLabel_53 : decode cX12_putLabel 53 = .ok (.ifCond .le 9, 3) := by decide +kernel
theorem dX12_putLabel_56 : decode cX12_putLabel 56 = .ok (.aload_n 0, 1) := by decide +kernel
theorem dX12_putLabel_57 : decode cX12_putLabel 57 = .ok (.bipush 46, 2) := by decide +kernel
theorem dX12_putLabel_59 : decode cX12_putLabel 59 = .ok (.invokevirtual 267, 3) := by decide +kernel
theorem dX12_putLabel_62 : decode cX12_putLabel 62 = .ok (.iinc 3 (-1), 3) := by decide +kernel
theorem dX12_putLabel_65 : decode cX12_putLabel 65 = .ok (.goto (-27), 3) := by decide +kernel
theorem dX12_putLabel_68 : decode cX12_putLabel 68 = .ok (.return_, 1) := by decide +kernel
theorem dX12_putToken_0 : decode cX12_putToken 0 = .ok (.iload_n 2, 1) := by decide +kernel
theorem dX12_putToken_1 : decode cX12_putToken 1 = .ok (.ifCond .ne 24, 3) := by decide +kernel
theorem dX12_putToken_4 : decode cX12_putToken 4 = .ok (.aload_n 0, 1) := by decide +kernel
theorem dX12_putToken_5 : decode cX12_putToken 5 = .ok (.iload_n 1, 1) := by decide +kernel
theorem dX12_putToken_6 : decode cX12_putToken 6 = .ok (.iconst 2, 1) := by decide +kernel
theorem dX12_putToken_7 : decode cX12_putToken 7 = .ok (.invokevirtual 107, 3) := by decide +kernel
theorem dX12_putToken_10 : decode cX12_putToken 10 = .ok (.iconst 1, 1) := by decide +kernel
theorem dX12_putToken_11 : decode cX12_putToken 11 = .ok (.if_icmp .ne 14, 3) := by decide +kernel
theorem dX12_putToken_14 : decode cX12_putToken 14 = .ok (.aload_n 0, 1) := by decide +kernel
theorem dX12_putToken_15 : decode cX12_putToken 15 = .ok (.iload_n 1, 1) := by decide +kernel
theorem dX12_putToken_16 : decode cX12_putToken 16 = .ok (.invokevirtual 287, 3) := by decide +kernel
theorem dX12_putToken_19 : decode cX12_putToken 19 = .ok (.aload_n 0, 1) := by decide +kernel
theorem dX12_putToken_20 : decode cX12_putToken 20 = .ok (.bipush 32, 2) := by decide +kernel
theorem dX12_putToken_22 : decode cX12_putToken 22 = .ok (.invokevirtual 267, 3) := by decide +kernel
theorem dX12_putToken_25 : decode cX12_putToken 25 = .ok (.aload_n 0, 1) := by decide +kernel
theorem dX12_putToken_26 : decode cX12_putToken 26 = .ok (.iload_n 1, 1) := by decide +kernel
theorem dX12_putToken_27 : decode cX12_putToken 27 = .ok (.iload_n 2, 1) := by decide +kernel
theorem dX12_putToken_28 : decode cX12_putToken 28 = .ok (.invokevirtual 290, 3) := by decide +kernel
theorem dX12_putToken_31 : decode cX12_putToken 31 = .ok (.return_, 1) := by decide +kernel
theorem dX12_tokenWidth_0 : decode cX12_tokenWidth 0 = .ok (.aload_n 0, 1) := by decide +kernel
theorem dX12_tokenWidth_1 : decode cX12_tokenWidth 1 = .ok (.iconst 0, 1) := by decide +kernel
theorem dX12_tokenWidth_2 : decode cX12_tokenWidth 2 = .ok (.putfield 264, 3) := by decide +kernel
theorem dX12_tokenWidth_5 : decode cX12_tokenWidth 5 = .ok (.aload_n 0, 1) := by decide +kernel
theorem dX12_tokenWidth_6 : decode cX12_tokenWidth 6 = .ok (.iload_n 1, 1) := by decide +kernel
theorem dX12_tokenWidth_7 : decode cX12_tokenWidth 7 = .ok (.iload_n 2, 1) := by decide +kernel
theorem dX12_tokenWidth_8 : decode cX12_tokenWidth 8 = .ok (.invokevirtual 294, 3) := by decide +kernel
theorem dX12_tokenWidth_11 : decode cX12_tokenWidth 11 = .ok (.aload_n 0, 1) := by decide +kernel
theorem dX12_tokenWidth_12 : decode cX12_tokenWidth 12 = .ok (.iconst 0, 1) := by decide +kernel
theorem dX12_tokenWidth_13 : decode cX12_tokenWidth 13 = .ok (.invokevirtual 297, 3) := by decide +kernel
theorem dX12_tokenWidth_16 : decode cX12_tokenWidth 16 = .ok (.ireturn, 1) := by decide +kernel
theorem dX12_flow_0 : decode cX12_flow 0 = .ok (.aload_n 0, 1) := by decide +kernel
theorem dX12_flow_1 : decode cX12_flow 1 = .ok (.iload_n 1, 1) := by decide +kernel
theorem dX12_flow_2 : decode cX12_flow 2 = .ok (.iconst 0, 1) := by decide +kernel
theorem dX12_flow_3 : decode cX12_flow 3 = .ok (.invokevirtual 107, 3) := by decide +kernel
theorem dX12_flow_6 : decode cX12_flow 6 = .ok (.iconst 1, 1) := by decide +kernel
theorem dX12_flow_7 : decode cX12_flow 7 = .ok (.if_icmp .ne 7, 3) := by decide +kernel
theorem dX12_flow_10 : decode cX12_flow 10 = .ok (.iconst 1, 1) := by decide +kernel
theorem dX12_flow_11 : decode cX12_flow 11 = .ok (.goto 4, 3) := by decide +kernel
theorem dX12_flow_14 : decode cX12_flow 14 = .ok (.iconst 0, 1) := by decide +kernel
theorem dX12_flow_15 : decode cX12_flow 15 = .ok (.istore_n 2, 1) := by decide +kernel
theorem dX12_flow_16 : decode cX12_flow 16 = .ok (.aload_n 0, 1) := by decide +kernel
theorem dX12_flow_17 : decode cX12_flow 17 = .ok (.getfield 24, 3) := by decide +kernel
theorem dX12_flow_20 : decode cX12_flow 20 = .ok (.iconst 2, 1) := by decide +kernel
theorem dX12_flow_21 : decode cX12_flow 21 = .ok (.iaload, 1) := by decide +kernel
theorem dX12_flow_22 : decode cX12_flow 22 = .ok (.istore_n 3, 1) := by decide +kernel
theorem dX12_flow_23 : decode cX12_flow 23 = .ok (.iload_n 2, 1) := by decide +kernel
theorem dX12_flow_24 : decode cX12_flow 24 = .ok (.ifCond .eq 13, 3) := by decide +kernel
theorem dX12_flow_27 : decode cX12_flow 27 = .ok (.aload_n 0, 1) := by decide +kernel
theorem dX12_flow_28 : decode cX12_flow 28 = .ok (.getfield 300, 3) := by decide +kernel
theorem dX12_flow_31 : decode cX12_flow 31 = .ok (.ifCond .le 31, 3) := by decide +kernel
theorem dX12_flow_34 : decode cX12_flow 34 = .ok (.goto 13, 3) := by decide +kernel
theorem dX12_flow_37 : decode cX12_flow 37 = .ok (.iload_n 3, 1) := by decide +kernel
theorem dX12_flow_38 : decode cX12_flow 38 = .ok (.aload_n 0, 1) := by decide +kernel
theorem dX12_flow_39 : decode cX12_flow 39 = .ok (.getfield 300, 3) := by decide +kernel
theorem dX12_flow_42 : decode cX12_flow 42 = .ok (.isub, 1) := by decide +kernel
theorem dX12_flow_43 : decode cX12_flow 43 = .ok (.iconst 2, 1) := by decide +kernel
theorem dX12_flow_44 : decode cX12_flow 44 = .ok (.if_icmp .ge 18, 3) := by decide +kernel
theorem dX12_flow_47 : decode cX12_flow 47 = .ok (.aload_n 0, 1) := by decide +kernel
theorem dX12_flow_48 : decode cX12_flow 48 = .ok (.dup, 1) := by decide +kernel
theorem dX12_flow_49 : decode cX12_flow 49 = .ok (.getfield 303, 3) := by decide +kernel
theorem dX12_flow_52 : decode cX12_flow 52 = .ok (.iconst 1, 1) := by decide +kernel
theorem dX12_flow_53 : decode cX12_flow 53 = .ok (.iadd, 1) := by decide +kernel
theorem dX12_flow_54 : decode cX12_flow 54 = .ok (.putfield 303, 3) := by decide +kernel
theorem dX12_flow_57 : decode cX12_flow 57 = .ok (.aload_n 0, 1) := by decide +kernel
theorem dX12_flow_58 : decode cX12_flow 58 = .ok (.iconst 0, 1) := by decide +kernel
theorem dX12_flow_59 : decode cX12_flow 59 = .ok (.putfield 300, 3) := by decide +kernel
theorem dX12_flow_62 : decode cX12_flow 62 = .ok (.iload_n 2, 1) := by decide +kernel
theorem dX12_flow_63 : decode cX12_flow 63 = .ok (.ifCond .eq 33, 3) := by decide +kernel
theorem dX12_flow_66 : decode cX12_flow 66 = .ok (.aload_n 0, 1) := by decide +kernel
theorem dX12_flow_67 : decode cX12_flow 67 = .ok (.getfield 24, 3) := by decide +kernel
theorem dX12_flow_70 : decode cX12_flow 70 = .ok (.bipush 8, 2) := by decide +kernel
theorem dX12_flow_72 : decode cX12_flow 72 = .ok (.iaload, 1) := by decide +kernel
theorem dX12_flow_73 : decode cX12_flow 73 = .ok (.iconst 1, 1) := by decide +kernel
theorem dX12_flow_74 : decode cX12_flow 74 = .ok (.if_icmp .ne 22, 3) := by decide +kernel
theorem dX12_flow_77 : decode cX12_flow 77 = .ok (.aload_n 0, 1) := by decide +kernel
theorem dX12_flow_78 : decode cX12_flow 78 = .ok (.getfield 303, 3) := by decide +kernel
theorem dX12_flow_81 : decode cX12_flow 81 = .ok (.iconst 2, 1) := by decide +kernel
theorem dX12_flow_82 : decode cX12_flow 82 = .ok (.irem, 1) := by decide +kernel
theorem dX12_flow_83 : decode cX12_flow 83 = .ok (.ifCond .ne 13, 3) := by decide +kernel
theorem dX12_flow_86 : decode cX12_flow 86 = .ok (.aload_n 0, 1) := by decide +kernel
theorem dX12_flow_87 : decode cX12_flow 87 = .ok (.dup, 1) := by decide +kernel
theorem dX12_flow_88 : decode cX12_flow 88 = .ok (.getfield 303, 3) := by decide +kernel
theorem dX12_flow_91 : decode cX12_flow 91 = .ok (.iconst 1, 1) := by decide +kernel
theorem dX12_flow_92 : decode cX12_flow 92 = .ok (.iadd, 1) := by decide +kernel
theorem dX12_flow_93 : decode cX12_flow 93 = .ok (.putfield 303, 3) := by decide +kernel
theorem dX12_flow_96 : decode cX12_flow 96 = .ok (.aload_n 0, 1) := by decide +kernel
theorem dX12_flow_97 : decode cX12_flow 97 = .ok (.getfield 46, 3) := by decide +kernel
theorem dX12_flow_100 : decode cX12_flow 100 = .ok (.iload_n 1, 1) := by decide +kernel
theorem dX12_flow_101 : decode cX12_flow 101 = .ok (.aload_n 0, 1) := by decide +kernel
theorem dX12_flow_102 : decode cX12_flow 102 = .ok (.getfield 303, 3) := by decide +kernel
theorem dX12_flow_105 : decode cX12_flow 105 = .ok (.iastore, 1) := by decide +kernel
theorem dX12_flow_106 : decode cX12_flow 106 = .ok (.aload_n 0, 1) := by decide +kernel
theorem dX12_flow_107 : decode cX12_flow 107 = .ok (.getfield 49, 3) := by decide +kernel
theorem dX12_flow_110 : decode cX12_flow 110 = .ok (.iload_n 1, 1) := by decide +kernel
theorem dX12_flow_111 : decode cX12_flow 111 = .ok (.aload_n 0, 1) := by decide +kernel
theorem dX12_flow_112 : decode cX12_flow 112 = .ok (.getfield 300, 3) := by decide +kernel
theorem dX12_flow_115 : decode cX12_flow 115 = .ok (.iastore, 1) := by decide +kernel
theorem dX12_flow_116 : decode cX12_flow 116 = .ok (.aload_n 0, 1) := by decide +kernel
theorem dX12_flow_117 : decode cX12_flow 117 = .ok (.getfield 300, 3) := by decide +kernel
theorem dX12_flow_120 : decode cX12_flow 120 = .ok (.iload_n 2, 1) := by decide +kernel
theorem dX12_flow_121 : decode cX12_flow 121 = .ok (.ifCond .eq 7, 3) := by decide +kernel
theorem dX12_flow_124 : decode cX12_flow 124 = .ok (.iconst 3, 1) := by decide +kernel
theorem dX12_flow_125 : decode cX12_flow 125 = .ok (.goto 4, 3) := by decide +kernel
theorem dX12_flow_128 : decode cX12_flow 128 = .ok (.iconst 1, 1) := by decide +kernel
theorem dX12_flow_129 : decode cX12_flow 129 = .ok (.iadd, 1) := by decide +kernel
theorem dX12_flow_130 : decode cX12_flow 130 = .ok (.aload_n 0, 1) := by decide +kernel
theorem dX12_flow_131 : decode cX12_flow 131 = .ok (.iload_n 1, 1) := by decide +kernel
theorem dX12_flow_132 : decode cX12_flow 132 = .ok (.iconst 1, 1) := by decide +kernel
theorem dX12_flow_133 : decode cX12_flow 133 = .ok (.invokevirtual 107, 3) := by decide +kernel
theorem dX12_flow_136 : decode cX12_flow 136 = .ok (.iadd, 1) := by decide +kernel
theorem dX12_flow_137 : decode cX12_flow 137 = .ok (.istore 4, 2) := by decide +kernel
theorem dX12_flow_139 : decode cX12_flow 139 = .ok (.aload_n 0, 1) := by decide +kernel
theorem dX12_flow_140 : decode cX12_flow 140 = .ok (.dup, 1) := by decide +kernel
theorem dX12_flow_141 : decode cX12_flow 141 = .ok (.getfield 303, 3) := by decide +kernel
theorem dX12_flow_144 : decode cX12_flow 144 = .ok (.iload 4, 2) := by decide +kernel
theorem dX12_flow_146 : decode cX12_flow 146 = .ok (.iconst 1, 1) := by decide +kernel
theorem dX12_flow_147 : decode cX12_flow 147 = .ok (.isub, 1) := by decide +kernel
theorem dX12_flow_148 : decode cX12_flow 148 = .ok (.iload_n 3, 1) := by decide +kernel
theorem dX12_flow_149 : decode cX12_flow 149 = .ok (.idiv, 1) := by decide +kernel
theorem dX12_flow_150 : decode cX12_flow 150 = .ok (.iadd, 1) := by decide +kernel
theorem dX12_flow_151 : decode cX12_flow 151 = .ok (.putfield 303, 3) := by decide +kernel
theorem dX12_flow_154 : decode cX12_flow 154 = .ok (.aload_n 0, 1) := by decide +kernel
theorem dX12_flow_155 : decode cX12_flow 155 = .ok (.iload 4, 2) := by decide +kernel
theorem dX12_flow_157 : decode cX12_flow 157 = .ok (.iload 4, 2) := by decide +kernel
theorem dX12_flow_159 : decode cX12_flow 159 = .ok (.iconst 1, 1) := by decide +kernel
theorem dX12_flow_160 : decode cX12_flow 160 = .ok (.isub, 1) := by decide +kernel
theorem dX12_flow_161 : decode cX12_flow 161 = .ok (.iload_n 3, 1) := by decide +kernel
theorem dX12_flow_162 : decode cX12_flow 162 = .ok (.idiv, 1) := by decide +kernel
theorem dX12_flow_163 : decode cX12_flow 163 = .ok (.iload_n 3, 1) := by decide +kernel
theorem dX12_flow_164 : decode cX12_flow 164 = .ok (.imul, 1) := by decide +kernel
theorem dX12_flow_165 : decode cX12_flow 165 = .ok (.isub, 1) := by decide +kernel
theorem dX12_flow_166 : decode cX12_flow 166 = .ok (.putfield 300, 3) := by decide +kernel
theorem dX12_flow_169 : decode cX12_flow 169 = .ok (.return_, 1) := by decide +kernel
theorem dX12_flowPart_0 : decode cX12_flowPart 0 = .ok (.aload_n 0, 1) := by decide +kernel
theorem dX12_flowPart_1 : decode cX12_flowPart 1 = .ok (.iload_n 2, 1) := by decide +kernel
theorem dX12_flowPart_2 : decode cX12_flowPart 2 = .ok (.putfield 303, 3) := by decide +kernel
theorem dX12_flowPart_5 : decode cX12_flowPart 5 = .ok (.aload_n 0, 1) := by decide +kernel
theorem dX12_flowPart_6 : decode cX12_flowPart 6 = .ok (.iconst 0, 1) := by decide +kernel
theorem dX12_flowPart_7 : decode cX12_flowPart 7 = .ok (.putfield 300, 3) := by decide +kernel
theorem dX12_flowPart_10 : decode cX12_flowPart 10 = .ok (.iconst 0, 1) := by decide +kernel
theorem dX12_flowPart_11 : decode cX12_flowPart 11 = .ok (.istore_n 3, 1) := by decide +kernel
theorem dX12_flowPart_12 : decode cX12_flowPart 12 = .ok (.iconst 0, 1) := by decide +kernel
theorem dX12_flowPart_13 : decode cX12_flowPart 13 = .ok (.istore 4, 2) := by decide +kernel
theorem dX12_flowPart_15 : decode cX12_flowPart 15 = .ok (.iload 4, 2) := by decide +kernel
theorem dX12_flowPart_17 : decode cX12_flowPart 17 = .ok (.aload_n 0, 1) := by decide +kernel
theorem dX12_flowPart_18 : decode cX12_flowPart 18 = .ok (.getfield 24, 3) := by decide +kernel
theorem dX12_flowPart_21 : decode cX12_flowPart 21 = .ok (.bipush 9, 2) := by decide +kernel
theorem dX12_flowPart_23 : decode cX12_flowPart 23 = .ok (.iaload, 1) := by decide +kernel
theorem dX12_flowPart_24 : decode cX12_flowPart 24 = .ok (.if_icmp .ge 31, 3) := by decide +kernel
theorem dX12_flowPart_27 : decode cX12_flowPart 27 = .ok (.aload_n 0, 1) := by decide +kernel
theorem dX12_flowPart_28 : decode cX12_flowPart 28 = .ok (.iload 4, 2) := by decide +kernel
theorem dX12_flowPart_30 : decode cX12_flowPart 30 = .ok (.iconst 2, 1) := by decide +kernel
theorem dX12_flowPart_31 : decode cX12_flowPart 31 = .ok (.invokevirtual 107, 3) := by decide +kernel
theorem dX12_flowPart_34 : decode cX12_flowPart 34 = .ok (.iload_n 1, 1) := by decide +kernel
theorem dX12_flowPart_35 : decode cX12_flowPart 35 = .ok (.if_icmp .eq 6, 3) := by decide +kernel
theorem dX12_flowPart_38 : decode cX12_flowPart 38 = .ok (.goto 11, 3) := by decide +kernel
theorem dX12_flowPart_41 : decode cX12_flowPart 41 = .ok (.aload_n 0, 1) := by decide +kernel
theorem dX12_flowPart_42 : decode cX12_flowPart 42 = .ok (.iload 4, 2) := by decide +kernel
theorem dX12_flowPart_44 : decode cX12_flowPart 44 = .ok (.invokevirtual 306, 3) := by decide +kernel
theorem dX12_flowPart_47 : decode cX12_flowPart 47 = .ok (.iconst 1, 1) := by decide +kernel
theorem dX12_flowPart_48 : decode cX12_flowPart 48 = .ok (.istore_n 3, 1) := by decide +kernel
theorem dX12_flowPart_49 : decode cX12_flowPart 49 = .ok (.iinc 4 1, 3) := by decide +kernel
theorem dX12_flowPart_52 : decode cX12_flowPart 52 = .ok (.goto (-37), 3) := by decide +kernel
theorem dX12_flowPart_55 : decode cX12_flowPart 55 = .ok (.iload_n 3, 1) := by decide +kernel
theorem dX12_flowPart_56 : decode cX12_flowPart 56 = .ok (.ifCond .eq 12, 3) := by decide +kernel
theorem dX12_flowPart_59 : decode cX12_flowPart 59 = .ok (.aload_n 0, 1) := by decide +kernel
theorem dX12_flowPart_60 : decode cX12_flowPart 60 = .ok (.getfield 303, 3) := by decide +kernel
theorem dX12_flowPart_63 : decode cX12_flowPart 63 = .ok (.iconst 1, 1) := by decide +kernel
theorem dX12_flowPart_64 : decode cX12_flowPart 64 = .ok (.iadd, 1) := by decide +kernel
theorem dX12_flowPart_65 : decode cX12_flowPart 65 = .ok (.goto 4, 3) := by decide +kernel
theorem dX12_flowPart_68 : decode cX12_flowPart 68 = .ok (.iload_n 2, 1) := by decide +kernel
theorem dX12_flowPart_69 : decode cX12_flowPart 69 = .ok (.ireturn, 1) := by decide +kernel
theorem dX12_layPages_0 : decode cX12_layPages 0 = .ok (.aload_n 0, 1) := by decide +kernel
theorem dX12_layPages_1 : decode cX12_layPages 1 = .ok (.iconst 0, 1) := by decide +kernel
theorem dX12_layPages_2 : decode cX12_layPages 2 = .ok (.iload_n 1, 1) := by decide +kernel
theorem dX12_layPages_3 : decode cX12_layPages 3 = .ok (.iconst 1, 1) := by decide +kernel
theorem dX12_layPages_4 : decode cX12_layPages 4 = .ok (.iadd, 1) := by decide +kernel
theorem dX12_layPages_5 : decode cX12_layPages 5 = .ok (.invokevirtual 309, 3) := by decide +kernel
theorem dX12_layPages_8 : decode cX12_layPages 8 = .ok (.istore_n 2, 1) := by decide +kernel
theorem dX12_layPages_9 : decode cX12_layPages 9 = .ok (.aload_n 0, 1) := by decide +kernel
theorem dX12_layPages_10 : decode cX12_layPages 10 = .ok (.iload_n 2, 1) := by decide +kernel
theorem dX12_layPages_11 : decode cX12_layPages 11 = .ok (.iconst 1, 1) := by decide +kernel
theorem dX12_layPages_12 : decode cX12_layPages 12 = .ok (.isub, 1) := by decide +kernel
theorem dX12_layPages_13 : decode cX12_layPages 13 = .ok (.putfield 312, 3) := by decide +kernel
theorem dX12_layPages_16 : decode cX12_layPages 16 = .ok (.aload_n 0, 1) := by decide +kernel
theorem dX12_layPages_17 : decode cX12_layPages 17 = .ok (.iconst 0, 1) := by decide +kernel
theorem dX12_layPages_18 : decode cX12_layPages 18 = .ok (.putfield 315, 3) := by decide +kernel
theorem dX12_layPages_21 : decode cX12_layPages 21 = .ok (.aload_n 0, 1) := by decide +kernel
theorem dX12_layPages_22 : decode cX12_layPages 22 = .ok (.iconst 1, 1) := by decide +kernel
theorem dX12_layPages_23 : decode cX12_layPages 23 = .ok (.iconst 1, 1) := by decide +kernel
theorem dX12_layPages_24 : decode cX12_layPages 24 = .ok (.invokevirtual 309, 3) := by decide +kernel
theorem dX12_layPages_27 : decode cX12_layPages 27 = .ok (.iconst 1, 1) := by decide +kernel
theorem dX12_layPages_28 : decode cX12_layPages 28 = .ok (.isub, 1) := by decide +kernel
theorem dX12_layPages_29 : decode cX12_layPages 29 = .ok (.istore_n 3, 1) := by decide +kernel
theorem dX12_layPages_30 : decode cX12_layPages 30 = .ok (.iload_n 3, 1) := by decide +kernel
theorem dX12_layPages_31 : decode cX12_layPages 31 = .ok (.ifCond .ne 4, 3) := by decide +kernel
theorem dX12_layPages_34 : decode cX12_layPages 34 = .ok (.return_, 1) := by decide +kernel
theorem dX12_layPages_35 : decode cX12_layPages 35 = .ok (.aload_n 0, 1) := by decide +kernel
theorem dX12_layPages_36 : decode cX12_layPages 36 = .ok (.aload_n 0, 1) := by decide +kernel
theorem dX12_layPages_37 : decode cX12_layPages 37 = .ok (.getfield 24, 3) := by decide +kernel
theorem dX12_layPages_40 : decode cX12_layPages 40 = .ok (.bipush 8, 2) := by decide +kernel
theorem dX12_layPages_42 : decode cX12_layPages 42 = .ok (.iaload, 1) := by decide +kernel
theorem dX12_layPages_43 : decode cX12_layPages 43 = .ok (.iconst 1, 1) := by decide +kernel
theorem dX12_layPages_44 : decode cX12_layPages 44 = .ok (.if_icmp .ne 15, 3) := by decide +kernel
theorem dX12_layPages_47 : decode cX12_layPages 47 = .ok (.iload_n 2, 1) := by decide +kernel
theorem dX12_layPages_48 : decode cX12_layPages 48 = .ok (.iconst 2, 1) := by decide +kernel
theorem dX12_layPages_49 : decode cX12_layPages 49 = .ok (.irem, 1) := by decide +kernel
theorem dX12_layPages_50 : decode cX12_layPages 50 = .ok (.ifCond .ne 9, 3) := by decide +kernel
theorem dX12_layPages_53 : decode cX12_layPages 53 = .ok (.iload_n 2, 1) := by decide +kernel
theorem dX12_layPages_54 : decode cX12_layPages 54 = .ok (.iconst 1, 1) := by decide +kernel
theorem dX12_layPages_55 : decode cX12_layPages 55 = .ok (.iadd, 1) := by decide +kernel
theorem dX12_layPages_56 : decode cX12_layPages 56 = .ok (.goto 4, 3) := by decide +kernel
theorem dX12_layPages_59 : decode cX12_layPages 59 = .ok (.iload_n 2, 1) := by decide +kernel
theorem dX12_layPages_60 : decode cX12_layPages 60 = .ok (.putfield 315, 3) := by decide +kernel
theorem dX12_layPages_63 : decode cX12_layPages 63 = .ok (.aload_n 0, 1) := by decide +kernel
theorem dX12_layPages_64 : decode cX12_layPages 64 = .ok (.aload_n 0, 1) := by decide +kernel
theorem dX12_layPages_65 : decode cX12_layPages 65 = .ok (.getfield 315, 3) := by decide +kernel
theorem dX12_layPages_68 : decode cX12_layPages 68 = .ok (.iload_n 3, 1) := by decide +kernel
theorem dX12_layPages_69 : decode cX12_layPages 69 = .ok (.iadd, 1) := by decide +kernel
theorem dX12_layPages_70 : decode cX12_layPages 70 = .ok (.iconst 1, 1) := by decide +kernel
theorem dX12_layPages_71 : decode cX12_layPages 71 = .ok (.isub, 1) := by decide +kernel
theorem dX12_layPages_72 : decode cX12_layPages 72 = .ok (.putfield 312, 3) := by decide +kernel
theorem dX12_layPages_75 : decode cX12_layPages 75 = .ok (.return_, 1) := by decide +kernel
theorem dX12_bookPageOf_0 : decode cX12_bookPageOf 0 = .ok (.aload_n 0, 1) := by decide +kernel
theorem dX12_bookPageOf_1 : decode cX12_bookPageOf 1 = .ok (.iload_n 1, 1) := by decide +kernel
theorem dX12_bookPageOf_2 : decode cX12_bookPageOf 2 = .ok (.iconst 2, 1) := by decide +kernel
theorem dX12_bookPageOf_3 : decode cX12_bookPageOf 3 = .ok (.invokevirtual 107, 3) := by decide +kernel
theorem dX12_bookPageOf_6 : decode cX12_bookPageOf 6 = .ok (.ifCond .ne 12, 3) := by decide +kernel
theorem dX12_bookPageOf_9 : decode cX12_bookPageOf 9 = .ok (.aload_n 0, 1) := by decide +kernel
theorem dX12_bookPageOf_10 : decode cX12_bookPageOf 10 = .ok (.getfield 46, 3) := by decide +kernel
theorem dX12_bookPageOf_13 : decode cX12_bookPageOf 13 = .ok (.iload_n 1, 1) := by decide +kernel
theorem dX12_bookPageOf_14 : decode cX12_bookPageOf 14 = .ok (.iaload, 1) := by decide +kernel
theorem dX12_bookPageOf_15 : decode cX12_bookPageOf 15 = .ok (.goto 16, 3) := by decide +kernel
theorem dX12_bookPageOf_18 : decode cX12_bookPageOf 18 = .ok (.aload_n 0, 1) := by decide +kernel
theorem dX12_bookPageOf_19 : decode cX12_bookPageOf 19 = .ok (.getfield 315, 3) := by decide +kernel
theorem dX12_bookPageOf_22 : decode cX12_bookPageOf 22 = .ok (.aload_n 0, 1) := by decide +kernel
theorem dX12_bookPageOf_23 : decode cX12_bookPageOf 23 = .ok (.getfield 46, 3) := by decide +kernel
theorem dX12_bookPageOf_26 : decode cX12_bookPageOf 26 = .ok (.iload_n 1, 1) := by decide +kernel
theorem dX12_bookPageOf_27 : decode cX12_bookPageOf 27 = .ok (.iaload, 1) := by decide +kernel
theorem dX12_bookPageOf_28 : decode cX12_bookPageOf 28 = .ok (.iadd, 1) := by decide +kernel
theorem dX12_bookPageOf_29 : decode cX12_bookPageOf 29 = .ok (.iconst 1, 1) := by decide +kernel
theorem dX12_bookPageOf_30 : decode cX12_bookPageOf 30 = .ok (.isub, 1) := by decide +kernel
theorem dX12_bookPageOf_31 : decode cX12_bookPageOf 31 = .ok (.ireturn, 1) := by decide +kernel
theorem dX12_putPrinted_0 : decode cX12_putPrinted 0 = .ok (.aload_n 0, 1) := by decide +kernel
theorem dX12_putPrinted_1 : decode cX12_putPrinted 1 = .ok (.iload_n 1, 1) := by decide +kernel
theorem dX12_putPrinted_2 : decode cX12_putPrinted 2 = .ok (.iconst 2, 1) := by decide +kernel
theorem dX12_putPrinted_3 : decode cX12_putPrinted 3 = .ok (.invokevirtual 107, 3) := by decide +kernel
theorem dX12_putPrinted_6 : decode cX12_putPrinted 6 = .ok (.ifCond .ne 16, 3) := by decide +kernel
theorem dX12_putPrinted_9 : decode cX12_putPrinted 9 = .ok (.aload_n 0, 1) := by decide +kernel
theorem dX12_putPrinted_10 : decode cX12_putPrinted 10 = .ok (.aload_n 0, 1) := by decide +kernel
theorem dX12_putPrinted_11 : decode cX12_putPrinted 11 = .ok (.getfield 46, 3) := by decide +kernel
theorem dX12_putPrinted_14 : decode cX12_putPrinted 14 = .ok (.iload_n 1, 1) := by decide +kernel
theorem dX12_putPrinted_15 : decode cX12_putPrinted 15 = .ok (.iaload, 1) := by decide +kernel
theorem dX12_putPrinted_16 : decode cX12_putPrinted 16 = .ok (.invokevirtual 318, 3) := by decide +kernel
theorem dX12_putPrinted_19 : decode cX12_putPrinted 19 = .ok (.goto 13, 3) := by decide +kernel
theorem dX12_putPrinted_22 : decode cX12_putPrinted 22 = .ok (.aload_n 0, 1) := by decide +kernel
theorem dX12_putPrinted_23 : decode cX12_putPrinted 23 = .ok (.aload_n 0, 1) := by decide +kernel
theorem dX12_putPrinted_24 : decode cX12_putPrinted 24 = .ok (.getfield 46, 3) := by decide +kernel
theorem dX12_putPrinted_27 : decode cX12_putPrinted 27 = .ok (.iload_n 1, 1) := by decide +kernel
theorem dX12_putPrinted_28 : decode cX12_putPrinted 28 = .ok (.iaload, 1) := by decide +kernel
theorem dX12_putPrinted_29 : decode cX12_putPrinted 29 = .ok (.invokevirtual 284, 3) := by decide +kernel
theorem dX12_putPrinted_32 : decode cX12_putPrinted 32 = .ok (.return_, 1) := by decide +kernel
theorem dX12_printedWidth_0 : decode cX12_printedWidth 0 = .ok (.aload_n 0, 1) := by decide +kernel
theorem dX12_printedWidth_1 : decode cX12_printedWidth 1 = .ok (.iconst 0, 1) := by decide +kernel
theorem dX12_printedWidth_2 : decode cX12_printedWidth 2 = .ok (.putfield 264, 3) := by decide +kernel
theorem dX12_printedWidth_5 : decode cX12_printedWidth 5 = .ok (.aload_n 0, 1) := by decide +kernel
theorem dX12_printedWidth_6 : decode cX12_printedWidth 6 = .ok (.iload_n 1, 1) := by decide +kernel
theorem dX12_printedWidth_7 : decode cX12_printedWidth 7 = .ok (.invokevirtual 321, 3) := by decide +kernel
theorem dX12_printedWidth_10 : decode cX12_printedWidth 10 = .ok (.aload_n 0, 1) := by decide +kernel
theorem dX12_printedWidth_11 : decode cX12_printedWidth 11 = .ok (.iconst 0, 1) := by decide +kernel
theorem dX12_printedWidth_12 : decode cX12_printedWidth 12 = .ok (.invokevirtual 297, 3) := by decide +kernel
theorem dX12_printedWidth_15 : decode cX12_printedWidth 15 = .ok (.ireturn, 1) := by decide +kernel
theorem dX12_beginLine_0 : decode cX12_beginLine 0 = .ok (.aload_n 0, 1) := by decide +kernel
theorem dX12_beginLine_1 : decode cX12_beginLine 1 = .ok (.getfield 52, 3) := by decide +kernel
theorem dX12_beginLine_4 : decode cX12_beginLine 4 = .ok (.aload_n 0, 1) := by decide +kernel
theorem dX12_beginLine_5 : decode cX12_beginLine 5 = .ok (.getfield 324, 3) := by decide +kernel
theorem dX12_beginLine_8 : decode cX12_beginLine 8 = .ok (.iload_n 1, 1) := by decide +kernel
theorem dX12_beginLine_9 : decode cX12_beginLine 9 = .ok (.iastore, 1) := by decide +kernel
theorem dX12_beginLine_10 : decode cX12_beginLine 10 = .ok (.aload_n 0, 1) := by decide +kernel
theorem dX12_beginLine_11 : decode cX12_beginLine 11 = .ok (.getfield 55, 3) := by decide +kernel
theorem dX12_beginLine_14 : decode cX12_beginLine 14 = .ok (.aload_n 0, 1) := by decide +kernel
theorem dX12_beginLine_15 : decode cX12_beginLine 15 = .ok (.getfield 324, 3) := by decide +kernel
theorem dX12_beginLine_18 : decode cX12_beginLine 18 = .ok (.iload_n 3, 1) := by decide +kernel
theorem dX12_beginLine_19 : decode cX12_beginLine 19 = .ok (.iastore, 1) := by decide +kernel
theorem dX12_beginLine_20 : decode cX12_beginLine 20 = .ok (.aload_n 0, 1) := by decide +kernel
theorem dX12_beginLine_21 : decode cX12_beginLine 21 = .ok (.getfield 58, 3) := by decide +kernel
theorem dX12_beginLine_24 : decode cX12_beginLine 24 = .ok (.aload_n 0, 1) := by decide +kernel
theorem dX12_beginLine_25 : decode cX12_beginLine 25 = .ok (.getfield 324, 3) := by decide +kernel
theorem dX12_beginLine_28 : decode cX12_beginLine 28 = .ok (.iload_n 2, 1) := by decide +kernel
theorem dX12_beginLine_29 : decode cX12_beginLine 29 = .ok (.iastore, 1) := by decide +kernel
theorem dX12_beginLine_30 : decode cX12_beginLine 30 = .ok (.aload_n 0, 1) := by decide +kernel
theorem dX12_beginLine_31 : decode cX12_beginLine 31 = .ok (.getfield 61, 3) := by decide +kernel
theorem dX12_beginLine_34 : decode cX12_beginLine 34 = .ok (.aload_n 0, 1) := by decide +kernel
theorem dX12_beginLine_35 : decode cX12_beginLine 35 = .ok (.getfield 324, 3) := by decide +kernel
theorem dX12_beginLine_38 : decode cX12_beginLine 38 = .ok (.iconst 1, 1) := by decide +kernel
theorem dX12_beginLine_39 : decode cX12_beginLine 39 = .ok (.iastore, 1) := by decide +kernel
theorem dX12_beginLine_40 : decode cX12_beginLine 40 = .ok (.aload_n 0, 1) := by decide +kernel
theorem dX12_beginLine_41 : decode cX12_beginLine 41 = .ok (.getfield 64, 3) := by decide +kernel
theorem dX12_beginLine_44 : decode cX12_beginLine 44 = .ok (.aload_n 0, 1) := by decide +kernel
theorem dX12_beginLine_45 : decode cX12_beginLine 45 = .ok (.getfield 324, 3) := by decide +kernel
theorem dX12_beginLine_48 : decode cX12_beginLine 48 = .ok (.iload_n 3, 1) := by decide +kernel
theorem dX12_beginLine_49 : decode cX12_beginLine 49 = .ok (.iload 4, 2) := by decide +kernel
theorem dX12_beginLine_51 : decode cX12_beginLine 51 = .ok (.iadd, 1) := by decide +kernel
theorem dX12_beginLine_52 : decode cX12_beginLine 52 = .ok (.iastore, 1) := by decide +kernel
theorem dX12_beginLine_53 : decode cX12_beginLine 53 = .ok (.aload_n 0, 1) := by decide +kernel
theorem dX12_beginLine_54 : decode cX12_beginLine 54 = .ok (.getfield 67, 3) := by decide +kernel
theorem dX12_beginLine_57 : decode cX12_beginLine 57 = .ok (.aload_n 0, 1) := by decide +kernel
theorem dX12_beginLine_58 : decode cX12_beginLine 58 = .ok (.getfield 324, 3) := by decide +kernel
theorem dX12_beginLine_61 : decode cX12_beginLine 61 = .ok (.iconst 0, 1) := by decide +kernel
theorem dX12_beginLine_62 : decode cX12_beginLine 62 = .ok (.bastore, 1) := by decide +kernel
theorem dX12_beginLine_63 : decode cX12_beginLine 63 = .ok (.aload_n 0, 1) := by decide +kernel
theorem dX12_beginLine_64 : decode cX12_beginLine 64 = .ok (.getfield 71, 3) := by decide +kernel
theorem dX12_beginLine_67 : decode cX12_beginLine 67 = .ok (.aload_n 0, 1) := by decide +kernel
theorem dX12_beginLine_68 : decode cX12_beginLine 68 = .ok (.getfield 324, 3) := by decide +kernel
theorem dX12_beginLine_71 : decode cX12_beginLine 71 = .ok (.iconst 0, 1) := by decide +kernel
theorem dX12_beginLine_72 : decode cX12_beginLine 72 = .ok (.iastore, 1) := by decide +kernel
theorem dX12_beginLine_73 : decode cX12_beginLine 73 = .ok (.aload_n 0, 1) := by decide +kernel
theorem dX12_beginLine_74 : decode cX12_beginLine 74 = .ok (.getfield 74, 3) := by decide +kernel
theorem dX12_beginLine_77 : decode cX12_beginLine 77 = .ok (.aload_n 0, 1) := by decide +kernel
theorem dX12_beginLine_78 : decode cX12_beginLine 78 = .ok (.getfield 324, 3) := by decide +kernel
theorem dX12_beginLine_81 : decode cX12_beginLine 81 = .ok (.iconst (-1), 1) := by decide +kernel
theorem dX12_beginLine_82 : decode cX12_beginLine 82 = .ok (.iastore, 1) := by decide +kernel
theorem dX12_beginLine_83 : decode cX12_beginLine 83 = .ok (.aload_n 0, 1) := by decide +kernel
theorem dX12_beginLine_84 : decode cX12_beginLine 84 = .ok (.dup, 1) := by decide +kernel
theorem dX12_beginLine_85 : decode cX12_beginLine 85 = .ok (.getfield 324, 3) := by decide +kernel
theorem dX12_beginLine_88 : decode cX12_beginLine 88 = .ok (.iconst 1, 1) := by decide +kernel
theorem dX12_beginLine_89 : decode cX12_beginLine 89 = .ok (.iadd, 1) := by decide +kernel
theorem dX12_beginLine_90 : decode cX12_beginLine 90 = .ok (.putfield 324, 3) := by decide +kernel
theorem dX12_beginLine_93 : decode cX12_beginLine 93 = .ok (.return_, 1) := by decide +kernel
theorem dX12_layDots_0 : decode cX12_layDots 0 = .ok (.aload_n 0, 1) := by decide +kernel
theorem dX12_layDots_1 : decode cX12_layDots 1 = .ok (.getfield 52, 3) := by decide +kernel
theorem dX12_layDots_4 : decode cX12_layDots 4 = .ok (.iload_n 1, 1) := by decide +kernel
theorem dX12_layDots_5 : decode cX12_layDots 5 = .ok (.iaload, 1) := by decide +kernel
theorem dX12_layDots_6 : decode cX12_layDots 6 = .ok (.istore_n 2, 1) := by decide +kernel
theorem dX12_layDots_7 : decode cX12_layDots 7 = .ok (.aload_n 0, 1) := by decide +kernel
theorem dX12_layDots_8 : decode cX12_layDots 8 = .ok (.getfield 24, 3) := by decide +kernel
theorem dX12_layDots_11 : decode cX12_layDots 11 = .ok (.bipush 7, 2) := by decide +kernel
theorem dX12_layDots_13 : decode cX12_layDots 13 = .ok (.iaload, 1) := by decide +kernel
theorem dX12_layDots_14 : decode cX12_layDots 14 = .ok (.istore_n 3, 1) := by decide +kernel
theorem dX12_layDots_15 : decode cX12_layDots 15 = .ok (.aload_n 0, 1) := by decide +kernel
theorem dX12_layDots_16 : decode cX12_layDots 16 = .ok (.getfield 24, 3) := by decide +kernel
theorem dX12_layDots_19 : decode cX12_layDots 19 = .ok (.iconst 0, 1) := by decide +kernel
theorem dX12_layDots_20 : decode cX12_layDots 20 = .ok (.iaload, 1) := by decide +kernel
theorem dX12_layDots_21 : decode cX12_layDots 21 = .ok (.aload_n 0, 1) := by decide +kernel
theorem dX12_layDots_22 : decode cX12_layDots 22 = .ok (.iload_n 2, 1) := by decide +kernel
theorem dX12_layDots_23 : decode cX12_layDots 23 = .ok (.invokevirtual 327, 3) := by decide +kernel
theorem dX12_layDots_26 : decode cX12_layDots 26 = .ok (.isub, 1) := by decide +kernel
theorem dX12_layDots_27 : decode cX12_layDots 27 = .ok (.aload_n 0, 1) := by decide +kernel
theorem dX12_layDots_28 : decode cX12_layDots 28 = .ok (.getfield 24, 3) := by decide +kernel
theorem dX12_layDots_31 : decode cX12_layDots 31 = .ok (.iconst 5, 1) := by decide +kernel
theorem dX12_layDots_32 : decode cX12_layDots 32 = .ok (.iaload, 1) := by decide +kernel
theorem dX12_layDots_33 : decode cX12_layDots 33 = .ok (.isub, 1) := by decide +kernel
theorem dX12_layDots_34 : decode cX12_layDots 34 = .ok (.istore 4, 2) := by decide +kernel
theorem dX12_layDots_36 : decode cX12_layDots 36 = .ok (.aload_n 0, 1) := by decide +kernel
theorem dX12_layDots_37 : decode cX12_layDots 37 = .ok (.getfield 64, 3) := by decide +kernel
theorem dX12_layDots_40 : decode cX12_layDots 40 = .ok (.iload_n 1, 1) := by decide +kernel
theorem dX12_layDots_41 : decode cX12_layDots 41 = .ok (.iaload, 1) := by decide +kernel
theorem dX12_layDots_42 : decode cX12_layDots 42 = .ok (.aload_n 0, 1) := by decide +kernel
theorem dX12_layDots_43 : decode cX12_layDots 43 = .ok (.getfield 24, 3) := by decide +kernel
theorem dX12_layDots_46 : decode cX12_layDots 46 = .ok (.iconst 5, 1) := by decide +kernel
theorem dX12_layDots_47 : decode cX12_layDots 47 = .ok (.iaload, 1) := by decide +kernel
theorem dX12_layDots_48 : decode cX12_layDots 48 = .ok (.iadd, 1) := by decide +kernel
theorem dX12_layDots_49 : decode cX12_layDots 49 = .ok (.iload_n 3, 1) := by decide +kernel
theorem dX12_layDots_50 : decode cX12_layDots 50 = .ok (.iadd, 1) := by decide +kernel
theorem dX12_layDots_51 : decode cX12_layDots 51 = .ok (.iconst 1, 1) := by decide +kernel
theorem dX12_layDots_52 : decode cX12_layDots 52 = .ok (.isub, 1) := by decide +kernel
theorem dX12_layDots_53 : decode cX12_layDots 53 = .ok (.iload_n 3, 1) := by decide +kernel
theorem dX12_layDots_54 : decode cX12_layDots 54 = .ok (.idiv, 1) := by decide +kernel
theorem dX12_layDots_55 : decode cX12_layDots 55 = .ok (.iload_n 3, 1) := by decide +kernel
theorem dX12_layDots_56 : decode cX12_layDots 56 = .ok (.imul, 1) := by decide +kernel
theorem dX12_layDots_57 : decode cX12_layDots 57 = .ok (.istore 5, 2) := by decide +kernel
theorem dX12_layDots_59 : decode cX12_layDots 59 = .ok (.aload_n 0, 1) := by decide +kernel
theorem dX12_layDots_60 : decode cX12_layDots 60 = .ok (.getfield 71, 3) := by decide +kernel
theorem dX12_layDots_63 : decode cX12_layDots 63 = .ok (.iload_n 1, 1) := by decide +kernel
theorem dX12_layDots_64 : decode cX12_layDots 64 = .ok (.iconst 0, 1) := by decide +kernel
theorem dX12_layDots_65 : decode cX12_layDots 65 = .ok (.iastore, 1) := by decide +kernel
theorem dX12_layDots_66 : decode cX12_layDots 66 = .ok (.aload_n 0, 1) := by decide +kernel
theorem dX12_layDots_67 : decode cX12_layDots 67 = .ok (.getfield 74, 3) := by decide +kernel
theorem dX12_layDots_70 : decode cX12_layDots 70 = .ok (.iload_n 1, 1) := by decide +kernel
theorem dX12_layDots_71 : decode cX12_layDots 71 = .ok (.iload 5, 2) := by decide +kernel
theorem dX12_layDots_73 : decode cX12_layDots 73 = .ok (.iconst 1, 1) := by decide +kernel
theorem dX12_layDots_74 : decode cX12_layDots 74 = .ok (.iadd, 1) := by decide +kernel
theorem dX12_layDots_75 : decode cX12_layDots 75 = .ok (.iload 4, 2) := by decide +kernel
theorem dX12_layDots_77 : decode cX12_layDots 77 = .ok (.if_icmp .gt 8, 3) := by decide +kernel
theorem dX12_layDots_80 : decode cX12_layDots 80 = .ok (.iload 5, 2) := by decide +kernel
theorem dX12_layDots_82 : decode cX12_layDots 82 = .ok (.goto 4, 3) := by decide +kernel
theorem dX12_layDots_85 : decode cX12_layDots 85 = .ok (.iconst (-1), 1) := by decide +kernel
theorem dX12_layDots_86 : decode cX12_layDots 86 = .ok (.iastore, 1) := by decide +kernel
theorem dX12_layDots_87 : decode cX12_layDots 87 = .ok (.iload 5, 2) := by decide +kernel
theorem dX12_layDots_89 : decode cX12_layDots 89 = .ok (.iconst 1, 1) := by decide +kernel
theorem dX12_layDots_90 : decode cX12_layDots 90 = .ok (.iadd, 1) := by decide +kernel
theorem dX12_layDots_91 : decode cX12_layDots 91 = .ok (.iload 4, 2) := by decide +kernel
theorem dX12_layDots_93 : decode cX12_layDots 93 = .ok (.if_icmp .gt 22, 3) := by decide +kernel
theorem dX12_layDots_96 : decode cX12_layDots 96 = .ok (.aload_n 0, 1) := by decide +kernel
theorem dX12_layDots_97 : decode cX12_layDots 97 = .ok (.getfield 71, 3) := by decide +kernel
theorem dX12_layDots_100 : decode cX12_layDots 100 = .ok (.iload_n 1, 1) := by decide +kernel
theorem dX12_layDots_101 : decode cX12_layDots 101 = .ok (.dup2, 1) := by decide +kernel
theorem dX12_layDots_102 : decode cX12_layDots 102 = .ok (.iaload, 1) := by decide +kernel
theorem dX12_layDots_103 : decode cX12_layDots 103 = .ok (.iconst 1, 1) := by decide +kernel
theorem dX12_layDots_104 : decode cX12_layDots 104 = .ok (.iadd, 1) := by decide +kernel
theorem dX12_layDots_105 : decode cX12_layDots 105 = .ok (.iastore, 1) := by decide +kernel
theorem dX12_layDots_106 : decode cX12_layDots 106 = .ok (.iload 5, 2) := by decide +kernel
theorem dX12_layDots_108 : decode cX12_layDots 108 = .ok (.iload_n 3, 1) := by decide +kernel
theorem dX12_layDots_109 : decode cX12_layDots 109 = .ok (.iadd, 1) := by decide +kernel
theorem dX12_layDots_110 : decode cX12_layDots 110 = .ok (.istore 5, 2) := by decide +kernel
theorem dX12_layDots_112 : decode cX12_layDots 112 = .ok (.goto (-25), 3) := by decide +kernel
theorem dX12_layDots_115 : decode cX12_layDots 115 = .ok (.return_, 1) := by decide +kernel
theorem dX12_layEntry_0 : decode cX12_layEntry 0 = .ok (.aload_n 0, 1) := by decide +kernel
theorem dX12_layEntry_1 : decode cX12_layEntry 1 = .ok (.getfield 77, 3) := by decide +kernel
theorem dX12_layEntry_4 : decode cX12_layEntry 4 = .ok (.iload_n 1, 1) := by decide +kernel
theorem dX12_layEntry_5 : decode cX12_layEntry 5 = .ok (.aload_n 0, 1) := by decide +kernel
theorem dX12_layEntry_6 : decode cX12_layEntry 6 = .ok (.getfield 324, 3) := by decide +kernel
theorem dX12_layEntry_9 : decode cX12_layEntry 9 = .ok (.iastore, 1) := by decide +kernel
theorem dX12_layEntry_10 : decode cX12_layEntry 10 = .ok (.aload_n 0, 1) := by decide +kernel
theorem dX12_layEntry_11 : decode cX12_layEntry 11 = .ok (.getfield 24, 3) := by decide +kernel
theorem dX12_layEntry_14 : decode cX12_layEntry 14 = .ok (.iconst 3, 1) := by decide +kernel
theorem dX12_layEntry_15 : decode cX12_layEntry 15 = .ok (.iaload, 1) := by decide +kernel
theorem dX12_layEntry_16 : decode cX12_layEntry 16 = .ok (.aload_n 0, 1) := by decide +kernel
theorem dX12_layEntry_17 : decode cX12_layEntry 17 = .ok (.iload_n 1, 1) := by decide +kernel
theorem dX12_layEntry_18 : decode cX12_layEntry 18 = .ok (.iconst 0, 1) := by decide +kernel
theorem dX12_layEntry_19 : decode cX12_layEntry 19 = .ok (.invokevirtual 107, 3) := by decide +kernel
theorem dX12_layEntry_22 : decode cX12_layEntry 22 = .ok (.iconst 1, 1) := by decide +kernel
theorem dX12_layEntry_23 : decode cX12_layEntry 23 = .ok (.isub, 1) := by decide +kernel
theorem dX12_layEntry_24 : decode cX12_layEntry 24 = .ok (.imul, 1) := by decide +kernel
theorem dX12_layEntry_25 : decode cX12_layEntry 25 = .ok (.istore_n 2, 1) := by decide +kernel
theorem dX12_layEntry_26 : decode cX12_layEntry 26 = .ok (.aload_n 0, 1) := by decide +kernel
theorem dX12_layEntry_27 : decode cX12_layEntry 27 = .ok (.iload_n 1, 1) := by decide +kernel
theorem dX12_layEntry_28 : decode cX12_layEntry 28 = .ok (.iconst 0, 1) := by decide +kernel
theorem dX12_layEntry_29 : decode cX12_layEntry 29 = .ok (.iload_n 2, 1) := by decide +kernel
theorem dX12_layEntry_30 : decode cX12_layEntry 30 = .ok (.aload_n 0, 1) := by decide +kernel
theorem dX12_layEntry_31 : decode cX12_layEntry 31 = .ok (.iload_n 1, 1) := by decide +kernel
theorem dX12_layEntry_32 : decode cX12_layEntry 32 = .ok (.iconst 0, 1) := by decide +kernel
theorem dX12_layEntry_33 : decode cX12_layEntry 33 = .ok (.invokevirtual 330, 3) := by decide +kernel
theorem dX12_layEntry_36 : decode cX12_layEntry 36 = .ok (.invokevirtual 333, 3) := by decide +kernel
theorem dX12_layEntry_39 : decode cX12_layEntry 39 = .ok (.iconst 1, 1) := by decide +kernel
theorem dX12_layEntry_40 : decode cX12_layEntry 40 = .ok (.istore_n 3, 1) := by decide +kernel
theorem dX12_layEntry_41 : decode cX12_layEntry 41 = .ok (.iload_n 3, 1) := by decide +kernel
theorem dX12_layEntry_42 : decode cX12_layEntry 42 = .ok (.aload_n 0, 1) := by decide +kernel
theorem dX12_layEntry_43 : decode cX12_layEntry 43 = .ok (.iload_n 1, 1) := by decide +kernel
theorem dX12_layEntry_44 : decode cX12_layEntry 44 = .ok (.iconst 3, 1) := by decide +kernel
theorem dX12_layEntry_45 : decode cX12_layEntry 45 = .ok (.invokevirtual 107, 3) := by decide +kernel
theorem dX12_layEntry_48 : decode cX12_layEntry 48 = .ok (.if_icmp .ge 88, 3) := by decide +kernel
theorem dX12_layEntry_51 : decode cX12_layEntry 51 = .ok (.aload_n 0, 1) := by decide +kernel
theorem dX12_layEntry_52 : decode cX12_layEntry 52 = .ok (.iload_n 1, 1) := by decide +kernel
theorem dX12_layEntry_53 : decode cX12_layEntry 53 = .ok (.iload_n 3, 1) := by decide +kernel
theorem dX12_layEntry_54 : decode cX12_layEntry 54 = .ok (.invokevirtual 330, 3) := by decide +kernel
theorem dX12_layEntry_57 : decode cX12_layEntry 57 = .ok (.istore 4, 2) := by decide +kernel
theorem dX12_layEntry_59 : decode cX12_layEntry 59 = .ok (.aload_n 0, 1) := by decide +kernel
theorem dX12_layEntry_60 : decode cX12_layEntry 60 = .ok (.getfield 324, 3) := by decide +kernel
theorem dX12_layEntry_63 : decode cX12_layEntry 63 = .ok (.iconst 1, 1) := by decide +kernel
theorem dX12_layEntry_64 : decode cX12_layEntry 64 = .ok (.isub, 1) := by decide +kernel
theorem dX12_layEntry_65 : decode cX12_layEntry 65 = .ok (.istore 5, 2) := by decide +kernel
theorem dX12_layEntry_67 : decode cX12_layEntry 67 = .ok (.aload_n 0, 1) := by decide +kernel
theorem dX12_layEntry_68 : decode cX12_layEntry 68 = .ok (.getfield 64, 3) := by decide +kernel
theorem dX12_layEntry_71 : decode cX12_layEntry 71 = .ok (.iload 5, 2) := by decide +kernel
theorem dX12_layEntry_73 : decode cX12_layEntry 73 = .ok (.iaload, 1) := by decide +kernel
theorem dX12_layEntry_74 : decode cX12_layEntry 74 = .ok (.iconst 1, 1) := by decide +kernel
theorem dX12_layEntry_75 : decode cX12_layEntry 75 = .ok (.iadd, 1) := by decide +kernel
theorem dX12_layEntry_76 : decode cX12_layEntry 76 = .ok (.iload 4, 2) := by decide +kernel
theorem dX12_layEntry_78 : decode cX12_layEntry 78 = .ok (.iadd, 1) := by decide +kernel
theorem dX12_layEntry_79 : decode cX12_layEntry 79 = .ok (.aload_n 0, 1) := by decide +kernel
theorem dX12_layEntry_80 : decode cX12_layEntry 80 = .ok (.getfield 336, 3) := by decide +kernel
theorem dX12_layEntry_83 : decode cX12_layEntry 83 = .ok (.if_icmp .gt 31, 3) := by decide +kernel
theorem dX12_layEntry_86 : decode cX12_layEntry 86 = .ok (.aload_n 0, 1) := by decide +kernel
theorem dX12_layEntry_87 : decode cX12_layEntry 87 = .ok (.getfield 61, 3) := by decide +kernel
theorem dX12_layEntry_90 : decode cX12_layEntry 90 = .ok (.iload 5, 2) := by decide +kernel
theorem dX12_layEntry_92 : decode cX12_layEntry 92 = .ok (.dup2, 1) := by decide +kernel
theorem dX12_layEntry_93 : decode cX12_layEntry 93 = .ok (.iaload, 1) := by decide +kernel
theorem dX12_layEntry_94 : decode cX12_layEntry 94 = .ok (.iconst 1, 1) := by decide +kernel
theorem dX12_layEntry_95 : decode cX12_layEntry 95 = .ok (.iadd, 1) := by decide +kernel
theorem dX12_layEntry_96 : decode cX12_layEntry 96 = .ok (.iastore, 1) := by decide +kernel
theorem dX12_layEntry_97 : decode cX12_layEntry 97 = .ok (.aload_n 0, 1) := by decide +kernel
theorem dX12_layEntry_98 : decode cX12_layEntry 98 = .ok (.getfield 64, 3) := by decide +kernel
theorem dX12_layEntry_101 : decode cX12_layEntry 101 = .ok (.iload 5, 2) := by decide +kernel
theorem dX12_layEntry_103 : decode cX12_layEntry 103 = .ok (.dup2, 1) := by decide +kernel
theorem dX12_layEntry_104 : decode cX12_layEntry 104 = .ok (.iaload, 1) := by decide +kernel
theorem dX12_layEntry_105 : decode cX12_layEntry 105 = .ok (.iconst 1, 1) := by decide +kernel
theorem dX12_layEntry_106 : decode cX12_layEntry 106 = .ok (.iload 4, 2) := by decide +kernel
theorem dX12_layEntry_108 : decode cX12_layEntry 108 = .ok (.iadd, 1) := by decide +kernel
theorem dX12_layEntry_109 : decode cX12_layEntry 109 = .ok (.iadd, 1) := by decide +kernel
theorem dX12_layEntry_110 : decode cX12_layEntry 110 = .ok (.iastore, 1) := by decide +kernel
theorem dX12_layEntry_111 : decode cX12_layEntry 111 = .ok (.goto 19, 3) := by decide +kernel
theorem dX12_layEntry_114 : decode cX12_layEntry 114 = .ok (.aload_n 0, 1) := by decide +kernel
theorem dX12_layEntry_115 : decode cX12_layEntry 115 = .ok (.iload_n 1, 1) := by decide +kernel
theorem dX12_layEntry_116 : decode cX12_layEntry 116 = .ok (.iload_n 3, 1) := by decide +kernel
theorem dX12_layEntry_117 : decode cX12_layEntry 117 = .ok (.iload_n 2, 1) := by decide +kernel
theorem dX12_layEntry_118 : decode cX12_layEntry 118 = .ok (.aload_n 0, 1) := by decide +kernel
theorem dX12_layEntry_119 : decode cX12_layEntry 119 = .ok (.getfield 24, 3) := by decide +kernel
theorem dX12_layEntry_122 : decode cX12_layEntry 122 = .ok (.iconst 4, 1) := by decide +kernel
theorem dX12_layEntry_123 : decode cX12_layEntry 123 = .ok (.iaload, 1) := by decide +kernel
theorem dX12_layEntry_124 : decode cX12_layEntry 124 = .ok (.iadd, 1) := by decide +kernel
theorem dX12_layEntry_125 : decode cX12_layEntry 125 = .ok (.iload 4, 2) := by decide +kernel
theorem dX12_layEntry_127 : decode cX12_layEntry 127 = .ok (.invokevirtual 333, 3) := by decide +kernel
theorem dX12_layEntry_130 : decode cX12_layEntry 130 = .ok (.iinc 3 1, 3) := by decide +kernel
theorem dX12_layEntry_133 : decode cX12_layEntry 133 = .ok (.goto (-92), 3) := by decide +kernel
theorem dX12_layEntry_136 : decode cX12_layEntry 136 = .ok (.aload_n 0, 1) := by decide +kernel
theorem dX12_layEntry_137 : decode cX12_layEntry 137 = .ok (.getfield 324, 3) := by decide +kernel
theorem dX12_layEntry_140 : decode cX12_layEntry 140 = .ok (.iconst 1, 1) := by decide +kernel
theorem dX12_layEntry_141 : decode cX12_layEntry 141 = .ok (.isub, 1) := by decide +kernel
theorem dX12_layEntry_142 : decode cX12_layEntry 142 = .ok (.istore_n 3, 1) := by decide +kernel
theorem dX12_layEntry_143 : decode cX12_layEntry 143 = .ok (.aload_n 0, 1) := by decide +kernel
theorem dX12_layEntry_144 : decode cX12_layEntry 144 = .ok (.iload_n 3, 1) := by decide +kernel
theorem dX12_layEntry_145 : decode cX12_layEntry 145 = .ok (.invokevirtual 339, 3) := by decide +kernel
theorem dX12_layEntry_148 : decode cX12_layEntry 148 = .ok (.aload_n 0, 1) := by decide +kernel
theorem dX12_layEntry_149 : decode cX12_layEntry 149 = .ok (.getfield 61, 3) := by decide +kernel
theorem dX12_layEntry_152 : decode cX12_layEntry 152 = .ok (.iload_n 3, 1) := by decide +kernel
theorem dX12_layEntry_153 : decode cX12_layEntry 153 = .ok (.iaload, 1) := by decide +kernel
theorem dX12_layEntry_154 : decode cX12_layEntry 154 = .ok (.iconst 1, 1) := by decide +kernel
theorem dX12_layEntry_155 : decode cX12_layEntry 155 = .ok (.if_icmp .le 102, 3) := by decide +kernel
theorem dX12_layEntry_158 : decode cX12_layEntry 158 = .ok (.aload_n 0, 1) := by decide +kernel
theorem dX12_layEntry_159 : decode cX12_layEntry 159 = .ok (.getfield 71, 3) := by decide +kernel
theorem dX12_layEntry_162 : decode cX12_layEntry 162 = .ok (.iload_n 3, 1) := by decide +kernel
theorem dX12_layEntry_163 : decode cX12_layEntry 163 = .ok (.iaload, 1) := by decide +kernel
theorem dX12_layEntry_164 : decode cX12_layEntry 164 = .ok (.aload_n 0, 1) := by decide +kernel
theorem dX12_layEntry_165 : decode cX12_layEntry 165 = .ok (.getfield 24, 3) := by decide +kernel
theorem dX12_layEntry_168 : decode cX12_layEntry 168 = .ok (.bipush 6, 2) := by decide +kernel
theorem dX12_layEntry_170 : decode cX12_layEntry 170 = .ok (.iaload, 1) := by decide +kernel
theorem dX12_layEntry_171 : decode cX12_layEntry 171 = .ok (.if_icmp .ge 86, 3) := by decide +kernel
theorem dX12_layEntry_174 : decode cX12_layEntry 174 = .ok (.aload_n 0, 1) := by decide +kernel
theorem dX12_layEntry_175 : decode cX12_layEntry 175 = .ok (.iload_n 1, 1) := by decide +kernel
theorem dX12_layEntry_176 : decode cX12_layEntry 176 = .ok (.iconst 3, 1) := by decide +kernel
theorem dX12_layEntry_177 : decode cX12_layEntry 177 = .ok (.invokevirtual 107, 3) := by decide +kernel
theorem dX12_layEntry_180 : decode cX12_layEntry 180 = .ok (.iconst 1, 1) := by decide +kernel
theorem dX12_layEntry_181 : decode cX12_layEntry 181 = .ok (.isub, 1) := by decide +kernel
theorem dX12_layEntry_182 : decode cX12_layEntry 182 = .ok (.istore 4, 2) := by decide +kernel
theorem dX12_layEntry_184 : decode cX12_layEntry 184 = .ok (.aload_n 0, 1) := by decide +kernel
theorem dX12_layEntry_185 : decode cX12_layEntry 185 = .ok (.iload_n 1, 1) := by decide +kernel
theorem dX12_layEntry_186 : decode cX12_layEntry 186 = .ok (.iload 4, 2) := by decide +kernel
theorem dX12_layEntry_188 : decode cX12_layEntry 188 = .ok (.invokevirtual 330, 3) := by decide +kernel
theorem dX12_layEntry_191 : decode cX12_layEntry 191 = .ok (.istore 5, 2) := by decide +kernel
theorem dX12_layEntry_193 : decode cX12_layEntry 193 = .ok (.aload_n 0, 1) := by decide +kernel
theorem dX12_layEntry_194 : decode cX12_layEntry 194 = .ok (.getfield 61, 3) := by decide +kernel
theorem dX12_layEntry_197 : decode cX12_layEntry 197 = .ok (.iload_n 3, 1) := by decide +kernel
theorem dX12_layEntry_198 : decode cX12_layEntry 198 = .ok (.dup2, 1) := by decide +kernel
theorem dX12_layEntry_199 : decode cX12_layEntry 199 = .ok (.iaload, 1) := by decide +kernel
theorem dX12_layEntry_200 : decode cX12_layEntry 200 = .ok (.iconst 1, 1) := by decide +kernel
theorem dX12_layEntry_201 : decode cX12_layEntry 201 = .ok (.isub, 1) := by decide +kernel
theorem dX12_layEntry_202 : decode cX12_layEntry 202 = .ok (.iastore, 1) := by decide +kernel
theorem dX12_layEntry_203 : decode cX12_layEntry 203 = .ok (.aload_n 0, 1) := by decide +kernel
theorem dX12_layEntry_204 : decode cX12_layEntry 204 = .ok (.getfield 64, 3) := by decide +kernel
theorem dX12_layEntry_207 : decode cX12_layEntry 207 = .ok (.iload_n 3, 1) := by decide +kernel
theorem dX12_layEntry_208 : decode cX12_layEntry 208 = .ok (.dup2, 1) := by decide +kernel
theorem dX12_layEntry_209 : decode cX12_layEntry 209 = .ok (.iaload, 1) := by decide +kernel
theorem dX12_layEntry_210 : decode cX12_layEntry 210 = .ok (.iconst 1, 1) := by decide +kernel
theorem dX12_layEntry_211 : decode cX12_layEntry 211 = .ok (.iload 5, 2) := by decide +kernel
theorem dX12_layEntry_213 : decode cX12_layEntry 213 = .ok (.iadd, 1) := by decide +kernel
theorem dX12_layEntry_214 : decode cX12_layEntry 214 = .ok (.isub, 1) := by decide +kernel
theorem dX12_layEntry_215 : decode cX12_layEntry 215 = .ok (.iastore, 1) := by decide +kernel
theorem dX12_layEntry_216 : decode cX12_layEntry 216 = .ok (.aload_n 0, 1) := by decide +kernel
theorem dX12_layEntry_217 : decode cX12_layEntry 217 = .ok (.getfield 71, 3) := by decide +kernel
theorem dX12_layEntry_220 : decode cX12_layEntry 220 = .ok (.iload_n 3, 1) := by decide +kernel
theorem dX12_layEntry_221 : decode cX12_layEntry 221 = .ok (.iconst 0, 1) := by decide +kernel
theorem dX12_layEntry_222 : decode cX12_layEntry 222 = .ok (.iastore, 1) := by decide +kernel
theorem dX12_layEntry_223 : decode cX12_layEntry 223 = .ok (.aload_n 0, 1) := by decide +kernel
theorem dX12_layEntry_224 : decode cX12_layEntry 224 = .ok (.getfield 74, 3) := by decide +kernel
theorem dX12_layEntry_227 : decode cX12_layEntry 227 = .ok (.iload_n 3, 1) := by decide +kernel
theorem dX12_layEntry_228 : decode cX12_layEntry 228 = .ok (.iconst (-1), 1) := by decide +kernel
theorem dX12_layEntry_229 : decode cX12_layEntry 229 = .ok (.iastore, 1) := by decide +kernel
theorem dX12_layEntry_230 : decode cX12_layEntry 230 = .ok (.aload_n 0, 1) := by decide +kernel
theorem dX12_layEntry_231 : decode cX12_layEntry 231 = .ok (.iload_n 1, 1) := by decide +kernel
theorem dX12_layEntry_232 : decode cX12_layEntry 232 = .ok (.iload 4, 2) := by decide +kernel
theorem dX12_layEntry_234 : decode cX12_layEntry 234 = .ok (.iload_n 2, 1) := by decide +kernel
theorem dX12_layEntry_235 : decode cX12_layEntry 235 = .ok (.aload_n 0, 1) := by decide +kernel
theorem dX12_layEntry_236 : decode cX12_layEntry 236 = .ok (.getfield 24, 3) := by decide +kernel
theorem dX12_layEntry_239 : decode cX12_layEntry 239 = .ok (.iconst 4, 1) := by decide +kernel
theorem dX12_layEntry_240 : decode cX12_layEntry 240 = .ok (.iaload, 1) := by decide +kernel
theorem dX12_layEntry_241 : decode cX12_layEntry 241 = .ok (.iadd, 1) := by decide +kernel
theorem dX12_layEntry_242 : decode cX12_layEntry 242 = .ok (.iload 5, 2) := by decide +kernel
theorem dX12_layEntry_244 : decode cX12_layEntry 244 = .ok (.invokevirtual 333, 3) := by decide +kernel
theorem dX12_layEntry_247 : decode cX12_layEntry 247 = .ok (.aload_n 0, 1) := by decide +kernel
theorem dX12_layEntry_248 : decode cX12_layEntry 248 = .ok (.aload_n 0, 1) := by decide +kernel
theorem dX12_layEntry_249 : decode cX12_layEntry 249 = .ok (.getfield 324, 3) := by decide +kernel
theorem dX12_layEntry_252 : decode cX12_layEntry 252 = .ok (.iconst 1, 1) := by decide +kernel
theorem dX12_layEntry_253 : decode cX12_layEntry 253 = .ok (.isub, 1) := by decide +kernel
theorem dX12_layEntry_254 : decode cX12_layEntry 254 = .ok (.invokevirtual 339, 3) := by decide +kernel
theorem dX12_layEntry_257 : decode cX12_layEntry 257 = .ok (.aload_n 0, 1) := by decide +kernel
theorem dX12_layEntry_258 : decode cX12_layEntry 258 = .ok (.getfield 67, 3) := by decide +kernel
theorem dX12_layEntry_261 : decode cX12_layEntry 261 = .ok (.aload_n 0, 1) := by decide +kernel
theorem dX12_layEntry_262 : decode cX12_layEntry 262 = .ok (.getfield 324, 3) := by decide +kernel
theorem dX12_layEntry_265 : decode cX12_layEntry 265 = .ok (.iconst 1, 1) := by decide +kernel
theorem dX12_layEntry_266 : decode cX12_layEntry 266 = .ok (.isub, 1) := by decide +kernel
theorem dX12_layEntry_267 : decode cX12_layEntry 267 = .ok (.iconst 1, 1) := by decide +kernel
theorem dX12_layEntry_268 : decode cX12_layEntry 268 = .ok (.bastore, 1) := by decide +kernel
theorem dX12_layEntry_269 : decode cX12_layEntry 269 = .ok (.return_, 1) := by decide +kernel
theorem dX12_layWith_0 : decode cX12_layWith 0 = .ok (.aload_n 0, 1) := by decide +kernel
theorem dX12_layWith_1 : decode cX12_layWith 1 = .ok (.iload_n 1, 1) := by decide +kernel
theorem dX12_layWith_2 : decode cX12_layWith 2 = .ok (.invokevirtual 342, 3) := by decide +kernel
theorem dX12_layWith_5 : decode cX12_layWith 5 = .ok (.aload_n 0, 1) := by decide +kernel
theorem dX12_layWith_6 : decode cX12_layWith 6 = .ok (.iconst 0, 1) := by decide +kernel
theorem dX12_layWith_7 : decode cX12_layWith 7 = .ok (.putfield 345, 3) := by decide +kernel
theorem dX12_layWith_10 : decode cX12_layWith 10 = .ok (.iconst 0, 1) := by decide +kernel
theorem dX12_layWith_11 : decode cX12_layWith 11 = .ok (.istore_n 2, 1) := by decide +kernel
theorem dX12_layWith_12 : decode cX12_layWith 12 = .ok (.iload_n 2, 1) := by decide +kernel
theorem dX12_layWith_13 : decode cX12_layWith 13 = .ok (.aload_n 0, 1) := by decide +kernel
theorem dX12_layWith_14 : decode cX12_layWith 14 = .ok (.getfield 24, 3) := by decide +kernel
theorem dX12_layWith_17 : decode cX12_layWith 17 = .ok (.bipush 9, 2) := by decide +kernel
theorem dX12_layWith_19 : decode cX12_layWith 19 = .ok (.iaload, 1) := by decide +kernel
theorem dX12_layWith_20 : decode cX12_layWith 20 = .ok (.if_icmp .ge 25, 3) := by decide +kernel
theorem dX12_layWith_23 : decode cX12_layWith 23 = .ok (.aload_n 0, 1) := by decide +kernel
theorem dX12_layWith_24 : decode cX12_layWith 24 = .ok (.aload_n 0, 1) := by decide +kernel
theorem dX12_layWith_25 : decode cX12_layWith 25 = .ok (.getfield 345, 3) := by decide +kernel
theorem dX12_layWith_28 : decode cX12_layWith 28 = .ok (.aload_n 0, 1) := by decide +kernel
theorem dX12_layWith_29 : decode cX12_layWith 29 = .ok (.iload_n 2, 1) := by decide +kernel
theorem dX12_layWith_30 : decode cX12_layWith 30 = .ok (.invokevirtual 327, 3) := by decide +kernel
theorem dX12_layWith_33 : decode cX12_layWith 33 = .ok (.invokestatic 348, 3) := by decide +kernel
theorem dX12_layWith_36 : decode cX12_layWith 36 = .ok (.putfield 345, 3) := by decide +kernel
theorem dX12_layWith_39 : decode cX12_layWith 39 = .ok (.iinc 2 1, 3) := by decide +kernel
theorem dX12_layWith_42 : decode cX12_layWith 42 = .ok (.goto (-30), 3) := by decide +kernel
theorem dX12_layWith_45 : decode cX12_layWith 45 = .ok (.aload_n 0, 1) := by decide +kernel
theorem dX12_layWith_46 : decode cX12_layWith 46 = .ok (.aload_n 0, 1) := by decide +kernel
theorem dX12_layWith_47 : decode cX12_layWith 47 = .ok (.getfield 24, 3) := by decide +kernel
theorem dX12_layWith_50 : decode cX12_layWith 50 = .ok (.iconst 0, 1) := by decide +kernel
theorem dX12_layWith_51 : decode cX12_layWith 51 = .ok (.iaload, 1) := by decide +kernel
theorem dX12_layWith_52 : decode cX12_layWith 52 = .ok (.aload_n 0, 1) := by decide +kernel
theorem dX12_layWith_53 : decode cX12_layWith 53 = .ok (.getfield 345, 3) := by decide +kernel
theorem dX12_layWith_56 : decode cX12_layWith 56 = .ok (.isub, 1) := by decide +kernel
theorem dX12_layWith_57 : decode cX12_layWith 57 = .ok (.aload_n 0, 1) := by decide +kernel
theorem dX12_layWith_58 : decode cX12_layWith 58 = .ok (.getfield 24, 3) := by decide +kernel
theorem dX12_layWith_61 : decode cX12_layWith 61 = .ok (.iconst 5, 1) := by decide +kernel
theorem dX12_layWith_62 : decode cX12_layWith 62 = .ok (.iaload, 1) := by decide +kernel
theorem dX12_layWith_63 : decode cX12_layWith 63 = .ok (.isub, 1) := by decide +kernel
theorem dX12_layWith_64 : decode cX12_layWith 64 = .ok (.putfield 336, 3) := by decide +kernel
theorem dX12_layWith_67 : decode cX12_layWith 67 = .ok (.aload_n 0, 1) := by decide +kernel
theorem dX12_layWith_68 : decode cX12_layWith 68 = .ok (.iconst 0, 1) := by decide +kernel
theorem dX12_layWith_69 : decode cX12_layWith 69 = .ok (.putfield 324, 3) := by decide +kernel
theorem dX12_layWith_72 : decode cX12_layWith 72 = .ok (.iconst 0, 1) := by decide +kernel
theorem dX12_layWith_73 : decode cX12_layWith 73 = .ok (.istore_n 2, 1) := by decide +kernel
theorem dX12_layWith_74 : decode cX12_layWith 74 = .ok (.iload_n 2, 1) := by decide +kernel
theorem dX12_layWith_75 : decode cX12_layWith 75 = .ok (.aload_n 0, 1) := by decide +kernel
theorem dX12_layWith_76 : decode cX12_layWith 76 = .ok (.getfield 24, 3) := by decide +kernel
theorem dX12_layWith_79 : decode cX12_layWith 79 = .ok (.bipush 9, 2) := by decide +kernel
theorem dX12_layWith_81 : decode cX12_layWith 81 = .ok (.iaload, 1) := by decide +kernel
theorem dX12_layWith_82 : decode cX12_layWith 82 = .ok (.if_icmp .ge 14, 3) := by decide +kernel
theorem dX12_layWith_85 : decode cX12_layWith 85 = .ok (.aload_n 0, 1) := by decide +kernel
theorem dX12_layWith_86 : decode cX12_layWith 86 = .ok (.iload_n 2, 1) := by decide +kernel
theorem dX12_layWith_87 : decode cX12_layWith 87 = .ok (.invokevirtual 351, 3) := by decide +kernel
theorem dX12_layWith_90 : decode cX12_layWith 90 = .ok (.iinc 2 1, 3) := by decide +kernel
theorem dX12_layWith_93 : decode cX12_layWith 93 = .ok (.goto (-19), 3) := by decide +kernel
theorem dX12_layWith_96 : decode cX12_layWith 96 = .ok (.aload_n 0, 1) := by decide +kernel
theorem dX12_layWith_97 : decode cX12_layWith 97 = .ok (.getfield 324, 3) := by decide +kernel
theorem dX12_layWith_100 : decode cX12_layWith 100 = .ok (.aload_n 0, 1) := by decide +kernel
theorem dX12_layWith_101 : decode cX12_layWith 101 = .ok (.getfield 24, 3) := by decide +kernel
theorem dX12_layWith_104 : decode cX12_layWith 104 = .ok (.iconst 1, 1) := by decide +kernel
theorem dX12_layWith_105 : decode cX12_layWith 105 = .ok (.iaload, 1) := by decide +kernel
theorem dX12_layWith_106 : decode cX12_layWith 106 = .ok (.iadd, 1) := by decide +kernel
theorem dX12_layWith_107 : decode cX12_layWith 107 = .ok (.iconst 1, 1) := by decide +kernel
theorem dX12_layWith_108 : decode cX12_layWith 108 = .ok (.isub, 1) := by decide +kernel
theorem dX12_layWith_109 : decode cX12_layWith 109 = .ok (.aload_n 0, 1) := by decide +kernel
theorem dX12_layWith_110 : decode cX12_layWith 110 = .ok (.getfield 24, 3) := by decide +kernel
theorem dX12_layWith_113 : decode cX12_layWith 113 = .ok (.iconst 1, 1) := by decide +kernel
theorem dX12_layWith_114 : decode cX12_layWith 114 = .ok (.iaload, 1) := by decide +kernel
theorem dX12_layWith_115 : decode cX12_layWith 115 = .ok (.idiv, 1) := by decide +kernel
theorem dX12_layWith_116 : decode cX12_layWith 116 = .ok (.ireturn, 1) := by decide +kernel
theorem dX12_lay_0 : decode cX12_lay 0 = .ok (.aload_n 0, 1) := by decide +kernel
theorem dX12_lay_1 : decode cX12_lay 1 = .ok (.invokevirtual 354, 3) := by decide +kernel
theorem dX12_lay_4 : decode cX12_lay 4 = .ok (.aload_n 0, 1) := by decide +kernel
theorem dX12_lay_5 : decode cX12_lay 5 = .ok (.iconst 0, 1) := by decide +kernel
theorem dX12_lay_6 : decode cX12_lay 6 = .ok (.putfield 357, 3) := by decide +kernel
theorem dX12_lay_9 : decode cX12_lay 9 = .ok (.aload_n 0, 1) := by decide +kernel
theorem dX12_lay_10 : decode cX12_lay 10 = .ok (.iconst 0, 1) := by decide +kernel
theorem dX12_lay_11 : decode cX12_lay 11 = .ok (.putfield 360, 3) := by decide +kernel
theorem dX12_lay_14 : decode cX12_lay 14 = .ok (.aload_n 0, 1) := by decide +kernel
theorem dX12_lay_15 : decode cX12_lay 15 = .ok (.getfield 24, 3) := by decide +kernel
theorem dX12_lay_18 : decode cX12_lay 18 = .ok (.bipush 9, 2) := by decide +kernel
theorem dX12_lay_20 : decode cX12_lay 20 = .ok (.iaload, 1) := by decide +kernel
theorem dX12_lay_21 : decode cX12_lay 21 = .ok (.ifCond .ne 10, 3) := by decide +kernel
theorem dX12_lay_24 : decode cX12_lay 24 = .ok (.aload_n 0, 1) := by decide +kernel
theorem dX12_lay_25 : decode cX12_lay 25 = .ok (.iconst 0, 1) := by decide +kernel
theorem dX12_lay_26 : decode cX12_lay 26 = .ok (.invokevirtual 363, 3) := by decide +kernel
theorem dX12_lay_29 : decode cX12_lay 29 = .ok (.pop, 1) := by decide +kernel
theorem dX12_lay_30 : decode cX12_lay 30 = .ok (.return_, 1) := by decide +kernel
theorem dX12_lay_31 : decode cX12_lay 31 = .ok (.iconst 0, 1) := by decide +kernel
theorem dX12_lay_32 : decode cX12_lay 32 = .ok (.istore_n 1, 1) := by decide +kernel
theorem dX12_lay_33 : decode cX12_lay 33 = .ok (.iconst 0, 1) := by decide +kernel
theorem dX12_lay_34 : decode cX12_lay 34 = .ok (.istore_n 2, 1) := by decide +kernel
theorem dX12_lay_35 : decode cX12_lay 35 = .ok (.aload_n 0, 1) := by decide +kernel
theorem dX12_lay_36 : decode cX12_lay 36 = .ok (.iconst 1, 1) := by decide +kernel
theorem dX12_lay_37 : decode cX12_lay 37 = .ok (.putfield 360, 3) := by decide +kernel
theorem dX12_lay_40 : decode cX12_lay 40 = .ok (.aload_n 0, 1) := by decide +kernel
theorem dX12_lay_41 : decode cX12_lay 41 = .ok (.getfield 357, 3) := by decide +kernel
theorem dX12_lay_44 : decode cX12_lay 44 = .ok (.bipush 8, 2) := by decide +kernel
theorem dX12_lay_46 : decode cX12_lay 46 = .ok (.if_icmp .ge 55, 3) := by decide +kernel
theorem dX12_lay_49 : decode cX12_lay 49 = .ok (.iload_n 2, 1) := by decide +kernel
theorem dX12_lay_50 : decode cX12_lay 50 = .ok (.aload_n 0, 1) := by decide +kernel
theorem dX12_lay_51 : decode cX12_lay 51 = .ok (.getfield 360, 3) := by decide +kernel
theorem dX12_lay_54 : decode cX12_lay 54 = .ok (.if_icmp .eq 47, 3) := by decide +kernel
theorem dX12_lay_57 : decode cX12_lay 57 = .ok (.aload_n 0, 1) := by decide +kernel
theorem dX12_lay_58 : decode cX12_lay 58 = .ok (.aload_n 0, 1) := by decide +kernel
theorem dX12_lay_59 : decode cX12_lay 59 = .ok (.getfield 357, 3) := by decide +kernel
theorem dX12_lay_62 : decode cX12_lay 62 = .ok (.ifCond .ne 7, 3) := by decide +kernel
theorem dX12_lay_65 : decode cX12_lay 65 = .ok (.iconst 1, 1) := by decide +kernel
theorem dX12_lay_66 : decode cX12_lay 66 = .ok (.goto 4, 3) := by decide +kernel
theorem dX12_lay_69 : decode cX12_lay 69 = .ok (.iload_n 2, 1) := by decide +kernel
theorem dX12_lay_70 : decode cX12_lay 70 = .ok (.putfield 360, 3) := by decide +kernel
theorem dX12_lay_73 : decode cX12_lay 73 = .ok (.aload_n 0, 1) := by decide +kernel
theorem dX12_lay_74 : decode cX12_lay 74 = .ok (.dup, 1) := by decide +kernel
theorem dX12_lay_75 : decode cX12_lay 75 = .ok (.getfield 357, 3) := by decide +kernel
theorem dX12_lay_78 : decode cX12_lay 78 = .ok (.iconst 1, 1) := by decide +kernel
theorem dX12_lay_79 : decode cX12_lay 79 = .ok (.iadd, 1) := by decide +kernel
theorem dX12_lay_80 : decode cX12_lay 80 = .ok (.putfield 357, 3) := by decide +kernel
theorem dX12_lay_83 : decode cX12_lay 83 = .ok (.aload_n 0, 1) := by decide +kernel
theorem dX12_lay_84 : decode cX12_lay 84 = .ok (.aload_n 0, 1) := by decide +kernel
theorem dX12_lay_85 : decode cX12_lay 85 = .ok (.getfield 360, 3) := by decide +kernel
theorem dX12_lay_88 : decode cX12_lay 88 = .ok (.invokevirtual 363, 3) := by decide +kernel
theorem dX12_lay_91 : decode cX12_lay 91 = .ok (.istore_n 2, 1) := by decide +kernel
theorem dX12_lay_92 : decode cX12_lay 92 = .ok (.iload_n 1, 1) := by decide +kernel
theorem dX12_lay_93 : decode cX12_lay 93 = .ok (.iload_n 2, 1) := by decide +kernel
theorem dX12_lay_94 : decode cX12_lay 94 = .ok (.invokestatic 348, 3) := by decide +kernel
theorem dX12_lay_97 : decode cX12_lay 97 = .ok (.istore_n 1, 1) := by decide +kernel
theorem dX12_lay_98 : decode cX12_lay 98 = .ok (.goto (-58), 3) := by decide +kernel
theorem dX12_lay_101 : decode cX12_lay 101 = .ok (.iload_n 2, 1) := by decide +kernel
theorem dX12_lay_102 : decode cX12_lay 102 = .ok (.aload_n 0, 1) := by decide +kernel
theorem dX12_lay_103 : decode cX12_lay 103 = .ok (.getfield 360, 3) := by decide +kernel
theorem dX12_lay_106 : decode cX12_lay 106 = .ok (.if_icmp .ne 4, 3) := by decide +kernel
theorem dX12_lay_109 : decode cX12_lay 109 = .ok (.return_, 1) := by decide +kernel
theorem dX12_lay_110 : decode cX12_lay 110 = .ok (.aload_n 0, 1) := by decide +kernel
theorem dX12_lay_111 : decode cX12_lay 111 = .ok (.iload_n 1, 1) := by decide +kernel
theorem dX12_lay_112 : decode cX12_lay 112 = .ok (.putfield 360, 3) := by decide +kernel
theorem dX12_lay_115 : decode cX12_lay 115 = .ok (.aload_n 0, 1) := by decide +kernel
theorem dX12_lay_116 : decode cX12_lay 116 = .ok (.aload_n 0, 1) := by decide +kernel
theorem dX12_lay_117 : decode cX12_lay 117 = .ok (.getfield 360, 3) := by decide +kernel
theorem dX12_lay_120 : decode cX12_lay 120 = .ok (.invokevirtual 363, 3) := by decide +kernel
theorem dX12_lay_123 : decode cX12_lay 123 = .ok (.istore_n 2, 1) := by decide +kernel
theorem dX12_lay_124 : decode cX12_lay 124 = .ok (.return_, 1) := by decide +kernel
theorem dX12_count_0 : decode cX12_count 0 = .ok (.aload_n 0, 1) := by decide +kernel
theorem dX12_count_1 : decode cX12_count 1 = .ok (.iload_n 1, 1) := by decide +kernel
theorem dX12_count_2 : decode cX12_count 2 = .ok (.i2l, 1) := by decide +kernel
theorem dX12_count_3 : decode cX12_count 3 = .ok (.lconst 0, 1) := by decide +kernel
theorem dX12_count_4 : decode cX12_count 4 = .ok (.ldc2_w 366, 3) := by decide +kernel
theorem dX12_count_7 : decode cX12_count 7 = .ok (.invokestatic 103, 3) := by decide +kernel
theorem dX12_count_10 : decode cX12_count 10 = .ok (.invokevirtual 114, 3) := by decide +kernel
theorem dX12_count_13 : decode cX12_count 13 = .ok (.ifCond .ne 5, 3) := by decide +kernel
theorem dX12_count_16 : decode cX12_count 16 = .ok (.iconst 0, 1) := by decide +kernel
theorem dX12_count_17 : decode cX12_count 17 = .ok (.ireturn, 1) := by decide +kernel
theorem dX12_count_18 : decode cX12_count 18 = .ok (.aload_n 0, 1) := by decide +kernel
theorem dX12_count_19 : decode cX12_count 19 = .ok (.invokevirtual 368, 3) := by decide +kernel
theorem dX12_count_22 : decode cX12_count 22 = .ok (.iconst 0, 1) := by decide +kernel
theorem dX12_count_23 : decode cX12_count 23 = .ok (.istore_n 2, 1) := by decide +kernel
theorem dX12_count_24 : decode cX12_count 24 = .ok (.iconst 0, 1) := by decide +kernel
theorem dX12_count_25 : decode cX12_count 25 = .ok (.istore_n 3, 1) := by decide +kernel
theorem dX12_count_26 : decode cX12_count 26 = .ok (.iload_n 3, 1) := by decide +kernel
theorem dX12_count_27 : decode cX12_count 27 = .ok (.aload_n 0, 1) := by decide +kernel
theorem dX12_count_28 : decode cX12_count 28 = .ok (.getfield 17, 3) := by decide +kernel
theorem dX12_count_31 : decode cX12_count 31 = .ok (.bipush 9, 2) := by decide +kernel
theorem dX12_count_33 : decode cX12_count 33 = .ok (.iaload, 1) := by decide +kernel
theorem dX12_count_34 : decode cX12_count 34 = .ok (.if_icmp .ge 26, 3) := by decide +kernel
theorem dX12_count_37 : decode cX12_count 37 = .ok (.iload_n 2, 1) := by decide +kernel
theorem dX12_count_38 : decode cX12_count 38 = .ok (.aload_n 0, 1) := by decide +kernel
theorem dX12_count_39 : decode cX12_count 39 = .ok (.iload_n 3, 1) := by decide +kernel
theorem dX12_count_40 : decode cX12_count 40 = .ok (.iconst 2, 1) := by decide +kernel
theorem dX12_count_41 : decode cX12_count 41 = .ok (.invokevirtual 107, 3) := by decide +kernel
theorem dX12_count_44 : decode cX12_count 44 = .ok (.ifCond .ne 7, 3) := by decide +kernel
theorem dX12_count_47 : decode cX12_count 47 = .ok (.iconst 1, 1) := by decide +kernel
theorem dX12_count_48 : decode cX12_count 48 = .ok (.goto 4, 3) := by decide +kernel
theorem dX12_count_51 : decode cX12_count 51 = .ok (.iconst 0, 1) := by decide +kernel
theorem dX12_count_52 : decode cX12_count 52 = .ok (.iadd, 1) := by decide +kernel
theorem dX12_count_53 : decode cX12_count 53 = .ok (.istore_n 2, 1) := by decide +kernel
theorem dX12_count_54 : decode cX12_count 54 = .ok (.iinc 3 1, 3) := by decide +kernel
theorem dX12_count_57 : decode cX12_count 57 = .ok (.goto (-31), 3) := by decide +kernel
theorem dX12_count_60 : decode cX12_count 60 = .ok (.iload_n 1, 1) := by decide +kernel
theorem dX12_count_61 : decode cX12_count 61 = .ok (.tableswitch 78 0 6 #[43, 51, 53, 58, 63, 68, 73], 43) := by decide +kernel
theorem dX12_count_104 : decode cX12_count 104 = .ok (.aload_n 0, 1) := by decide +kernel
theorem dX12_count_105 : decode cX12_count 105 = .ok (.getfield 17, 3) := by decide +kernel
theorem dX12_count_108 : decode cX12_count 108 = .ok (.bipush 9, 2) := by decide +kernel
theorem dX12_count_110 : decode cX12_count 110 = .ok (.iaload, 1) := by decide +kernel
theorem dX12_count_111 : decode cX12_count 111 = .ok (.ireturn, 1) := by decide +kernel
theorem dX12_count_112 : decode cX12_count 112 = .ok (.iload_n 2, 1) := by decide +kernel
theorem dX12_count_113 : decode cX12_count 113 = .ok (.ireturn, 1) := by decide +kernel
theorem dX12_count_114 : decode cX12_count 114 = .ok (.aload_n 0, 1) := by decide +kernel
theorem dX12_count_115 : decode cX12_count 115 = .ok (.getfield 324, 3) := by decide +kernel
theorem dX12_count_118 : decode cX12_count 118 = .ok (.ireturn, 1) := by decide +kernel
theorem dX12_count_119 : decode cX12_count 119 = .ok (.aload_n 0, 1) := by decide +kernel
theorem dX12_count_120 : decode cX12_count 120 = .ok (.getfield 360, 3) := by decide +kernel
theorem dX12_count_123 : decode cX12_count 123 = .ok (.ireturn, 1) := by decide +kernel
theorem dX12_count_124 : decode cX12_count 124 = .ok (.aload_n 0, 1) := by decide +kernel
theorem dX12_count_125 : decode cX12_count 125 = .ok (.getfield 312, 3) := by decide +kernel
theorem dX12_count_128 : decode cX12_count 128 = .ok (.ireturn, 1) := by decide +kernel
theorem dX12_count_129 : decode cX12_count 129 = .ok (.aload_n 0, 1) := by decide +kernel
theorem dX12_count_130 : decode cX12_count 130 = .ok (.getfield 315, 3) := by decide +kernel
theorem dX12_count_133 : decode cX12_count 133 = .ok (.ireturn, 1) := by decide +kernel
theorem dX12_count_134 : decode cX12_count 134 = .ok (.aload_n 0, 1) := by decide +kernel
theorem dX12_count_135 : decode cX12_count 135 = .ok (.getfield 345, 3) := by decide +kernel
theorem dX12_count_138 : decode cX12_count 138 = .ok (.ireturn, 1) := by decide +kernel
theorem dX12_count_139 : decode cX12_count 139 = .ok (.aload_n 0, 1) := by decide +kernel
theorem dX12_count_140 : decode cX12_count 140 = .ok (.getfield 336, 3) := by decide +kernel
theorem dX12_count_143 : decode cX12_count 143 = .ok (.ireturn, 1) := by decide +kernel
theorem dX12_setting_0 : decode cX12_setting 0 = .ok (.aload_n 0, 1) := by decide +kernel
theorem dX12_setting_1 : decode cX12_setting 1 = .ok (.iload_n 1, 1) := by decide +kernel
theorem dX12_setting_2 : decode cX12_setting 2 = .ok (.i2l, 1) := by decide +kernel
theorem dX12_setting_3 : decode cX12_setting 3 = .ok (.lconst 0, 1) := by decide +kernel
theorem dX12_setting_4 : decode cX12_setting 4 = .ok (.ldc2_w 366, 3) := by decide +kernel
theorem dX12_setting_7 : decode cX12_setting 7 = .ok (.invokestatic 103, 3) := by decide +kernel
theorem dX12_setting_10 : decode cX12_setting 10 = .ok (.invokevirtual 114, 3) := by decide +kernel
theorem dX12_setting_13 : decode cX12_setting 13 = .ok (.ifCond .eq 12, 3) := by decide +kernel
theorem dX12_setting_16 : decode cX12_setting 16 = .ok (.aload_n 0, 1) := by decide +kernel
theorem dX12_setting_17 : decode cX12_setting 17 = .ok (.getfield 17, 3) := by decide +kernel
theorem dX12_setting_20 : decode cX12_setting 20 = .ok (.iload_n 1, 1) := by decide +kernel
theorem dX12_setting_21 : decode cX12_setting 21 = .ok (.iaload, 1) := by decide +kernel
theorem dX12_setting_22 : decode cX12_setting 22 = .ok (.goto 4, 3) := by decide +kernel
theorem dX12_setting_25 : decode cX12_setting 25 = .ok (.iconst 0, 1) := by decide +kernel
theorem dX12_setting_26 : decode cX12_setting 26 = .ok (.ireturn, 1) := by decide +kernel
theorem dX12_isRight_0 : decode cX12_isRight 0 = .ok (.aload_n 0, 1) := by decide +kernel
theorem dX12_isRight_1 : decode cX12_isRight 1 = .ok (.iconst 0, 1) := by decide +kernel
theorem dX12_isRight_2 : decode cX12_isRight 2 = .ok (.putfield 3, 3) := by decide +kernel
theorem dX12_isRight_5 : decode cX12_isRight 5 = .ok (.aload_n 0, 1) := by decide +kernel
theorem dX12_isRight_6 : decode cX12_isRight 6 = .ok (.getfield 17, 3) := by decide +kernel
theorem dX12_isRight_9 : decode cX12_isRight 9 = .ok (.bipush 8, 2) := by decide +kernel
theorem dX12_isRight_11 : decode cX12_isRight 11 = .ok (.iaload, 1) := by decide +kernel
theorem dX12_isRight_12 : decode cX12_isRight 12 = .ok (.iconst 1, 1) := by decide +kernel
theorem dX12_isRight_13 : decode cX12_isRight 13 = .ok (.if_icmp .ne 7, 3) := by decide +kernel
theorem dX12_isRight_16 : decode cX12_isRight 16 = .ok (.iconst 1, 1) := by decide +kernel
theorem dX12_isRight_17 : decode cX12_isRight 17 = .ok (.goto 4, 3) := by decide +kernel
theorem dX12_isRight_20 : decode cX12_isRight 20 = .ok (.iconst 0, 1) := by decide +kernel
theorem dX12_isRight_21 : decode cX12_isRight 21 = .ok (.ireturn, 1) := by decide +kernel
theorem dX12_childrenOf_0 : decode cX12_childrenOf 0 = .ok (.iconst 0, 1) := by decide +kernel
theorem dX12_childrenOf_1 : decode cX12_childrenOf 1 = .ok (.istore_n 2, 1) := by decide +kernel
theorem dX12_childrenOf_2 : decode cX12_childrenOf 2 = .ok (.iconst 0, 1) := by decide +kernel
theorem dX12_childrenOf_3 : decode cX12_childrenOf 3 = .ok (.istore_n 3, 1) := by decide +kernel
theorem dX12_childrenOf_4 : decode cX12_childrenOf 4 = .ok (.iload_n 3, 1) := by decide +kernel
theorem dX12_childrenOf_5 : decode cX12_childrenOf 5 = .ok (.aload_n 0, 1) := by decide +kernel
theorem dX12_childrenOf_6 : decode cX12_childrenOf 6 = .ok (.getfield 17, 3) := by decide +kernel
theorem dX12_childrenOf_9 : decode cX12_childrenOf 9 = .ok (.bipush 9, 2) := by decide +kernel
theorem dX12_childrenOf_11 : decode cX12_childrenOf 11 = .ok (.iaload, 1) := by decide +kernel
theorem dX12_childrenOf_12 : decode cX12_childrenOf 12 = .ok (.if_icmp .ge 27, 3) := by decide +kernel
theorem dX12_childrenOf_15 : decode cX12_childrenOf 15 = .ok (.iload_n 2, 1) := by decide +kernel
theorem dX12_childrenOf_16 : decode cX12_childrenOf 16 = .ok (.aload_n 0, 1) := by decide +kernel
theorem dX12_childrenOf_17 : decode cX12_childrenOf 17 = .ok (.getfield 37, 3) := by decide +kernel
theorem dX12_childrenOf_20 : decode cX12_childrenOf 20 = .ok (.iload_n 3, 1) := by decide +kernel
theorem dX12_childrenOf_21 : decode cX12_childrenOf 21 = .ok (.iaload, 1) := by decide +kernel
theorem dX12_childrenOf_22 : decode cX12_childrenOf 22 = .ok (.iload_n 1, 1) := by decide +kernel
theorem dX12_childrenOf_23 : decode cX12_childrenOf 23 = .ok (.if_icmp .ne 7, 3) := by decide +kernel
theorem dX12_childrenOf_26 : decode cX12_childrenOf 26 = .ok (.iconst 1, 1) := by decide +kernel
theorem dX12_childrenOf_27 : decode cX12_childrenOf 27 = .ok (.goto 4, 3) := by decide +kernel
theorem dX12_childrenOf_30 : decode cX12_childrenOf 30 = .ok (.iconst 0, 1) := by decide +kernel
theorem dX12_childrenOf_31 : decode cX12_childrenOf 31 = .ok (.iadd, 1) := by decide +kernel
theorem dX12_childrenOf_32 : decode cX12_childrenOf 32 = .ok (.istore_n 2, 1) := by decide +kernel
theorem dX12_childrenOf_33 : decode cX12_childrenOf 33 = .ok (.iinc 3 1, 3) := by decide +kernel
theorem dX12_childrenOf_36 : decode cX12_childrenOf 36 = .ok (.goto (-32), 3) := by decide +kernel
theorem dX12_childrenOf_39 : decode cX12_childrenOf 39 = .ok (.iload_n 2, 1) := by decide +kernel
theorem dX12_childrenOf_40 : decode cX12_childrenOf 40 = .ok (.ireturn, 1) := by decide +kernel
theorem dX12_section_0 : decode cX12_section 0 = .ok (.aload_n 0, 1) := by decide +kernel
theorem dX12_section_1 : decode cX12_section 1 = .ok (.aload_n 0, 1) := by decide +kernel
theorem dX12_section_2 : decode cX12_section 2 = .ok (.iload_n 1, 1) := by decide +kernel
theorem dX12_section_3 : decode cX12_section 3 = .ok (.invokevirtual 371, 3) := by decide +kernel
theorem dX12_section_6 : decode cX12_section 6 = .ok (.iload_n 2, 1) := by decide +kernel
theorem dX12_section_7 : decode cX12_section 7 = .ok (.i2l, 1) := by decide +kernel
theorem dX12_section_8 : decode cX12_section 8 = .ok (.lconst 0, 1) := by decide +kernel
theorem dX12_section_9 : decode cX12_section 9 = .ok (.ldc2_w 375, 3) := by decide +kernel
theorem dX12_section_12 : decode cX12_section 12 = .ok (.invokestatic 103, 3) := by decide +kernel
theorem dX12_section_15 : decode cX12_section 15 = .ok (.invokevirtual 377, 3) := by decide +kernel
theorem dX12_section_18 : decode cX12_section 18 = .ok (.ifCond .ne 5, 3) := by decide +kernel
theorem dX12_section_21 : decode cX12_section 21 = .ok (.iconst 0, 1) := by decide +kernel
theorem dX12_section_22 : decode cX12_section 22 = .ok (.ireturn, 1) := by decide +kernel
theorem dX12_section_23 : decode cX12_section 23 = .ok (.iload_n 2, 1) := by decide +kernel
theorem dX12_section_24 : decode cX12_section 24 = .ok (.iconst 4, 1) := by decide +kernel
theorem dX12_section_25 : decode cX12_section 25 = .ok (.if_icmp .ge 10, 3) := by decide +kernel
theorem dX12_section_28 : decode cX12_section 28 = .ok (.aload_n 0, 1) := by decide +kernel
theorem dX12_section_29 : decode cX12_section 29 = .ok (.iload_n 1, 1) := by decide +kernel
theorem dX12_section_30 : decode cX12_section 30 = .ok (.iload_n 2, 1) := by decide +kernel
theorem dX12_section_31 : decode cX12_section 31 = .ok (.invokevirtual 107, 3) := by decide +kernel
theorem dX12_section_34 : decode cX12_section 34 = .ok (.ireturn, 1) := by decide +kernel
theorem dX12_section_35 : decode cX12_section 35 = .ok (.aload_n 0, 1) := by decide +kernel
theorem dX12_section_36 : decode cX12_section 36 = .ok (.invokevirtual 354, 3) := by decide +kernel
theorem dX12_section_39 : decode cX12_section 39 = .ok (.iload_n 2, 1) := by decide +kernel
theorem dX12_section_40 : decode cX12_section 40 = .ok (.iconst 4, 1) := by decide +kernel
theorem dX12_section_41 : decode cX12_section 41 = .ok (.if_icmp .ne 12, 3) := by decide +kernel
theorem dX12_section_44 : decode cX12_section 44 = .ok (.aload_n 0, 1) := by decide +kernel
theorem dX12_section_45 : decode cX12_section 45 = .ok (.getfield 37, 3) := by decide +kernel
theorem dX12_section_48 : decode cX12_section 48 = .ok (.iload_n 1, 1) := by decide +kernel
theorem dX12_section_49 : decode cX12_section 49 = .ok (.iaload, 1) := by decide +kernel
theorem dX12_section_50 : decode cX12_section 50 = .ok (.goto 22, 3) := by decide +kernel
theorem dX12_section_53 : decode cX12_section 53 = .ok (.iload_n 2, 1) := by decide +kernel
theorem dX12_section_54 : decode cX12_section 54 = .ok (.iconst 5, 1) := by decide +kernel
theorem dX12_section_55 : decode cX12_section 55 = .ok (.if_icmp .ne 11, 3) := by decide +kernel
theorem dX12_section_58 : decode cX12_section 58 = .ok (.aload_n 0, 1) := by decide +kernel
theorem dX12_section_59 : decode cX12_section 59 = .ok (.iload_n 1, 1) := by decide +kernel
theorem dX12_section_60 : decode cX12_section 60 = .ok (.invokevirtual 381, 3) := by decide +kernel
theorem dX12_section_63 : decode cX12_section 63 = .ok (.goto 9, 3) := by decide +kernel
theorem dX12_section_66 : decode cX12_section 66 = .ok (.aload_n 0, 1) := by decide +kernel
theorem dX12_section_67 : decode cX12_section 67 = .ok (.getfield 40, 3) := by decide +kernel
theorem dX12_section_70 : decode cX12_section 70 = .ok (.iload_n 1, 1) := by decide +kernel
theorem dX12_section_71 : decode cX12_section 71 = .ok (.iaload, 1) := by decide +kernel
theorem dX12_section_72 : decode cX12_section 72 = .ok (.ireturn, 1) := by decide +kernel
theorem dX12_titleOf_0 : decode cX12_titleOf 0 = .ok (.aload_n 0, 1) := by decide +kernel
theorem dX12_titleOf_1 : decode cX12_titleOf 1 = .ok (.iload_n 1, 1) := by decide +kernel
theorem dX12_titleOf_2 : decode cX12_titleOf 2 = .ok (.iconst 3, 1) := by decide +kernel
theorem dX12_titleOf_3 : decode cX12_titleOf 3 = .ok (.invokevirtual 107, 3) := by decide +kernel
theorem dX12_titleOf_6 : decode cX12_titleOf 6 = .ok (.iconst 1, 1) := by decide +kernel
theorem dX12_titleOf_7 : decode cX12_titleOf 7 = .ok (.isub, 1) := by decide +kernel
theorem dX12_titleOf_8 : decode cX12_titleOf 8 = .ok (.istore_n 2, 1) := by decide +kernel
theorem dX12_titleOf_9 : decode cX12_titleOf 9 = .ok (.iconst 0, 1) := by decide +kernel
theorem dX12_titleOf_10 : decode cX12_titleOf 10 = .ok (.istore_n 3, 1) := by decide +kernel
theorem dX12_titleOf_11 : decode cX12_titleOf 11 = .ok (.iload_n 3, 1) := by decide +kernel
theorem dX12_titleOf_12 : decode cX12_titleOf 12 = .ok (.aload_n 0, 1) := by decide +kernel
theorem dX12_titleOf_13 : decode cX12_titleOf 13 = .ok (.iload_n 1, 1) := by decide +kernel
theorem dX12_titleOf_14 : decode cX12_titleOf 14 = .ok (.iconst 3, 1) := by decide +kernel
theorem dX12_titleOf_15 : decode cX12_titleOf 15 = .ok (.invokevirtual 107, 3) := by decide +kernel
theorem dX12_titleOf_18 : decode cX12_titleOf 18 = .ok (.if_icmp .ge 18, 3) := by decide +kernel
theorem dX12_titleOf_21 : decode cX12_titleOf 21 = .ok (.iload_n 2, 1) := by decide +kernel
theorem dX12_titleOf_22 : decode cX12_titleOf 22 = .ok (.aload_n 0, 1) := by decide +kernel
theorem dX12_titleOf_23 : decode cX12_titleOf 23 = .ok (.iload_n 1, 1) := by decide +kernel
theorem dX12_titleOf_24 : decode cX12_titleOf 24 = .ok (.iload_n 3, 1) := by decide +kernel
theorem dX12_titleOf_25 : decode cX12_titleOf 25 = .ok (.invokevirtual 330, 3) := by decide +kernel
theorem dX12_titleOf_28 : decode cX12_titleOf 28 = .ok (.iadd, 1) := by decide +kernel
theorem dX12_titleOf_29 : decode cX12_titleOf 29 = .ok (.istore_n 2, 1) := by decide +kernel
theorem dX12_titleOf_30 : decode cX12_titleOf 30 = .ok (.iinc 3 1, 3) := by decide +kernel
theorem dX12_titleOf_33 : decode cX12_titleOf 33 = .ok (.goto (-22), 3) := by decide +kernel
theorem dX12_titleOf_36 : decode cX12_titleOf 36 = .ok (.iload_n 2, 1) := by decide +kernel
theorem dX12_titleOf_37 : decode cX12_titleOf 37 = .ok (.ireturn, 1) := by decide +kernel
theorem dX12_titleWidth_0 : decode cX12_titleWidth 0 = .ok (.aload_n 0, 1) := by decide +kernel
theorem dX12_titleWidth_1 : decode cX12_titleWidth 1 = .ok (.invokevirtual 354, 3) := by decide +kernel
theorem dX12_titleWidth_4 : decode cX12_titleWidth 4 = .ok (.aload_n 0, 1) := by decide +kernel
theorem dX12_titleWidth_5 : decode cX12_titleWidth 5 = .ok (.aload_n 0, 1) := by decide +kernel
theorem dX12_titleWidth_6 : decode cX12_titleWidth 6 = .ok (.iload_n 1, 1) := by decide +kernel
theorem dX12_titleWidth_7 : decode cX12_titleWidth 7 = .ok (.invokevirtual 371, 3) := by decide +kernel
theorem dX12_titleWidth_10 : decode cX12_titleWidth 10 = .ok (.invokevirtual 114, 3) := by decide +kernel
theorem dX12_titleWidth_13 : decode cX12_titleWidth 13 = .ok (.ifCond .eq 11, 3) := by decide +kernel
theorem dX12_titleWidth_16 : decode cX12_titleWidth 16 = .ok (.aload_n 0, 1) := by decide +kernel
theorem dX12_titleWidth_17 : decode cX12_titleWidth 17 = .ok (.iload_n 1, 1) := by decide +kernel
theorem dX12_titleWidth_18 : decode cX12_titleWidth 18 = .ok (.invokevirtual 384, 3) := by decide +kernel
theorem dX12_titleWidth_21 : decode cX12_titleWidth 21 = .ok (.goto 4, 3) := by decide +kernel
theorem dX12_titleWidth_24 : decode cX12_titleWidth 24 = .ok (.iconst 0, 1) := by decide +kernel
theorem dX12_titleWidth_25 : decode cX12_titleWidth 25 = .ok (.ireturn, 1) := by decide +kernel
theorem dX12_asks_0 : decode cX12_asks 0 = .ok (.aload_n 0, 1) := by decide +kernel
theorem dX12_asks_1 : decode cX12_asks 1 = .ok (.aload_n 0, 1) := by decide +kernel
theorem dX12_asks_2 : decode cX12_asks 2 = .ok (.iload_n 1, 1) := by decide +kernel
theorem dX12_asks_3 : decode cX12_asks 3 = .ok (.invokevirtual 371, 3) := by decide +kernel
theorem dX12_asks_6 : decode cX12_asks 6 = .ok (.invokevirtual 114, 3) := by decide +kernel
theorem dX12_asks_9 : decode cX12_asks 9 = .ok (.ifCond .ne 5, 3) := by decide +kernel
theorem dX12_asks_12 : decode cX12_asks 12 = .ok (.iconst 0, 1) := by decide +kernel
theorem dX12_asks_13 : decode cX12_asks 13 = .ok (.ireturn, 1) := by decide +kernel
theorem dX12_asks_14 : decode cX12_asks 14 = .ok (.aload_n 0, 1) := by decide +kernel
theorem dX12_asks_15 : decode cX12_asks 15 = .ok (.invokevirtual 368, 3) := by decide +kernel
theorem dX12_asks_18 : decode cX12_asks 18 = .ok (.iconst 1, 1) := by decide +kernel
theorem dX12_asks_19 : decode cX12_asks 19 = .ok (.ireturn, 1) := by decide +kernel
theorem dX12_page_0 : decode cX12_page 0 = .ok (.aload_n 0, 1) := by decide +kernel
theorem dX12_page_1 : decode cX12_page 1 = .ok (.iload_n 1, 1) := by decide +kernel
theorem dX12_page_2 : decode cX12_page 2 = .ok (.invokevirtual 387, 3) := by decide +kernel
theorem dX12_page_5 : decode cX12_page 5 = .ok (.ifCond .eq 12, 3) := by decide +kernel
theorem dX12_page_8 : decode cX12_page 8 = .ok (.aload_n 0, 1) := by decide +kernel
theorem dX12_page_9 : decode cX12_page 9 = .ok (.getfield 46, 3) := by decide +kernel
theorem dX12_page_12 : decode cX12_page 12 = .ok (.iload_n 1, 1) := by decide +kernel
theorem dX12_page_13 : decode cX12_page 13 = .ok (.iaload, 1) := by decide +kernel
theorem dX12_page_14 : decode cX12_page 14 = .ok (.goto 4, 3) := by decide +kernel
theorem dX12_page_17 : decode cX12_page 17 = .ok (.iconst 0, 1) := by decide +kernel
theorem dX12_page_18 : decode cX12_page 18 = .ok (.ireturn, 1) := by decide +kernel
theorem dX12_bookPage_0 : decode cX12_bookPage 0 = .ok (.aload_n 0, 1) := by decide +kernel
theorem dX12_bookPage_1 : decode cX12_bookPage 1 = .ok (.iload_n 1, 1) := by decide +kernel
theorem dX12_bookPage_2 : decode cX12_bookPage 2 = .ok (.invokevirtual 387, 3) := by decide +kernel
theorem dX12_bookPage_5 : decode cX12_bookPage 5 = .ok (.ifCond .eq 11, 3) := by decide +kernel
theorem dX12_bookPage_8 : decode cX12_bookPage 8 = .ok (.aload_n 0, 1) := by decide +kernel
theorem dX12_bookPage_9 : decode cX12_bookPage 9 = .ok (.iload_n 1, 1) := by decide +kernel
theorem dX12_bookPage_10 : decode cX12_bookPage 10 = .ok (.invokevirtual 390, 3) := by decide +kernel
theorem dX12_bookPage_13 : decode cX12_bookPage 13 = .ok (.goto 4, 3) := by decide +kernel
theorem dX12_bookPage_16 : decode cX12_bookPage 16 = .ok (.iconst 0, 1) := by decide +kernel
theorem dX12_bookPage_17 : decode cX12_bookPage 17 = .ok (.ireturn, 1) := by decide +kernel
theorem dX12_lineOnPage_0 : decode cX12_lineOnPage 0 = .ok (.aload_n 0, 1) := by decide +kernel
theorem dX12_lineOnPage_1 : decode cX12_lineOnPage 1 = .ok (.iload_n 1, 1) := by decide +kernel
theorem dX12_lineOnPage_2 : decode cX12_lineOnPage 2 = .ok (.invokevirtual 387, 3) := by decide +kernel
theorem dX12_lineOnPage_5 : decode cX12_lineOnPage 5 = .ok (.ifCond .eq 12, 3) := by decide +kernel
theorem dX12_lineOnPage_8 : decode cX12_lineOnPage 8 = .ok (.aload_n 0, 1) := by decide +kernel
theorem dX12_lineOnPage_9 : decode cX12_lineOnPage 9 = .ok (.getfield 49, 3) := by decide +kernel
theorem dX12_lineOnPage_12 : decode cX12_lineOnPage 12 = .ok (.iload_n 1, 1) := by decide +kernel
theorem dX12_lineOnPage_13 : decode cX12_lineOnPage 13 = .ok (.iaload, 1) := by decide +kernel
theorem dX12_lineOnPage_14 : decode cX12_lineOnPage 14 = .ok (.goto 4, 3) := by decide +kernel
theorem dX12_lineOnPage_17 : decode cX12_lineOnPage 17 = .ok (.iconst 0, 1) := by decide +kernel
theorem dX12_lineOnPage_18 : decode cX12_lineOnPage 18 = .ok (.ireturn, 1) := by decide +kernel
theorem dX12_numberWidth_0 : decode cX12_numberWidth 0 = .ok (.aload_n 0, 1) := by decide +kernel
theorem dX12_numberWidth_1 : decode cX12_numberWidth 1 = .ok (.iload_n 1, 1) := by decide +kernel
theorem dX12_numberWidth_2 : decode cX12_numberWidth 2 = .ok (.invokevirtual 387, 3) := by decide +kernel
theorem dX12_numberWidth_5 : decode cX12_numberWidth 5 = .ok (.ifCond .eq 11, 3) := by decide +kernel
theorem dX12_numberWidth_8 : decode cX12_numberWidth 8 = .ok (.aload_n 0, 1) := by decide +kernel
theorem dX12_numberWidth_9 : decode cX12_numberWidth 9 = .ok (.iload_n 1, 1) := by decide +kernel
theorem dX12_numberWidth_10 : decode cX12_numberWidth 10 = .ok (.invokevirtual 327, 3) := by decide +kernel
theorem dX12_numberWidth_13 : decode cX12_numberWidth 13 = .ok (.goto 4, 3) := by decide +kernel
theorem dX12_numberWidth_16 : decode cX12_numberWidth 16 = .ok (.iconst 0, 1) := by decide +kernel
theorem dX12_numberWidth_17 : decode cX12_numberWidth 17 = .ok (.ireturn, 1) := by decide +kernel
theorem dX12_findPage_0 : decode cX12_findPage 0 = .ok (.aload_n 0, 1) := by decide +kernel
theorem dX12_findPage_1 : decode cX12_findPage 1 = .ok (.iload_n 1, 1) := by decide +kernel
theorem dX12_findPage_2 : decode cX12_findPage 2 = .ok (.i2l, 1) := by decide +kernel
theorem dX12_findPage_3 : decode cX12_findPage 3 = .ok (.lconst 0, 1) := by decide +kernel
theorem dX12_findPage_4 : decode cX12_findPage 4 = .ok (.lconst 1, 1) := by decide +kernel
theorem dX12_findPage_5 : decode cX12_findPage 5 = .ok (.invokestatic 103, 3) := by decide +kernel
theorem dX12_findPage_8 : decode cX12_findPage 8 = .ok (.invokevirtual 114, 3) := by decide +kernel
theorem dX12_findPage_11 : decode cX12_findPage 11 = .ok (.ifCond .ne 5, 3) := by decide +kernel
theorem dX12_findPage_14 : decode cX12_findPage 14 = .ok (.iconst 0, 1) := by decide +kernel
theorem dX12_findPage_15 : decode cX12_findPage 15 = .ok (.ireturn, 1) := by decide +kernel
theorem dX12_findPage_16 : decode cX12_findPage 16 = .ok (.aload_n 0, 1) := by decide +kernel
theorem dX12_findPage_17 : decode cX12_findPage 17 = .ok (.invokevirtual 368, 3) := by decide +kernel
theorem dX12_findPage_20 : decode cX12_findPage 20 = .ok (.iconst 0, 1) := by decide +kernel
theorem dX12_findPage_21 : decode cX12_findPage 21 = .ok (.istore_n 3, 1) := by decide +kernel
theorem dX12_findPage_22 : decode cX12_findPage 22 = .ok (.iload_n 3, 1) := by decide +kernel
theorem dX12_findPage_23 : decode cX12_findPage 23 = .ok (.aload_n 0, 1) := by decide +kernel
theorem dX12_findPage_24 : decode cX12_findPage 24 = .ok (.getfield 17, 3) := by decide +kernel
theorem dX12_findPage_27 : decode cX12_findPage 27 = .ok (.bipush 9, 2) := by decide +kernel
theorem dX12_findPage_29 : decode cX12_findPage 29 = .ok (.iaload, 1) := by decide +kernel
theorem dX12_findPage_30 : decode cX12_findPage 30 = .ok (.if_icmp .ge 31, 3) := by decide +kernel
theorem dX12_findPage_33 : decode cX12_findPage 33 = .ok (.aload_n 0, 1) := by decide +kernel
theorem dX12_findPage_34 : decode cX12_findPage 34 = .ok (.iload_n 3, 1) := by decide +kernel
theorem dX12_findPage_35 : decode cX12_findPage 35 = .ok (.iconst 2, 1) := by decide +kernel
theorem dX12_findPage_36 : decode cX12_findPage 36 = .ok (.invokevirtual 107, 3) := by decide +kernel
theorem dX12_findPage_39 : decode cX12_findPage 39 = .ok (.iload_n 1, 1) := by decide +kernel
theorem dX12_findPage_40 : decode cX12_findPage 40 = .ok (.if_icmp .ne 15, 3) := by decide +kernel
theorem dX12_findPage_43 : decode cX12_findPage 43 = .ok (.aload_n 0, 1) := by decide +kernel
theorem dX12_findPage_44 : decode cX12_findPage 44 = .ok (.getfield 46, 3) := by decide +kernel
theorem dX12_findPage_47 : decode cX12_findPage 47 = .ok (.iload_n 3, 1) := by decide +kernel
theorem dX12_findPage_48 : decode cX12_findPage 48 = .ok (.iaload, 1) := by decide +kernel
theorem dX12_findPage_49 : decode cX12_findPage 49 = .ok (.iload_n 2, 1) := by decide +kernel
theorem dX12_findPage_50 : decode cX12_findPage 50 = .ok (.if_icmp .ne 5, 3) := by decide +kernel
theorem dX12_findPage_53 : decode cX12_findPage 53 = .ok (.iload_n 3, 1) := by decide +kernel
theorem dX12_findPage_54 : decode cX12_findPage 54 = .ok (.ireturn, 1) := by decide +kernel
theorem dX12_findPage_55 : decode cX12_findPage 55 = .ok (.iinc 3 1, 3) := by decide +kernel
theorem dX12_findPage_58 : decode cX12_findPage 58 = .ok (.goto (-36), 3) := by decide +kernel
theorem dX12_findPage_61 : decode cX12_findPage 61 = .ok (.iconst (-1), 1) := by decide +kernel
theorem dX12_findPage_62 : decode cX12_findPage 62 = .ok (.ireturn, 1) := by decide +kernel
theorem dX12_sectionAt_0 : decode cX12_sectionAt 0 = .ok (.aload_n 0, 1) := by decide +kernel
theorem dX12_sectionAt_1 : decode cX12_sectionAt 1 = .ok (.invokevirtual 368, 3) := by decide +kernel
theorem dX12_sectionAt_4 : decode cX12_sectionAt 4 = .ok (.aload_n 0, 1) := by decide +kernel
theorem dX12_sectionAt_5 : decode cX12_sectionAt 5 = .ok (.iload_n 1, 1) := by decide +kernel
theorem dX12_sectionAt_6 : decode cX12_sectionAt 6 = .ok (.i2l, 1) := by decide +kernel
theorem dX12_sectionAt_7 : decode cX12_sectionAt 7 = .ok (.lconst 1, 1) := by decide +kernel
theorem dX12_sectionAt_8 : decode cX12_sectionAt 8 = .ok (.aload_n 0, 1) := by decide +kernel
theorem dX12_sectionAt_9 : decode cX12_sectionAt 9 = .ok (.getfield 312, 3) := by decide +kernel
theorem dX12_sectionAt_12 : decode cX12_sectionAt 12 = .ok (.i2l, 1) := by decide +kernel
theorem dX12_sectionAt_13 : decode cX12_sectionAt 13 = .ok (.invokestatic 103, 3) := by decide +kernel
theorem dX12_sectionAt_16 : decode cX12_sectionAt 16 = .ok (.invokevirtual 114, 3) := by decide +kernel
theorem dX12_sectionAt_19 : decode cX12_sectionAt 19 = .ok (.ifCond .ne 5, 3) := by decide +kernel
theorem dX12_sectionAt_22 : decode cX12_sectionAt 22 = .ok (.iconst 0, 1) := by decide +kernel
theorem dX12_sectionAt_23 : decode cX12_sectionAt 23 = .ok (.ireturn, 1) := by decide +kernel
theorem dX12_sectionAt_24 : decode cX12_sectionAt 24 = .ok (.iconst (-1), 1) := by decide +kernel
theorem dX12_sectionAt_25 : decode cX12_sectionAt 25 = .ok (.istore_n 2, 1) := by decide +kernel
theorem dX12_sectionAt_26 : decode cX12_sectionAt 26 = .ok (.iconst 0, 1) := by decide +kernel
theorem dX12_sectionAt_27 : decode cX12_sectionAt 27 = .ok (.istore_n 3, 1) := by decide +kernel
theorem dX12_sectionAt_28 : decode cX12_sectionAt 28 = .ok (.iload_n 3, 1) := by decide +kernel
theorem dX12_sectionAt_29 : decode cX12_sectionAt 29 = .ok (.aload_n 0, 1) := by decide +kernel
theorem dX12_sectionAt_30 : decode cX12_sectionAt 30 = .ok (.getfield 17, 3) := by decide +kernel
theorem dX12_sectionAt_33 : decode cX12_sectionAt 33 = .ok (.bipush 9, 2) := by decide +kernel
theorem dX12_sectionAt_35 : decode cX12_sectionAt 35 = .ok (.iaload, 1) := by decide +kernel
theorem dX12_sectionAt_36 : decode cX12_sectionAt 36 = .ok (.if_icmp .ge 24, 3) := by decide +kernel
theorem dX12_sectionAt_39 : decode cX12_sectionAt 39 = .ok (.aload_n 0, 1) := by decide +kernel
theorem dX12_sectionAt_40 : decode cX12_sectionAt 40 = .ok (.iload_n 3, 1) := by decide +kernel
theorem dX12_sectionAt_41 : decode cX12_sectionAt 41 = .ok (.invokevirtual 390, 3) := by decide +kernel
theorem dX12_sectionAt_44 : decode cX12_sectionAt 44 = .ok (.iload_n 1, 1) := by decide +kernel
theorem dX12_sectionAt_45 : decode cX12_sectionAt 45 = .ok (.if_icmp .gt 7, 3) := by decide +kernel
theorem dX12_sectionAt_48 : decode cX12_sectionAt 48 = .ok (.iload_n 3, 1) := by decide +kernel
theorem dX12_sectionAt_49 : decode cX12_sectionAt 49 = .ok (.goto 4, 3) := by decide +kernel
theorem dX12_sectionAt_52 : decode cX12_sectionAt 52 = .ok (.iload_n 2, 1) := by decide +kernel
theorem dX12_sectionAt_53 : decode cX12_sectionAt 53 = .ok (.istore_n 2, 1) := by decide +kernel
theorem dX12_sectionAt_54 : decode cX12_sectionAt 54 = .ok (.iinc 3 1, 3) := by decide +kernel
theorem dX12_sectionAt_57 : decode cX12_sectionAt 57 = .ok (.goto (-29), 3) := by decide +kernel
theorem dX12_sectionAt_60 : decode cX12_sectionAt 60 = .ok (.iload_n 2, 1) := by decide +kernel
theorem dX12_sectionAt_61 : decode cX12_sectionAt 61 = .ok (.ireturn, 1) := by decide +kernel
theorem dX12_linesOf_0 : decode cX12_linesOf 0 = .ok (.iload_n 1, 1) := by decide +kernel
theorem dX12_linesOf_1 : decode cX12_linesOf 1 = .ok (.iconst 1, 1) := by decide +kernel
theorem dX12_linesOf_2 : decode cX12_linesOf 2 = .ok (.iadd, 1) := by decide +kernel
theorem dX12_linesOf_3 : decode cX12_linesOf 3 = .ok (.aload_n 0, 1) := by decide +kernel
theorem dX12_linesOf_4 : decode cX12_linesOf 4 = .ok (.getfield 17, 3) := by decide +kernel
theorem dX12_linesOf_7 : decode cX12_linesOf 7 = .ok (.bipush 9, 2) := by decide +kernel
theorem dX12_linesOf_9 : decode cX12_linesOf 9 = .ok (.iaload, 1) := by decide +kernel
theorem dX12_linesOf_10 : decode cX12_linesOf 10 = .ok (.if_icmp .ge 14, 3) := by decide +kernel
theorem dX12_linesOf_13 : decode cX12_linesOf 13 = .ok (.aload_n 0, 1) := by decide +kernel
theorem dX12_linesOf_14 : decode cX12_linesOf 14 = .ok (.getfield 77, 3) := by decide +kernel
theorem dX12_linesOf_17 : decode cX12_linesOf 17 = .ok (.iload_n 1, 1) := by decide +kernel
theorem dX12_linesOf_18 : decode cX12_linesOf 18 = .ok (.iconst 1, 1) := by decide +kernel
theorem dX12_linesOf_19 : decode cX12_linesOf 19 = .ok (.iadd, 1) := by decide +kernel
theorem dX12_linesOf_20 : decode cX12_linesOf 20 = .ok (.iaload, 1) := by decide +kernel
theorem dX12_linesOf_21 : decode cX12_linesOf 21 = .ok (.goto 7, 3) := by decide +kernel
theorem dX12_linesOf_24 : decode cX12_linesOf 24 = .ok (.aload_n 0, 1) := by decide +kernel
theorem dX12_linesOf_25 : decode cX12_linesOf 25 = .ok (.getfield 324, 3) := by decide +kernel
theorem dX12_linesOf_28 : decode cX12_linesOf 28 = .ok (.aload_n 0, 1) := by decide +kernel
theorem dX12_linesOf_29 : decode cX12_linesOf 29 = .ok (.getfield 77, 3) := by decide +kernel
theorem dX12_linesOf_32 : decode cX12_linesOf 32 = .ok (.iload_n 1, 1) := by decide +kernel
theorem dX12_linesOf_33 : decode cX12_linesOf 33 = .ok (.iaload, 1) := by decide +kernel
theorem dX12_linesOf_34 : decode cX12_linesOf 34 = .ok (.isub, 1) := by decide +kernel
theorem dX12_linesOf_35 : decode cX12_linesOf 35 = .ok (.ireturn, 1) := by decide +kernel
theorem dX12_firstLine_0 : decode cX12_firstLine 0 = .ok (.aload_n 0, 1) := by decide +kernel
theorem dX12_firstLine_1 : decode cX12_firstLine 1 = .ok (.iload_n 1, 1) := by decide +kernel
theorem dX12_firstLine_2 : decode cX12_firstLine 2 = .ok (.invokevirtual 387, 3) := by decide +kernel
theorem dX12_firstLine_5 : decode cX12_firstLine 5 = .ok (.ifCond .eq 12, 3) := by decide +kernel
theorem dX12_firstLine_8 : decode cX12_firstLine 8 = .ok (.aload_n 0, 1) := by decide +kernel
theorem dX12_firstLine_9 : decode cX12_firstLine 9 = .ok (.getfield 77, 3) := by decide +kernel
theorem dX12_firstLine_12 : decode cX12_firstLine 12 = .ok (.iload_n 1, 1) := by decide +kernel
theorem dX12_firstLine_13 : decode cX12_firstLine 13 = .ok (.iaload, 1) := by decide +kernel
theorem dX12_firstLine_14 : decode cX12_firstLine 14 = .ok (.goto 4, 3) := by decide +kernel
theorem dX12_firstLine_17 : decode cX12_firstLine 17 = .ok (.iconst 0, 1) := by decide +kernel
theorem dX12_firstLine_18 : decode cX12_firstLine 18 = .ok (.ireturn, 1) := by decide +kernel
theorem dX12_lineCount_0 : decode cX12_lineCount 0 = .ok (.aload_n 0, 1) := by decide +kernel
theorem dX12_lineCount_1 : decode cX12_lineCount 1 = .ok (.iload_n 1, 1) := by decide +kernel
theorem dX12_lineCount_2 : decode cX12_lineCount 2 = .ok (.invokevirtual 387, 3) := by decide +kernel
theorem dX12_lineCount_5 : decode cX12_lineCount 5 = .ok (.ifCond .eq 11, 3) := by decide +kernel
theorem dX12_lineCount_8 : decode cX12_lineCount 8 = .ok (.aload_n 0, 1) := by decide +kernel
theorem dX12_lineCount_9 : decode cX12_lineCount 9 = .ok (.iload_n 1, 1) := by decide +kernel
theorem dX12_lineCount_10 : decode cX12_lineCount 10 = .ok (.invokevirtual 393, 3) := by decide +kernel
theorem dX12_lineCount_13 : decode cX12_lineCount 13 = .ok (.goto 4, 3) := by decide +kernel
theorem dX12_lineCount_16 : decode cX12_lineCount 16 = .ok (.iconst 0, 1) := by decide +kernel
theorem dX12_lineCount_17 : decode cX12_lineCount 17 = .ok (.ireturn, 1) := by decide +kernel
theorem dX12_isLine_0 : decode cX12_isLine 0 = .ok (.aload_n 0, 1) := by decide +kernel
theorem dX12_isLine_1 : decode cX12_isLine 1 = .ok (.invokevirtual 368, 3) := by decide +kernel
theorem dX12_isLine_4 : decode cX12_isLine 4 = .ok (.iload_n 1, 1) := by decide +kernel
theorem dX12_isLine_5 : decode cX12_isLine 5 = .ok (.i2l, 1) := by decide +kernel
theorem dX12_isLine_6 : decode cX12_isLine 6 = .ok (.lconst 0, 1) := by decide +kernel
theorem dX12_isLine_7 : decode cX12_isLine 7 = .ok (.aload_n 0, 1) := by decide +kernel
theorem dX12_isLine_8 : decode cX12_isLine 8 = .ok (.getfield 324, 3) := by decide +kernel
theorem dX12_isLine_11 : decode cX12_isLine 11 = .ok (.iconst 1, 1) := by decide +kernel
theorem dX12_isLine_12 : decode cX12_isLine 12 = .ok (.isub, 1) := by decide +kernel
theorem dX12_isLine_13 : decode cX12_isLine 13 = .ok (.i2l, 1) := by decide +kernel
theorem dX12_isLine_14 : decode cX12_isLine 14 = .ok (.invokestatic 103, 3) := by decide +kernel
theorem dX12_isLine_17 : decode cX12_isLine 17 = .ok (.ireturn, 1) := by decide +kernel
theorem dX12_line_0 : decode cX12_line 0 = .ok (.aload_n 0, 1) := by decide +kernel
theorem dX12_line_1 : decode cX12_line 1 = .ok (.aload_n 0, 1) := by decide +kernel
theorem dX12_line_2 : decode cX12_line 2 = .ok (.iload_n 1, 1) := by decide +kernel
theorem dX12_line_3 : decode cX12_line 3 = .ok (.invokevirtual 396, 3) := by decide +kernel
theorem dX12_line_6 : decode cX12_line 6 = .ok (.iload_n 2, 1) := by decide +kernel
theorem dX12_line_7 : decode cX12_line 7 = .ok (.i2l, 1) := by decide +kernel
theorem dX12_line_8 : decode cX12_line 8 = .ok (.lconst 0, 1) := by decide +kernel
theorem dX12_line_9 : decode cX12_line 9 = .ok (.ldc2_w 399, 3) := by decide +kernel
theorem dX12_line_12 : decode cX12_line 12 = .ok (.invokestatic 103, 3) := by decide +kernel
theorem dX12_line_15 : decode cX12_line 15 = .ok (.invokevirtual 377, 3) := by decide +kernel
theorem dX12_line_18 : decode cX12_line 18 = .ok (.ifCond .ne 5, 3) := by decide +kernel
theorem dX12_line_21 : decode cX12_line 21 = .ok (.iconst 0, 1) := by decide +kernel
theorem dX12_line_22 : decode cX12_line 22 = .ok (.ireturn, 1) := by decide +kernel
theorem dX12_line_23 : decode cX12_line 23 = .ok (.iload_n 2, 1) := by decide +kernel
theorem dX12_line_24 : decode cX12_line 24 = .ok (.tableswitch 60 0 3 #[32, 39, 46, 53], 32) := by decide +kernel
theorem dX12_line_56 : decode cX12_line 56 = .ok (.aload_n 0, 1) := by decide +kernel
theorem dX12_line_57 : decode cX12_line 57 = .ok (.getfield 52, 3) := by decide +kernel
theorem dX12_line_60 : decode cX12_line 60 = .ok (.iload_n 1, 1) := by decide +kernel
theorem dX12_line_61 : decode cX12_line 61 = .ok (.iaload, 1) := by decide +kernel
theorem dX12_line_62 : decode cX12_line 62 = .ok (.ireturn, 1) := by decide +kernel
theorem dX12_line_63 : decode cX12_line 63 = .ok (.aload_n 0, 1) := by decide +kernel
theorem dX12_line_64 : decode cX12_line 64 = .ok (.getfield 55, 3) := by decide +kernel
theorem dX12_line_67 : decode cX12_line 67 = .ok (.iload_n 1, 1) := by decide +kernel
theorem dX12_line_68 : decode cX12_line 68 = .ok (.iaload, 1) := by decide +kernel
theorem dX12_line_69 : decode cX12_line 69 = .ok (.ireturn, 1) := by decide +kernel
theorem dX12_line_70 : decode cX12_line 70 = .ok (.aload_n 0, 1) := by decide +kernel
theorem dX12_line_71 : decode cX12_line 71 = .ok (.getfield 64, 3) := by decide +kernel
theorem dX12_line_74 : decode cX12_line 74 = .ok (.iload_n 1, 1) := by decide +kernel
theorem dX12_line_75 : decode cX12_line 75 = .ok (.iaload, 1) := by decide +kernel
theorem dX12_line_76 : decode cX12_line 76 = .ok (.ireturn, 1) := by decide +kernel
theorem dX12_line_77 : decode cX12_line 77 = .ok (.aload_n 0, 1) := by decide +kernel
theorem dX12_line_78 : decode cX12_line 78 = .ok (.getfield 61, 3) := by decide +kernel
theorem dX12_line_81 : decode cX12_line 81 = .ok (.iload_n 1, 1) := by decide +kernel
theorem dX12_line_82 : decode cX12_line 82 = .ok (.iaload, 1) := by decide +kernel
theorem dX12_line_83 : decode cX12_line 83 = .ok (.ireturn, 1) := by decide +kernel
theorem dX12_line_84 : decode cX12_line 84 = .ok (.iload_n 1, 1) := by decide +kernel
theorem dX12_line_85 : decode cX12_line 85 = .ok (.aload_n 0, 1) := by decide +kernel
theorem dX12_line_86 : decode cX12_line 86 = .ok (.getfield 17, 3) := by decide +kernel
theorem dX12_line_89 : decode cX12_line 89 = .ok (.iconst 1, 1) := by decide +kernel
theorem dX12_line_90 : decode cX12_line 90 = .ok (.iaload, 1) := by decide +kernel
theorem dX12_line_91 : decode cX12_line 91 = .ok (.idiv, 1) := by decide +kernel
theorem dX12_line_92 : decode cX12_line 92 = .ok (.iconst 1, 1) := by decide +kernel
theorem dX12_line_93 : decode cX12_line 93 = .ok (.iadd, 1) := by decide +kernel
theorem dX12_line_94 : decode cX12_line 94 = .ok (.ireturn, 1) := by decide +kernel
theorem dX12_dotCount_0 : decode cX12_dotCount 0 = .ok (.aload_n 0, 1) := by decide +kernel
theorem dX12_dotCount_1 : decode cX12_dotCount 1 = .ok (.iload_n 1, 1) := by decide +kernel
theorem dX12_dotCount_2 : decode cX12_dotCount 2 = .ok (.invokevirtual 396, 3) := by decide +kernel
theorem dX12_dotCount_5 : decode cX12_dotCount 5 = .ok (.istore_n 2, 1) := by decide +kernel
theorem dX12_dotCount_6 : decode cX12_dotCount 6 = .ok (.aload_n 0, 1) := by decide +kernel
theorem dX12_dotCount_7 : decode cX12_dotCount 7 = .ok (.iload_n 2, 1) := by decide +kernel
theorem dX12_dotCount_8 : decode cX12_dotCount 8 = .ok (.iload_n 2, 1) := by decide +kernel
theorem dX12_dotCount_9 : decode cX12_dotCount 9 = .ok (.ifCond .eq 12, 3) := by decide +kernel
theorem dX12_dotCount_12 : decode cX12_dotCount 12 = .ok (.aload_n 0, 1) := by decide +kernel
theorem dX12_dotCount_13 : decode cX12_dotCount 13 = .ok (.getfield 67, 3) := by decide +kernel
theorem dX12_dotCount_16 : decode cX12_dotCount 16 = .ok (.iload_n 1, 1) := by decide +kernel
theorem dX12_dotCount_17 : decode cX12_dotCount 17 = .ok (.baload, 1) := by decide +kernel
theorem dX12_dotCount_18 : decode cX12_dotCount 18 = .ok (.ifCond .eq 7, 3) := by decide +kernel
theorem dX12_dotCount_21 : decode cX12_dotCount 21 = .ok (.iconst 1, 1) := by decide +kernel
theorem dX12_dotCount_22 : decode cX12_dotCount 22 = .ok (.goto 4, 3) := by decide +kernel
theorem dX12_dotCount_25 : decode cX12_dotCount 25 = .ok (.iconst 0, 1) := by decide +kernel
theorem dX12_dotCount_26 : decode cX12_dotCount 26 = .ok (.invokevirtual 377, 3) := by decide +kernel
theorem dX12_dotCount_29 : decode cX12_dotCount 29 = .ok (.ifCond .eq 12, 3) := by decide +kernel
theorem dX12_dotCount_32 : decode cX12_dotCount 32 = .ok (.aload_n 0, 1) := by decide +kernel
theorem dX12_dotCount_33 : decode cX12_dotCount 33 = .ok (.getfield 71, 3) := by decide +kernel
theorem dX12_dotCount_36 : decode cX12_dotCount 36 = .ok (.iload_n 1, 1) := by decide +kernel
theorem dX12_dotCount_37 : decode cX12_dotCount 37 = .ok (.iaload, 1) := by decide +kernel
theorem dX12_dotCount_38 : decode cX12_dotCount 38 = .ok (.goto 4, 3) := by decide +kernel
theorem dX12_dotCount_41 : decode cX12_dotCount 41 = .ok (.iconst 0, 1) := by decide +kernel
theorem dX12_dotCount_42 : decode cX12_dotCount 42 = .ok (.ireturn, 1) := by decide +kernel
theorem dX12_firstDot_0 : decode cX12_firstDot 0 = .ok (.aload_n 0, 1) := by decide +kernel
theorem dX12_firstDot_1 : decode cX12_firstDot 1 = .ok (.iload_n 1, 1) := by decide +kernel
theorem dX12_firstDot_2 : decode cX12_firstDot 2 = .ok (.invokevirtual 396, 3) := by decide +kernel
theorem dX12_firstDot_5 : decode cX12_firstDot 5 = .ok (.istore_n 2, 1) := by decide +kernel
theorem dX12_firstDot_6 : decode cX12_firstDot 6 = .ok (.aload_n 0, 1) := by decide +kernel
theorem dX12_firstDot_7 : decode cX12_firstDot 7 = .ok (.iload_n 2, 1) := by decide +kernel
theorem dX12_firstDot_8 : decode cX12_firstDot 8 = .ok (.iload_n 2, 1) := by decide +kernel
theorem dX12_firstDot_9 : decode cX12_firstDot 9 = .ok (.ifCond .eq 12, 3) := by decide +kernel
theorem dX12_firstDot_12 : decode cX12_firstDot 12 = .ok (.aload_n 0, 1) := by decide +kernel
theorem dX12_firstDot_13 : decode cX12_firstDot 13 = .ok (.getfield 67, 3) := by decide +kernel
theorem dX12_firstDot_16 : decode cX12_firstDot 16 = .ok (.iload_n 1, 1) := by decide +kernel
theorem dX12_firstDot_17 : decode cX12_firstDot 17 = .ok (.baload, 1) := by decide +kernel
theorem dX12_firstDot_18 : decode cX12_firstDot 18 = .ok (.ifCond .eq 7, 3) := by decide +kernel
theorem dX12_firstDot_21 : decode cX12_firstDot 21 = .ok (.iconst 1, 1) := by decide +kernel
theorem dX12_firstDot_22 : decode cX12_firstDot 22 = .ok (.goto 4, 3) := by decide +kernel
theorem dX12_firstDot_25 : decode cX12_firstDot 25 = .ok (.iconst 0, 1) := by decide +kernel
theorem dX12_firstDot_26 : decode cX12_firstDot 26 = .ok (.invokevirtual 377, 3) := by decide +kernel
theorem dX12_firstDot_29 : decode cX12_firstDot 29 = .ok (.ifCond .eq 12, 3) := by decide +kernel
theorem dX12_firstDot_32 : decode cX12_firstDot 32 = .ok (.aload_n 0, 1) := by decide +kernel
theorem dX12_firstDot_33 : decode cX12_firstDot 33 = .ok (.getfield 74, 3) := by decide +kernel
theorem dX12_firstDot_36 : decode cX12_firstDot 36 = .ok (.iload_n 1, 1) := by decide +kernel
theorem dX12_firstDot_37 : decode cX12_firstDot 37 = .ok (.iaload, 1) := by decide +kernel
theorem dX12_firstDot_38 : decode cX12_firstDot 38 = .ok (.goto 4, 3) := by decide +kernel
theorem dX12_firstDot_41 : decode cX12_firstDot 41 = .ok (.iconst 0, 1) := by decide +kernel
theorem dX12_firstDot_42 : decode cX12_firstDot 42 = .ok (.ireturn, 1) := by decide +kernel
theorem dX12_dotsAt_0 : decode cX12_dotsAt 0 = .ok (.aload_n 0, 1) := by decide +kernel
theorem dX12_dotsAt_1 : decode cX12_dotsAt 1 = .ok (.iload_n 1, 1) := by decide +kernel
theorem dX12_dotsAt_2 : decode cX12_dotsAt 2 = .ok (.ifCond .lt 7, 3) := by decide +kernel
theorem dX12_dotsAt_5 : decode cX12_dotsAt 5 = .ok (.iconst 1, 1) := by decide +kernel
theorem dX12_dotsAt_6 : decode cX12_dotsAt 6 = .ok (.goto 4, 3) := by decide +kernel
theorem dX12_dotsAt_9 : decode cX12_dotsAt 9 = .ok (.iconst 0, 1) := by decide +kernel
theorem dX12_dotsAt_10 : decode cX12_dotsAt 10 = .ok (.invokevirtual 114, 3) := by decide +kernel
theorem dX12_dotsAt_13 : decode cX12_dotsAt 13 = .ok (.ifCond .ne 5, 3) := by decide +kernel
theorem dX12_dotsAt_16 : decode cX12_dotsAt 16 = .ok (.iconst 0, 1) := by decide +kernel
theorem dX12_dotsAt_17 : decode cX12_dotsAt 17 = .ok (.ireturn, 1) := by decide +kernel
theorem dX12_dotsAt_18 : decode cX12_dotsAt 18 = .ok (.aload_n 0, 1) := by decide +kernel
theorem dX12_dotsAt_19 : decode cX12_dotsAt 19 = .ok (.invokevirtual 368, 3) := by decide +kernel
theorem dX12_dotsAt_22 : decode cX12_dotsAt 22 = .ok (.iconst 0, 1) := by decide +kernel
theorem dX12_dotsAt_23 : decode cX12_dotsAt 23 = .ok (.istore_n 2, 1) := by decide +kernel
theorem dX12_dotsAt_24 : decode cX12_dotsAt 24 = .ok (.iconst 0, 1) := by decide +kernel
theorem dX12_dotsAt_25 : decode cX12_dotsAt 25 = .ok (.istore_n 3, 1) := by decide +kernel
theorem dX12_dotsAt_26 : decode cX12_dotsAt 26 = .ok (.iload_n 3, 1) := by decide +kernel
theorem dX12_dotsAt_27 : decode cX12_dotsAt 27 = .ok (.aload_n 0, 1) := by decide +kernel
theorem dX12_dotsAt_28 : decode cX12_dotsAt 28 = .ok (.getfield 324, 3) := by decide +kernel
theorem dX12_dotsAt_31 : decode cX12_dotsAt 31 = .ok (.if_icmp .ge 85, 3) := by decide +kernel
theorem dX12_dotsAt_34 : decode cX12_dotsAt 34 = .ok (.aload_n 0, 1) := by decide +kernel
theorem dX12_dotsAt_35 : decode cX12_dotsAt 35 = .ok (.getfield 71, 3) := by decide +kernel
theorem dX12_dotsAt_38 : decode cX12_dotsAt 38 = .ok (.iload_n 3, 1) := by decide +kernel
theorem dX12_dotsAt_39 : decode cX12_dotsAt 39 = .ok (.iaload, 1) := by decide +kernel
theorem dX12_dotsAt_40 : decode cX12_dotsAt 40 = .ok (.ifCond .le 29, 3) := by decide +kernel
theorem dX12_dotsAt_43 : decode cX12_dotsAt 43 = .ok (.iload_n 1, 1) := by decide +kernel
theorem dX12_dotsAt_44 : decode cX12_dotsAt 44 = .ok (.aload_n 0, 1) := by decide +kernel
theorem dX12_dotsAt_45 : decode cX12_dotsAt 45 = .ok (.getfield 74, 3) := by decide +kernel
theorem dX12_dotsAt_48 : decode cX12_dotsAt 48 = .ok (.iload_n 3, 1) := by decide +kernel
theorem dX12_dotsAt_49 : decode cX12_dotsAt 49 = .ok (.iaload, 1) := by decide +kernel
theorem dX12_dotsAt_50 : decode cX12_dotsAt 50 = .ok (.if_icmp .lt 19, 3) := by decide +kernel
theorem dX12_dotsAt_53 : decode cX12_dotsAt 53 = .ok (.iload_n 1, 1) := by decide +kernel
theorem dX12_dotsAt_54 : decode cX12_dotsAt 54 = .ok (.aload_n 0, 1) := by decide +kernel
theorem dX12_dotsAt_55 : decode cX12_dotsAt 55 = .ok (.getfield 17, 3) := by decide +kernel
theorem dX12_dotsAt_58 : decode cX12_dotsAt 58 = .ok (.bipush 7, 2) := by decide +kernel
theorem dX12_dotsAt_60 : decode cX12_dotsAt 60 = .ok (.iaload, 1) := by decide +kernel
theorem dX12_dotsAt_61 : decode cX12_dotsAt 61 = .ok (.irem, 1) := by decide +kernel
theorem dX12_dotsAt_62 : decode cX12_dotsAt 62 = .ok (.ifCond .ne 7, 3) := by decide +kernel
theorem dX12_dotsAt_65 : decode cX12_dotsAt 65 = .ok (.iconst 1, 1) := by decide +kernel
theorem dX12_dotsAt_66 : decode cX12_dotsAt 66 = .ok (.goto 4, 3) := by decide +kernel
theorem dX12_dotsAt_69 : decode cX12_dotsAt 69 = .ok (.iconst 0, 1) := by decide +kernel
theorem dX12_dotsAt_70 : decode cX12_dotsAt 70 = .ok (.istore 4, 2) := by decide +kernel
theorem dX12_dotsAt_72 : decode cX12_dotsAt 72 = .ok (.iload_n 2, 1) := by decide +kernel
theorem dX12_dotsAt_73 : decode cX12_dotsAt 73 = .ok (.iload 4, 2) := by decide +kernel
theorem dX12_dotsAt_75 : decode cX12_dotsAt 75 = .ok (.ifCond .eq 32, 3) := by decide +kernel
theorem dX12_dotsAt_78 : decode cX12_dotsAt 78 = .ok (.iload_n 1, 1) := by decide +kernel
theorem dX12_dotsAt_79 : decode cX12_dotsAt 79 = .ok (.aload_n 0, 1) := by decide +kernel
theorem dX12_dotsAt_80 : decode cX12_dotsAt 80 = .ok (.getfield 74, 3) := by decide +kernel
theorem dX12_dotsAt_83 : decode cX12_dotsAt 83 = .ok (.iload_n 3, 1) := by decide +kernel
theorem dX12_dotsAt_84 : decode cX12_dotsAt 84 = .ok (.iaload, 1) := by decide +kernel
theorem dX12_dotsAt_85 : decode cX12_dotsAt 85 = .ok (.isub, 1) := by decide +kernel
theorem dX12_dotsAt_86 : decode cX12_dotsAt 86 = .ok (.aload_n 0, 1) := by decide +kernel
theorem dX12_dotsAt_87 : decode cX12_dotsAt 87 = .ok (.getfield 17, 3) := by decide +kernel
theorem dX12_dotsAt_90 : decode cX12_dotsAt 90 = .ok (.bipush 7, 2) := by decide +kernel
theorem dX12_dotsAt_92 : decode cX12_dotsAt 92 = .ok (.iaload, 1) := by decide +kernel
theorem dX12_dotsAt_93 : decode cX12_dotsAt 93 = .ok (.idiv, 1) := by decide +kernel
theorem dX12_dotsAt_94 : decode cX12_dotsAt 94 = .ok (.aload_n 0, 1) := by decide +kernel
theorem dX12_dotsAt_95 : decode cX12_dotsAt 95 = .ok (.getfield 71, 3) := by decide +kernel
theorem dX12_dotsAt_98 : decode cX12_dotsAt 98 = .ok (.iload_n 3, 1) := by decide +kernel
theorem dX12_dotsAt_99 : decode cX12_dotsAt 99 = .ok (.iaload, 1) := by decide +kernel
theorem dX12_dotsAt_100 : decode cX12_dotsAt 100 = .ok (.if_icmp .ge 7, 3) := by decide +kernel
theorem dX12_dotsAt_103 : decode cX12_dotsAt 103 = .ok (.iconst 1, 1) := by decide +kernel
theorem dX12_dotsAt_104 : decode cX12_dotsAt 104 = .ok (.goto 4, 3) := by decide +kernel
theorem dX12_dotsAt_107 : decode cX12_dotsAt 107 = .ok (.iconst 0, 1) := by decide +kernel
theorem dX12_dotsAt_108 : decode cX12_dotsAt 108 = .ok (.iadd, 1) := by decide +kernel
theorem dX12_dotsAt_109 : decode cX12_dotsAt 109 = .ok (.istore_n 2, 1) := by decide +kernel
theorem dX12_dotsAt_110 : decode cX12_dotsAt 110 = .ok (.iinc 3 1, 3) := by decide +kernel
theorem dX12_dotsAt_113 : decode cX12_dotsAt 113 = .ok (.goto (-87), 3) := by decide +kernel
theorem dX12_dotsAt_116 : decode cX12_dotsAt 116 = .ok (.iload_n 2, 1) := by decide +kernel
theorem dX12_dotsAt_117 : decode cX12_dotsAt 117 = .ok (.ireturn, 1) := by decide +kernel
theorem dX12_isOverfull_0 : decode cX12_isOverfull 0 = .ok (.aload_n 0, 1) := by decide +kernel
theorem dX12_isOverfull_1 : decode cX12_isOverfull 1 = .ok (.aload_n 0, 1) := by decide +kernel
theorem dX12_isOverfull_2 : decode cX12_isOverfull 2 = .ok (.iload_n 1, 1) := by decide +kernel
theorem dX12_isOverfull_3 : decode cX12_isOverfull 3 = .ok (.invokevirtual 396, 3) := by decide +kernel
theorem dX12_isOverfull_6 : decode cX12_isOverfull 6 = .ok (.invokevirtual 114, 3) := by decide +kernel
theorem dX12_isOverfull_9 : decode cX12_isOverfull 9 = .ok (.ifCond .eq 20, 3) := by decide +kernel
theorem dX12_isOverfull_12 : decode cX12_isOverfull 12 = .ok (.aload_n 0, 1) := by decide +kernel
theorem dX12_isOverfull_13 : decode cX12_isOverfull 13 = .ok (.getfield 64, 3) := by decide +kernel
theorem dX12_isOverfull_16 : decode cX12_isOverfull 16 = .ok (.iload_n 1, 1) := by decide +kernel
theorem dX12_isOverfull_17 : decode cX12_isOverfull 17 = .ok (.iaload, 1) := by decide +kernel
theorem dX12_isOverfull_18 : decode cX12_isOverfull 18 = .ok (.aload_n 0, 1) := by decide +kernel
theorem dX12_isOverfull_19 : decode cX12_isOverfull 19 = .ok (.getfield 336, 3) := by decide +kernel
theorem dX12_isOverfull_22 : decode cX12_isOverfull 22 = .ok (.if_icmp .le 7, 3) := by decide +kernel
theorem dX12_isOverfull_25 : decode cX12_isOverfull 25 = .ok (.iconst 1, 1) := by decide +kernel
theorem dX12_isOverfull_26 : decode cX12_isOverfull 26 = .ok (.goto 4, 3) := by decide +kernel
theorem dX12_isOverfull_29 : decode cX12_isOverfull 29 = .ok (.iconst 0, 1) := by decide +kernel
theorem dX12_isOverfull_30 : decode cX12_isOverfull 30 = .ok (.ireturn, 1) := by decide +kernel
theorem dX12_overfulls_0 : decode cX12_overfulls 0 = .ok (.iconst 0, 1) := by decide +kernel
theorem dX12_overfulls_1 : decode cX12_overfulls 1 = .ok (.istore_n 1, 1) := by decide +kernel
theorem dX12_overfulls_2 : decode cX12_overfulls 2 = .ok (.iconst 0, 1) := by decide +kernel
theorem dX12_overfulls_3 : decode cX12_overfulls 3 = .ok (.istore_n 2, 1) := by decide +kernel
theorem dX12_overfulls_4 : decode cX12_overfulls 4 = .ok (.iload_n 2, 1) := by decide +kernel
theorem dX12_overfulls_5 : decode cX12_overfulls 5 = .ok (.aload_n 0, 1) := by decide +kernel
theorem dX12_overfulls_6 : decode cX12_overfulls 6 = .ok (.getfield 324, 3) := by decide +kernel
theorem dX12_overfulls_9 : decode cX12_overfulls 9 = .ok (.if_icmp .ge 30, 3) := by decide +kernel
theorem dX12_overfulls_12 : decode cX12_overfulls 12 = .ok (.iload_n 1, 1) := by decide +kernel
theorem dX12_overfulls_13 : decode cX12_overfulls 13 = .ok (.aload_n 0, 1) := by decide +kernel
theorem dX12_overfulls_14 : decode cX12_overfulls 14 = .ok (.getfield 64, 3) := by decide +kernel
theorem dX12_overfulls_17 : decode cX12_overfulls 17 = .ok (.iload_n 2, 1) := by decide +kernel
theorem dX12_overfulls_18 : decode cX12_overfulls 18 = .ok (.iaload, 1) := by decide +kernel
theorem dX12_overfulls_19 : decode cX12_overfulls 19 = .ok (.aload_n 0, 1) := by decide +kernel
theorem dX12_overfulls_20 : decode cX12_overfulls 20 = .ok (.getfield 336, 3) := by decide +kernel
theorem dX12_overfulls_23 : decode cX12_overfulls 23 = .ok (.if_icmp .le 7, 3) := by decide +kernel
theorem dX12_overfulls_26 : decode cX12_overfulls 26 = .ok (.iconst 1, 1) := by decide +kernel
theorem dX12_overfulls_27 : decode cX12_overfulls 27 = .ok (.goto 4, 3) := by decide +kernel
theorem dX12_overfulls_30 : decode cX12_overfulls 30 = .ok (.iconst 0, 1) := by decide +kernel
theorem dX12_overfulls_31 : decode cX12_overfulls 31 = .ok (.iadd, 1) := by decide +kernel
theorem dX12_overfulls_32 : decode cX12_overfulls 32 = .ok (.istore_n 1, 1) := by decide +kernel
theorem dX12_overfulls_33 : decode cX12_overfulls 33 = .ok (.iinc 2 1, 3) := by decide +kernel
theorem dX12_overfulls_36 : decode cX12_overfulls 36 = .ok (.goto (-32), 3) := by decide +kernel
theorem dX12_overfulls_39 : decode cX12_overfulls 39 = .ok (.iload_n 1, 1) := by decide +kernel
theorem dX12_overfulls_40 : decode cX12_overfulls 40 = .ok (.ireturn, 1) := by decide +kernel
theorem dX12_overfullCount_0 : decode cX12_overfullCount 0 = .ok (.aload_n 0, 1) := by decide +kernel
theorem dX12_overfullCount_1 : decode cX12_overfullCount 1 = .ok (.iconst 0, 1) := by decide +kernel
theorem dX12_overfullCount_2 : decode cX12_overfullCount 2 = .ok (.putfield 3, 3) := by decide +kernel
theorem dX12_overfullCount_5 : decode cX12_overfullCount 5 = .ok (.aload_n 0, 1) := by decide +kernel
theorem dX12_overfullCount_6 : decode cX12_overfullCount 6 = .ok (.invokevirtual 368, 3) := by decide +kernel
theorem dX12_overfullCount_9 : decode cX12_overfullCount 9 = .ok (.aload_n 0, 1) := by decide +kernel
theorem dX12_overfullCount_10 : decode cX12_overfullCount 10 = .ok (.invokevirtual 401, 3) := by decide +kernel
theorem dX12_overfullCount_13 : decode cX12_overfullCount 13 = .ok (.ireturn, 1) := by decide +kernel
theorem dX12_rounds_0 : decode cX12_rounds 0 = .ok (.aload_n 0, 1) := by decide +kernel
theorem dX12_rounds_1 : decode cX12_rounds 1 = .ok (.iconst 0, 1) := by decide +kernel
theorem dX12_rounds_2 : decode cX12_rounds 2 = .ok (.putfield 3, 3) := by decide +kernel
theorem dX12_rounds_5 : decode cX12_rounds 5 = .ok (.aload_n 0, 1) := by decide +kernel
theorem dX12_rounds_6 : decode cX12_rounds 6 = .ok (.invokevirtual 368, 3) := by decide +kernel
theorem dX12_rounds_9 : decode cX12_rounds 9 = .ok (.aload_n 0, 1) := by decide +kernel
theorem dX12_rounds_10 : decode cX12_rounds 10 = .ok (.getfield 357, 3) := by decide +kernel
theorem dX12_rounds_13 : decode cX12_rounds 13 = .ok (.ireturn, 1) := by decide +kernel
theorem dX12_layFigures_0 : decode cX12_layFigures 0 = .ok (.iconst 0, 1) := by decide +kernel
theorem dX12_layFigures_1 : decode cX12_layFigures 1 = .ok (.istore 4, 2) := by decide +kernel
theorem dX12_layFigures_3 : decode cX12_layFigures 3 = .ok (.iload 4, 2) := by decide +kernel
theorem dX12_layFigures_5 : decode cX12_layFigures 5 = .ok (.bipush 32, 2) := by decide +kernel
theorem dX12_layFigures_7 : decode cX12_layFigures 7 = .ok (.if_icmp .ge 14, 3) := by decide +kernel
theorem dX12_layFigures_10 : decode cX12_layFigures 10 = .ok (.aload_n 2, 1) := by decide +kernel
theorem dX12_layFigures_11 : decode cX12_layFigures 11 = .ok (.iload 4, 2) := by decide +kernel
theorem dX12_layFigures_13 : decode cX12_layFigures 13 = .ok (.iconst 0, 1) := by decide +kernel
theorem dX12_layFigures_14 : decode cX12_layFigures 14 = .ok (.iastore, 1) := by decide +kernel
theorem dX12_layFigures_15 : decode cX12_layFigures 15 = .ok (.iinc 4 1, 3) := by decide +kernel
theorem dX12_layFigures_18 : decode cX12_layFigures 18 = .ok (.goto (-15), 3) := by decide +kernel
theorem dX12_layFigures_21 : decode cX12_layFigures 21 = .ok (.aload_n 0, 1) := by decide +kernel
theorem dX12_layFigures_22 : decode cX12_layFigures 22 = .ok (.iconst 0, 1) := by decide +kernel
theorem dX12_layFigures_23 : decode cX12_layFigures 23 = .ok (.putfield 264, 3) := by decide +kernel
theorem dX12_layFigures_26 : decode cX12_layFigures 26 = .ok (.aload_n 0, 1) := by decide +kernel
theorem dX12_layFigures_27 : decode cX12_layFigures 27 = .ok (.aload_n 0, 1) := by decide +kernel
theorem dX12_layFigures_28 : decode cX12_layFigures 28 = .ok (.getfield 46, 3) := by decide +kernel
theorem dX12_layFigures_31 : decode cX12_layFigures 31 = .ok (.iload_n 1, 1) := by decide +kernel
theorem dX12_layFigures_32 : decode cX12_layFigures 32 = .ok (.iaload, 1) := by decide +kernel
theorem dX12_layFigures_33 : decode cX12_layFigures 33 = .ok (.invokevirtual 284, 3) := by decide +kernel
theorem dX12_layFigures_36 : decode cX12_layFigures 36 = .ok (.iconst 0, 1) := by decide +kernel
theorem dX12_layFigures_37 : decode cX12_layFigures 37 = .ok (.istore 4, 2) := by decide +kernel
theorem dX12_layFigures_39 : decode cX12_layFigures 39 = .ok (.aload_n 0, 1) := by decide +kernel
theorem dX12_layFigures_40 : decode cX12_layFigures 40 = .ok (.getfield 264, 3) := by decide +kernel
theorem dX12_layFigures_43 : decode cX12_layFigures 43 = .ok (.iconst 1, 1) := by decide +kernel
theorem dX12_layFigures_44 : decode cX12_layFigures 44 = .ok (.isub, 1) := by decide +kernel
theorem dX12_layFigures_45 : decode cX12_layFigures 45 = .ok (.istore 5, 2) := by decide +kernel
theorem dX12_layFigures_47 : decode cX12_layFigures 47 = .ok (.iload 5, 2) := by decide +kernel
theorem dX12_layFigures_49 : decode cX12_layFigures 49 = .ok (.ifCond .lt 122, 3) := by decide +kernel
theorem dX12_layFigures_52 : decode cX12_layFigures 52 = .ok (.aload_n 0, 1) := by decide +kernel
theorem dX12_layFigures_53 : decode cX12_layFigures 53 = .ok (.getfield 34, 3) := by decide +kernel
theorem dX12_layFigures_56 : decode cX12_layFigures 56 = .ok (.iload 5, 2) := by decide +kernel
theorem dX12_layFigures_58 : decode cX12_layFigures 58 = .ok (.baload, 1) := by decide +kernel
theorem dX12_layFigures_59 : decode cX12_layFigures 59 = .ok (.istore 6, 2) := by decide +kernel
theorem dX12_layFigures_61 : decode cX12_layFigures 61 = .ok (.iload_n 3, 1) := by decide +kernel
theorem dX12_layFigures_62 : decode cX12_layFigures 62 = .ok (.ifCond .eq 25, 3) := by decide +kernel
theorem dX12_layFigures_65 : decode cX12_layFigures 65 = .ok (.iload 6, 2) := by decide +kernel
theorem dX12_layFigures_67 : decode cX12_layFigures 67 = .ok (.bipush 54, 2) := by decide +kernel
theorem dX12_layFigures_69 : decode cX12_layFigures 69 = .ok (.if_icmp .eq 10, 3) := by decide +kernel
theorem dX12_layFigures_72 : decode cX12_layFigures 72 = .ok (.iload 6, 2) := by decide +kernel
theorem dX12_layFigures_74 : decode cX12_layFigures 74 = .ok (.bipush 56, 2) := by decide +kernel
theorem dX12_layFigures_76 : decode cX12_layFigures 76 = .ok (.if_icmp .ne 7, 3) := by decide +kernel
theorem dX12_layFigures_79 : decode cX12_layFigures 79 = .ok (.iconst 1, 1) := by decide +kernel
theorem dX12_layFigures_80 : decode cX12_layFigures 80 = .ok (.goto 47, 3) := by decide +kernel
theorem dX12_layFigures_83 : decode cX12_layFigures 83 = .ok (.iconst 0, 1) := by decide +kernel
theorem dX12_layFigures_84 : decode cX12_layFigures 84 = .ok (.goto 43, 3) := by decide +kernel
theorem dX12_layFigures_87 : decode cX12_layFigures 87 = .ok (.iload 6, 2) := by decide +kernel
theorem dX12_layFigures_89 : decode cX12_layFigures 89 = .ok (.bipush 51, 2) := by decide +kernel
theorem dX12_layFigures_91 : decode cX12_layFigures 91 = .ok (.if_icmp .eq 31, 3) := by decide +kernel
theorem dX12_layFigures_94 : decode cX12_layFigures 94 = .ok (.iload 6, 2) := by decide +kernel
theorem dX12_layFigures_96 : decode cX12_layFigures 96 = .ok (.bipush 52, 2) := by decide +kernel
theorem dX12_layFigures_98 : decode cX12_layFigures 98 = .ok (.if_icmp .eq 24, 3) := by decide +kernel
theorem dX12_layFigures_101 : decode cX12_layFigures 101 = .ok (.iload 6, 2) := by decide +kernel
theorem dX12_layFigures_103 : decode cX12_layFigures 103 = .ok (.bipush 53, 2) := by decide +kernel
theorem dX12_layFigures_105 : decode cX12_layFigures 105 = .ok (.if_icmp .eq 17, 3) := by decide +kernel
theorem dX12_layFigures_108 : decode cX12_layFigures 108 = .ok (.iload 6, 2) := by decide +kernel
theorem dX12_layFigures_110 : decode cX12_layFigures 110 = .ok (.bipush 55, 2) := by decide +kernel
theorem dX12_layFigures_112 : decode cX12_layFigures 112 = .ok (.if_icmp .eq 10, 3) := by decide +kernel
theorem dX12_layFigures_115 : decode cX12_layFigures 115 = .ok (.iload 6, 2) := by decide +kernel
theorem dX12_layFigures_117 : decode cX12_layFigures 117 = .ok (.bipush 57, 2) := by decide +kernel
theorem dX12_layFigures_119 : decode cX12_layFigures 119 = .ok (.if_icmp .ne 7, 3) := by decide +kernel
theorem dX12_layFigures_122 : decode cX12_layFigures 122 = .ok (.iconst 1, 1) := by decide +kernel
theorem dX12_layFigures_123 : decode cX12_layFigures 123 = .ok (.goto 4, 3) := by decide +kernel
theorem dX12_layFigures_126 : decode cX12_layFigures 126 = .ok (.iconst 0, 1) := by decide +kernel
theorem dX12_layFigures_127 : decode cX12_layFigures 127 = .ok (.istore 7, 2) := by decide +kernel
theorem dX12_layFigures_129 : decode cX12_layFigures 129 = .ok (.iconst 0, 1) := by decide +kernel
theorem dX12_layFigures_130 : decode cX12_layFigures 130 = .ok (.istore 8, 2) := by decide +kernel
theorem dX12_layFigures_132 : decode cX12_layFigures 132 = .ok (.iload 8, 2) := by decide +kernel
theorem dX12_layFigures_134 : decode cX12_layFigures 134 = .ok (.iload 6, 2) := by decide +kernel
theorem dX12_layFigures_136 : decode cX12_layFigures 136 = .ok (.invokestatic 278, 3) := by decide +kernel
theorem dX12_layFigures_139 : decode cX12_layFigures 139 = .ok (.if_icmp .ge 26, 3) := by decide +kernel
theorem dX12_layFigures_142 : decode cX12_layFigures 142 = .ok (.aload_n 2, 1) := by decide +kernel
theorem dX12_layFigures_143 : decode cX12_layFigures 143 = .ok (.iload 4, 2) := by decide +kernel
theorem dX12_layFigures_145 : decode cX12_layFigures 145 = .ok (.iload 7, 2) := by decide +kernel
theorem dX12_layFigures_147 : decode cX12_layFigures 147 = .ok (.ifCond .eq 7, 3) := by decide +kernel
theorem dX12_layFigures_150 : decode cX12_layFigures 150 = .ok (.iconst 1, 1) := by decide +kernel
theorem dX12_layFigures_151 : decode cX12_layFigures 151 = .ok (.goto 4, 3) := by decide +kernel
theorem dX12_layFigures_154 : decode cX12_layFigures 154 = .ok (.iconst 0, 1) := by decide +kernel
theorem dX12_layFigures_155 : decode cX12_layFigures 155 = .ok (.iastore, 1) := by decide +kernel
theorem dX12_layFigures_156 : decode cX12_layFigures 156 = .ok (.iinc 4 1, 3) := by decide +kernel
theorem dX12_layFigures_159 : decode cX12_layFigures 159 = .ok (.iinc 8 1, 3) := by decide +kernel
theorem dX12_layFigures_162 : decode cX12_layFigures 162 = .ok (.goto (-30), 3) := by decide +kernel
theorem dX12_layFigures_165 : decode cX12_layFigures 165 = .ok (.iinc 5 (-1), 3) := by decide +kernel
theorem dX12_layFigures_168 : decode cX12_layFigures 168 = .ok (.goto (-121), 3) := by decide +kernel
theorem dX12_layFigures_171 : decode cX12_layFigures 171 = .ok (.return_, 1) := by decide +kernel
theorem dX12_collide_0 : decode cX12_collide 0 = .ok (.iload_n 1, 1) := by decide +kernel
theorem dX12_collide_1 : decode cX12_collide 1 = .ok (.iconst 1, 1) := by decide +kernel
theorem dX12_collide_2 : decode cX12_collide 2 = .ok (.iadd, 1) := by decide +kernel
theorem dX12_collide_3 : decode cX12_collide 3 = .ok (.aload_n 0, 1) := by decide +kernel
theorem dX12_collide_4 : decode cX12_collide 4 = .ok (.getfield 324, 3) := by decide +kernel
theorem dX12_collide_7 : decode cX12_collide 7 = .ok (.if_icmp .ge 44, 3) := by decide +kernel
theorem dX12_collide_10 : decode cX12_collide 10 = .ok (.iload_n 1, 1) := by decide +kernel
theorem dX12_collide_11 : decode cX12_collide 11 = .ok (.aload_n 0, 1) := by decide +kernel
theorem dX12_collide_12 : decode cX12_collide 12 = .ok (.getfield 17, 3) := by decide +kernel
theorem dX12_collide_15 : decode cX12_collide 15 = .ok (.iconst 1, 1) := by decide +kernel
theorem dX12_collide_16 : decode cX12_collide 16 = .ok (.iaload, 1) := by decide +kernel
theorem dX12_collide_17 : decode cX12_collide 17 = .ok (.idiv, 1) := by decide +kernel
theorem dX12_collide_18 : decode cX12_collide 18 = .ok (.iload_n 1, 1) := by decide +kernel
theorem dX12_collide_19 : decode cX12_collide 19 = .ok (.iconst 1, 1) := by decide +kernel
theorem dX12_collide_20 : decode cX12_collide 20 = .ok (.iadd, 1) := by decide +kernel
theorem dX12_collide_21 : decode cX12_collide 21 = .ok (.aload_n 0, 1) := by decide +kernel
theorem dX12_collide_22 : decode cX12_collide 22 = .ok (.getfield 17, 3) := by decide +kernel
theorem dX12_collide_25 : decode cX12_collide 25 = .ok (.iconst 1, 1) := by decide +kernel
theorem dX12_collide_26 : decode cX12_collide 26 = .ok (.iaload, 1) := by decide +kernel
theorem dX12_collide_27 : decode cX12_collide 27 = .ok (.idiv, 1) := by decide +kernel
theorem dX12_collide_28 : decode cX12_collide 28 = .ok (.if_icmp .ne 23, 3) := by decide +kernel
theorem dX12_collide_31 : decode cX12_collide 31 = .ok (.aload_n 0, 1) := by decide +kernel
theorem dX12_collide_32 : decode cX12_collide 32 = .ok (.getfield 67, 3) := by decide +kernel
theorem dX12_collide_35 : decode cX12_collide 35 = .ok (.iload_n 1, 1) := by decide +kernel
theorem dX12_collide_36 : decode cX12_collide 36 = .ok (.baload, 1) := by decide +kernel
theorem dX12_collide_37 : decode cX12_collide 37 = .ok (.ifCond .eq 14, 3) := by decide +kernel
theorem dX12_collide_40 : decode cX12_collide 40 = .ok (.aload_n 0, 1) := by decide +kernel
theorem dX12_collide_41 : decode cX12_collide 41 = .ok (.getfield 67, 3) := by decide +kernel
theorem dX12_collide_44 : decode cX12_collide 44 = .ok (.iload_n 1, 1) := by decide +kernel
theorem dX12_collide_45 : decode cX12_collide 45 = .ok (.iconst 1, 1) := by decide +kernel
theorem dX12_collide_46 : decode cX12_collide 46 = .ok (.iadd, 1) := by decide +kernel
theorem dX12_collide_47 : decode cX12_collide 47 = .ok (.baload, 1) := by decide +kernel
theorem dX12_collide_48 : decode cX12_collide 48 = .ok (.ifCond .ne 5, 3) := by decide +kernel
theorem dX12_collide_51 : decode cX12_collide 51 = .ok (.iconst 0, 1) := by decide +kernel
theorem dX12_collide_52 : decode cX12_collide 52 = .ok (.ireturn, 1) := by decide +kernel
theorem dX12_collide_53 : decode cX12_collide 53 = .ok (.aload_n 0, 1) := by decide +kernel
theorem dX12_collide_54 : decode cX12_collide 54 = .ok (.getfield 52, 3) := by decide +kernel
theorem dX12_collide_57 : decode cX12_collide 57 = .ok (.iload_n 1, 1) := by decide +kernel
theorem dX12_collide_58 : decode cX12_collide 58 = .ok (.iaload, 1) := by decide +kernel
theorem dX12_collide_59 : decode cX12_collide 59 = .ok (.istore_n 2, 1) := by decide +kernel
theorem dX12_collide_60 : decode cX12_collide 60 = .ok (.aload_n 0, 1) := by decide +kernel
theorem dX12_collide_61 : decode cX12_collide 61 = .ok (.getfield 52, 3) := by decide +kernel
theorem dX12_collide_64 : decode cX12_collide 64 = .ok (.iload_n 1, 1) := by decide +kernel
theorem dX12_collide_65 : decode cX12_collide 65 = .ok (.iconst 1, 1) := by decide +kernel
theorem dX12_collide_66 : decode cX12_collide 66 = .ok (.iadd, 1) := by decide +kernel
theorem dX12_collide_67 : decode cX12_collide 67 = .ok (.iaload, 1) := by decide +kernel
theorem dX12_collide_68 : decode cX12_collide 68 = .ok (.istore_n 3, 1) := by decide +kernel
theorem dX12_collide_69 : decode cX12_collide 69 = .ok (.aload_n 0, 1) := by decide +kernel
theorem dX12_collide_70 : decode cX12_collide 70 = .ok (.iload_n 2, 1) := by decide +kernel
theorem dX12_collide_71 : decode cX12_collide 71 = .ok (.iconst 2, 1) := by decide +kernel
theorem dX12_collide_72 : decode cX12_collide 72 = .ok (.invokevirtual 107, 3) := by decide +kernel
theorem dX12_collide_75 : decode cX12_collide 75 = .ok (.ifCond .eq 12, 3) := by decide +kernel
theorem dX12_collide_78 : decode cX12_collide 78 = .ok (.aload_n 0, 1) := by decide +kernel
theorem dX12_collide_79 : decode cX12_collide 79 = .ok (.iload_n 3, 1) := by decide +kernel
theorem dX12_collide_80 : decode cX12_collide 80 = .ok (.iconst 2, 1) := by decide +kernel
theorem dX12_collide_81 : decode cX12_collide 81 = .ok (.invokevirtual 107, 3) := by decide +kernel
theorem dX12_collide_84 : decode cX12_collide 84 = .ok (.ifCond .ne 5, 3) := by decide +kernel
theorem dX12_collide_87 : decode cX12_collide 87 = .ok (.iconst 0, 1) := by decide +kernel
theorem dX12_collide_88 : decode cX12_collide 88 = .ok (.ireturn, 1) := by decide +kernel
theorem dX12_collide_89 : decode cX12_collide 89 = .ok (.aload_n 0, 1) := by decide +kernel
theorem dX12_collide_90 : decode cX12_collide 90 = .ok (.iload_n 2, 1) := by decide +kernel
theorem dX12_collide_91 : decode cX12_collide 91 = .ok (.aload_n 0, 1) := by decide +kernel
theorem dX12_collide_92 : decode cX12_collide 92 = .ok (.getfield 83, 3) := by decide +kernel
theorem dX12_collide_95 : decode cX12_collide 95 = .ok (.iconst 0, 1) := by decide +kernel
theorem dX12_collide_96 : decode cX12_collide 96 = .ok (.invokevirtual 404, 3) := by decide +kernel
theorem dX12_collide_99 : decode cX12_collide 99 = .ok (.aload_n 0, 1) := by decide +kernel
theorem dX12_collide_100 : decode cX12_collide 100 = .ok (.iload_n 3, 1) := by decide +kernel
theorem dX12_collide_101 : decode cX12_collide 101 = .ok (.aload_n 0, 1) := by decide +kernel
theorem dX12_collide_102 : decode cX12_collide 102 = .ok (.getfield 80, 3) := by decide +kernel
theorem dX12_collide_105 : decode cX12_collide 105 = .ok (.iconst 1, 1) := by decide +kernel
theorem dX12_collide_106 : decode cX12_collide 106 = .ok (.invokevirtual 404, 3) := by decide +kernel
theorem dX12_collide_109 : decode cX12_collide 109 = .ok (.iconst 0, 1) := by decide +kernel
theorem dX12_collide_110 : decode cX12_collide 110 = .ok (.istore 4, 2) := by decide +kernel
theorem dX12_collide_112 : decode cX12_collide 112 = .ok (.iconst 0, 1) := by decide +kernel
theorem dX12_collide_113 : decode cX12_collide 113 = .ok (.istore 5, 2) := by decide +kernel
theorem dX12_collide_115 : decode cX12_collide 115 = .ok (.iload 5, 2) := by decide +kernel
theorem dX12_collide_117 : decode cX12_collide 117 = .ok (.bipush 32, 2) := by decide +kernel
theorem dX12_collide_119 : decode cX12_collide 119 = .ok (.if_icmp .ge 40, 3) := by decide +kernel
theorem dX12_collide_122 : decode cX12_collide 122 = .ok (.iload 4, 2) := by decide +kernel
theorem dX12_collide_124 : decode cX12_collide 124 = .ok (.ifCond .ne 22, 3) := by decide +kernel
theorem dX12_collide_127 : decode cX12_collide 127 = .ok (.aload_n 0, 1) := by decide +kernel
theorem dX12_collide_128 : decode cX12_collide 128 = .ok (.getfield 83, 3) := by decide +kernel
theorem dX12_collide_131 : decode cX12_collide 131 = .ok (.iload 5, 2) := by decide +kernel
theorem dX12_collide_133 : decode cX12_collide 133 = .ok (.iaload, 1) := by decide +kernel
theorem dX12_collide_134 : decode cX12_collide 134 = .ok (.aload_n 0, 1) := by decide +kernel
theorem dX12_collide_135 : decode cX12_collide 135 = .ok (.getfield 80, 3) := by decide +kernel
theorem dX12_collide_138 : decode cX12_collide 138 = .ok (.iload 5, 2) := by decide +kernel
theorem dX12_collide_140 : decode cX12_collide 140 = .ok (.iaload, 1) := by decide +kernel
theorem dX12_collide_141 : decode cX12_collide 141 = .ok (.iadd, 1) := by decide +kernel
theorem dX12_collide_142 : decode cX12_collide 142 = .ok (.iconst 2, 1) := by decide +kernel
theorem dX12_collide_143 : decode cX12_collide 143 = .ok (.if_icmp .ne 7, 3) := by decide +kernel
theorem dX12_collide_146 : decode cX12_collide 146 = .ok (.iconst 1, 1) := by decide +kernel
theorem dX12_collide_147 : decode cX12_collide 147 = .ok (.goto 4, 3) := by decide +kernel
theorem dX12_collide_150 : decode cX12_collide 150 = .ok (.iconst 0, 1) := by decide +kernel
theorem dX12_collide_151 : decode cX12_collide 151 = .ok (.istore 4, 2) := by decide +kernel
theorem dX12_collide_153 : decode cX12_collide 153 = .ok (.iinc 5 1, 3) := by decide +kernel
theorem dX12_collide_156 : decode cX12_collide 156 = .ok (.goto (-41), 3) := by decide +kernel
theorem dX12_collide_159 : decode cX12_collide 159 = .ok (.iload 4, 2) := by decide +kernel
theorem dX12_collide_161 : decode cX12_collide 161 = .ok (.ireturn, 1) := by decide +kernel
theorem dX12_collides_0 : decode cX12_collides 0 = .ok (.aload_n 0, 1) := by decide +kernel
theorem dX12_collides_1 : decode cX12_collides 1 = .ok (.aload_n 0, 1) := by decide +kernel
theorem dX12_collides_2 : decode cX12_collides 2 = .ok (.iload_n 1, 1) := by decide +kernel
theorem dX12_collides_3 : decode cX12_collides 3 = .ok (.invokevirtual 396, 3) := by decide +kernel
theorem dX12_collides_6 : decode cX12_collides 6 = .ok (.invokevirtual 114, 3) := by decide +kernel
theorem dX12_collides_9 : decode cX12_collides 9 = .ok (.ifCond .eq 15, 3) := by decide +kernel
theorem dX12_collides_12 : decode cX12_collides 12 = .ok (.aload_n 0, 1) := by decide +kernel
theorem dX12_collides_13 : decode cX12_collides 13 = .ok (.iload_n 1, 1) := by decide +kernel
theorem dX12_collides_14 : decode cX12_collides 14 = .ok (.invokevirtual 408, 3) := by decide +kernel
theorem dX12_collides_17 : decode cX12_collides 17 = .ok (.ifCond .eq 7, 3) := by decide +kernel
theorem dX12_collides_20 : decode cX12_collides 20 = .ok (.iconst 1, 1) := by decide +kernel
theorem dX12_collides_21 : decode cX12_collides 21 = .ok (.goto 4, 3) := by decide +kernel
theorem dX12_collides_24 : decode cX12_collides 24 = .ok (.iconst 0, 1) := by decide +kernel
theorem dX12_collides_25 : decode cX12_collides 25 = .ok (.ireturn, 1) := by decide +kernel
theorem dX12_collisions_0 : decode cX12_collisions 0 = .ok (.aload_n 0, 1) := by decide +kernel
theorem dX12_collisions_1 : decode cX12_collisions 1 = .ok (.iconst 0, 1) := by decide +kernel
theorem dX12_collisions_2 : decode cX12_collisions 2 = .ok (.putfield 3, 3) := by decide +kernel
theorem dX12_collisions_5 : decode cX12_collisions 5 = .ok (.aload_n 0, 1) := by decide +kernel
theorem dX12_collisions_6 : decode cX12_collisions 6 = .ok (.invokevirtual 368, 3) := by decide +kernel
theorem dX12_collisions_9 : decode cX12_collisions 9 = .ok (.iconst 0, 1) := by decide +kernel
theorem dX12_collisions_10 : decode cX12_collisions 10 = .ok (.istore_n 1, 1) := by decide +kernel
theorem dX12_collisions_11 : decode cX12_collisions 11 = .ok (.iconst 0, 1) := by decide +kernel
theorem dX12_collisions_12 : decode cX12_collisions 12 = .ok (.istore_n 2, 1) := by decide +kernel
theorem dX12_collisions_13 : decode cX12_collisions 13 = .ok (.iload_n 2, 1) := by decide +kernel
theorem dX12_collisions_14 : decode cX12_collisions 14 = .ok (.aload_n 0, 1) := by decide +kernel
theorem dX12_collisions_15 : decode cX12_collisions 15 = .ok (.getfield 324, 3) := by decide +kernel
theorem dX12_collisions_18 : decode cX12_collisions 18 = .ok (.if_icmp .ge 25, 3) := by decide +kernel
theorem dX12_collisions_21 : decode cX12_collisions 21 = .ok (.iload_n 1, 1) := by decide +kernel
theorem dX12_collisions_22 : decode cX12_collisions 22 = .ok (.aload_n 0, 1) := by decide +kernel
theorem dX12_collisions_23 : decode cX12_collisions 23 = .ok (.iload_n 2, 1) := by decide +kernel
theorem dX12_collisions_24 : decode cX12_collisions 24 = .ok (.invokevirtual 408, 3) := by decide +kernel
theorem dX12_collisions_27 : decode cX12_collisions 27 = .ok (.ifCond .eq 7, 3) := by decide +kernel
theorem dX12_collisions_30 : decode cX12_collisions 30 = .ok (.iconst 1, 1) := by decide +kernel
theorem dX12_collisions_31 : decode cX12_collisions 31 = .ok (.goto 4, 3) := by decide +kernel
theorem dX12_collisions_34 : decode cX12_collisions 34 = .ok (.iconst 0, 1) := by decide +kernel
theorem dX12_collisions_35 : decode cX12_collisions 35 = .ok (.iadd, 1) := by decide +kernel
theorem dX12_collisions_36 : decode cX12_collisions 36 = .ok (.istore_n 1, 1) := by decide +kernel
theorem dX12_collisions_37 : decode cX12_collisions 37 = .ok (.iinc 2 1, 3) := by decide +kernel
theorem dX12_collisions_40 : decode cX12_collisions 40 = .ok (.goto (-27), 3) := by decide +kernel
theorem dX12_collisions_43 : decode cX12_collisions 43 = .ok (.iload_n 1, 1) := by decide +kernel
theorem dX12_collisions_44 : decode cX12_collisions 44 = .ok (.ireturn, 1) := by decide +kernel
theorem dX12_compare_0 : decode cX12_compare 0 = .ok (.iconst 0, 1) := by decide +kernel
theorem dX12_compare_1 : decode cX12_compare 1 = .ok (.istore 5, 2) := by decide +kernel
theorem dX12_compare_3 : decode cX12_compare 3 = .ok (.iload 5, 2) := by decide +kernel
theorem dX12_compare_5 : decode cX12_compare 5 = .ok (.bipush 12, 2) := by decide +kernel
theorem dX12_compare_7 : decode cX12_compare 7 = .ok (.if_icmp .ge 48, 3) := by decide +kernel
theorem dX12_compare_10 : decode cX12_compare 10 = .ok (.aload_n 0, 1) := by decide +kernel
theorem dX12_compare_11 : decode cX12_compare 11 = .ok (.iload_n 1, 1) := by decide +kernel
theorem dX12_compare_12 : decode cX12_compare 12 = .ok (.iload_n 2, 1) := by decide +kernel
theorem dX12_compare_13 : decode cX12_compare 13 = .ok (.iload 5, 2) := by decide +kernel
theorem dX12_compare_15 : decode cX12_compare 15 = .ok (.invokevirtual 270, 3) := by decide +kernel
theorem dX12_compare_18 : decode cX12_compare 18 = .ok (.aload_n 0, 1) := by decide +kernel
theorem dX12_compare_19 : decode cX12_compare 19 = .ok (.iload_n 3, 1) := by decide +kernel
theorem dX12_compare_20 : decode cX12_compare 20 = .ok (.iload 4, 2) := by decide +kernel
theorem dX12_compare_22 : decode cX12_compare 22 = .ok (.iload 5, 2) := by decide +kernel
theorem dX12_compare_24 : decode cX12_compare 24 = .ok (.invokevirtual 270, 3) := by decide +kernel
theorem dX12_compare_27 : decode cX12_compare 27 = .ok (.if_icmp .eq 22, 3) := by decide +kernel
theorem dX12_compare_30 : decode cX12_compare 30 = .ok (.aload_n 0, 1) := by decide +kernel
theorem dX12_compare_31 : decode cX12_compare 31 = .ok (.iload_n 1, 1) := by decide +kernel
theorem dX12_compare_32 : decode cX12_compare 32 = .ok (.iload_n 2, 1) := by decide +kernel
theorem dX12_compare_33 : decode cX12_compare 33 = .ok (.iload 5, 2) := by decide +kernel
theorem dX12_compare_35 : decode cX12_compare 35 = .ok (.invokevirtual 270, 3) := by decide +kernel
theorem dX12_compare_38 : decode cX12_compare 38 = .ok (.aload_n 0, 1) := by decide +kernel
theorem dX12_compare_39 : decode cX12_compare 39 = .ok (.iload_n 3, 1) := by decide +kernel
theorem dX12_compare_40 : decode cX12_compare 40 = .ok (.iload 4, 2) := by decide +kernel
theorem dX12_compare_42 : decode cX12_compare 42 = .ok (.iload 5, 2) := by decide +kernel
theorem dX12_compare_44 : decode cX12_compare 44 = .ok (.invokevirtual 270, 3) := by decide +kernel
theorem dX12_compare_47 : decode cX12_compare 47 = .ok (.isub, 1) := by decide +kernel
theorem dX12_compare_48 : decode cX12_compare 48 = .ok (.ireturn, 1) := by decide +kernel
theorem dX12_compare_49 : decode cX12_compare 49 = .ok (.iinc 5 1, 3) := by decide +kernel
theorem dX12_compare_52 : decode cX12_compare 52 = .ok (.goto (-49), 3) := by decide +kernel
theorem dX12_compare_55 : decode cX12_compare 55 = .ok (.iconst 0, 1) := by decide +kernel
theorem dX12_compare_56 : decode cX12_compare 56 = .ok (.ireturn, 1) := by decide +kernel
theorem dX12_compareTo_0 : decode cX12_compareTo 0 = .ok (.aload_n 0, 1) := by decide +kernel
theorem dX12_compareTo_1 : decode cX12_compareTo 1 = .ok (.iload_n 1, 1) := by decide +kernel
theorem dX12_compareTo_2 : decode cX12_compareTo 2 = .ok (.iload_n 2, 1) := by decide +kernel
theorem dX12_compareTo_3 : decode cX12_compareTo 3 = .ok (.aload_n 0, 1) := by decide +kernel
theorem dX12_compareTo_4 : decode cX12_compareTo 4 = .ok (.getfield 86, 3) := by decide +kernel
theorem dX12_compareTo_7 : decode cX12_compareTo 7 = .ok (.iload_n 3, 1) := by decide +kernel
theorem dX12_compareTo_8 : decode cX12_compareTo 8 = .ok (.iaload, 1) := by decide +kernel
theorem dX12_compareTo_9 : decode cX12_compareTo 9 = .ok (.bipush 8, 2) := by decide +kernel
theorem dX12_compareTo_11 : decode cX12_compareTo 11 = .ok (.idiv, 1) := by decide +kernel
theorem dX12_compareTo_12 : decode cX12_compareTo 12 = .ok (.aload_n 0, 1) := by decide +kernel
theorem dX12_compareTo_13 : decode cX12_compareTo 13 = .ok (.getfield 86, 3) := by decide +kernel
theorem dX12_compareTo_16 : decode cX12_compareTo 16 = .ok (.iload_n 3, 1) := by decide +kernel
theorem dX12_compareTo_17 : decode cX12_compareTo 17 = .ok (.iaload, 1) := by decide +kernel
theorem dX12_compareTo_18 : decode cX12_compareTo 18 = .ok (.bipush 8, 2) := by decide +kernel
theorem dX12_compareTo_20 : decode cX12_compareTo 20 = .ok (.irem, 1) := by decide +kernel
theorem dX12_compareTo_21 : decode cX12_compareTo 21 = .ok (.invokevirtual 411, 3) := by decide +kernel
theorem dX12_compareTo_24 : decode cX12_compareTo 24 = .ok (.ireturn, 1) := by decide +kernel
theorem dX12_layWord_0 : decode cX12_layWord 0 = .ok (.iconst 0, 1) := by decide +kernel
theorem dX12_layWord_1 : decode cX12_layWord 1 = .ok (.istore_n 3, 1) := by decide +kernel
theorem dX12_layWord_2 : decode cX12_layWord 2 = .ok (.iload_n 3, 1) := by decide +kernel
theorem dX12_layWord_3 : decode cX12_layWord 3 = .ok (.aload_n 0, 1) := by decide +kernel
theorem dX12_layWord_4 : decode cX12_layWord 4 = .ok (.getfield 415, 3) := by decide +kernel
theorem dX12_layWord_7 : decode cX12_layWord 7 = .ok (.if_icmp .ge 19, 3) := by decide +kernel
theorem dX12_layWord_10 : decode cX12_layWord 10 = .ok (.aload_n 0, 1) := by decide +kernel
theorem dX12_layWord_11 : decode cX12_layWord 11 = .ok (.iload_n 1, 1) := by decide +kernel
theorem dX12_layWord_12 : decode cX12_layWord 12 = .ok (.iload_n 2, 1) := by decide +kernel
theorem dX12_layWord_13 : decode cX12_layWord 13 = .ok (.iload_n 3, 1) := by decide +kernel
theorem dX12_layWord_14 : decode cX12_layWord 14 = .ok (.invokevirtual 418, 3) := by decide +kernel
theorem dX12_layWord_17 : decode cX12_layWord 17 = .ok (.ifCond .le 9, 3) := by decide +kernel
theorem dX12_layWord_20 : decode cX12_layWord 20 = .ok (.iinc 3 1, 3) := by decide +kernel
theorem dX12_layWord_23 : decode cX12_layWord 23 = .ok (.goto (-21), 3) := by decide +kernel
theorem dX12_layWord_26 : decode cX12_layWord 26 = .ok (.iload_n 3, 1) := by decide +kernel
theorem dX12_layWord_27 : decode cX12_layWord 27 = .ok (.aload_n 0, 1) := by decide +kernel
theorem dX12_layWord_28 : decode cX12_layWord 28 = .ok (.getfield 415, 3) := by decide +kernel
theorem dX12_layWord_31 : decode cX12_layWord 31 = .ok (.if_icmp .ge 14, 3) := by decide +kernel
theorem dX12_layWord_34 : decode cX12_layWord 34 = .ok (.aload_n 0, 1) := by decide +kernel
theorem dX12_layWord_35 : decode cX12_layWord 35 = .ok (.iload_n 1, 1) := by decide +kernel
theorem dX12_layWord_36 : decode cX12_layWord 36 = .ok (.iload_n 2, 1) := by decide +kernel
theorem dX12_layWord_37 : decode cX12_layWord 37 = .ok (.iload_n 3, 1) := by decide +kernel
theorem dX12_layWord_38 : decode cX12_layWord 38 = .ok (.invokevirtual 418, 3) := by decide +kernel
theorem dX12_layWord_41 : decode cX12_layWord 41 = .ok (.ifCond .ne 4, 3) := by decide +kernel
theorem dX12_layWord_44 : decode cX12_layWord 44 = .ok (.return_, 1) := by decide +kernel
theorem dX12_layWord_45 : decode cX12_layWord 45 = .ok (.aload_n 0, 1) := by decide +kernel
theorem dX12_layWord_46 : decode cX12_layWord 46 = .ok (.getfield 415, 3) := by decide +kernel
theorem dX12_layWord_49 : decode cX12_layWord 49 = .ok (.istore 4, 2) := by decide +kernel
theorem dX12_layWord_51 : decode cX12_layWord 51 = .ok (.iload 4, 2) := by decide +kernel
theorem dX12_layWord_53 : decode cX12_layWord 53 = .ok (.iload_n 3, 1) := by decide +kernel
theorem dX12_layWord_54 : decode cX12_layWord 54 = .ok (.if_icmp .le 25, 3) := by decide +kernel
theorem dX12_layWord_57 : decode cX12_layWord 57 = .ok (.aload_n 0, 1) := by decide +kernel
theorem dX12_layWord_58 : decode cX12_layWord 58 = .ok (.getfield 86, 3) := by decide +kernel
theorem dX12_layWord_61 : decode cX12_layWord 61 = .ok (.iload 4, 2) := by decide +kernel
theorem dX12_layWord_63 : decode cX12_layWord 63 = .ok (.aload_n 0, 1) := by decide +kernel
theorem dX12_layWord_64 : decode cX12_layWord 64 = .ok (.getfield 86, 3) := by decide +kernel
theorem dX12_layWord_67 : decode cX12_layWord 67 = .ok (.iload 4, 2) := by decide +kernel
theorem dX12_layWord_69 : decode cX12_layWord 69 = .ok (.iconst 1, 1) := by decide +kernel
theorem dX12_layWord_70 : decode cX12_layWord 70 = .ok (.isub, 1) := by decide +kernel
theorem dX12_layWord_71 : decode cX12_layWord 71 = .ok (.iaload, 1) := by decide +kernel
theorem dX12_layWord_72 : decode cX12_layWord 72 = .ok (.iastore, 1) := by decide +kernel
theorem dX12_layWord_73 : decode cX12_layWord 73 = .ok (.iinc 4 (-1), 3) := by decide +kernel
theorem dX12_layWord_76 : decode cX12_layWord 76 = .ok (.goto (-25), 3) := by decide +kernel
theorem dX12_layWord_79 : decode cX12_layWord 79 = .ok (.aload_n 0, 1) := by decide +kernel
theorem dX12_layWord_80 : decode cX12_layWord 80 = .ok (.getfield 86, 3) := by decide +kernel
theorem dX12_layWord_83 : decode cX12_layWord 83 = .ok (.iload_n 3, 1) := by decide +kernel
theorem dX12_layWord_84 : decode cX12_layWord 84 = .ok (.bipush 8, 2) := by decide +kernel
theorem dX12_layWord_86 : decode cX12_layWord 86 = .ok (.iload_n 1, 1) := by decide +kernel
theorem dX12_layWord_87 : decode cX12_layWord 87 = .ok (.imul, 1) := by decide +kernel
theorem dX12_layWord_88 : decode cX12_layWord 88 = .ok (.iload_n 2, 1) := by decide +kernel
theorem dX12_layWord_89 : decode cX12_layWord 89 = .ok (.iadd, 1) := by decide +kernel
theorem dX12_layWord_90 : decode cX12_layWord 90 = .ok (.iastore, 1) := by decide +kernel
theorem dX12_layWord_91 : decode cX12_layWord 91 = .ok (.aload_n 0, 1) := by decide +kernel
theorem dX12_layWord_92 : decode cX12_layWord 92 = .ok (.dup, 1) := by decide +kernel
theorem dX12_layWord_93 : decode cX12_layWord 93 = .ok (.getfield 415, 3) := by decide +kernel
theorem dX12_layWord_96 : decode cX12_layWord 96 = .ok (.iconst 1, 1) := by decide +kernel
theorem dX12_layWord_97 : decode cX12_layWord 97 = .ok (.iadd, 1) := by decide +kernel
theorem dX12_layWord_98 : decode cX12_layWord 98 = .ok (.putfield 415, 3) := by decide +kernel
theorem dX12_layWord_101 : decode cX12_layWord 101 = .ok (.return_, 1) := by decide +kernel
theorem dX12_layWords_0 : decode cX12_layWords 0 = .ok (.aload_n 0, 1) := by decide +kernel
theorem dX12_layWords_1 : decode cX12_layWords 1 = .ok (.iconst 0, 1) := by decide +kernel
theorem dX12_layWords_2 : decode cX12_layWords 2 = .ok (.putfield 415, 3) := by decide +kernel
theorem dX12_layWords_5 : decode cX12_layWords 5 = .ok (.iconst 0, 1) := by decide +kernel
theorem dX12_layWords_6 : decode cX12_layWords 6 = .ok (.istore_n 1, 1) := by decide +kernel
theorem dX12_layWords_7 : decode cX12_layWords 7 = .ok (.iload_n 1, 1) := by decide +kernel
theorem dX12_layWords_8 : decode cX12_layWords 8 = .ok (.aload_n 0, 1) := by decide +kernel
theorem dX12_layWords_9 : decode cX12_layWords 9 = .ok (.getfield 17, 3) := by decide +kernel
theorem dX12_layWords_12 : decode cX12_layWords 12 = .ok (.bipush 9, 2) := by decide +kernel
theorem dX12_layWords_14 : decode cX12_layWords 14 = .ok (.iaload, 1) := by decide +kernel
theorem dX12_layWords_15 : decode cX12_layWords 15 = .ok (.if_icmp .ge 33, 3) := by decide +kernel
theorem dX12_layWords_18 : decode cX12_layWords 18 = .ok (.iconst 0, 1) := by decide +kernel
theorem dX12_layWords_19 : decode cX12_layWords 19 = .ok (.istore_n 2, 1) := by decide +kernel
theorem dX12_layWords_20 : decode cX12_layWords 20 = .ok (.iload_n 2, 1) := by decide +kernel
theorem dX12_layWords_21 : decode cX12_layWords 21 = .ok (.aload_n 0, 1) := by decide +kernel
theorem dX12_layWords_22 : decode cX12_layWords 22 = .ok (.iload_n 1, 1) := by decide +kernel
theorem dX12_layWords_23 : decode cX12_layWords 23 = .ok (.iconst 3, 1) := by decide +kernel
theorem dX12_layWords_24 : decode cX12_layWords 24 = .ok (.invokevirtual 107, 3) := by decide +kernel
theorem dX12_layWords_27 : decode cX12_layWords 27 = .ok (.if_icmp .ge 15, 3) := by decide +kernel
theorem dX12_layWords_30 : decode cX12_layWords 30 = .ok (.aload_n 0, 1) := by decide +kernel
theorem dX12_layWords_31 : decode cX12_layWords 31 = .ok (.iload_n 1, 1) := by decide +kernel
theorem dX12_layWords_32 : decode cX12_layWords 32 = .ok (.iload_n 2, 1) := by decide +kernel
theorem dX12_layWords_33 : decode cX12_layWords 33 = .ok (.invokevirtual 421, 3) := by decide +kernel
theorem dX12_layWords_36 : decode cX12_layWords 36 = .ok (.iinc 2 1, 3) := by decide +kernel
theorem dX12_layWords_39 : decode cX12_layWords 39 = .ok (.goto (-19), 3) := by decide +kernel
theorem dX12_layWords_42 : decode cX12_layWords 42 = .ok (.iinc 1 1, 3) := by decide +kernel
theorem dX12_layWords_45 : decode cX12_layWords 45 = .ok (.goto (-38), 3) := by decide +kernel
theorem dX12_layWords_48 : decode cX12_layWords 48 = .ok (.return_, 1) := by decide +kernel
theorem dX12_wordCount_0 : decode cX12_wordCount 0 = .ok (.aload_n 0, 1) := by decide +kernel
theorem dX12_wordCount_1 : decode cX12_wordCount 1 = .ok (.iconst 0, 1) := by decide +kernel
theorem dX12_wordCount_2 : decode cX12_wordCount 2 = .ok (.putfield 3, 3) := by decide +kernel
theorem dX12_wordCount_5 : decode cX12_wordCount 5 = .ok (.aload_n 0, 1) := by decide +kernel
theorem dX12_wordCount_6 : decode cX12_wordCount 6 = .ok (.invokevirtual 424, 3) := by decide +kernel
theorem dX12_wordCount_9 : decode cX12_wordCount 9 = .ok (.aload_n 0, 1) := by decide +kernel
theorem dX12_wordCount_10 : decode cX12_wordCount 10 = .ok (.getfield 415, 3) := by decide +kernel
theorem dX12_wordCount_13 : decode cX12_wordCount 13 = .ok (.ireturn, 1) := by decide +kernel
theorem dX12_wordSections_0 : decode cX12_wordSections 0 = .ok (.aload_n 0, 1) := by decide +kernel
theorem dX12_wordSections_1 : decode cX12_wordSections 1 = .ok (.invokevirtual 424, 3) := by decide +kernel
theorem dX12_wordSections_4 : decode cX12_wordSections 4 = .ok (.aload_n 0, 1) := by decide +kernel
theorem dX12_wordSections_5 : decode cX12_wordSections 5 = .ok (.iload_n 1, 1) := by decide +kernel
theorem dX12_wordSections_6 : decode cX12_wordSections 6 = .ok (.i2l, 1) := by decide +kernel
theorem dX12_wordSections_7 : decode cX12_wordSections 7 = .ok (.lconst 0, 1) := by decide +kernel
theorem dX12_wordSections_8 : decode cX12_wordSections 8 = .ok (.aload_n 0, 1) := by decide +kernel
theorem dX12_wordSections_9 : decode cX12_wordSections 9 = .ok (.getfield 415, 3) := by decide +kernel
theorem dX12_wordSections_12 : decode cX12_wordSections 12 = .ok (.iconst 1, 1) := by decide +kernel
theorem dX12_wordSections_13 : decode cX12_wordSections 13 = .ok (.isub, 1) := by decide +kernel
theorem dX12_wordSections_14 : decode cX12_wordSections 14 = .ok (.i2l, 1) := by decide +kernel
theorem dX12_wordSections_15 : decode cX12_wordSections 15 = .ok (.invokestatic 103, 3) := by decide +kernel
theorem dX12_wordSections_18 : decode cX12_wordSections 18 = .ok (.invokevirtual 114, 3) := by decide +kernel
theorem dX12_wordSections_21 : decode cX12_wordSections 21 = .ok (.ifCond .ne 5, 3) := by decide +kernel
theorem dX12_wordSections_24 : decode cX12_wordSections 24 = .ok (.iconst 0, 1) := by decide +kernel
theorem dX12_wordSections_25 : decode cX12_wordSections 25 = .ok (.ireturn, 1) := by decide +kernel
theorem dX12_wordSections_26 : decode cX12_wordSections 26 = .ok (.iconst 0, 1) := by decide +kernel
theorem dX12_wordSections_27 : decode cX12_wordSections 27 = .ok (.istore_n 2, 1) := by decide +kernel
theorem dX12_wordSections_28 : decode cX12_wordSections 28 = .ok (.iconst 0, 1) := by decide +kernel
theorem dX12_wordSections_29 : decode cX12_wordSections 29 = .ok (.istore_n 3, 1) := by decide +kernel
theorem dX12_wordSections_30 : decode cX12_wordSections 30 = .ok (.iload_n 3, 1) := by decide +kernel
theorem dX12_wordSections_31 : decode cX12_wordSections 31 = .ok (.aload_n 0, 1) := by decide +kernel
theorem dX12_wordSections_32 : decode cX12_wordSections 32 = .ok (.getfield 17, 3) := by decide +kernel
theorem dX12_wordSections_35 : decode cX12_wordSections 35 = .ok (.bipush 9, 2) := by decide +kernel
theorem dX12_wordSections_37 : decode cX12_wordSections 37 = .ok (.iaload, 1) := by decide +kernel
theorem dX12_wordSections_38 : decode cX12_wordSections 38 = .ok (.if_icmp .ge 46, 3) := by decide +kernel
theorem dX12_wordSections_41 : decode cX12_wordSections 41 = .ok (.iconst 0, 1) := by decide +kernel
theorem dX12_wordSections_42 : decode cX12_wordSections 42 = .ok (.istore 4, 2) := by decide +kernel
theorem dX12_wordSections_44 : decode cX12_wordSections 44 = .ok (.iload 4, 2) := by decide +kernel
theorem dX12_wordSections_46 : decode cX12_wordSections 46 = .ok (.aload_n 0, 1) := by decide +kernel
theorem dX12_wordSections_47 : decode cX12_wordSections 47 = .ok (.iload_n 3, 1) := by decide +kernel
theorem dX12_wordSections_48 : decode cX12_wordSections 48 = .ok (.iconst 3, 1) := by decide +kernel
theorem dX12_wordSections_49 : decode cX12_wordSections 49 = .ok (.invokevirtual 107, 3) := by decide +kernel
theorem dX12_wordSections_52 : decode cX12_wordSections 52 = .ok (.if_icmp .ge 26, 3) := by decide +kernel
theorem dX12_wordSections_55 : decode cX12_wordSections 55 = .ok (.aload_n 0, 1) := by decide +kernel
theorem dX12_wordSections_56 : decode cX12_wordSections 56 = .ok (.iload_n 3, 1) := by decide +kernel
theorem dX12_wordSections_57 : decode cX12_wordSections 57 = .ok (.iload 4, 2) := by decide +kernel
theorem dX12_wordSections_59 : decode cX12_wordSections 59 = .ok (.iload_n 1, 1) := by decide +kernel
theorem dX12_wordSections_60 : decode cX12_wordSections 60 = .ok (.invokevirtual 418, 3) := by decide +kernel
theorem dX12_wordSections_63 : decode cX12_wordSections 63 = .ok (.ifCond .ne 9, 3) := by decide +kernel
theorem dX12_wordSections_66 : decode cX12_wordSections 66 = .ok (.iload_n 2, 1) := by decide +kernel
theorem dX12_wordSections_67 : decode cX12_wordSections 67 = .ok (.iconst 1, 1) := by decide +kernel
theorem dX12_wordSections_68 : decode cX12_wordSections 68 = .ok (.iload_n 3, 1) := by decide +kernel
theorem dX12_wordSections_69 : decode cX12_wordSections 69 = .ok (.ishl, 1) := by decide +kernel
theorem dX12_wordSections_70 : decode cX12_wordSections 70 = .ok (.ior, 1) := by decide +kernel
theorem dX12_wordSections_71 : decode cX12_wordSections 71 = .ok (.istore_n 2, 1) := by decide +kernel
theorem dX12_wordSections_72 : decode cX12_wordSections 72 = .ok (.iinc 4 1, 3) := by decide +kernel
theorem dX12_wordSections_75 : decode cX12_wordSections 75 = .ok (.goto (-31), 3) := by decide +kernel
theorem dX12_wordSections_78 : decode cX12_wordSections 78 = .ok (.iinc 3 1, 3) := by decide +kernel
theorem dX12_wordSections_81 : decode cX12_wordSections 81 = .ok (.goto (-51), 3) := by decide +kernel
theorem dX12_wordSections_84 : decode cX12_wordSections 84 = .ok (.iload_n 2, 1) := by decide +kernel
theorem dX12_wordSections_85 : decode cX12_wordSections 85 = .ok (.ireturn, 1) := by decide +kernel
theorem dX12_isInput_0 : decode cX12_isInput 0 = .ok (.aload_n 0, 1) := by decide +kernel
theorem dX12_isInput_1 : decode cX12_isInput 1 = .ok (.getfield 111, 3) := by decide +kernel
theorem dX12_isInput_4 : decode cX12_isInput 4 = .ok (.bipush 12, 2) := by decide +kernel
theorem dX12_isInput_6 : decode cX12_isInput 6 = .ok (.if_icmp .gt 7, 3) := by decide +kernel
theorem dX12_isInput_9 : decode cX12_isInput 9 = .ok (.iconst 1, 1) := by decide +kernel
theorem dX12_isInput_10 : decode cX12_isInput 10 = .ok (.goto 4, 3) := by decide +kernel
theorem dX12_isInput_13 : decode cX12_isInput 13 = .ok (.iconst 0, 1) := by decide +kernel
theorem dX12_isInput_14 : decode cX12_isInput 14 = .ok (.istore_n 3, 1) := by decide +kernel
theorem dX12_isInput_15 : decode cX12_isInput 15 = .ok (.iconst 0, 1) := by decide +kernel
theorem dX12_isInput_16 : decode cX12_isInput 16 = .ok (.istore 4, 2) := by decide +kernel
theorem dX12_isInput_18 : decode cX12_isInput 18 = .ok (.iload 4, 2) := by decide +kernel
theorem dX12_isInput_20 : decode cX12_isInput 20 = .ok (.bipush 12, 2) := by decide +kernel
theorem dX12_isInput_22 : decode cX12_isInput 22 = .ok (.if_icmp .ge 75, 3) := by decide +kernel
theorem dX12_isInput_25 : decode cX12_isInput 25 = .ok (.iload_n 3, 1) := by decide +kernel
theorem dX12_isInput_26 : decode cX12_isInput 26 = .ok (.ifCond .eq 71, 3) := by decide +kernel
theorem dX12_isInput_29 : decode cX12_isInput 29 = .ok (.iload 4, 2) := by decide +kernel
theorem dX12_isInput_31 : decode cX12_isInput 31 = .ok (.aload_n 0, 1) := by decide +kernel
theorem dX12_isInput_32 : decode cX12_isInput 32 = .ok (.getfield 111, 3) := by decide +kernel
theorem dX12_isInput_35 : decode cX12_isInput 35 = .ok (.if_icmp .ge 39, 3) := by decide +kernel
theorem dX12_isInput_38 : decode cX12_isInput 38 = .ok (.aload_n 0, 1) := by decide +kernel
theorem dX12_isInput_39 : decode cX12_isInput 39 = .ok (.getfield 27, 3) := by decide +kernel
theorem dX12_isInput_42 : decode cX12_isInput 42 = .ok (.iload 4, 2) := by decide +kernel
theorem dX12_isInput_44 : decode cX12_isInput 44 = .ok (.baload, 1) := by decide +kernel
theorem dX12_isInput_45 : decode cX12_isInput 45 = .ok (.ifCond .eq 25, 3) := by decide +kernel
theorem dX12_isInput_48 : decode cX12_isInput 48 = .ok (.aload_n 0, 1) := by decide +kernel
theorem dX12_isInput_49 : decode cX12_isInput 49 = .ok (.iload_n 1, 1) := by decide +kernel
theorem dX12_isInput_50 : decode cX12_isInput 50 = .ok (.iload_n 2, 1) := by decide +kernel
theorem dX12_isInput_51 : decode cX12_isInput 51 = .ok (.iload 4, 2) := by decide +kernel
theorem dX12_isInput_53 : decode cX12_isInput 53 = .ok (.invokevirtual 270, 3) := by decide +kernel
theorem dX12_isInput_56 : decode cX12_isInput 56 = .ok (.aload_n 0, 1) := by decide +kernel
theorem dX12_isInput_57 : decode cX12_isInput 57 = .ok (.getfield 27, 3) := by decide +kernel
theorem dX12_isInput_60 : decode cX12_isInput 60 = .ok (.iload 4, 2) := by decide +kernel
theorem dX12_isInput_62 : decode cX12_isInput 62 = .ok (.baload, 1) := by decide +kernel
theorem dX12_isInput_63 : decode cX12_isInput 63 = .ok (.if_icmp .ne 7, 3) := by decide +kernel
theorem dX12_isInput_66 : decode cX12_isInput 66 = .ok (.iconst 1, 1) := by decide +kernel
theorem dX12_isInput_67 : decode cX12_isInput 67 = .ok (.goto 23, 3) := by decide +kernel
theorem dX12_isInput_70 : decode cX12_isInput 70 = .ok (.iconst 0, 1) := by decide +kernel
theorem dX12_isInput_71 : decode cX12_isInput 71 = .ok (.goto 19, 3) := by decide +kernel
theorem dX12_isInput_74 : decode cX12_isInput 74 = .ok (.aload_n 0, 1) := by decide +kernel
theorem dX12_isInput_75 : decode cX12_isInput 75 = .ok (.iload_n 1, 1) := by decide +kernel
theorem dX12_isInput_76 : decode cX12_isInput 76 = .ok (.iload_n 2, 1) := by decide +kernel
theorem dX12_isInput_77 : decode cX12_isInput 77 = .ok (.iload 4, 2) := by decide +kernel
theorem dX12_isInput_79 : decode cX12_isInput 79 = .ok (.invokevirtual 270, 3) := by decide +kernel
theorem dX12_isInput_82 : decode cX12_isInput 82 = .ok (.ifCond .ne 7, 3) := by decide +kernel
theorem dX12_isInput_85 : decode cX12_isInput 85 = .ok (.iconst 1, 1) := by decide +kernel
theorem dX12_isInput_86 : decode cX12_isInput 86 = .ok (.goto 4, 3) := by decide +kernel
theorem dX12_isInput_89 : decode cX12_isInput 89 = .ok (.iconst 0, 1) := by decide +kernel
theorem dX12_isInput_90 : decode cX12_isInput 90 = .ok (.istore_n 3, 1) := by decide +kernel
theorem dX12_isInput_91 : decode cX12_isInput 91 = .ok (.iinc 4 1, 3) := by decide +kernel
theorem dX12_isInput_94 : decode cX12_isInput 94 = .ok (.goto (-76), 3) := by decide +kernel
theorem dX12_isInput_97 : decode cX12_isInput 97 = .ok (.iload_n 3, 1) := by decide +kernel
theorem dX12_isInput_98 : decode cX12_isInput 98 = .ok (.ireturn, 1) := by decide +kernel
theorem dX12_findWord_0 : decode cX12_findWord 0 = .ok (.aload_n 0, 1) := by decide +kernel
theorem dX12_findWord_1 : decode cX12_findWord 1 = .ok (.iconst 0, 1) := by decide +kernel
theorem dX12_findWord_2 : decode cX12_findWord 2 = .ok (.putfield 3, 3) := by decide +kernel
theorem dX12_findWord_5 : decode cX12_findWord 5 = .ok (.aload_n 0, 1) := by decide +kernel
theorem dX12_findWord_6 : decode cX12_findWord 6 = .ok (.invokevirtual 424, 3) := by decide +kernel
theorem dX12_findWord_9 : decode cX12_findWord 9 = .ok (.iconst (-1), 1) := by decide +kernel
theorem dX12_findWord_10 : decode cX12_findWord 10 = .ok (.istore_n 1, 1) := by decide +kernel
theorem dX12_findWord_11 : decode cX12_findWord 11 = .ok (.iconst 0, 1) := by decide +kernel
theorem dX12_findWord_12 : decode cX12_findWord 12 = .ok (.istore_n 2, 1) := by decide +kernel
theorem dX12_findWord_13 : decode cX12_findWord 13 = .ok (.iload_n 2, 1) := by decide +kernel
theorem dX12_findWord_14 : decode cX12_findWord 14 = .ok (.aload_n 0, 1) := by decide +kernel
theorem dX12_findWord_15 : decode cX12_findWord 15 = .ok (.getfield 415, 3) := by decide +kernel
theorem dX12_findWord_18 : decode cX12_findWord 18 = .ok (.if_icmp .ge 36, 3) := by decide +kernel
theorem dX12_findWord_21 : decode cX12_findWord 21 = .ok (.aload_n 0, 1) := by decide +kernel
theorem dX12_findWord_22 : decode cX12_findWord 22 = .ok (.aload_n 0, 1) := by decide +kernel
theorem dX12_findWord_23 : decode cX12_findWord 23 = .ok (.getfield 86, 3) := by decide +kernel
theorem dX12_findWord_26 : decode cX12_findWord 26 = .ok (.iload_n 2, 1) := by decide +kernel
theorem dX12_findWord_27 : decode cX12_findWord 27 = .ok (.iaload, 1) := by decide +kernel
theorem dX12_findWord_28 : decode cX12_findWord 28 = .ok (.bipush 8, 2) := by decide +kernel
theorem dX12_findWord_30 : decode cX12_findWord 30 = .ok (.idiv, 1) := by decide +kernel
theorem dX12_findWord_31 : decode cX12_findWord 31 = .ok (.aload_n 0, 1) := by decide +kernel
theorem dX12_findWord_32 : decode cX12_findWord 32 = .ok (.getfield 86, 3) := by decide +kernel
theorem dX12_findWord_35 : decode cX12_findWord 35 = .ok (.iload_n 2, 1) := by decide +kernel
theorem dX12_findWord_36 : decode cX12_findWord 36 = .ok (.iaload, 1) := by decide +kernel
theorem dX12_findWord_37 : decode cX12_findWord 37 = .ok (.bipush 8, 2) := by decide +kernel
theorem dX12_findWord_39 : decode cX12_findWord 39 = .ok (.irem, 1) := by decide +kernel
theorem dX12_findWord_40 : decode cX12_findWord 40 = .ok (.invokevirtual 427, 3) := by decide +kernel
theorem dX12_findWord_43 : decode cX12_findWord 43 = .ok (.ifCond .eq 5, 3) := by decide +kernel
theorem dX12_findWord_46 : decode cX12_findWord 46 = .ok (.iload_n 2, 1) := by decide +kernel
theorem dX12_findWord_47 : decode cX12_findWord 47 = .ok (.istore_n 1, 1) := by decide +kernel
theorem dX12_findWord_48 : decode cX12_findWord 48 = .ok (.iinc 2 1, 3) := by decide +kernel
theorem dX12_findWord_51 : decode cX12_findWord 51 = .ok (.goto (-38), 3) := by decide +kernel
theorem dX12_findWord_54 : decode cX12_findWord 54 = .ok (.aload_n 0, 1) := by decide +kernel
theorem dX12_findWord_55 : decode cX12_findWord 55 = .ok (.iconst 0, 1) := by decide +kernel
theorem dX12_findWord_56 : decode cX12_findWord 56 = .ok (.putfield 111, 3) := by decide +kernel
theorem dX12_findWord_59 : decode cX12_findWord 59 = .ok (.iload_n 1, 1) := by decide +kernel
theorem dX12_findWord_60 : decode cX12_findWord 60 = .ok (.ireturn, 1) := by decide +kernel
theorem dX12_setLength_0 : decode cX12_setLength 0 = .ok (.aload_n 0, 1) := by decide +kernel
theorem dX12_setLength_1 : decode cX12_setLength 1 = .ok (.aload_n 0, 1) := by decide +kernel
theorem dX12_setLength_2 : decode cX12_setLength 2 = .ok (.iload_n 1, 1) := by decide +kernel
theorem dX12_setLength_3 : decode cX12_setLength 3 = .ok (.invokevirtual 371, 3) := by decide +kernel
theorem dX12_setLength_6 : decode cX12_setLength 6 = .ok (.iload_n 2, 1) := by decide +kernel
theorem dX12_setLength_7 : decode cX12_setLength 7 = .ok (.i2l, 1) := by decide +kernel
theorem dX12_setLength_8 : decode cX12_setLength 8 = .ok (.lconst 0, 1) := by decide +kernel
theorem dX12_setLength_9 : decode cX12_setLength 9 = .ok (.ldc2_w 431, 3) := by decide +kernel
theorem dX12_setLength_12 : decode cX12_setLength 12 = .ok (.invokestatic 103, 3) := by decide +kernel
theorem dX12_setLength_15 : decode cX12_setLength 15 = .ok (.invokevirtual 377, 3) := by decide +kernel
theorem dX12_setLength_18 : decode cX12_setLength 18 = .ok (.ifCond .ne 5, 3) := by decide +kernel
theorem dX12_setLength_21 : decode cX12_setLength 21 = .ok (.iconst 0, 1) := by decide +kernel
theorem dX12_setLength_22 : decode cX12_setLength 22 = .ok (.ireturn, 1) := by decide +kernel
theorem dX12_setLength_23 : decode cX12_setLength 23 = .ok (.aload_n 0, 1) := by decide +kernel
theorem dX12_setLength_24 : decode cX12_setLength 24 = .ok (.invokevirtual 261, 3) := by decide +kernel
theorem dX12_setLength_27 : decode cX12_setLength 27 = .ok (.aload_n 0, 1) := by decide +kernel
theorem dX12_setLength_28 : decode cX12_setLength 28 = .ok (.iload_n 1, 1) := by decide +kernel
theorem dX12_setLength_29 : decode cX12_setLength 29 = .ok (.iconst 1, 1) := by decide +kernel
theorem dX12_setLength_30 : decode cX12_setLength 30 = .ok (.invokevirtual 107, 3) := by decide +kernel
theorem dX12_setLength_33 : decode cX12_setLength 33 = .ok (.istore_n 3, 1) := by decide +kernel
theorem dX12_setLength_34 : decode cX12_setLength 34 = .ok (.aload_n 0, 1) := by decide +kernel
theorem dX12_setLength_35 : decode cX12_setLength 35 = .ok (.iload_n 1, 1) := by decide +kernel
theorem dX12_setLength_36 : decode cX12_setLength 36 = .ok (.iconst 1, 1) := by decide +kernel
theorem dX12_setLength_37 : decode cX12_setLength 37 = .ok (.iload_n 2, 1) := by decide +kernel
theorem dX12_setLength_38 : decode cX12_setLength 38 = .ok (.invokevirtual 192, 3) := by decide +kernel
theorem dX12_setLength_41 : decode cX12_setLength 41 = .ok (.iload_n 3, 1) := by decide +kernel
theorem dX12_setLength_42 : decode cX12_setLength 42 = .ok (.ireturn, 1) := by decide +kernel
theorem dX12_areLevels_0 : decode cX12_areLevels 0 = .ok (.iconst 1, 1) := by decide +kernel
theorem dX12_areLevels_1 : decode cX12_areLevels 1 = .ok (.istore_n 1, 1) := by decide +kernel
theorem dX12_areLevels_2 : decode cX12_areLevels 2 = .ok (.iconst 0, 1) := by decide +kernel
theorem dX12_areLevels_3 : decode cX12_areLevels 3 = .ok (.istore_n 2, 1) := by decide +kernel
theorem dX12_areLevels_4 : decode cX12_areLevels 4 = .ok (.iload_n 2, 1) := by decide +kernel
theorem dX12_areLevels_5 : decode cX12_areLevels 5 = .ok (.aload_n 0, 1) := by decide +kernel
theorem dX12_areLevels_6 : decode cX12_areLevels 6 = .ok (.getfield 17, 3) := by decide +kernel
theorem dX12_areLevels_9 : decode cX12_areLevels 9 = .ok (.bipush 9, 2) := by decide +kernel
theorem dX12_areLevels_11 : decode cX12_areLevels 11 = .ok (.iaload, 1) := by decide +kernel
theorem dX12_areLevels_12 : decode cX12_areLevels 12 = .ok (.if_icmp .ge 41, 3) := by decide +kernel
theorem dX12_areLevels_15 : decode cX12_areLevels 15 = .ok (.iload_n 1, 1) := by decide +kernel
theorem dX12_areLevels_16 : decode cX12_areLevels 16 = .ok (.ifCond .eq 29, 3) := by decide +kernel
theorem dX12_areLevels_19 : decode cX12_areLevels 19 = .ok (.aload_n 0, 1) := by decide +kernel
theorem dX12_areLevels_20 : decode cX12_areLevels 20 = .ok (.iload_n 2, 1) := by decide +kernel
theorem dX12_areLevels_21 : decode cX12_areLevels 21 = .ok (.iconst 0, 1) := by decide +kernel
theorem dX12_areLevels_22 : decode cX12_areLevels 22 = .ok (.invokevirtual 107, 3) := by decide +kernel
theorem dX12_areLevels_25 : decode cX12_areLevels 25 = .ok (.aload_n 0, 1) := by decide +kernel
theorem dX12_areLevels_26 : decode cX12_areLevels 26 = .ok (.iload_n 2, 1) := by decide +kernel
theorem dX12_areLevels_27 : decode cX12_areLevels 27 = .ok (.iconst 1, 1) := by decide +kernel
theorem dX12_areLevels_28 : decode cX12_areLevels 28 = .ok (.isub, 1) := by decide +kernel
theorem dX12_areLevels_29 : decode cX12_areLevels 29 = .ok (.aload_n 0, 1) := by decide +kernel
theorem dX12_areLevels_30 : decode cX12_areLevels 30 = .ok (.iload_n 2, 1) := by decide +kernel
theorem dX12_areLevels_31 : decode cX12_areLevels 31 = .ok (.iconst 2, 1) := by decide +kernel
theorem dX12_areLevels_32 : decode cX12_areLevels 32 = .ok (.invokevirtual 107, 3) := by decide +kernel
theorem dX12_areLevels_35 : decode cX12_areLevels 35 = .ok (.invokevirtual 203, 3) := by decide +kernel
theorem dX12_areLevels_38 : decode cX12_areLevels 38 = .ok (.if_icmp .gt 7, 3) := by decide +kernel
theorem dX12_areLevels_41 : decode cX12_areLevels 41 = .ok (.iconst 1, 1) := by decide +kernel
theorem dX12_areLevels_42 : decode cX12_areLevels 42 = .ok (.goto 4, 3) := by decide +kernel
theorem dX12_areLevels_45 : decode cX12_areLevels 45 = .ok (.iconst 0, 1) := by decide +kernel
theorem dX12_areLevels_46 : decode cX12_areLevels 46 = .ok (.istore_n 1, 1) := by decide +kernel
theorem dX12_areLevels_47 : decode cX12_areLevels 47 = .ok (.iinc 2 1, 3) := by decide +kernel
theorem dX12_areLevels_50 : decode cX12_areLevels 50 = .ok (.goto (-46), 3) := by decide +kernel
theorem dX12_areLevels_53 : decode cX12_areLevels 53 = .ok (.iload_n 1, 1) := by decide +kernel
theorem dX12_areLevels_54 : decode cX12_areLevels 54 = .ok (.ireturn, 1) := by decide +kernel
theorem dX12_setLevel_0 : decode cX12_setLevel 0 = .ok (.aload_n 0, 1) := by decide +kernel
theorem dX12_setLevel_1 : decode cX12_setLevel 1 = .ok (.iload_n 1, 1) := by decide +kernel
theorem dX12_setLevel_2 : decode cX12_setLevel 2 = .ok (.invokevirtual 371, 3) := by decide +kernel
theorem dX12_setLevel_5 : decode cX12_setLevel 5 = .ok (.ifCond .eq 19, 3) := by decide +kernel
theorem dX12_setLevel_8 : decode cX12_setLevel 8 = .ok (.iload_n 2, 1) := by decide +kernel
theorem dX12_setLevel_9 : decode cX12_setLevel 9 = .ok (.i2l, 1) := by decide +kernel
theorem dX12_setLevel_10 : decode cX12_setLevel 10 = .ok (.lconst 1, 1) := by decide +kernel
theorem dX12_setLevel_11 : decode cX12_setLevel 11 = .ok (.ldc2_w 399, 3) := by decide +kernel
theorem dX12_setLevel_14 : decode cX12_setLevel 14 = .ok (.invokestatic 103, 3) := by decide +kernel
theorem dX12_setLevel_17 : decode cX12_setLevel 17 = .ok (.ifCond .eq 7, 3) := by decide +kernel
theorem dX12_setLevel_20 : decode cX12_setLevel 20 = .ok (.iconst 1, 1) := by decide +kernel
theorem dX12_setLevel_21 : decode cX12_setLevel 21 = .ok (.goto 4, 3) := by decide +kernel
theorem dX12_setLevel_24 : decode cX12_setLevel 24 = .ok (.iconst 0, 1) := by decide +kernel
theorem dX12_setLevel_25 : decode cX12_setLevel 25 = .ok (.istore_n 3, 1) := by decide +kernel
theorem dX12_setLevel_26 : decode cX12_setLevel 26 = .ok (.aload_n 0, 1) := by decide +kernel
theorem dX12_setLevel_27 : decode cX12_setLevel 27 = .ok (.iload_n 1, 1) := by decide +kernel
theorem dX12_setLevel_28 : decode cX12_setLevel 28 = .ok (.invokevirtual 371, 3) := by decide +kernel
theorem dX12_setLevel_31 : decode cX12_setLevel 31 = .ok (.ifCond .eq 12, 3) := by decide +kernel
theorem dX12_setLevel_34 : decode cX12_setLevel 34 = .ok (.aload_n 0, 1) := by decide +kernel
theorem dX12_setLevel_35 : decode cX12_setLevel 35 = .ok (.iload_n 1, 1) := by decide +kernel
theorem dX12_setLevel_36 : decode cX12_setLevel 36 = .ok (.iconst 0, 1) := by decide +kernel
theorem dX12_setLevel_37 : decode cX12_setLevel 37 = .ok (.invokevirtual 107, 3) := by decide +kernel
theorem dX12_setLevel_40 : decode cX12_setLevel 40 = .ok (.goto 4, 3) := by decide +kernel
theorem dX12_setLevel_43 : decode cX12_setLevel 43 = .ok (.iconst 0, 1) := by decide +kernel
theorem dX12_setLevel_44 : decode cX12_setLevel 44 = .ok (.istore 4, 2) := by decide +kernel
theorem dX12_setLevel_46 : decode cX12_setLevel 46 = .ok (.iload_n 3, 1) := by decide +kernel
theorem dX12_setLevel_47 : decode cX12_setLevel 47 = .ok (.ifCond .eq 23, 3) := by decide +kernel
theorem dX12_setLevel_50 : decode cX12_setLevel 50 = .ok (.aload_n 0, 1) := by decide +kernel
theorem dX12_setLevel_51 : decode cX12_setLevel 51 = .ok (.iload_n 1, 1) := by decide +kernel
theorem dX12_setLevel_52 : decode cX12_setLevel 52 = .ok (.iconst 0, 1) := by decide +kernel
theorem dX12_setLevel_53 : decode cX12_setLevel 53 = .ok (.iload_n 2, 1) := by decide +kernel
theorem dX12_setLevel_54 : decode cX12_setLevel 54 = .ok (.invokevirtual 192, 3) := by decide +kernel
theorem dX12_setLevel_57 : decode cX12_setLevel 57 = .ok (.aload_n 0, 1) := by decide +kernel
theorem dX12_setLevel_58 : decode cX12_setLevel 58 = .ok (.invokevirtual 433, 3) := by decide +kernel
theorem dX12_setLevel_61 : decode cX12_setLevel 61 = .ok (.istore_n 3, 1) := by decide +kernel
theorem dX12_setLevel_62 : decode cX12_setLevel 62 = .ok (.aload_n 0, 1) := by decide +kernel
theorem dX12_setLevel_63 : decode cX12_setLevel 63 = .ok (.iload_n 1, 1) := by decide +kernel
theorem dX12_setLevel_64 : decode cX12_setLevel 64 = .ok (.iconst 0, 1) := by decide +kernel
theorem dX12_setLevel_65 : decode cX12_setLevel 65 = .ok (.iload 4, 2) := by decide +kernel
theorem dX12_setLevel_67 : decode cX12_setLevel 67 = .ok (.invokevirtual 192, 3) := by decide +kernel
theorem dX12_setLevel_70 : decode cX12_setLevel 70 = .ok (.aload_n 0, 1) := by decide +kernel
theorem dX12_setLevel_71 : decode cX12_setLevel 71 = .ok (.aload_n 0, 1) := by decide +kernel
theorem dX12_setLevel_72 : decode cX12_setLevel 72 = .ok (.iload_n 1, 1) := by decide +kernel
theorem dX12_setLevel_73 : decode cX12_setLevel 73 = .ok (.invokevirtual 371, 3) := by decide +kernel
theorem dX12_setLevel_76 : decode cX12_setLevel 76 = .ok (.iload_n 3, 1) := by decide +kernel
theorem dX12_setLevel_77 : decode cX12_setLevel 77 = .ok (.invokevirtual 377, 3) := by decide +kernel
theorem dX12_setLevel_80 : decode cX12_setLevel 80 = .ok (.ifCond .ne 5, 3) := by decide +kernel
theorem dX12_setLevel_83 : decode cX12_setLevel 83 = .ok (.iconst 0, 1) := by decide +kernel
theorem dX12_setLevel_84 : decode cX12_setLevel 84 = .ok (.ireturn, 1) := by decide +kernel
theorem dX12_setLevel_85 : decode cX12_setLevel 85 = .ok (.aload_n 0, 1) := by decide +kernel
theorem dX12_setLevel_86 : decode cX12_setLevel 86 = .ok (.invokevirtual 261, 3) := by decide +kernel
theorem dX12_setLevel_89 : decode cX12_setLevel 89 = .ok (.aload_n 0, 1) := by decide +kernel
theorem dX12_setLevel_90 : decode cX12_setLevel 90 = .ok (.iload_n 1, 1) := by decide +kernel
theorem dX12_setLevel_91 : decode cX12_setLevel 91 = .ok (.iconst 0, 1) := by decide +kernel
theorem dX12_setLevel_92 : decode cX12_setLevel 92 = .ok (.iload_n 2, 1) := by decide +kernel
theorem dX12_setLevel_93 : decode cX12_setLevel 93 = .ok (.invokevirtual 192, 3) := by decide +kernel
theorem dX12_setLevel_96 : decode cX12_setLevel 96 = .ok (.iload 4, 2) := by decide +kernel
theorem dX12_setLevel_98 : decode cX12_setLevel 98 = .ok (.ireturn, 1) := by decide +kernel
theorem dX12_isTitle_0 : decode cX12_isTitle 0 = .ok (.aload_n 0, 1) := by decide +kernel
theorem dX12_isTitle_1 : decode cX12_isTitle 1 = .ok (.aload_n 0, 1) := by decide +kernel
theorem dX12_isTitle_2 : decode cX12_isTitle 2 = .ok (.getfield 111, 3) := by decide +kernel
theorem dX12_isTitle_5 : decode cX12_isTitle 5 = .ok (.putfield 132, 3) := by decide +kernel
theorem dX12_isTitle_8 : decode cX12_isTitle 8 = .ok (.aload_n 0, 1) := by decide +kernel
theorem dX12_isTitle_9 : decode cX12_isTitle 9 = .ok (.iconst 0, 1) := by decide +kernel
theorem dX12_isTitle_10 : decode cX12_isTitle 10 = .ok (.putfield 135, 3) := by decide +kernel
theorem dX12_isTitle_13 : decode cX12_isTitle 13 = .ok (.iconst 0, 1) := by decide +kernel
theorem dX12_isTitle_14 : decode cX12_isTitle 14 = .ok (.istore_n 1, 1) := by decide +kernel
theorem dX12_isTitle_15 : decode cX12_isTitle 15 = .ok (.iconst 1, 1) := by decide +kernel
theorem dX12_isTitle_16 : decode cX12_isTitle 16 = .ok (.istore_n 2, 1) := by decide +kernel
theorem dX12_isTitle_17 : decode cX12_isTitle 17 = .ok (.aload_n 0, 1) := by decide +kernel
theorem dX12_isTitle_18 : decode cX12_isTitle 18 = .ok (.invokevirtual 162, 3) := by decide +kernel
theorem dX12_isTitle_21 : decode cX12_isTitle 21 = .ok (.iload_n 2, 1) := by decide +kernel
theorem dX12_isTitle_22 : decode cX12_isTitle 22 = .ok (.ifCond .eq 54, 3) := by decide +kernel
theorem dX12_isTitle_25 : decode cX12_isTitle 25 = .ok (.aload_n 0, 1) := by decide +kernel
theorem dX12_isTitle_26 : decode cX12_isTitle 26 = .ok (.getfield 142, 3) := by decide +kernel
theorem dX12_isTitle_29 : decode cX12_isTitle 29 = .ok (.ifCond .eq 47, 3) := by decide +kernel
theorem dX12_isTitle_32 : decode cX12_isTitle 32 = .ok (.aload_n 0, 1) := by decide +kernel
theorem dX12_isTitle_33 : decode cX12_isTitle 33 = .ok (.getfield 142, 3) := by decide +kernel
theorem dX12_isTitle_36 : decode cX12_isTitle 36 = .ok (.iconst 1, 1) := by decide +kernel
theorem dX12_isTitle_37 : decode cX12_isTitle 37 = .ok (.if_icmp .ne 27, 3) := by decide +kernel
theorem dX12_isTitle_40 : decode cX12_isTitle 40 = .ok (.aload_n 0, 1) := by decide +kernel
theorem dX12_isTitle_41 : decode cX12_isTitle 41 = .ok (.getfield 135, 3) := by decide +kernel
theorem dX12_isTitle_44 : decode cX12_isTitle 44 = .ok (.aload_n 0, 1) := by decide +kernel
theorem dX12_isTitle_45 : decode cX12_isTitle 45 = .ok (.getfield 129, 3) := by decide +kernel
theorem dX12_isTitle_48 : decode cX12_isTitle 48 = .ok (.isub, 1) := by decide +kernel
theorem dX12_isTitle_49 : decode cX12_isTitle 49 = .ok (.bipush 12, 2) := by decide +kernel
theorem dX12_isTitle_51 : decode cX12_isTitle 51 = .ok (.if_icmp .gt 13, 3) := by decide +kernel
theorem dX12_isTitle_54 : decode cX12_isTitle 54 = .ok (.iload_n 1, 1) := by decide +kernel
theorem dX12_isTitle_55 : decode cX12_isTitle 55 = .ok (.bipush 8, 2) := by decide +kernel
theorem dX12_isTitle_57 : decode cX12_isTitle 57 = .ok (.if_icmp .ge 7, 3) := by decide +kernel
theorem dX12_isTitle_60 : decode cX12_isTitle 60 = .ok (.iconst 1, 1) := by decide +kernel
theorem dX12_isTitle_61 : decode cX12_isTitle 61 = .ok (.goto 4, 3) := by decide +kernel
theorem dX12_isTitle_64 : decode cX12_isTitle 64 = .ok (.iconst 0, 1) := by decide +kernel
theorem dX12_isTitle_65 : decode cX12_isTitle 65 = .ok (.istore_n 2, 1) := by decide +kernel
theorem dX12_isTitle_66 : decode cX12_isTitle 66 = .ok (.iinc 1 1, 3) := by decide +kernel
theorem dX12_isTitle_69 : decode cX12_isTitle 69 = .ok (.aload_n 0, 1) := by decide +kernel
theorem dX12_isTitle_70 : decode cX12_isTitle 70 = .ok (.invokevirtual 162, 3) := by decide +kernel
theorem dX12_isTitle_73 : decode cX12_isTitle 73 = .ok (.goto (-52), 3) := by decide +kernel
theorem dX12_isTitle_76 : decode cX12_isTitle 76 = .ok (.iload_n 2, 1) := by decide +kernel
theorem dX12_isTitle_77 : decode cX12_isTitle 77 = .ok (.ifCond .eq 11, 3) := by decide +kernel
theorem dX12_isTitle_80 : decode cX12_isTitle 80 = .ok (.iload_n 1, 1) := by decide +kernel
theorem dX12_isTitle_81 : decode cX12_isTitle 81 = .ok (.ifCond .le 7, 3) := by decide +kernel
theorem dX12_isTitle_84 : decode cX12_isTitle 84 = .ok (.iconst 1, 1) := by decide +kernel
theorem dX12_isTitle_85 : decode cX12_isTitle 85 = .ok (.goto 4, 3) := by decide +kernel
theorem dX12_isTitle_88 : decode cX12_isTitle 88 = .ok (.iconst 0, 1) := by decide +kernel
theorem dX12_isTitle_89 : decode cX12_isTitle 89 = .ok (.ireturn, 1) := by decide +kernel
theorem dX12_takeTitle_0 : decode cX12_takeTitle 0 = .ok (.aload_n 0, 1) := by decide +kernel
theorem dX12_takeTitle_1 : decode cX12_takeTitle 1 = .ok (.aload_n 0, 1) := by decide +kernel
theorem dX12_takeTitle_2 : decode cX12_takeTitle 2 = .ok (.getfield 111, 3) := by decide +kernel
theorem dX12_takeTitle_5 : decode cX12_takeTitle 5 = .ok (.putfield 132, 3) := by decide +kernel
theorem dX12_takeTitle_8 : decode cX12_takeTitle 8 = .ok (.aload_n 0, 1) := by decide +kernel
theorem dX12_takeTitle_9 : decode cX12_takeTitle 9 = .ok (.iconst 0, 1) := by decide +kernel
theorem dX12_takeTitle_10 : decode cX12_takeTitle 10 = .ok (.putfield 135, 3) := by decide +kernel
theorem dX12_takeTitle_13 : decode cX12_takeTitle 13 = .ok (.aload_n 0, 1) := by decide +kernel
theorem dX12_takeTitle_14 : decode cX12_takeTitle 14 = .ok (.iload_n 1, 1) := by decide +kernel
theorem dX12_takeTitle_15 : decode cX12_takeTitle 15 = .ok (.iconst 3, 1) := by decide +kernel
theorem dX12_takeTitle_16 : decode cX12_takeTitle 16 = .ok (.iconst 0, 1) := by decide +kernel
theorem dX12_takeTitle_17 : decode cX12_takeTitle 17 = .ok (.invokevirtual 192, 3) := by decide +kernel
theorem dX12_takeTitle_20 : decode cX12_takeTitle 20 = .ok (.aload_n 0, 1) := by decide +kernel
theorem dX12_takeTitle_21 : decode cX12_takeTitle 21 = .ok (.invokevirtual 162, 3) := by decide +kernel
theorem dX12_takeTitle_24 : decode cX12_takeTitle 24 = .ok (.aload_n 0, 1) := by decide +kernel
theorem dX12_takeTitle_25 : decode cX12_takeTitle 25 = .ok (.getfield 142, 3) := by decide +kernel
theorem dX12_takeTitle_28 : decode cX12_takeTitle 28 = .ok (.ifCond .eq 15, 3) := by decide +kernel
theorem dX12_takeTitle_31 : decode cX12_takeTitle 31 = .ok (.aload_n 0, 1) := by decide +kernel
theorem dX12_takeTitle_32 : decode cX12_takeTitle 32 = .ok (.iload_n 1, 1) := by decide +kernel
theorem dX12_takeTitle_33 : decode cX12_takeTitle 33 = .ok (.invokevirtual 196, 3) := by decide +kernel
theorem dX12_takeTitle_36 : decode cX12_takeTitle 36 = .ok (.aload_n 0, 1) := by decide +kernel
theorem dX12_takeTitle_37 : decode cX12_takeTitle 37 = .ok (.invokevirtual 162, 3) := by decide +kernel
theorem dX12_takeTitle_40 : decode cX12_takeTitle 40 = .ok (.goto (-16), 3) := by decide +kernel
theorem dX12_takeTitle_43 : decode cX12_takeTitle 43 = .ok (.aload_n 0, 1) := by decide +kernel
theorem dX12_takeTitle_44 : decode cX12_takeTitle 44 = .ok (.iconst 0, 1) := by decide +kernel
theorem dX12_takeTitle_45 : decode cX12_takeTitle 45 = .ok (.putfield 111, 3) := by decide +kernel
theorem dX12_takeTitle_48 : decode cX12_takeTitle 48 = .ok (.return_, 1) := by decide +kernel
theorem dX12_setTitle_0 : decode cX12_setTitle 0 = .ok (.aload_n 0, 1) := by decide +kernel
theorem dX12_setTitle_1 : decode cX12_setTitle 1 = .ok (.aload_n 0, 1) := by decide +kernel
theorem dX12_setTitle_2 : decode cX12_setTitle 2 = .ok (.iload_n 1, 1) := by decide +kernel
theorem dX12_setTitle_3 : decode cX12_setTitle 3 = .ok (.invokevirtual 371, 3) := by decide +kernel
theorem dX12_setTitle_6 : decode cX12_setTitle 6 = .ok (.aload_n 0, 1) := by decide +kernel
theorem dX12_setTitle_7 : decode cX12_setTitle 7 = .ok (.invokevirtual 436, 3) := by decide +kernel
theorem dX12_setTitle_10 : decode cX12_setTitle 10 = .ok (.invokevirtual 377, 3) := by decide +kernel
theorem dX12_setTitle_13 : decode cX12_setTitle 13 = .ok (.ifCond .ne 5, 3) := by decide +kernel
theorem dX12_setTitle_16 : decode cX12_setTitle 16 = .ok (.iconst 0, 1) := by decide +kernel
theorem dX12_setTitle_17 : decode cX12_setTitle 17 = .ok (.ireturn, 1) := by decide +kernel
theorem dX12_setTitle_18 : decode cX12_setTitle 18 = .ok (.aload_n 0, 1) := by decide +kernel
theorem dX12_setTitle_19 : decode cX12_setTitle 19 = .ok (.invokevirtual 261, 3) := by decide +kernel
theorem dX12_setTitle_22 : decode cX12_setTitle 22 = .ok (.aload_n 0, 1) := by decide +kernel
theorem dX12_setTitle_23 : decode cX12_setTitle 23 = .ok (.iload_n 1, 1) := by decide +kernel
theorem dX12_setTitle_24 : decode cX12_setTitle 24 = .ok (.iconst 3, 1) := by decide +kernel
theorem dX12_setTitle_25 : decode cX12_setTitle 25 = .ok (.invokevirtual 107, 3) := by decide +kernel
theorem dX12_setTitle_28 : decode cX12_setTitle 28 = .ok (.istore_n 2, 1) := by decide +kernel
theorem dX12_setTitle_29 : decode cX12_setTitle 29 = .ok (.aload_n 0, 1) := by decide +kernel
theorem dX12_setTitle_30 : decode cX12_setTitle 30 = .ok (.iload_n 1, 1) := by decide +kernel
theorem dX12_setTitle_31 : decode cX12_setTitle 31 = .ok (.invokevirtual 439, 3) := by decide +kernel
theorem dX12_setTitle_34 : decode cX12_setTitle 34 = .ok (.iload_n 2, 1) := by decide +kernel
theorem dX12_setTitle_35 : decode cX12_setTitle 35 = .ok (.ireturn, 1) := by decide +kernel
theorem dX12_moveSections_0 : decode cX12_moveSections 0 = .ok (.iload_n 2, 1) := by decide +kernel
theorem dX12_moveSections_1 : decode cX12_moveSections 1 = .ok (.ifCond .le 56, 3) := by decide +kernel
theorem dX12_moveSections_4 : decode cX12_moveSections 4 = .ok (.bipush 102, 2) := by decide +kernel
theorem dX12_moveSections_6 : decode cX12_moveSections 6 = .ok (.aload_n 0, 1) := by decide +kernel
theorem dX12_moveSections_7 : decode cX12_moveSections 7 = .ok (.getfield 17, 3) := by decide +kernel
theorem dX12_moveSections_10 : decode cX12_moveSections 10 = .ok (.bipush 9, 2) := by decide +kernel
theorem dX12_moveSections_12 : decode cX12_moveSections 12 = .ok (.iaload, 1) := by decide +kernel
theorem dX12_moveSections_13 : decode cX12_moveSections 13 = .ok (.imul, 1) := by decide +kernel
theorem dX12_moveSections_14 : decode cX12_moveSections 14 = .ok (.iconst 1, 1) := by decide +kernel
theorem dX12_moveSections_15 : decode cX12_moveSections 15 = .ok (.isub, 1) := by decide +kernel
theorem dX12_moveSections_16 : decode cX12_moveSections 16 = .ok (.istore_n 3, 1) := by decide +kernel
theorem dX12_moveSections_17 : decode cX12_moveSections 17 = .ok (.iload_n 3, 1) := by decide +kernel
theorem dX12_moveSections_18 : decode cX12_moveSections 18 = .ok (.bipush 102, 2) := by decide +kernel
theorem dX12_moveSections_20 : decode cX12_moveSections 20 = .ok (.iload_n 1, 1) := by decide +kernel
theorem dX12_moveSections_21 : decode cX12_moveSections 21 = .ok (.imul, 1) := by decide +kernel
theorem dX12_moveSections_22 : decode cX12_moveSections 22 = .ok (.if_icmp .lt 32, 3) := by decide +kernel
theorem dX12_moveSections_25 : decode cX12_moveSections 25 = .ok (.aload_n 0, 1) := by decide +kernel
theorem dX12_moveSections_26 : decode cX12_moveSections 26 = .ok (.getfield 17, 3) := by decide +kernel
theorem dX12_moveSections_29 : decode cX12_moveSections 29 = .ok (.bipush 12, 2) := by decide +kernel
theorem dX12_moveSections_31 : decode cX12_moveSections 31 = .ok (.iload_n 3, 1) := by decide +kernel
theorem dX12_moveSections_32 : decode cX12_moveSections 32 = .ok (.iadd, 1) := by decide +kernel
theorem dX12_moveSections_33 : decode cX12_moveSections 33 = .ok (.bipush 102, 2) := by decide +kernel
theorem dX12_moveSections_35 : decode cX12_moveSections 35 = .ok (.iload_n 2, 1) := by decide +kernel
theorem dX12_moveSections_36 : decode cX12_moveSections 36 = .ok (.imul, 1) := by decide +kernel
theorem dX12_moveSections_37 : decode cX12_moveSections 37 = .ok (.iadd, 1) := by decide +kernel
theorem dX12_moveSections_38 : decode cX12_moveSections 38 = .ok (.aload_n 0, 1) := by decide +kernel
theorem dX12_moveSections_39 : decode cX12_moveSections 39 = .ok (.getfield 17, 3) := by decide +kernel
theorem dX12_moveSections_42 : decode cX12_moveSections 42 = .ok (.bipush 12, 2) := by decide +kernel
theorem dX12_moveSections_44 : decode cX12_moveSections 44 = .ok (.iload_n 3, 1) := by decide +kernel
theorem dX12_moveSections_45 : decode cX12_moveSections 45 = .ok (.iadd, 1) := by decide +kernel
theorem dX12_moveSections_46 : decode cX12_moveSections 46 = .ok (.iaload, 1) := by decide +kernel
theorem dX12_moveSections_47 : decode cX12_moveSections 47 = .ok (.iastore, 1) := by decide +kernel
theorem dX12_moveSections_48 : decode cX12_moveSections 48 = .ok (.iinc 3 (-1), 3) := by decide +kernel
theorem dX12_moveSections_51 : decode cX12_moveSections 51 = .ok (.goto (-34), 3) := by decide +kernel
theorem dX12_moveSections_54 : decode cX12_moveSections 54 = .ok (.goto 51, 3) := by decide +kernel
theorem dX12_moveSections_57 : decode cX12_moveSections 57 = .ok (.bipush 102, 2) := by decide +kernel
theorem dX12_moveSections_59 : decode cX12_moveSections 59 = .ok (.iload_n 1, 1) := by decide +kernel
theorem dX12_moveSections_60 : decode cX12_moveSections 60 = .ok (.imul, 1) := by decide +kernel
theorem dX12_moveSections_61 : decode cX12_moveSections 61 = .ok (.istore_n 3, 1) := by decide +kernel
theorem dX12_moveSections_62 : decode cX12_moveSections 62 = .ok (.iload_n 3, 1) := by decide +kernel
theorem dX12_moveSections_63 : decode cX12_moveSections 63 = .ok (.bipush 102, 2) := by decide +kernel
theorem dX12_moveSections_65 : decode cX12_moveSections 65 = .ok (.aload_n 0, 1) := by decide +kernel
theorem dX12_moveSections_66 : decode cX12_moveSections 66 = .ok (.getfield 17, 3) := by decide +kernel
theorem dX12_moveSections_69 : decode cX12_moveSections 69 = .ok (.bipush 9, 2) := by decide +kernel
theorem dX12_moveSections_71 : decode cX12_moveSections 71 = .ok (.iaload, 1) := by decide +kernel
theorem dX12_moveSections_72 : decode cX12_moveSections 72 = .ok (.imul, 1) := by decide +kernel
theorem dX12_moveSections_73 : decode cX12_moveSections 73 = .ok (.if_icmp .ge 32, 3) := by decide +kernel
theorem dX12_moveSections_76 : decode cX12_moveSections 76 = .ok (.aload_n 0, 1) := by decide +kernel
theorem dX12_moveSections_77 : decode cX12_moveSections 77 = .ok (.getfield 17, 3) := by decide +kernel
theorem dX12_moveSections_80 : decode cX12_moveSections 80 = .ok (.bipush 12, 2) := by decide +kernel
theorem dX12_moveSections_82 : decode cX12_moveSections 82 = .ok (.iload_n 3, 1) := by decide +kernel
theorem dX12_moveSections_83 : decode cX12_moveSections 83 = .ok (.iadd, 1) := by decide +kernel
theorem dX12_moveSections_84 : decode cX12_moveSections 84 = .ok (.bipush 102, 2) := by decide +kernel
theorem dX12_moveSections_86 : decode cX12_moveSections 86 = .ok (.iload_n 2, 1) := by decide +kernel
theorem dX12_moveSections_87 : decode cX12_moveSections 87 = .ok (.imul, 1) := by decide +kernel
theorem dX12_moveSections_88 : decode cX12_moveSections 88 = .ok (.iadd, 1) := by decide +kernel
theorem dX12_moveSections_89 : decode cX12_moveSections 89 = .ok (.aload_n 0, 1) := by decide +kernel
theorem dX12_moveSections_90 : decode cX12_moveSections 90 = .ok (.getfield 17, 3) := by decide +kernel
theorem dX12_moveSections_93 : decode cX12_moveSections 93 = .ok (.bipush 12, 2) := by decide +kernel
theorem dX12_moveSections_95 : decode cX12_moveSections 95 = .ok (.iload_n 3, 1) := by decide +kernel
theorem dX12_moveSections_96 : decode cX12_moveSections 96 = .ok (.iadd, 1) := by decide +kernel
theorem dX12_moveSections_97 : decode cX12_moveSections 97 = .ok (.iaload, 1) := by decide +kernel
theorem dX12_moveSections_98 : decode cX12_moveSections 98 = .ok (.iastore, 1) := by decide +kernel
theorem dX12_moveSections_99 : decode cX12_moveSections 99 = .ok (.iinc 3 1, 3) := by decide +kernel
theorem dX12_moveSections_102 : decode cX12_moveSections 102 = .ok (.goto (-40), 3) := by decide +kernel
theorem dX12_moveSections_105 : decode cX12_moveSections 105 = .ok (.aload_n 0, 1) := by decide +kernel
theorem dX12_moveSections_106 : decode cX12_moveSections 106 = .ok (.getfield 17, 3) := by decide +kernel
theorem dX12_moveSections_109 : decode cX12_moveSections 109 = .ok (.bipush 9, 2) := by decide +kernel
theorem dX12_moveSections_111 : decode cX12_moveSections 111 = .ok (.dup2, 1) := by decide +kernel
theorem dX12_moveSections_112 : decode cX12_moveSections 112 = .ok (.iaload, 1) := by decide +kernel
theorem dX12_moveSections_113 : decode cX12_moveSections 113 = .ok (.iload_n 2, 1) := by decide +kernel
theorem dX12_moveSections_114 : decode cX12_moveSections 114 = .ok (.iadd, 1) := by decide +kernel
theorem dX12_moveSections_115 : decode cX12_moveSections 115 = .ok (.iastore, 1) := by decide +kernel
theorem dX12_moveSections_116 : decode cX12_moveSections 116 = .ok (.return_, 1) := by decide +kernel
theorem dX12_partFor_0 : decode cX12_partFor 0 = .ok (.aload_n 0, 1) := by decide +kernel
theorem dX12_partFor_1 : decode cX12_partFor 1 = .ok (.getfield 17, 3) := by decide +kernel
theorem dX12_partFor_4 : decode cX12_partFor 4 = .ok (.bipush 9, 2) := by decide +kernel
theorem dX12_partFor_6 : decode cX12_partFor 6 = .ok (.iaload, 1) := by decide +kernel
theorem dX12_partFor_7 : decode cX12_partFor 7 = .ok (.ifCond .ne 5, 3) := by decide +kernel
theorem dX12_partFor_10 : decode cX12_partFor 10 = .ok (.iconst 0, 1) := by decide +kernel
theorem dX12_partFor_11 : decode cX12_partFor 11 = .ok (.ireturn, 1) := by decide +kernel
theorem dX12_partFor_12 : decode cX12_partFor 12 = .ok (.aload_n 0, 1) := by decide +kernel
theorem dX12_partFor_13 : decode cX12_partFor 13 = .ok (.iload_n 1, 1) := by decide +kernel
theorem dX12_partFor_14 : decode cX12_partFor 14 = .ok (.aload_n 0, 1) := by decide +kernel
theorem dX12_partFor_15 : decode cX12_partFor 15 = .ok (.getfield 17, 3) := by decide +kernel
theorem dX12_partFor_18 : decode cX12_partFor 18 = .ok (.bipush 9, 2) := by decide +kernel
theorem dX12_partFor_20 : decode cX12_partFor 20 = .ok (.iaload, 1) := by decide +kernel
theorem dX12_partFor_21 : decode cX12_partFor 21 = .ok (.iconst 1, 1) := by decide +kernel
theorem dX12_partFor_22 : decode cX12_partFor 22 = .ok (.isub, 1) := by decide +kernel
theorem dX12_partFor_23 : decode cX12_partFor 23 = .ok (.invokestatic 157, 3) := by decide +kernel
theorem dX12_partFor_26 : decode cX12_partFor 26 = .ok (.iconst 2, 1) := by decide +kernel
theorem dX12_partFor_27 : decode cX12_partFor 27 = .ok (.invokevirtual 107, 3) := by decide +kernel
theorem dX12_partFor_30 : decode cX12_partFor 30 = .ok (.ireturn, 1) := by decide +kernel
theorem dX12_canBeAt_0 : decode cX12_canBeAt 0 = .ok (.aload_n 0, 1) := by decide +kernel
theorem dX12_canBeAt_1 : decode cX12_canBeAt 1 = .ok (.iload_n 1, 1) := by decide +kernel
theorem dX12_canBeAt_2 : decode cX12_canBeAt 2 = .ok (.invokevirtual 442, 3) := by decide +kernel
theorem dX12_canBeAt_5 : decode cX12_canBeAt 5 = .ok (.istore_n 3, 1) := by decide +kernel
theorem dX12_canBeAt_6 : decode cX12_canBeAt 6 = .ok (.iload_n 2, 1) := by decide +kernel
theorem dX12_canBeAt_7 : decode cX12_canBeAt 7 = .ok (.aload_n 0, 1) := by decide +kernel
theorem dX12_canBeAt_8 : decode cX12_canBeAt 8 = .ok (.iload_n 1, 1) := by decide +kernel
theorem dX12_canBeAt_9 : decode cX12_canBeAt 9 = .ok (.iconst 1, 1) := by decide +kernel
theorem dX12_canBeAt_10 : decode cX12_canBeAt 10 = .ok (.isub, 1) := by decide +kernel
theorem dX12_canBeAt_11 : decode cX12_canBeAt 11 = .ok (.iload_n 3, 1) := by decide +kernel
theorem dX12_canBeAt_12 : decode cX12_canBeAt 12 = .ok (.invokevirtual 203, 3) := by decide +kernel
theorem dX12_canBeAt_15 : decode cX12_canBeAt 15 = .ok (.if_icmp .le 5, 3) := by decide +kernel
theorem dX12_canBeAt_18 : decode cX12_canBeAt 18 = .ok (.iconst 0, 1) := by decide +kernel
theorem dX12_canBeAt_19 : decode cX12_canBeAt 19 = .ok (.ireturn, 1) := by decide +kernel
theorem dX12_canBeAt_20 : decode cX12_canBeAt 20 = .ok (.iload_n 1, 1) := by decide +kernel
theorem dX12_canBeAt_21 : decode cX12_canBeAt 21 = .ok (.aload_n 0, 1) := by decide +kernel
theorem dX12_canBeAt_22 : decode cX12_canBeAt 22 = .ok (.getfield 17, 3) := by decide +kernel
theorem dX12_canBeAt_25 : decode cX12_canBeAt 25 = .ok (.bipush 9, 2) := by decide +kernel
theorem dX12_canBeAt_27 : decode cX12_canBeAt 27 = .ok (.iaload, 1) := by decide +kernel
theorem dX12_canBeAt_28 : decode cX12_canBeAt 28 = .ok (.if_icmp .eq 25, 3) := by decide +kernel
theorem dX12_canBeAt_31 : decode cX12_canBeAt 31 = .ok (.aload_n 0, 1) := by decide +kernel
theorem dX12_canBeAt_32 : decode cX12_canBeAt 32 = .ok (.iload_n 1, 1) := by decide +kernel
theorem dX12_canBeAt_33 : decode cX12_canBeAt 33 = .ok (.iconst 2, 1) := by decide +kernel
theorem dX12_canBeAt_34 : decode cX12_canBeAt 34 = .ok (.invokevirtual 107, 3) := by decide +kernel
theorem dX12_canBeAt_37 : decode cX12_canBeAt 37 = .ok (.iload_n 3, 1) := by decide +kernel
theorem dX12_canBeAt_38 : decode cX12_canBeAt 38 = .ok (.if_icmp .ne 15, 3) := by decide +kernel
theorem dX12_canBeAt_41 : decode cX12_canBeAt 41 = .ok (.aload_n 0, 1) := by decide +kernel
theorem dX12_canBeAt_42 : decode cX12_canBeAt 42 = .ok (.iload_n 1, 1) := by decide +kernel
theorem dX12_canBeAt_43 : decode cX12_canBeAt 43 = .ok (.iconst 0, 1) := by decide +kernel
theorem dX12_canBeAt_44 : decode cX12_canBeAt 44 = .ok (.invokevirtual 107, 3) := by decide +kernel
theorem dX12_canBeAt_47 : decode cX12_canBeAt 47 = .ok (.iload_n 2, 1) := by decide +kernel
theorem dX12_canBeAt_48 : decode cX12_canBeAt 48 = .ok (.iconst 1, 1) := by decide +kernel
theorem dX12_canBeAt_49 : decode cX12_canBeAt 49 = .ok (.iadd, 1) := by decide +kernel
theorem dX12_canBeAt_50 : decode cX12_canBeAt 50 = .ok (.if_icmp .gt 7, 3) := by decide +kernel
theorem dX12_canBeAt_53 : decode cX12_canBeAt 53 = .ok (.iconst 1, 1) := by decide +kernel
theorem dX12_canBeAt_54 : decode cX12_canBeAt 54 = .ok (.goto 4, 3) := by decide +kernel
theorem dX12_canBeAt_57 : decode cX12_canBeAt 57 = .ok (.iconst 0, 1) := by decide +kernel
theorem dX12_canBeAt_58 : decode cX12_canBeAt 58 = .ok (.ireturn, 1) := by decide +kernel
theorem dX12_insert_0 : decode cX12_insert 0 = .ok (.iload_n 1, 1) := by decide +kernel
theorem dX12_insert_1 : decode cX12_insert 1 = .ok (.i2l, 1) := by decide +kernel
theorem dX12_insert_2 : decode cX12_insert 2 = .ok (.lconst 0, 1) := by decide +kernel
theorem dX12_insert_3 : decode cX12_insert 3 = .ok (.aload_n 0, 1) := by decide +kernel
theorem dX12_insert_4 : decode cX12_insert 4 = .ok (.getfield 17, 3) := by decide +kernel
theorem dX12_insert_7 : decode cX12_insert 7 = .ok (.bipush 9, 2) := by decide +kernel
theorem dX12_insert_9 : decode cX12_insert 9 = .ok (.iaload, 1) := by decide +kernel
theorem dX12_insert_10 : decode cX12_insert 10 = .ok (.i2l, 1) := by decide +kernel
theorem dX12_insert_11 : decode cX12_insert 11 = .ok (.invokestatic 103, 3) := by decide +kernel
theorem dX12_insert_14 : decode cX12_insert 14 = .ok (.istore 4, 2) := by decide +kernel
theorem dX12_insert_16 : decode cX12_insert 16 = .ok (.iload_n 2, 1) := by decide +kernel
theorem dX12_insert_17 : decode cX12_insert 17 = .ok (.i2l, 1) := by decide +kernel
theorem dX12_insert_18 : decode cX12_insert 18 = .ok (.lconst 1, 1) := by decide +kernel
theorem dX12_insert_19 : decode cX12_insert 19 = .ok (.ldc2_w 399, 3) := by decide +kernel
theorem dX12_insert_22 : decode cX12_insert 22 = .ok (.invokestatic 103, 3) := by decide +kernel
theorem dX12_insert_25 : decode cX12_insert 25 = .ok (.ifCond .eq 26, 3) := by decide +kernel
theorem dX12_insert_28 : decode cX12_insert 28 = .ok (.iload_n 3, 1) := by decide +kernel
theorem dX12_insert_29 : decode cX12_insert 29 = .ok (.i2l, 1) := by decide +kernel
theorem dX12_insert_30 : decode cX12_insert 30 = .ok (.lconst 0, 1) := by decide +kernel
theorem dX12_insert_31 : decode cX12_insert 31 = .ok (.ldc2_w 431, 3) := by decide +kernel
theorem dX12_insert_34 : decode cX12_insert 34 = .ok (.invokestatic 103, 3) := by decide +kernel
theorem dX12_insert_37 : decode cX12_insert 37 = .ok (.ifCond .eq 14, 3) := by decide +kernel
theorem dX12_insert_40 : decode cX12_insert 40 = .ok (.aload_n 0, 1) := by decide +kernel
theorem dX12_insert_41 : decode cX12_insert 41 = .ok (.invokevirtual 436, 3) := by decide +kernel
theorem dX12_insert_44 : decode cX12_insert 44 = .ok (.ifCond .eq 7, 3) := by decide +kernel
theorem dX12_insert_47 : decode cX12_insert 47 = .ok (.iconst 1, 1) := by decide +kernel
theorem dX12_insert_48 : decode cX12_insert 48 = .ok (.goto 4, 3) := by decide +kernel
theorem dX12_insert_51 : decode cX12_insert 51 = .ok (.iconst 0, 1) := by decide +kernel
theorem dX12_insert_52 : decode cX12_insert 52 = .ok (.istore 5, 2) := by decide +kernel
theorem dX12_insert_54 : decode cX12_insert 54 = .ok (.aload_n 0, 1) := by decide +kernel
theorem dX12_insert_55 : decode cX12_insert 55 = .ok (.iload 4, 2) := by decide +kernel
theorem dX12_insert_57 : decode cX12_insert 57 = .ok (.iload 5, 2) := by decide +kernel
theorem dX12_insert_59 : decode cX12_insert 59 = .ok (.ifCond .eq 21, 3) := by decide +kernel
theorem dX12_insert_62 : decode cX12_insert 62 = .ok (.iload 4, 2) := by decide +kernel
theorem dX12_insert_64 : decode cX12_insert 64 = .ok (.ifCond .eq 12, 3) := by decide +kernel
theorem dX12_insert_67 : decode cX12_insert 67 = .ok (.aload_n 0, 1) := by decide +kernel
theorem dX12_insert_68 : decode cX12_insert 68 = .ok (.iload_n 1, 1) := by decide +kernel
theorem dX12_insert_69 : decode cX12_insert 69 = .ok (.iload_n 2, 1) := by decide +kernel
theorem dX12_insert_70 : decode cX12_insert 70 = .ok (.invokevirtual 445, 3) := by decide +kernel
theorem dX12_insert_73 : decode cX12_insert 73 = .ok (.ifCond .eq 7, 3) := by decide +kernel
theorem dX12_insert_76 : decode cX12_insert 76 = .ok (.iconst 1, 1) := by decide +kernel
theorem dX12_insert_77 : decode cX12_insert 77 = .ok (.goto 4, 3) := by decide +kernel
theorem dX12_insert_80 : decode cX12_insert 80 = .ok (.iconst 0, 1) := by decide +kernel
theorem dX12_insert_81 : decode cX12_insert 81 = .ok (.aload_n 0, 1) := by decide +kernel
theorem dX12_insert_82 : decode cX12_insert 82 = .ok (.getfield 17, 3) := by decide +kernel
theorem dX12_insert_85 : decode cX12_insert 85 = .ok (.bipush 9, 2) := by decide +kernel
theorem dX12_insert_87 : decode cX12_insert 87 = .ok (.iaload, 1) := by decide +kernel
theorem dX12_insert_88 : decode cX12_insert 88 = .ok (.bipush 24, 2) := by decide +kernel
theorem dX12_insert_90 : decode cX12_insert 90 = .ok (.if_icmp .ge 7, 3) := by decide +kernel
theorem dX12_insert_93 : decode cX12_insert 93 = .ok (.iconst 1, 1) := by decide +kernel
theorem dX12_insert_94 : decode cX12_insert 94 = .ok (.goto 4, 3) := by decide +kernel
theorem dX12_insert_97 : decode cX12_insert 97 = .ok (.iconst 0, 1) := by decide +kernel
theorem dX12_insert_98 : decode cX12_insert 98 = .ok (.invokevirtual 7, 3) := by decide +kernel
theorem dX12_insert_101 : decode cX12_insert 101 = .ok (.ifCond .ne 5, 3) := by decide +kernel
theorem dX12_insert_104 : decode cX12_insert 104 = .ok (.iconst 0, 1) := by decide +kernel
theorem dX12_insert_105 : decode cX12_insert 105 = .ok (.ireturn, 1) := by decide +kernel
theorem dX12_insert_106 : decode cX12_insert 106 = .ok (.aload_n 0, 1) := by decide +kernel
theorem dX12_insert_107 : decode cX12_insert 107 = .ok (.invokevirtual 261, 3) := by decide +kernel
theorem dX12_insert_110 : decode cX12_insert 110 = .ok (.aload_n 0, 1) := by decide +kernel
theorem dX12_insert_111 : decode cX12_insert 111 = .ok (.iload_n 1, 1) := by decide +kernel
theorem dX12_insert_112 : decode cX12_insert 112 = .ok (.invokevirtual 442, 3) := by decide +kernel
theorem dX12_insert_115 : decode cX12_insert 115 = .ok (.istore 6, 2) := by decide +kernel
theorem dX12_insert_117 : decode cX12_insert 117 = .ok (.aload_n 0, 1) := by decide +kernel
theorem dX12_insert_118 : decode cX12_insert 118 = .ok (.iload_n 1, 1) := by decide +kernel
theorem dX12_insert_119 : decode cX12_insert 119 = .ok (.iconst 1, 1) := by decide +kernel
theorem dX12_insert_120 : decode cX12_insert 120 = .ok (.invokevirtual 448, 3) := by decide +kernel
theorem dX12_insert_123 : decode cX12_insert 123 = .ok (.aload_n 0, 1) := by decide +kernel
theorem dX12_insert_124 : decode cX12_insert 124 = .ok (.iload_n 1, 1) := by decide +kernel
theorem dX12_insert_125 : decode cX12_insert 125 = .ok (.iconst 0, 1) := by decide +kernel
theorem dX12_insert_126 : decode cX12_insert 126 = .ok (.iload_n 2, 1) := by decide +kernel
theorem dX12_insert_127 : decode cX12_insert 127 = .ok (.invokevirtual 192, 3) := by decide +kernel
theorem dX12_insert_130 : decode cX12_insert 130 = .ok (.aload_n 0, 1) := by decide +kernel
theorem dX12_insert_131 : decode cX12_insert 131 = .ok (.iload_n 1, 1) := by decide +kernel
theorem dX12_insert_132 : decode cX12_insert 132 = .ok (.iconst 1, 1) := by decide +kernel
theorem dX12_insert_133 : decode cX12_insert 133 = .ok (.iload_n 3, 1) := by decide +kernel
theorem dX12_insert_134 : decode cX12_insert 134 = .ok (.invokevirtual 192, 3) := by decide +kernel
theorem dX12_insert_137 : decode cX12_insert 137 = .ok (.aload_n 0, 1) := by decide +kernel
theorem dX12_insert_138 : decode cX12_insert 138 = .ok (.iload_n 1, 1) := by decide +kernel
theorem dX12_insert_139 : decode cX12_insert 139 = .ok (.iconst 2, 1) := by decide +kernel
theorem dX12_insert_140 : decode cX12_insert 140 = .ok (.iload 6, 2) := by decide +kernel
theorem dX12_insert_142 : decode cX12_insert 142 = .ok (.invokevirtual 192, 3) := by decide +kernel
theorem dX12_insert_145 : decode cX12_insert 145 = .ok (.aload_n 0, 1) := by decide +kernel
theorem dX12_insert_146 : decode cX12_insert 146 = .ok (.iload_n 1, 1) := by decide +kernel
theorem dX12_insert_147 : decode cX12_insert 147 = .ok (.iconst 4, 1) := by decide +kernel
theorem dX12_insert_148 : decode cX12_insert 148 = .ok (.iconst (-1), 1) := by decide +kernel
theorem dX12_insert_149 : decode cX12_insert 149 = .ok (.invokevirtual 192, 3) := by decide +kernel
theorem dX12_insert_152 : decode cX12_insert 152 = .ok (.aload_n 0, 1) := by decide +kernel
theorem dX12_insert_153 : decode cX12_insert 153 = .ok (.iload_n 1, 1) := by decide +kernel
theorem dX12_insert_154 : decode cX12_insert 154 = .ok (.iconst 5, 1) := by decide +kernel
theorem dX12_insert_155 : decode cX12_insert 155 = .ok (.iconst 0, 1) := by decide +kernel
theorem dX12_insert_156 : decode cX12_insert 156 = .ok (.invokevirtual 192, 3) := by decide +kernel
theorem dX12_insert_159 : decode cX12_insert 159 = .ok (.aload_n 0, 1) := by decide +kernel
theorem dX12_insert_160 : decode cX12_insert 160 = .ok (.iload_n 1, 1) := by decide +kernel
theorem dX12_insert_161 : decode cX12_insert 161 = .ok (.invokevirtual 439, 3) := by decide +kernel
theorem dX12_insert_164 : decode cX12_insert 164 = .ok (.aload_n 0, 1) := by decide +kernel
theorem dX12_insert_165 : decode cX12_insert 165 = .ok (.getfield 17, 3) := by decide +kernel
theorem dX12_insert_168 : decode cX12_insert 168 = .ok (.bipush 9, 2) := by decide +kernel
theorem dX12_insert_170 : decode cX12_insert 170 = .ok (.iaload, 1) := by decide +kernel
theorem dX12_insert_171 : decode cX12_insert 171 = .ok (.ireturn, 1) := by decide +kernel
theorem dX12_remove_0 : decode cX12_remove 0 = .ok (.aload_n 0, 1) := by decide +kernel
theorem dX12_remove_1 : decode cX12_remove 1 = .ok (.aload_n 0, 1) := by decide +kernel
theorem dX12_remove_2 : decode cX12_remove 2 = .ok (.iload_n 1, 1) := by decide +kernel
theorem dX12_remove_3 : decode cX12_remove 3 = .ok (.invokevirtual 371, 3) := by decide +kernel
theorem dX12_remove_6 : decode cX12_remove 6 = .ok (.invokevirtual 114, 3) := by decide +kernel
theorem dX12_remove_9 : decode cX12_remove 9 = .ok (.ifCond .ne 5, 3) := by decide +kernel
theorem dX12_remove_12 : decode cX12_remove 12 = .ok (.iconst 0, 1) := by decide +kernel
theorem dX12_remove_13 : decode cX12_remove 13 = .ok (.ireturn, 1) := by decide +kernel
theorem dX12_remove_14 : decode cX12_remove 14 = .ok (.aload_n 0, 1) := by decide +kernel
theorem dX12_remove_15 : decode cX12_remove 15 = .ok (.invokevirtual 261, 3) := by decide +kernel
theorem dX12_remove_18 : decode cX12_remove 18 = .ok (.iload_n 1, 1) := by decide +kernel
theorem dX12_remove_19 : decode cX12_remove 19 = .ok (.iconst 1, 1) := by decide +kernel
theorem dX12_remove_20 : decode cX12_remove 20 = .ok (.iadd, 1) := by decide +kernel
theorem dX12_remove_21 : decode cX12_remove 21 = .ok (.istore_n 2, 1) := by decide +kernel
theorem dX12_remove_22 : decode cX12_remove 22 = .ok (.iload_n 2, 1) := by decide +kernel
theorem dX12_remove_23 : decode cX12_remove 23 = .ok (.aload_n 0, 1) := by decide +kernel
theorem dX12_remove_24 : decode cX12_remove 24 = .ok (.getfield 17, 3) := by decide +kernel
theorem dX12_remove_27 : decode cX12_remove 27 = .ok (.bipush 9, 2) := by decide +kernel
theorem dX12_remove_29 : decode cX12_remove 29 = .ok (.iaload, 1) := by decide +kernel
theorem dX12_remove_30 : decode cX12_remove 30 = .ok (.if_icmp .ge 39, 3) := by decide +kernel
theorem dX12_remove_33 : decode cX12_remove 33 = .ok (.aload_n 0, 1) := by decide +kernel
theorem dX12_remove_34 : decode cX12_remove 34 = .ok (.iload_n 2, 1) := by decide +kernel
theorem dX12_remove_35 : decode cX12_remove 35 = .ok (.iconst 2, 1) := by decide +kernel
theorem dX12_remove_36 : decode cX12_remove 36 = .ok (.invokevirtual 107, 3) := by decide +kernel
theorem dX12_remove_39 : decode cX12_remove 39 = .ok (.aload_n 0, 1) := by decide +kernel
theorem dX12_remove_40 : decode cX12_remove 40 = .ok (.iload_n 1, 1) := by decide +kernel
theorem dX12_remove_41 : decode cX12_remove 41 = .ok (.iconst 2, 1) := by decide +kernel
theorem dX12_remove_42 : decode cX12_remove 42 = .ok (.invokevirtual 107, 3) := by decide +kernel
theorem dX12_remove_45 : decode cX12_remove 45 = .ok (.if_icmp .ne 24, 3) := by decide +kernel
theorem dX12_remove_48 : decode cX12_remove 48 = .ok (.aload_n 0, 1) := by decide +kernel
theorem dX12_remove_49 : decode cX12_remove 49 = .ok (.iload_n 2, 1) := by decide +kernel
theorem dX12_remove_50 : decode cX12_remove 50 = .ok (.iconst 0, 1) := by decide +kernel
theorem dX12_remove_51 : decode cX12_remove 51 = .ok (.invokevirtual 107, 3) := by decide +kernel
theorem dX12_remove_54 : decode cX12_remove 54 = .ok (.aload_n 0, 1) := by decide +kernel
theorem dX12_remove_55 : decode cX12_remove 55 = .ok (.iload_n 1, 1) := by decide +kernel
theorem dX12_remove_56 : decode cX12_remove 56 = .ok (.iconst 0, 1) := by decide +kernel
theorem dX12_remove_57 : decode cX12_remove 57 = .ok (.invokevirtual 107, 3) := by decide +kernel
theorem dX12_remove_60 : decode cX12_remove 60 = .ok (.if_icmp .le 9, 3) := by decide +kernel
theorem dX12_remove_63 : decode cX12_remove 63 = .ok (.iinc 2 1, 3) := by decide +kernel
theorem dX12_remove_66 : decode cX12_remove 66 = .ok (.goto (-44), 3) := by decide +kernel
theorem dX12_remove_69 : decode cX12_remove 69 = .ok (.aload_n 0, 1) := by decide +kernel
theorem dX12_remove_70 : decode cX12_remove 70 = .ok (.iload_n 2, 1) := by decide +kernel
theorem dX12_remove_71 : decode cX12_remove 71 = .ok (.iload_n 1, 1) := by decide +kernel
theorem dX12_remove_72 : decode cX12_remove 72 = .ok (.iload_n 2, 1) := by decide +kernel
theorem dX12_remove_73 : decode cX12_remove 73 = .ok (.isub, 1) := by decide +kernel
theorem dX12_remove_74 : decode cX12_remove 74 = .ok (.invokevirtual 448, 3) := by decide +kernel
theorem dX12_remove_77 : decode cX12_remove 77 = .ok (.iload_n 2, 1) := by decide +kernel
theorem dX12_remove_78 : decode cX12_remove 78 = .ok (.iload_n 1, 1) := by decide +kernel
theorem dX12_remove_79 : decode cX12_remove 79 = .ok (.isub, 1) := by decide +kernel
theorem dX12_remove_80 : decode cX12_remove 80 = .ok (.ireturn, 1) := by decide +kernel
theorem dX12_change_0 : decode cX12_change 0 = .ok (.aload_n 0, 1) := by decide +kernel
theorem dX12_change_1 : decode cX12_change 1 = .ok (.invokevirtual 261, 3) := by decide +kernel
theorem dX12_change_4 : decode cX12_change 4 = .ok (.aload_n 0, 1) := by decide +kernel
theorem dX12_change_5 : decode cX12_change 5 = .ok (.getfield 17, 3) := by decide +kernel
theorem dX12_change_8 : decode cX12_change 8 = .ok (.iload_n 1, 1) := by decide +kernel
theorem dX12_change_9 : decode cX12_change 9 = .ok (.iaload, 1) := by decide +kernel
theorem dX12_change_10 : decode cX12_change 10 = .ok (.istore_n 3, 1) := by decide +kernel
theorem dX12_change_11 : decode cX12_change 11 = .ok (.aload_n 0, 1) := by decide +kernel
theorem dX12_change_12 : decode cX12_change 12 = .ok (.getfield 17, 3) := by decide +kernel
theorem dX12_change_15 : decode cX12_change 15 = .ok (.iload_n 1, 1) := by decide +kernel
theorem dX12_change_16 : decode cX12_change 16 = .ok (.iload_n 2, 1) := by decide +kernel
theorem dX12_change_17 : decode cX12_change 17 = .ok (.iastore, 1) := by decide +kernel
theorem dX12_change_18 : decode cX12_change 18 = .ok (.iload_n 3, 1) := by decide +kernel
theorem dX12_change_19 : decode cX12_change 19 = .ok (.ireturn, 1) := by decide +kernel
theorem dX12_setWidth_0 : decode cX12_setWidth 0 = .ok (.aload_n 0, 1) := by decide +kernel
theorem dX12_setWidth_1 : decode cX12_setWidth 1 = .ok (.iload_n 1, 1) := by decide +kernel
theorem dX12_setWidth_2 : decode cX12_setWidth 2 = .ok (.i2l, 1) := by decide +kernel
theorem dX12_setWidth_3 : decode cX12_setWidth 3 = .ok (.ldc2_w 451, 3) := by decide +kernel
theorem dX12_setWidth_6 : decode cX12_setWidth 6 = .ok (.ldc2_w 453, 3) := by decide +kernel
theorem dX12_setWidth_9 : decode cX12_setWidth 9 = .ok (.invokestatic 103, 3) := by decide +kernel
theorem dX12_setWidth_12 : decode cX12_setWidth 12 = .ok (.invokevirtual 114, 3) := by decide +kernel
theorem dX12_setWidth_15 : decode cX12_setWidth 15 = .ok (.ifCond .eq 12, 3) := by decide +kernel
theorem dX12_setWidth_18 : decode cX12_setWidth 18 = .ok (.aload_n 0, 1) := by decide +kernel
theorem dX12_setWidth_19 : decode cX12_setWidth 19 = .ok (.iconst 0, 1) := by decide +kernel
theorem dX12_setWidth_20 : decode cX12_setWidth 20 = .ok (.iload_n 1, 1) := by decide +kernel
theorem dX12_setWidth_21 : decode cX12_setWidth 21 = .ok (.invokevirtual 455, 3) := by decide +kernel
theorem dX12_setWidth_24 : decode cX12_setWidth 24 = .ok (.goto 4, 3) := by decide +kernel
theorem dX12_setWidth_27 : decode cX12_setWidth 27 = .ok (.iconst 0, 1) := by decide +kernel
theorem dX12_setWidth_28 : decode cX12_setWidth 28 = .ok (.ireturn, 1) := by decide +kernel
theorem dX12_setGrid_0 : decode cX12_setGrid 0 = .ok (.aload_n 0, 1) := by decide +kernel
theorem dX12_setGrid_1 : decode cX12_setGrid 1 = .ok (.iload_n 1, 1) := by decide +kernel
theorem dX12_setGrid_2 : decode cX12_setGrid 2 = .ok (.i2l, 1) := by decide +kernel
theorem dX12_setGrid_3 : decode cX12_setGrid 3 = .ok (.lconst 1, 1) := by decide +kernel
theorem dX12_setGrid_4 : decode cX12_setGrid 4 = .ok (.ldc2_w 458, 3) := by decide +kernel
theorem dX12_setGrid_7 : decode cX12_setGrid 7 = .ok (.invokestatic 103, 3) := by decide +kernel
theorem dX12_setGrid_10 : decode cX12_setGrid 10 = .ok (.invokevirtual 114, 3) := by decide +kernel
theorem dX12_setGrid_13 : decode cX12_setGrid 13 = .ok (.ifCond .eq 13, 3) := by decide +kernel
theorem dX12_setGrid_16 : decode cX12_setGrid 16 = .ok (.aload_n 0, 1) := by decide +kernel
theorem dX12_setGrid_17 : decode cX12_setGrid 17 = .ok (.bipush 7, 2) := by decide +kernel
theorem dX12_setGrid_19 : decode cX12_setGrid 19 = .ok (.iload_n 1, 1) := by decide +kernel
theorem dX12_setGrid_20 : decode cX12_setGrid 20 = .ok (.invokevirtual 455, 3) := by decide +kernel
theorem dX12_setGrid_23 : decode cX12_setGrid 23 = .ok (.goto 4, 3) := by decide +kernel
theorem dX12_setGrid_26 : decode cX12_setGrid 26 = .ok (.iconst 0, 1) := by decide +kernel
theorem dX12_setGrid_27 : decode cX12_setGrid 27 = .ok (.ireturn, 1) := by decide +kernel
theorem dX12_setRight_0 : decode cX12_setRight 0 = .ok (.aload_n 0, 1) := by decide +kernel
theorem dX12_setRight_1 : decode cX12_setRight 1 = .ok (.iconst 0, 1) := by decide +kernel
theorem dX12_setRight_2 : decode cX12_setRight 2 = .ok (.putfield 3, 3) := by decide +kernel
theorem dX12_setRight_5 : decode cX12_setRight 5 = .ok (.aload_n 0, 1) := by decide +kernel
theorem dX12_setRight_6 : decode cX12_setRight 6 = .ok (.bipush 8, 2) := by decide +kernel
theorem dX12_setRight_8 : decode cX12_setRight 8 = .ok (.iload_n 1, 1) := by decide +kernel
theorem dX12_setRight_9 : decode cX12_setRight 9 = .ok (.ifCond .eq 7, 3) := by decide +kernel
theorem dX12_setRight_12 : decode cX12_setRight 12 = .ok (.iconst 1, 1) := by decide +kernel
theorem dX12_setRight_13 : decode cX12_setRight 13 = .ok (.goto 4, 3) := by decide +kernel
theorem dX12_setRight_16 : decode cX12_setRight 16 = .ok (.iconst 0, 1) := by decide +kernel
theorem dX12_setRight_17 : decode cX12_setRight 17 = .ok (.invokevirtual 455, 3) := by decide +kernel
theorem dX12_setRight_20 : decode cX12_setRight 20 = .ok (.iconst 1, 1) := by decide +kernel
theorem dX12_setRight_21 : decode cX12_setRight 21 = .ok (.if_icmp .ne 7, 3) := by decide +kernel
theorem dX12_setRight_24 : decode cX12_setRight 24 = .ok (.iconst 1, 1) := by decide +kernel
theorem dX12_setRight_25 : decode cX12_setRight 25 = .ok (.goto 4, 3) := by decide +kernel
theorem dX12_setRight_28 : decode cX12_setRight 28 = .ok (.iconst 0, 1) := by decide +kernel
theorem dX12_setRight_29 : decode cX12_setRight 29 = .ok (.ireturn, 1) := by decide +kernel
theorem dX12_putLine_0 : decode cX12_putLine 0 = .ok (.aload_n 0, 1) := by decide +kernel
theorem dX12_putLine_1 : decode cX12_putLine 1 = .ok (.getfield 52, 3) := by decide +kernel
theorem dX12_putLine_4 : decode cX12_putLine 4 = .ok (.iload_n 1, 1) := by decide +kernel
theorem dX12_putLine_5 : decode cX12_putLine 5 = .ok (.iaload, 1) := by decide +kernel
theorem dX12_putLine_6 : decode cX12_putLine 6 = .ok (.istore_n 2, 1) := by decide +kernel
theorem dX12_putLine_7 : decode cX12_putLine 7 = .ok (.iconst 0, 1) := by decide +kernel
theorem dX12_putLine_8 : decode cX12_putLine 8 = .ok (.istore_n 3, 1) := by decide +kernel
theorem dX12_putLine_9 : decode cX12_putLine 9 = .ok (.iload_n 3, 1) := by decide +kernel
theorem dX12_putLine_10 : decode cX12_putLine 10 = .ok (.aload_n 0, 1) := by decide +kernel
theorem dX12_putLine_11 : decode cX12_putLine 11 = .ok (.getfield 55, 3) := by decide +kernel
theorem dX12_putLine_14 : decode cX12_putLine 14 = .ok (.iload_n 1, 1) := by decide +kernel
theorem dX12_putLine_15 : decode cX12_putLine 15 = .ok (.iaload, 1) := by decide +kernel
theorem dX12_putLine_16 : decode cX12_putLine 16 = .ok (.if_icmp .ge 15, 3) := by decide +kernel
theorem dX12_putLine_19 : decode cX12_putLine 19 = .ok (.aload_n 0, 1) := by decide +kernel
theorem dX12_putLine_20 : decode cX12_putLine 20 = .ok (.bipush 32, 2) := by decide +kernel
theorem dX12_putLine_22 : decode cX12_putLine 22 = .ok (.invokevirtual 267, 3) := by decide +kernel
theorem dX12_putLine_25 : decode cX12_putLine 25 = .ok (.iinc 3 1, 3) := by decide +kernel
theorem dX12_putLine_28 : decode cX12_putLine 28 = .ok (.goto (-19), 3) := by decide +kernel
theorem dX12_putLine_31 : decode cX12_putLine 31 = .ok (.iconst 0, 1) := by decide +kernel
theorem dX12_putLine_32 : decode cX12_putLine 32 = .ok (.istore_n 3, 1) := by decide +kernel
theorem dX12_putLine_33 : decode cX12_putLine 33 = .ok (.iload_n 3, 1) := by decide +kernel
theorem dX12_putLine_34 : decode cX12_putLine 34 = .ok (.aload_n 0, 1) := by decide +kernel
theorem dX12_putLine_35 : decode cX12_putLine 35 = .ok (.getfield 61, 3) := by decide +kernel
theorem dX12_putLine_38 : decode cX12_putLine 38 = .ok (.iload_n 1, 1) := by decide +kernel
theorem dX12_putLine_39 : decode cX12_putLine 39 = .ok (.iaload, 1) := by decide +kernel
theorem dX12_putLine_40 : decode cX12_putLine 40 = .ok (.if_icmp .ge 32, 3) := by decide +kernel
theorem dX12_putLine_43 : decode cX12_putLine 43 = .ok (.iload_n 3, 1) := by decide +kernel
theorem dX12_putLine_44 : decode cX12_putLine 44 = .ok (.ifCond .le 9, 3) := by decide +kernel
theorem dX12_putLine_47 : decode cX12_putLine 47 = .ok (.aload_n 0, 1) := by decide +kernel
theorem dX12_putLine_48 : decode cX12_putLine 48 = .ok (.bipush 32, 2) := by decide +kernel
theorem dX12_putLine_50 : decode cX12_putLine 50 = .ok (.invokevirtual 267, 3) := by decide +kernel
theorem dX12_putLine_53 : decode cX12_putLine 53 = .ok (.aload_n 0, 1) := by decide +kernel
theorem dX12_putLine_54 : decode cX12_putLine 54 = .ok (.iload_n 2, 1) := by decide +kernel
theorem dX12_putLine_55 : decode cX12_putLine 55 = .ok (.aload_n 0, 1) := by decide +kernel
theorem dX12_putLine_56 : decode cX12_putLine 56 = .ok (.getfield 58, 3) := by decide +kernel
theorem dX12_putLine_59 : decode cX12_putLine 59 = .ok (.iload_n 1, 1) := by decide +kernel
theorem dX12_putLine_60 : decode cX12_putLine 60 = .ok (.iaload, 1) := by decide +kernel
theorem dX12_putLine_61 : decode cX12_putLine 61 = .ok (.iload_n 3, 1) := by decide +kernel
theorem dX12_putLine_62 : decode cX12_putLine 62 = .ok (.iadd, 1) := by decide +kernel
theorem dX12_putLine_63 : decode cX12_putLine 63 = .ok (.invokevirtual 294, 3) := by decide +kernel
theorem dX12_putLine_66 : decode cX12_putLine 66 = .ok (.iinc 3 1, 3) := by decide +kernel
theorem dX12_putLine_69 : decode cX12_putLine 69 = .ok (.goto (-36), 3) := by decide +kernel
theorem dX12_putLine_72 : decode cX12_putLine 72 = .ok (.aload_n 0, 1) := by decide +kernel
theorem dX12_putLine_73 : decode cX12_putLine 73 = .ok (.getfield 67, 3) := by decide +kernel
theorem dX12_putLine_76 : decode cX12_putLine 76 = .ok (.iload_n 1, 1) := by decide +kernel
theorem dX12_putLine_77 : decode cX12_putLine 77 = .ok (.baload, 1) := by decide +kernel
theorem dX12_putLine_78 : decode cX12_putLine 78 = .ok (.ifCond .eq 44, 3) := by decide +kernel
theorem dX12_putLine_81 : decode cX12_putLine 81 = .ok (.aload_n 0, 1) := by decide +kernel
theorem dX12_putLine_82 : decode cX12_putLine 82 = .ok (.bipush 32, 2) := by decide +kernel
theorem dX12_putLine_84 : decode cX12_putLine 84 = .ok (.invokevirtual 267, 3) := by decide +kernel
theorem dX12_putLine_87 : decode cX12_putLine 87 = .ok (.iconst 0, 1) := by decide +kernel
theorem dX12_putLine_88 : decode cX12_putLine 88 = .ok (.istore_n 3, 1) := by decide +kernel
theorem dX12_putLine_89 : decode cX12_putLine 89 = .ok (.iload_n 3, 1) := by decide +kernel
theorem dX12_putLine_90 : decode cX12_putLine 90 = .ok (.aload_n 0, 1) := by decide +kernel
theorem dX12_putLine_91 : decode cX12_putLine 91 = .ok (.getfield 71, 3) := by decide +kernel
theorem dX12_putLine_94 : decode cX12_putLine 94 = .ok (.iload_n 1, 1) := by decide +kernel
theorem dX12_putLine_95 : decode cX12_putLine 95 = .ok (.iaload, 1) := by decide +kernel
theorem dX12_putLine_96 : decode cX12_putLine 96 = .ok (.if_icmp .ge 15, 3) := by decide +kernel
theorem dX12_putLine_99 : decode cX12_putLine 99 = .ok (.aload_n 0, 1) := by decide +kernel
theorem dX12_putLine_100 : decode cX12_putLine 100 = .ok (.bipush 46, 2) := by decide +kernel
theorem dX12_putLine_102 : decode cX12_putLine 102 = .ok (.invokevirtual 267, 3) := by decide +kernel
theorem dX12_putLine_105 : decode cX12_putLine 105 = .ok (.iinc 3 1, 3) := by decide +kernel
theorem dX12_putLine_108 : decode cX12_putLine 108 = .ok (.goto (-19), 3) := by decide +kernel
theorem dX12_putLine_111 : decode cX12_putLine 111 = .ok (.aload_n 0, 1) := by decide +kernel
theorem dX12_putLine_112 : decode cX12_putLine 112 = .ok (.bipush 32, 2) := by decide +kernel
theorem dX12_putLine_114 : decode cX12_putLine 114 = .ok (.invokevirtual 267, 3) := by decide +kernel
theorem dX12_putLine_117 : decode cX12_putLine 117 = .ok (.aload_n 0, 1) := by decide +kernel
theorem dX12_putLine_118 : decode cX12_putLine 118 = .ok (.iload_n 2, 1) := by decide +kernel
theorem dX12_putLine_119 : decode cX12_putLine 119 = .ok (.invokevirtual 321, 3) := by decide +kernel
theorem dX12_putLine_122 : decode cX12_putLine 122 = .ok (.aload_n 0, 1) := by decide +kernel
theorem dX12_putLine_123 : decode cX12_putLine 123 = .ok (.bipush 10, 2) := by decide +kernel
theorem dX12_putLine_125 : decode cX12_putLine 125 = .ok (.invokevirtual 267, 3) := by decide +kernel
theorem dX12_putLine_128 : decode cX12_putLine 128 = .ok (.return_, 1) := by decide +kernel
theorem dX12_isAs_0 : decode cX12_isAs 0 = .ok (.aload_n 0, 1) := by decide +kernel
theorem dX12_isAs_1 : decode cX12_isAs 1 = .ok (.iconst 0, 1) := by decide +kernel
theorem dX12_isAs_2 : decode cX12_isAs 2 = .ok (.putfield 264, 3) := by decide +kernel
theorem dX12_isAs_5 : decode cX12_isAs 5 = .ok (.aload_n 0, 1) := by decide +kernel
theorem dX12_isAs_6 : decode cX12_isAs 6 = .ok (.iload_n 1, 1) := by decide +kernel
theorem dX12_isAs_7 : decode cX12_isAs 7 = .ok (.invokevirtual 460, 3) := by decide +kernel
theorem dX12_isAs_10 : decode cX12_isAs 10 = .ok (.aload_n 0, 1) := by decide +kernel
theorem dX12_isAs_11 : decode cX12_isAs 11 = .ok (.getfield 17, 3) := by decide +kernel
theorem dX12_isAs_14 : decode cX12_isAs 14 = .ok (.sipush 2460, 3) := by decide +kernel
theorem dX12_isAs_17 : decode cX12_isAs 17 = .ok (.iload_n 2, 1) := by decide +kernel
theorem dX12_isAs_18 : decode cX12_isAs 18 = .ok (.iadd, 1) := by decide +kernel
theorem dX12_isAs_19 : decode cX12_isAs 19 = .ok (.iaload, 1) := by decide +kernel
theorem dX12_isAs_20 : decode cX12_isAs 20 = .ok (.istore_n 3, 1) := by decide +kernel
theorem dX12_isAs_21 : decode cX12_isAs 21 = .ok (.aload_n 0, 1) := by decide +kernel
theorem dX12_isAs_22 : decode cX12_isAs 22 = .ok (.getfield 17, 3) := by decide +kernel
theorem dX12_isAs_25 : decode cX12_isAs 25 = .ok (.sipush 2460, 3) := by decide +kernel
theorem dX12_isAs_28 : decode cX12_isAs 28 = .ok (.iload_n 2, 1) := by decide +kernel
theorem dX12_isAs_29 : decode cX12_isAs 29 = .ok (.iadd, 1) := by decide +kernel
theorem dX12_isAs_30 : decode cX12_isAs 30 = .ok (.iconst 1, 1) := by decide +kernel
theorem dX12_isAs_31 : decode cX12_isAs 31 = .ok (.iadd, 1) := by decide +kernel
theorem dX12_isAs_32 : decode cX12_isAs 32 = .ok (.iaload, 1) := by decide +kernel
theorem dX12_isAs_33 : decode cX12_isAs 33 = .ok (.iload_n 3, 1) := by decide +kernel
theorem dX12_isAs_34 : decode cX12_isAs 34 = .ok (.isub, 1) := by decide +kernel
theorem dX12_isAs_35 : decode cX12_isAs 35 = .ok (.aload_n 0, 1) := by decide +kernel
theorem dX12_isAs_36 : decode cX12_isAs 36 = .ok (.getfield 264, 3) := by decide +kernel
theorem dX12_isAs_39 : decode cX12_isAs 39 = .ok (.if_icmp .ne 7, 3) := by decide +kernel
theorem dX12_isAs_42 : decode cX12_isAs 42 = .ok (.iconst 1, 1) := by decide +kernel
theorem dX12_isAs_43 : decode cX12_isAs 43 = .ok (.goto 4, 3) := by decide +kernel
theorem dX12_isAs_46 : decode cX12_isAs 46 = .ok (.iconst 0, 1) := by decide +kernel
theorem dX12_isAs_47 : decode cX12_isAs 47 = .ok (.istore 4, 2) := by decide +kernel
theorem dX12_isAs_49 : decode cX12_isAs 49 = .ok (.iconst 0, 1) := by decide +kernel
theorem dX12_isAs_50 : decode cX12_isAs 50 = .ok (.istore 5, 2) := by decide +kernel
theorem dX12_isAs_52 : decode cX12_isAs 52 = .ok (.iload 5, 2) := by decide +kernel
theorem dX12_isAs_54 : decode cX12_isAs 54 = .ok (.aload_n 0, 1) := by decide +kernel
theorem dX12_isAs_55 : decode cX12_isAs 55 = .ok (.getfield 264, 3) := by decide +kernel
theorem dX12_isAs_58 : decode cX12_isAs 58 = .ok (.if_icmp .ge 44, 3) := by decide +kernel
theorem dX12_isAs_61 : decode cX12_isAs 61 = .ok (.iload 4, 2) := by decide +kernel
theorem dX12_isAs_63 : decode cX12_isAs 63 = .ok (.ifCond .eq 39, 3) := by decide +kernel
theorem dX12_isAs_66 : decode cX12_isAs 66 = .ok (.aload_n 0, 1) := by decide +kernel
theorem dX12_isAs_67 : decode cX12_isAs 67 = .ok (.getfield 17, 3) := by decide +kernel
theorem dX12_isAs_70 : decode cX12_isAs 70 = .ok (.sipush 2701, 3) := by decide +kernel
theorem dX12_isAs_73 : decode cX12_isAs 73 = .ok (.iload_n 3, 1) := by decide +kernel
theorem dX12_isAs_74 : decode cX12_isAs 74 = .ok (.iadd, 1) := by decide +kernel
theorem dX12_isAs_75 : decode cX12_isAs 75 = .ok (.iload 5, 2) := by decide +kernel
theorem dX12_isAs_77 : decode cX12_isAs 77 = .ok (.iadd, 1) := by decide +kernel
theorem dX12_isAs_78 : decode cX12_isAs 78 = .ok (.iaload, 1) := by decide +kernel
theorem dX12_isAs_79 : decode cX12_isAs 79 = .ok (.aload_n 0, 1) := by decide +kernel
theorem dX12_isAs_80 : decode cX12_isAs 80 = .ok (.getfield 34, 3) := by decide +kernel
theorem dX12_isAs_83 : decode cX12_isAs 83 = .ok (.iload 5, 2) := by decide +kernel
theorem dX12_isAs_85 : decode cX12_isAs 85 = .ok (.baload, 1) := by decide +kernel
theorem dX12_isAs_86 : decode cX12_isAs 86 = .ok (.if_icmp .ne 7, 3) := by decide +kernel
theorem dX12_isAs_89 : decode cX12_isAs 89 = .ok (.iconst 1, 1) := by decide +kernel
theorem dX12_isAs_90 : decode cX12_isAs 90 = .ok (.goto 4, 3) := by decide +kernel
theorem dX12_isAs_93 : decode cX12_isAs 93 = .ok (.iconst 0, 1) := by decide +kernel
theorem dX12_isAs_94 : decode cX12_isAs 94 = .ok (.istore 4, 2) := by decide +kernel
theorem dX12_isAs_96 : decode cX12_isAs 96 = .ok (.iinc 5 1, 3) := by decide +kernel
theorem dX12_isAs_99 : decode cX12_isAs 99 = .ok (.goto (-47), 3) := by decide +kernel
theorem dX12_isAs_102 : decode cX12_isAs 102 = .ok (.iload 4, 2) := by decide +kernel
theorem dX12_isAs_104 : decode cX12_isAs 104 = .ok (.ireturn, 1) := by decide +kernel
theorem dX12_mustBeRead_0 : decode cX12_mustBeRead 0 = .ok (.aload_n 0, 1) := by decide +kernel
theorem dX12_mustBeRead_1 : decode cX12_mustBeRead 1 = .ok (.getfield 17, 3) := by decide +kernel
theorem dX12_mustBeRead_4 : decode cX12_mustBeRead 4 = .ok (.bipush 10, 2) := by decide +kernel
theorem dX12_mustBeRead_6 : decode cX12_mustBeRead 6 = .ok (.iaload, 1) := by decide +kernel
theorem dX12_mustBeRead_7 : decode cX12_mustBeRead 7 = .ok (.ifCond .eq 27, 3) := by decide +kernel
theorem dX12_mustBeRead_10 : decode cX12_mustBeRead 10 = .ok (.aload_n 0, 1) := by decide +kernel
theorem dX12_mustBeRead_11 : decode cX12_mustBeRead 11 = .ok (.iload_n 1, 1) := by decide +kernel
theorem dX12_mustBeRead_12 : decode cX12_mustBeRead 12 = .ok (.iconst 4, 1) := by decide +kernel
theorem dX12_mustBeRead_13 : decode cX12_mustBeRead 13 = .ok (.invokevirtual 107, 3) := by decide +kernel
theorem dX12_mustBeRead_16 : decode cX12_mustBeRead 16 = .ok (.iconst (-1), 1) := by decide +kernel
theorem dX12_mustBeRead_17 : decode cX12_mustBeRead 17 = .ok (.if_icmp .eq 17, 3) := by decide +kernel
theorem dX12_mustBeRead_20 : decode cX12_mustBeRead 20 = .ok (.aload_n 0, 1) := by decide +kernel
theorem dX12_mustBeRead_21 : decode cX12_mustBeRead 21 = .ok (.iload_n 1, 1) := by decide +kernel
theorem dX12_mustBeRead_22 : decode cX12_mustBeRead 22 = .ok (.iconst 5, 1) := by decide +kernel
theorem dX12_mustBeRead_23 : decode cX12_mustBeRead 23 = .ok (.invokevirtual 107, 3) := by decide +kernel
theorem dX12_mustBeRead_26 : decode cX12_mustBeRead 26 = .ok (.aload_n 0, 1) := by decide +kernel
theorem dX12_mustBeRead_27 : decode cX12_mustBeRead 27 = .ok (.iload_n 1, 1) := by decide +kernel
theorem dX12_mustBeRead_28 : decode cX12_mustBeRead 28 = .ok (.invokevirtual 393, 3) := by decide +kernel
theorem dX12_mustBeRead_31 : decode cX12_mustBeRead 31 = .ok (.if_icmp .eq 5, 3) := by decide +kernel
theorem dX12_mustBeRead_34 : decode cX12_mustBeRead 34 = .ok (.iconst 1, 1) := by decide +kernel
theorem dX12_mustBeRead_35 : decode cX12_mustBeRead 35 = .ok (.ireturn, 1) := by decide +kernel
theorem dX12_mustBeRead_36 : decode cX12_mustBeRead 36 = .ok (.iconst 1, 1) := by decide +kernel
theorem dX12_mustBeRead_37 : decode cX12_mustBeRead 37 = .ok (.istore_n 2, 1) := by decide +kernel
theorem dX12_mustBeRead_38 : decode cX12_mustBeRead 38 = .ok (.iconst 0, 1) := by decide +kernel
theorem dX12_mustBeRead_39 : decode cX12_mustBeRead 39 = .ok (.istore_n 3, 1) := by decide +kernel
theorem dX12_mustBeRead_40 : decode cX12_mustBeRead 40 = .ok (.iload_n 3, 1) := by decide +kernel
theorem dX12_mustBeRead_41 : decode cX12_mustBeRead 41 = .ok (.aload_n 0, 1) := by decide +kernel
theorem dX12_mustBeRead_42 : decode cX12_mustBeRead 42 = .ok (.iload_n 1, 1) := by decide +kernel
theorem dX12_mustBeRead_43 : decode cX12_mustBeRead 43 = .ok (.invokevirtual 393, 3) := by decide +kernel
theorem dX12_mustBeRead_46 : decode cX12_mustBeRead 46 = .ok (.if_icmp .ge 42, 3) := by decide +kernel
theorem dX12_mustBeRead_49 : decode cX12_mustBeRead 49 = .ok (.iload_n 2, 1) := by decide +kernel
theorem dX12_mustBeRead_50 : decode cX12_mustBeRead 50 = .ok (.ifCond .eq 30, 3) := by decide +kernel
theorem dX12_mustBeRead_53 : decode cX12_mustBeRead 53 = .ok (.aload_n 0, 1) := by decide +kernel
theorem dX12_mustBeRead_54 : decode cX12_mustBeRead 54 = .ok (.aload_n 0, 1) := by decide +kernel
theorem dX12_mustBeRead_55 : decode cX12_mustBeRead 55 = .ok (.getfield 77, 3) := by decide +kernel
theorem dX12_mustBeRead_58 : decode cX12_mustBeRead 58 = .ok (.iload_n 1, 1) := by decide +kernel
theorem dX12_mustBeRead_59 : decode cX12_mustBeRead 59 = .ok (.iaload, 1) := by decide +kernel
theorem dX12_mustBeRead_60 : decode cX12_mustBeRead 60 = .ok (.iload_n 3, 1) := by decide +kernel
theorem dX12_mustBeRead_61 : decode cX12_mustBeRead 61 = .ok (.iadd, 1) := by decide +kernel
theorem dX12_mustBeRead_62 : decode cX12_mustBeRead 62 = .ok (.aload_n 0, 1) := by decide +kernel
theorem dX12_mustBeRead_63 : decode cX12_mustBeRead 63 = .ok (.iload_n 1, 1) := by decide +kernel
theorem dX12_mustBeRead_64 : decode cX12_mustBeRead 64 = .ok (.iconst 4, 1) := by decide +kernel
theorem dX12_mustBeRead_65 : decode cX12_mustBeRead 65 = .ok (.invokevirtual 107, 3) := by decide +kernel
theorem dX12_mustBeRead_68 : decode cX12_mustBeRead 68 = .ok (.iload_n 3, 1) := by decide +kernel
theorem dX12_mustBeRead_69 : decode cX12_mustBeRead 69 = .ok (.iadd, 1) := by decide +kernel
theorem dX12_mustBeRead_70 : decode cX12_mustBeRead 70 = .ok (.invokevirtual 463, 3) := by decide +kernel
theorem dX12_mustBeRead_73 : decode cX12_mustBeRead 73 = .ok (.ifCond .eq 7, 3) := by decide +kernel
theorem dX12_mustBeRead_76 : decode cX12_mustBeRead 76 = .ok (.iconst 1, 1) := by decide +kernel
theorem dX12_mustBeRead_77 : decode cX12_mustBeRead 77 = .ok (.goto 4, 3) := by decide +kernel
theorem dX12_mustBeRead_80 : decode cX12_mustBeRead 80 = .ok (.iconst 0, 1) := by decide +kernel
theorem dX12_mustBeRead_81 : decode cX12_mustBeRead 81 = .ok (.istore_n 2, 1) := by decide +kernel
theorem dX12_mustBeRead_82 : decode cX12_mustBeRead 82 = .ok (.iinc 3 1, 3) := by decide +kernel
theorem dX12_mustBeRead_85 : decode cX12_mustBeRead 85 = .ok (.goto (-45), 3) := by decide +kernel
theorem dX12_mustBeRead_88 : decode cX12_mustBeRead 88 = .ok (.iload_n 2, 1) := by decide +kernel
theorem dX12_mustBeRead_89 : decode cX12_mustBeRead 89 = .ok (.ifCond .ne 7, 3) := by decide +kernel
theorem dX12_mustBeRead_92 : decode cX12_mustBeRead 92 = .ok (.iconst 1, 1) := by decide +kernel
theorem dX12_mustBeRead_93 : decode cX12_mustBeRead 93 = .ok (.goto 4, 3) := by decide +kernel
theorem dX12_mustBeRead_96 : decode cX12_mustBeRead 96 = .ok (.iconst 0, 1) := by decide +kernel
theorem dX12_mustBeRead_97 : decode cX12_mustBeRead 97 = .ok (.ireturn, 1) := by decide +kernel
theorem dX12_readSet_0 : decode cX12_readSet 0 = .ok (.aload_n 0, 1) := by decide +kernel
theorem dX12_readSet_1 : decode cX12_readSet 1 = .ok (.invokevirtual 368, 3) := by decide +kernel
theorem dX12_readSet_4 : decode cX12_readSet 4 = .ok (.iconst 0, 1) := by decide +kernel
theorem dX12_readSet_5 : decode cX12_readSet 5 = .ok (.istore_n 1, 1) := by decide +kernel
theorem dX12_readSet_6 : decode cX12_readSet 6 = .ok (.iconst 0, 1) := by decide +kernel
theorem dX12_readSet_7 : decode cX12_readSet 7 = .ok (.istore_n 2, 1) := by decide +kernel
theorem dX12_readSet_8 : decode cX12_readSet 8 = .ok (.iload_n 2, 1) := by decide +kernel
theorem dX12_readSet_9 : decode cX12_readSet 9 = .ok (.aload_n 0, 1) := by decide +kernel
theorem dX12_readSet_10 : decode cX12_readSet 10 = .ok (.getfield 17, 3) := by decide +kernel
theorem dX12_readSet_13 : decode cX12_readSet 13 = .ok (.bipush 9, 2) := by decide +kernel
theorem dX12_readSet_15 : decode cX12_readSet 15 = .ok (.iaload, 1) := by decide +kernel
theorem dX12_readSet_16 : decode cX12_readSet 16 = .ok (.if_icmp .ge 27, 3) := by decide +kernel
theorem dX12_readSet_19 : decode cX12_readSet 19 = .ok (.iload_n 1, 1) := by decide +kernel
theorem dX12_readSet_20 : decode cX12_readSet 20 = .ok (.aload_n 0, 1) := by decide +kernel
theorem dX12_readSet_21 : decode cX12_readSet 21 = .ok (.iload_n 2, 1) := by decide +kernel
theorem dX12_readSet_22 : decode cX12_readSet 22 = .ok (.invokevirtual 466, 3) := by decide +kernel
theorem dX12_readSet_25 : decode cX12_readSet 25 = .ok (.ifCond .eq 9, 3) := by decide +kernel
theorem dX12_readSet_28 : decode cX12_readSet 28 = .ok (.iconst 1, 1) := by decide +kernel
theorem dX12_readSet_29 : decode cX12_readSet 29 = .ok (.iload_n 2, 1) := by decide +kernel
theorem dX12_readSet_30 : decode cX12_readSet 30 = .ok (.ishl, 1) := by decide +kernel
theorem dX12_readSet_31 : decode cX12_readSet 31 = .ok (.goto 4, 3) := by decide +kernel
theorem dX12_readSet_34 : decode cX12_readSet 34 = .ok (.iconst 0, 1) := by decide +kernel
theorem dX12_readSet_35 : decode cX12_readSet 35 = .ok (.ior, 1) := by decide +kernel
theorem dX12_readSet_36 : decode cX12_readSet 36 = .ok (.istore_n 1, 1) := by decide +kernel
theorem dX12_readSet_37 : decode cX12_readSet 37 = .ok (.iinc 2 1, 3) := by decide +kernel
theorem dX12_readSet_40 : decode cX12_readSet 40 = .ok (.goto (-32), 3) := by decide +kernel
theorem dX12_readSet_43 : decode cX12_readSet 43 = .ok (.iload_n 1, 1) := by decide +kernel
theorem dX12_readSet_44 : decode cX12_readSet 44 = .ok (.ireturn, 1) := by decide +kernel
theorem dX12_toRead_0 : decode cX12_toRead 0 = .ok (.aload_n 0, 1) := by decide +kernel
theorem dX12_toRead_1 : decode cX12_toRead 1 = .ok (.iconst 0, 1) := by decide +kernel
theorem dX12_toRead_2 : decode cX12_toRead 2 = .ok (.putfield 3, 3) := by decide +kernel
theorem dX12_toRead_5 : decode cX12_toRead 5 = .ok (.aload_n 0, 1) := by decide +kernel
theorem dX12_toRead_6 : decode cX12_toRead 6 = .ok (.invokevirtual 469, 3) := by decide +kernel
theorem dX12_toRead_9 : decode cX12_toRead 9 = .ok (.ireturn, 1) := by decide +kernel
theorem dX12_proof_0 : decode cX12_proof 0 = .ok (.aload_n 0, 1) := by decide +kernel
theorem dX12_proof_1 : decode cX12_proof 1 = .ok (.iconst 0, 1) := by decide +kernel
theorem dX12_proof_2 : decode cX12_proof 2 = .ok (.putfield 3, 3) := by decide +kernel
theorem dX12_proof_5 : decode cX12_proof 5 = .ok (.aload_n 0, 1) := by decide +kernel
theorem dX12_proof_6 : decode cX12_proof 6 = .ok (.invokevirtual 261, 3) := by decide +kernel
theorem dX12_proof_9 : decode cX12_proof 9 = .ok (.aload_n 0, 1) := by decide +kernel
theorem dX12_proof_10 : decode cX12_proof 10 = .ok (.invokevirtual 469, 3) := by decide +kernel
theorem dX12_proof_13 : decode cX12_proof 13 = .ok (.istore_n 1, 1) := by decide +kernel
theorem dX12_proof_14 : decode cX12_proof 14 = .ok (.iconst 0, 1) := by decide +kernel
theorem dX12_proof_15 : decode cX12_proof 15 = .ok (.istore_n 2, 1) := by decide +kernel
theorem dX12_proof_16 : decode cX12_proof 16 = .ok (.aload_n 0, 1) := by decide +kernel
theorem dX12_proof_17 : decode cX12_proof 17 = .ok (.iconst 0, 1) := by decide +kernel
theorem dX12_proof_18 : decode cX12_proof 18 = .ok (.putfield 264, 3) := by decide +kernel
theorem dX12_proof_21 : decode cX12_proof 21 = .ok (.iconst 0, 1) := by decide +kernel
theorem dX12_proof_22 : decode cX12_proof 22 = .ok (.istore_n 3, 1) := by decide +kernel
theorem dX12_proof_23 : decode cX12_proof 23 = .ok (.iload_n 3, 1) := by decide +kernel
theorem dX12_proof_24 : decode cX12_proof 24 = .ok (.aload_n 0, 1) := by decide +kernel
theorem dX12_proof_25 : decode cX12_proof 25 = .ok (.getfield 324, 3) := by decide +kernel
theorem dX12_proof_28 : decode cX12_proof 28 = .ok (.if_icmp .ge 28, 3) := by decide +kernel
theorem dX12_proof_31 : decode cX12_proof 31 = .ok (.aload_n 0, 1) := by decide +kernel
theorem dX12_proof_32 : decode cX12_proof 32 = .ok (.getfield 17, 3) := by decide +kernel
theorem dX12_proof_35 : decode cX12_proof 35 = .ok (.sipush 2460, 3) := by decide +kernel
theorem dX12_proof_38 : decode cX12_proof 38 = .ok (.iload_n 3, 1) := by decide +kernel
theorem dX12_proof_39 : decode cX12_proof 39 = .ok (.iadd, 1) := by decide +kernel
theorem dX12_proof_40 : decode cX12_proof 40 = .ok (.aload_n 0, 1) := by decide +kernel
theorem dX12_proof_41 : decode cX12_proof 41 = .ok (.getfield 264, 3) := by decide +kernel
theorem dX12_proof_44 : decode cX12_proof 44 = .ok (.iastore, 1) := by decide +kernel
theorem dX12_proof_45 : decode cX12_proof 45 = .ok (.aload_n 0, 1) := by decide +kernel
theorem dX12_proof_46 : decode cX12_proof 46 = .ok (.iload_n 3, 1) := by decide +kernel
theorem dX12_proof_47 : decode cX12_proof 47 = .ok (.invokevirtual 460, 3) := by decide +kernel
theorem dX12_proof_50 : decode cX12_proof 50 = .ok (.iinc 3 1, 3) := by decide +kernel
theorem dX12_proof_53 : decode cX12_proof 53 = .ok (.goto (-30), 3) := by decide +kernel
theorem dX12_proof_56 : decode cX12_proof 56 = .ok (.aload_n 0, 1) := by decide +kernel
theorem dX12_proof_57 : decode cX12_proof 57 = .ok (.getfield 17, 3) := by decide +kernel
theorem dX12_proof_60 : decode cX12_proof 60 = .ok (.sipush 2460, 3) := by decide +kernel
theorem dX12_proof_63 : decode cX12_proof 63 = .ok (.aload_n 0, 1) := by decide +kernel
theorem dX12_proof_64 : decode cX12_proof 64 = .ok (.getfield 324, 3) := by decide +kernel
theorem dX12_proof_67 : decode cX12_proof 67 = .ok (.iadd, 1) := by decide +kernel
theorem dX12_proof_68 : decode cX12_proof 68 = .ok (.aload_n 0, 1) := by decide +kernel
theorem dX12_proof_69 : decode cX12_proof 69 = .ok (.getfield 264, 3) := by decide +kernel
theorem dX12_proof_72 : decode cX12_proof 72 = .ok (.iastore, 1) := by decide +kernel
theorem dX12_proof_73 : decode cX12_proof 73 = .ok (.iconst 0, 1) := by decide +kernel
theorem dX12_proof_74 : decode cX12_proof 74 = .ok (.istore_n 3, 1) := by decide +kernel
theorem dX12_proof_75 : decode cX12_proof 75 = .ok (.iload_n 3, 1) := by decide +kernel
theorem dX12_proof_76 : decode cX12_proof 76 = .ok (.aload_n 0, 1) := by decide +kernel
theorem dX12_proof_77 : decode cX12_proof 77 = .ok (.getfield 264, 3) := by decide +kernel
theorem dX12_proof_80 : decode cX12_proof 80 = .ok (.if_icmp .ge 25, 3) := by decide +kernel
theorem dX12_proof_83 : decode cX12_proof 83 = .ok (.aload_n 0, 1) := by decide +kernel
theorem dX12_proof_84 : decode cX12_proof 84 = .ok (.getfield 17, 3) := by decide +kernel
theorem dX12_proof_87 : decode cX12_proof 87 = .ok (.sipush 2701, 3) := by decide +kernel
theorem dX12_proof_90 : decode cX12_proof 90 = .ok (.iload_n 3, 1) := by decide +kernel
theorem dX12_proof_91 : decode cX12_proof 91 = .ok (.iadd, 1) := by decide +kernel
theorem dX12_proof_92 : decode cX12_proof 92 = .ok (.aload_n 0, 1) := by decide +kernel
theorem dX12_proof_93 : decode cX12_proof 93 = .ok (.getfield 34, 3) := by decide +kernel
theorem dX12_proof_96 : decode cX12_proof 96 = .ok (.iload_n 3, 1) := by decide +kernel
theorem dX12_proof_97 : decode cX12_proof 97 = .ok (.baload, 1) := by decide +kernel
theorem dX12_proof_98 : decode cX12_proof 98 = .ok (.iastore, 1) := by decide +kernel
theorem dX12_proof_99 : decode cX12_proof 99 = .ok (.iinc 3 1, 3) := by decide +kernel
theorem dX12_proof_102 : decode cX12_proof 102 = .ok (.goto (-27), 3) := by decide +kernel
theorem dX12_proof_105 : decode cX12_proof 105 = .ok (.iconst 0, 1) := by decide +kernel
theorem dX12_proof_106 : decode cX12_proof 106 = .ok (.istore_n 3, 1) := by decide +kernel
theorem dX12_proof_107 : decode cX12_proof 107 = .ok (.iload_n 3, 1) := by decide +kernel
theorem dX12_proof_108 : decode cX12_proof 108 = .ok (.aload_n 0, 1) := by decide +kernel
theorem dX12_proof_109 : decode cX12_proof 109 = .ok (.getfield 17, 3) := by decide +kernel
theorem dX12_proof_112 : decode cX12_proof 112 = .ok (.bipush 9, 2) := by decide +kernel
theorem dX12_proof_114 : decode cX12_proof 114 = .ok (.iaload, 1) := by decide +kernel
theorem dX12_proof_115 : decode cX12_proof 115 = .ok (.if_icmp .ge 40, 3) := by decide +kernel
theorem dX12_proof_118 : decode cX12_proof 118 = .ok (.iload_n 2, 1) := by decide +kernel
theorem dX12_proof_119 : decode cX12_proof 119 = .ok (.iload_n 1, 1) := by decide +kernel
theorem dX12_proof_120 : decode cX12_proof 120 = .ok (.iload_n 3, 1) := by decide +kernel
theorem dX12_proof_121 : decode cX12_proof 121 = .ok (.ishr, 1) := by decide +kernel
theorem dX12_proof_122 : decode cX12_proof 122 = .ok (.iconst 1, 1) := by decide +kernel
theorem dX12_proof_123 : decode cX12_proof 123 = .ok (.iand, 1) := by decide +kernel
theorem dX12_proof_124 : decode cX12_proof 124 = .ok (.iadd, 1) := by decide +kernel
theorem dX12_proof_125 : decode cX12_proof 125 = .ok (.istore_n 2, 1) := by decide +kernel
theorem dX12_proof_126 : decode cX12_proof 126 = .ok (.aload_n 0, 1) := by decide +kernel
theorem dX12_proof_127 : decode cX12_proof 127 = .ok (.iload_n 3, 1) := by decide +kernel
theorem dX12_proof_128 : decode cX12_proof 128 = .ok (.iconst 4, 1) := by decide +kernel
theorem dX12_proof_129 : decode cX12_proof 129 = .ok (.aload_n 0, 1) := by decide +kernel
theorem dX12_proof_130 : decode cX12_proof 130 = .ok (.getfield 77, 3) := by decide +kernel
theorem dX12_proof_133 : decode cX12_proof 133 = .ok (.iload_n 3, 1) := by decide +kernel
theorem dX12_proof_134 : decode cX12_proof 134 = .ok (.iaload, 1) := by decide +kernel
theorem dX12_proof_135 : decode cX12_proof 135 = .ok (.invokevirtual 192, 3) := by decide +kernel
theorem dX12_proof_138 : decode cX12_proof 138 = .ok (.aload_n 0, 1) := by decide +kernel
theorem dX12_proof_139 : decode cX12_proof 139 = .ok (.iload_n 3, 1) := by decide +kernel
theorem dX12_proof_140 : decode cX12_proof 140 = .ok (.iconst 5, 1) := by decide +kernel
theorem dX12_proof_141 : decode cX12_proof 141 = .ok (.aload_n 0, 1) := by decide +kernel
theorem dX12_proof_142 : decode cX12_proof 142 = .ok (.iload_n 3, 1) := by decide +kernel
theorem dX12_proof_143 : decode cX12_proof 143 = .ok (.invokevirtual 393, 3) := by decide +kernel
theorem dX12_proof_146 : decode cX12_proof 146 = .ok (.invokevirtual 192, 3) := by decide +kernel
theorem dX12_proof_149 : decode cX12_proof 149 = .ok (.iinc 3 1, 3) := by decide +kernel
theorem dX12_proof_152 : decode cX12_proof 152 = .ok (.goto (-45), 3) := by decide +kernel
theorem dX12_proof_155 : decode cX12_proof 155 = .ok (.aload_n 0, 1) := by decide +kernel
theorem dX12_proof_156 : decode cX12_proof 156 = .ok (.getfield 17, 3) := by decide +kernel
theorem dX12_proof_159 : decode cX12_proof 159 = .ok (.bipush 10, 2) := by decide +kernel
theorem dX12_proof_161 : decode cX12_proof 161 = .ok (.iconst 1, 1) := by decide +kernel
theorem dX12_proof_162 : decode cX12_proof 162 = .ok (.iastore, 1) := by decide +kernel
theorem dX12_proof_163 : decode cX12_proof 163 = .ok (.aload_n 0, 1) := by decide +kernel
theorem dX12_proof_164 : decode cX12_proof 164 = .ok (.getfield 17, 3) := by decide +kernel
theorem dX12_proof_167 : decode cX12_proof 167 = .ok (.bipush 11, 2) := by decide +kernel
theorem dX12_proof_169 : decode cX12_proof 169 = .ok (.aload_n 0, 1) := by decide +kernel
theorem dX12_proof_170 : decode cX12_proof 170 = .ok (.getfield 324, 3) := by decide +kernel
theorem dX12_proof_173 : decode cX12_proof 173 = .ok (.iastore, 1) := by decide +kernel
theorem dX12_proof_174 : decode cX12_proof 174 = .ok (.iload_n 2, 1) := by decide +kernel
theorem dX12_proof_175 : decode cX12_proof 175 = .ok (.ireturn, 1) := by decide +kernel
theorem dX12_changedLines_0 : decode cX12_changedLines 0 = .ok (.aload_n 0, 1) := by decide +kernel
theorem dX12_changedLines_1 : decode cX12_changedLines 1 = .ok (.iconst 0, 1) := by decide +kernel
theorem dX12_changedLines_2 : decode cX12_changedLines 2 = .ok (.putfield 3, 3) := by decide +kernel
theorem dX12_changedLines_5 : decode cX12_changedLines 5 = .ok (.aload_n 0, 1) := by decide +kernel
theorem dX12_changedLines_6 : decode cX12_changedLines 6 = .ok (.invokevirtual 368, 3) := by decide +kernel
theorem dX12_changedLines_9 : decode cX12_changedLines 9 = .ok (.aload_n 0, 1) := by decide +kernel
theorem dX12_changedLines_10 : decode cX12_changedLines 10 = .ok (.getfield 17, 3) := by decide +kernel
theorem dX12_changedLines_13 : decode cX12_changedLines 13 = .ok (.bipush 10, 2) := by decide +kernel
theorem dX12_changedLines_15 : decode cX12_changedLines 15 = .ok (.iaload, 1) := by decide +kernel
theorem dX12_changedLines_16 : decode cX12_changedLines 16 = .ok (.ifCond .ne 8, 3) := by decide +kernel
theorem dX12_changedLines_19 : decode cX12_changedLines 19 = .ok (.aload_n 0, 1) := by decide +kernel
theorem dX12_changedLines_20 : decode cX12_changedLines 20 = .ok (.getfield 324, 3) := by decide +kernel
theorem dX12_changedLines_23 : decode cX12_changedLines 23 = .ok (.ireturn, 1) := by decide +kernel
theorem dX12_changedLines_24 : decode cX12_changedLines 24 = .ok (.aload_n 0, 1) := by decide +kernel
theorem dX12_changedLines_25 : decode cX12_changedLines 25 = .ok (.getfield 324, 3) := by decide +kernel
theorem dX12_changedLines_28 : decode cX12_changedLines 28 = .ok (.aload_n 0, 1) := by decide +kernel
theorem dX12_changedLines_29 : decode cX12_changedLines 29 = .ok (.getfield 17, 3) := by decide +kernel
theorem dX12_changedLines_32 : decode cX12_changedLines 32 = .ok (.bipush 11, 2) := by decide +kernel
theorem dX12_changedLines_34 : decode cX12_changedLines 34 = .ok (.iaload, 1) := by decide +kernel
theorem dX12_changedLines_35 : decode cX12_changedLines 35 = .ok (.invokestatic 157, 3) := by decide +kernel
theorem dX12_changedLines_38 : decode cX12_changedLines 38 = .ok (.istore_n 1, 1) := by decide +kernel
theorem dX12_changedLines_39 : decode cX12_changedLines 39 = .ok (.aload_n 0, 1) := by decide +kernel
theorem dX12_changedLines_40 : decode cX12_changedLines 40 = .ok (.getfield 324, 3) := by decide +kernel
theorem dX12_changedLines_43 : decode cX12_changedLines 43 = .ok (.aload_n 0, 1) := by decide +kernel
theorem dX12_changedLines_44 : decode cX12_changedLines 44 = .ok (.getfield 17, 3) := by decide +kernel
theorem dX12_changedLines_47 : decode cX12_changedLines 47 = .ok (.bipush 11, 2) := by decide +kernel
theorem dX12_changedLines_49 : decode cX12_changedLines 49 = .ok (.iaload, 1) := by decide +kernel
theorem dX12_changedLines_50 : decode cX12_changedLines 50 = .ok (.invokestatic 348, 3) := by decide +kernel
theorem dX12_changedLines_53 : decode cX12_changedLines 53 = .ok (.iload_n 1, 1) := by decide +kernel
theorem dX12_changedLines_54 : decode cX12_changedLines 54 = .ok (.isub, 1) := by decide +kernel
theorem dX12_changedLines_55 : decode cX12_changedLines 55 = .ok (.istore_n 2, 1) := by decide +kernel
theorem dX12_changedLines_56 : decode cX12_changedLines 56 = .ok (.iconst 0, 1) := by decide +kernel
theorem dX12_changedLines_57 : decode cX12_changedLines 57 = .ok (.istore_n 3, 1) := by decide +kernel
theorem dX12_changedLines_58 : decode cX12_changedLines 58 = .ok (.iload_n 3, 1) := by decide +kernel
theorem dX12_changedLines_59 : decode cX12_changedLines 59 = .ok (.iload_n 1, 1) := by decide +kernel
theorem dX12_changedLines_60 : decode cX12_changedLines 60 = .ok (.if_icmp .ge 26, 3) := by decide +kernel
theorem dX12_changedLines_63 : decode cX12_changedLines 63 = .ok (.iload_n 2, 1) := by decide +kernel
theorem dX12_changedLines_64 : decode cX12_changedLines 64 = .ok (.aload_n 0, 1) := by decide +kernel
theorem dX12_changedLines_65 : decode cX12_changedLines 65 = .ok (.iload_n 3, 1) := by decide +kernel
theorem dX12_changedLines_66 : decode cX12_changedLines 66 = .ok (.iload_n 3, 1) := by decide +kernel
theorem dX12_changedLines_67 : decode cX12_changedLines 67 = .ok (.invokevirtual 463, 3) := by decide +kernel
theorem dX12_changedLines_70 : decode cX12_changedLines 70 = .ok (.ifCond .eq 7, 3) := by decide +kernel
theorem dX12_changedLines_73 : decode cX12_changedLines 73 = .ok (.iconst 0, 1) := by decide +kernel
theorem dX12_changedLines_74 : decode cX12_changedLines 74 = .ok (.goto 4, 3) := by decide +kernel
theorem dX12_changedLines_77 : decode cX12_changedLines 77 = .ok (.iconst 1, 1) := by decide +kernel
theorem dX12_changedLines_78 : decode cX12_changedLines 78 = .ok (.iadd, 1) := by decide +kernel
theorem dX12_changedLines_79 : decode cX12_changedLines 79 = .ok (.istore_n 2, 1) := by decide +kernel
theorem dX12_changedLines_80 : decode cX12_changedLines 80 = .ok (.iinc 3 1, 3) := by decide +kernel
theorem dX12_changedLines_83 : decode cX12_changedLines 83 = .ok (.goto (-25), 3) := by decide +kernel
theorem dX12_changedLines_86 : decode cX12_changedLines 86 = .ok (.iload_n 2, 1) := by decide +kernel
theorem dX12_changedLines_87 : decode cX12_changedLines 87 = .ok (.ireturn, 1) := by decide +kernel
theorem dX12_arePagesAlike_0 : decode cX12_arePagesAlike 0 = .ok (.iconst 1, 1) := by decide +kernel
theorem dX12_arePagesAlike_1 : decode cX12_arePagesAlike 1 = .ok (.istore_n 1, 1) := by decide +kernel
theorem dX12_arePagesAlike_2 : decode cX12_arePagesAlike 2 = .ok (.iconst 0, 1) := by decide +kernel
theorem dX12_arePagesAlike_3 : decode cX12_arePagesAlike 3 = .ok (.istore_n 2, 1) := by decide +kernel
theorem dX12_arePagesAlike_4 : decode cX12_arePagesAlike 4 = .ok (.iload_n 2, 1) := by decide +kernel
theorem dX12_arePagesAlike_5 : decode cX12_arePagesAlike 5 = .ok (.aload_n 0, 1) := by decide +kernel
theorem dX12_arePagesAlike_6 : decode cX12_arePagesAlike 6 = .ok (.getfield 17, 3) := by decide +kernel
theorem dX12_arePagesAlike_9 : decode cX12_arePagesAlike 9 = .ok (.bipush 9, 2) := by decide +kernel
theorem dX12_arePagesAlike_11 : decode cX12_arePagesAlike 11 = .ok (.iaload, 1) := by decide +kernel
theorem dX12_arePagesAlike_12 : decode cX12_arePagesAlike 12 = .ok (.if_icmp .ge 34, 3) := by decide +kernel
theorem dX12_arePagesAlike_15 : decode cX12_arePagesAlike 15 = .ok (.iload_n 1, 1) := by decide +kernel
theorem dX12_arePagesAlike_16 : decode cX12_arePagesAlike 16 = .ok (.ifCond .eq 22, 3) := by decide +kernel
theorem dX12_arePagesAlike_19 : decode cX12_arePagesAlike 19 = .ok (.aload_n 0, 1) := by decide +kernel
theorem dX12_arePagesAlike_20 : decode cX12_arePagesAlike 20 = .ok (.getfield 46, 3) := by decide +kernel
theorem dX12_arePagesAlike_23 : decode cX12_arePagesAlike 23 = .ok (.iload_n 2, 1) := by decide +kernel
theorem dX12_arePagesAlike_24 : decode cX12_arePagesAlike 24 = .ok (.iaload, 1) := by decide +kernel
theorem dX12_arePagesAlike_25 : decode cX12_arePagesAlike 25 = .ok (.aload_n 0, 1) := by decide +kernel
theorem dX12_arePagesAlike_26 : decode cX12_arePagesAlike 26 = .ok (.getfield 89, 3) := by decide +kernel
theorem dX12_arePagesAlike_29 : decode cX12_arePagesAlike 29 = .ok (.iload_n 2, 1) := by decide +kernel
theorem dX12_arePagesAlike_30 : decode cX12_arePagesAlike 30 = .ok (.iaload, 1) := by decide +kernel
theorem dX12_arePagesAlike_31 : decode cX12_arePagesAlike 31 = .ok (.if_icmp .ne 7, 3) := by decide +kernel
theorem dX12_arePagesAlike_34 : decode cX12_arePagesAlike 34 = .ok (.iconst 1, 1) := by decide +kernel
theorem dX12_arePagesAlike_35 : decode cX12_arePagesAlike 35 = .ok (.goto 4, 3) := by decide +kernel
theorem dX12_arePagesAlike_38 : decode cX12_arePagesAlike 38 = .ok (.iconst 0, 1) := by decide +kernel
theorem dX12_arePagesAlike_39 : decode cX12_arePagesAlike 39 = .ok (.istore_n 1, 1) := by decide +kernel
theorem dX12_arePagesAlike_40 : decode cX12_arePagesAlike 40 = .ok (.iinc 2 1, 3) := by decide +kernel
theorem dX12_arePagesAlike_43 : decode cX12_arePagesAlike 43 = .ok (.goto (-39), 3) := by decide +kernel
theorem dX12_arePagesAlike_46 : decode cX12_arePagesAlike 46 = .ok (.iload_n 1, 1) := by decide +kernel
theorem dX12_arePagesAlike_47 : decode cX12_arePagesAlike 47 = .ok (.ireturn, 1) := by decide +kernel
theorem dX12_slack_0 : decode cX12_slack 0 = .ok (.aload_n 0, 1) := by decide +kernel
theorem dX12_slack_1 : decode cX12_slack 1 = .ok (.iload_n 1, 1) := by decide +kernel
theorem dX12_slack_2 : decode cX12_slack 2 = .ok (.invokevirtual 387, 3) := by decide +kernel
theorem dX12_slack_5 : decode cX12_slack 5 = .ok (.ifCond .ne 5, 3) := by decide +kernel
theorem dX12_slack_8 : decode cX12_slack 8 = .ok (.iconst 0, 1) := by decide +kernel
theorem dX12_slack_9 : decode cX12_slack 9 = .ok (.ireturn, 1) := by decide +kernel
theorem dX12_slack_10 : decode cX12_slack 10 = .ok (.iconst 0, 1) := by decide +kernel
theorem dX12_slack_11 : decode cX12_slack 11 = .ok (.istore_n 2, 1) := by decide +kernel
theorem dX12_slack_12 : decode cX12_slack 12 = .ok (.iload_n 2, 1) := by decide +kernel
theorem dX12_slack_13 : decode cX12_slack 13 = .ok (.aload_n 0, 1) := by decide +kernel
theorem dX12_slack_14 : decode cX12_slack 14 = .ok (.getfield 17, 3) := by decide +kernel
theorem dX12_slack_17 : decode cX12_slack 17 = .ok (.bipush 9, 2) := by decide +kernel
theorem dX12_slack_19 : decode cX12_slack 19 = .ok (.iaload, 1) := by decide +kernel
theorem dX12_slack_20 : decode cX12_slack 20 = .ok (.if_icmp .ge 21, 3) := by decide +kernel
theorem dX12_slack_23 : decode cX12_slack 23 = .ok (.aload_n 0, 1) := by decide +kernel
theorem dX12_slack_24 : decode cX12_slack 24 = .ok (.getfield 89, 3) := by decide +kernel
theorem dX12_slack_27 : decode cX12_slack 27 = .ok (.iload_n 2, 1) := by decide +kernel
theorem dX12_slack_28 : decode cX12_slack 28 = .ok (.aload_n 0, 1) := by decide +kernel
theorem dX12_slack_29 : decode cX12_slack 29 = .ok (.getfield 46, 3) := by decide +kernel
theorem dX12_slack_32 : decode cX12_slack 32 = .ok (.iload_n 2, 1) := by decide +kernel
theorem dX12_slack_33 : decode cX12_slack 33 = .ok (.iaload, 1) := by decide +kernel
theorem dX12_slack_34 : decode cX12_slack 34 = .ok (.iastore, 1) := by decide +kernel
theorem dX12_slack_35 : decode cX12_slack 35 = .ok (.iinc 2 1, 3) := by decide +kernel
theorem dX12_slack_38 : decode cX12_slack 38 = .ok (.goto (-26), 3) := by decide +kernel
theorem dX12_slack_41 : decode cX12_slack 41 = .ok (.aload_n 0, 1) := by decide +kernel
theorem dX12_slack_42 : decode cX12_slack 42 = .ok (.iload_n 1, 1) := by decide +kernel
theorem dX12_slack_43 : decode cX12_slack 43 = .ok (.iconst 1, 1) := by decide +kernel
theorem dX12_slack_44 : decode cX12_slack 44 = .ok (.invokevirtual 107, 3) := by decide +kernel
theorem dX12_slack_47 : decode cX12_slack 47 = .ok (.istore_n 2, 1) := by decide +kernel
theorem dX12_slack_48 : decode cX12_slack 48 = .ok (.iconst 0, 1) := by decide +kernel
theorem dX12_slack_49 : decode cX12_slack 49 = .ok (.istore_n 3, 1) := by decide +kernel
theorem dX12_slack_50 : decode cX12_slack 50 = .ok (.iconst 1, 1) := by decide +kernel
theorem dX12_slack_51 : decode cX12_slack 51 = .ok (.istore 4, 2) := by decide +kernel
theorem dX12_slack_53 : decode cX12_slack 53 = .ok (.iload_n 3, 1) := by decide +kernel
theorem dX12_slack_54 : decode cX12_slack 54 = .ok (.bipush 99, 2) := by decide +kernel
theorem dX12_slack_56 : decode cX12_slack 56 = .ok (.if_icmp .ge 45, 3) := by decide +kernel
theorem dX12_slack_59 : decode cX12_slack 59 = .ok (.iload 4, 2) := by decide +kernel
theorem dX12_slack_61 : decode cX12_slack 61 = .ok (.ifCond .eq 40, 3) := by decide +kernel
theorem dX12_slack_64 : decode cX12_slack 64 = .ok (.aload_n 0, 1) := by decide +kernel
theorem dX12_slack_65 : decode cX12_slack 65 = .ok (.iload_n 1, 1) := by decide +kernel
theorem dX12_slack_66 : decode cX12_slack 66 = .ok (.iconst 1, 1) := by decide +kernel
theorem dX12_slack_67 : decode cX12_slack 67 = .ok (.iload_n 2, 1) := by decide +kernel
theorem dX12_slack_68 : decode cX12_slack 68 = .ok (.iload_n 3, 1) := by decide +kernel
theorem dX12_slack_69 : decode cX12_slack 69 = .ok (.iadd, 1) := by decide +kernel
theorem dX12_slack_70 : decode cX12_slack 70 = .ok (.iconst 1, 1) := by decide +kernel
theorem dX12_slack_71 : decode cX12_slack 71 = .ok (.iadd, 1) := by decide +kernel
theorem dX12_slack_72 : decode cX12_slack 72 = .ok (.invokevirtual 192, 3) := by decide +kernel
theorem dX12_slack_75 : decode cX12_slack 75 = .ok (.aload_n 0, 1) := by decide +kernel
theorem dX12_slack_76 : decode cX12_slack 76 = .ok (.invokevirtual 368, 3) := by decide +kernel
theorem dX12_slack_79 : decode cX12_slack 79 = .ok (.aload_n 0, 1) := by decide +kernel
theorem dX12_slack_80 : decode cX12_slack 80 = .ok (.invokevirtual 472, 3) := by decide +kernel
theorem dX12_slack_83 : decode cX12_slack 83 = .ok (.istore 4, 2) := by decide +kernel
theorem dX12_slack_85 : decode cX12_slack 85 = .ok (.iload_n 3, 1) := by decide +kernel
theorem dX12_slack_86 : decode cX12_slack 86 = .ok (.iload 4, 2) := by decide +kernel
theorem dX12_slack_88 : decode cX12_slack 88 = .ok (.ifCond .eq 7, 3) := by decide +kernel
theorem dX12_slack_91 : decode cX12_slack 91 = .ok (.iconst 1, 1) := by decide +kernel
theorem dX12_slack_92 : decode cX12_slack 92 = .ok (.goto 4, 3) := by decide +kernel
theorem dX12_slack_95 : decode cX12_slack 95 = .ok (.iconst 0, 1) := by decide +kernel
theorem dX12_slack_96 : decode cX12_slack 96 = .ok (.iadd, 1) := by decide +kernel
theorem dX12_slack_97 : decode cX12_slack 97 = .ok (.istore_n 3, 1) := by decide +kernel
theorem dX12_slack_98 : decode cX12_slack 98 = .ok (.goto (-45), 3) := by decide +kernel
theorem dX12_slack_101 : decode cX12_slack 101 = .ok (.aload_n 0, 1) := by decide +kernel
theorem dX12_slack_102 : decode cX12_slack 102 = .ok (.iload_n 1, 1) := by decide +kernel
theorem dX12_slack_103 : decode cX12_slack 103 = .ok (.iconst 1, 1) := by decide +kernel
theorem dX12_slack_104 : decode cX12_slack 104 = .ok (.iload_n 2, 1) := by decide +kernel
theorem dX12_slack_105 : decode cX12_slack 105 = .ok (.invokevirtual 192, 3) := by decide +kernel
theorem dX12_slack_108 : decode cX12_slack 108 = .ok (.iload_n 3, 1) := by decide +kernel
theorem dX12_slack_109 : decode cX12_slack 109 = .ok (.ireturn, 1) := by decide +kernel
theorem dX12_pagesIf_0 : decode cX12_pagesIf 0 = .ok (.aload_n 0, 1) := by decide +kernel
theorem dX12_pagesIf_1 : decode cX12_pagesIf 1 = .ok (.aload_n 0, 1) := by decide +kernel
theorem dX12_pagesIf_2 : decode cX12_pagesIf 2 = .ok (.iload_n 1, 1) := by decide +kernel
theorem dX12_pagesIf_3 : decode cX12_pagesIf 3 = .ok (.invokevirtual 371, 3) := by decide +kernel
theorem dX12_pagesIf_6 : decode cX12_pagesIf 6 = .ok (.iload_n 2, 1) := by decide +kernel
theorem dX12_pagesIf_7 : decode cX12_pagesIf 7 = .ok (.i2l, 1) := by decide +kernel
theorem dX12_pagesIf_8 : decode cX12_pagesIf 8 = .ok (.lconst 0, 1) := by decide +kernel
theorem dX12_pagesIf_9 : decode cX12_pagesIf 9 = .ok (.ldc2_w 431, 3) := by decide +kernel
theorem dX12_pagesIf_12 : decode cX12_pagesIf 12 = .ok (.invokestatic 103, 3) := by decide +kernel
theorem dX12_pagesIf_15 : decode cX12_pagesIf 15 = .ok (.invokevirtual 377, 3) := by decide +kernel
theorem dX12_pagesIf_18 : decode cX12_pagesIf 18 = .ok (.ifCond .ne 5, 3) := by decide +kernel
theorem dX12_pagesIf_21 : decode cX12_pagesIf 21 = .ok (.iconst 0, 1) := by decide +kernel
theorem dX12_pagesIf_22 : decode cX12_pagesIf 22 = .ok (.ireturn, 1) := by decide +kernel
theorem dX12_pagesIf_23 : decode cX12_pagesIf 23 = .ok (.aload_n 0, 1) := by decide +kernel
theorem dX12_pagesIf_24 : decode cX12_pagesIf 24 = .ok (.iload_n 1, 1) := by decide +kernel
theorem dX12_pagesIf_25 : decode cX12_pagesIf 25 = .ok (.iconst 1, 1) := by decide +kernel
theorem dX12_pagesIf_26 : decode cX12_pagesIf 26 = .ok (.invokevirtual 107, 3) := by decide +kernel
theorem dX12_pagesIf_29 : decode cX12_pagesIf 29 = .ok (.istore_n 3, 1) := by decide +kernel
theorem dX12_pagesIf_30 : decode cX12_pagesIf 30 = .ok (.aload_n 0, 1) := by decide +kernel
theorem dX12_pagesIf_31 : decode cX12_pagesIf 31 = .ok (.iload_n 1, 1) := by decide +kernel
theorem dX12_pagesIf_32 : decode cX12_pagesIf 32 = .ok (.iconst 1, 1) := by decide +kernel
theorem dX12_pagesIf_33 : decode cX12_pagesIf 33 = .ok (.iload_n 2, 1) := by decide +kernel
