theorem dX6_subjectOfWord_6 : decode cX6_subjectOfWord 6 = .ok (.ifCond .eq 5, 3) := by decide +kernel
theorem dX6_subjectOfWord_9 : decode cX6_subjectOfWord 9 = .ok (.iconst 0, 1) := by decide +kernel
theorem dX6_subjectOfWord_10 : decode cX6_subjectOfWord 10 = .ok (.ireturn, 1) := by decide +kernel
theorem dX6_subjectOfWord_11 : decode cX6_subjectOfWord 11 = .ok (.aload_n 0, 1) := by decide +kernel
theorem dX6_subjectOfWord_12 : decode cX6_subjectOfWord 12 = .ok (.ldc 86, 2) := by decide +kernel
theorem dX6_subjectOfWord_14 : decode cX6_subjectOfWord 14 = .ok (.invokevirtual 69, 3) := by decide +kernel
theorem dX6_subjectOfWord_17 : decode cX6_subjectOfWord 17 = .ok (.ifCond .eq 5, 3) := by decide +kernel
theorem dX6_subjectOfWord_20 : decode cX6_subjectOfWord 20 = .ok (.iconst 1, 1) := by decide +kernel
theorem dX6_subjectOfWord_21 : decode cX6_subjectOfWord 21 = .ok (.ireturn, 1) := by decide +kernel
theorem dX6_subjectOfWord_22 : decode cX6_subjectOfWord 22 = .ok (.aload_n 0, 1) := by decide +kernel
theorem dX6_subjectOfWord_23 : decode cX6_subjectOfWord 23 = .ok (.ldc 88, 2) := by decide +kernel
theorem dX6_subjectOfWord_25 : decode cX6_subjectOfWord 25 = .ok (.invokevirtual 69, 3) := by decide +kernel
theorem dX6_subjectOfWord_28 : decode cX6_subjectOfWord 28 = .ok (.ifCond .eq 5, 3) := by decide +kernel
theorem dX6_subjectOfWord_31 : decode cX6_subjectOfWord 31 = .ok (.iconst 2, 1) := by decide +kernel
theorem dX6_subjectOfWord_32 : decode cX6_subjectOfWord 32 = .ok (.ireturn, 1) := by decide +kernel
theorem dX6_subjectOfWord_33 : decode cX6_subjectOfWord 33 = .ok (.aload_n 0, 1) := by decide +kernel
theorem dX6_subjectOfWord_34 : decode cX6_subjectOfWord 34 = .ok (.ldc 90, 2) := by decide +kernel
theorem dX6_subjectOfWord_36 : decode cX6_subjectOfWord 36 = .ok (.invokevirtual 69, 3) := by decide +kernel
theorem dX6_subjectOfWord_39 : decode cX6_subjectOfWord 39 = .ok (.ifCond .eq 5, 3) := by decide +kernel
theorem dX6_subjectOfWord_42 : decode cX6_subjectOfWord 42 = .ok (.iconst 3, 1) := by decide +kernel
theorem dX6_subjectOfWord_43 : decode cX6_subjectOfWord 43 = .ok (.ireturn, 1) := by decide +kernel
theorem dX6_subjectOfWord_44 : decode cX6_subjectOfWord 44 = .ok (.aload_n 0, 1) := by decide +kernel
theorem dX6_subjectOfWord_45 : decode cX6_subjectOfWord 45 = .ok (.ldc 92, 2) := by decide +kernel
theorem dX6_subjectOfWord_47 : decode cX6_subjectOfWord 47 = .ok (.invokevirtual 69, 3) := by decide +kernel
theorem dX6_subjectOfWord_50 : decode cX6_subjectOfWord 50 = .ok (.ifCond .eq 5, 3) := by decide +kernel
theorem dX6_subjectOfWord_53 : decode cX6_subjectOfWord 53 = .ok (.iconst 4, 1) := by decide +kernel
theorem dX6_subjectOfWord_54 : decode cX6_subjectOfWord 54 = .ok (.ireturn, 1) := by decide +kernel
theorem dX6_subjectOfWord_55 : decode cX6_subjectOfWord 55 = .ok (.aload_n 0, 1) := by decide +kernel
theorem dX6_subjectOfWord_56 : decode cX6_subjectOfWord 56 = .ok (.ldc 94, 2) := by decide +kernel
theorem dX6_subjectOfWord_58 : decode cX6_subjectOfWord 58 = .ok (.invokevirtual 69, 3) := by decide +kernel
theorem dX6_subjectOfWord_61 : decode cX6_subjectOfWord 61 = .ok (.ifCond .eq 5, 3) := by decide +kernel
theorem dX6_subjectOfWord_64 : decode cX6_subjectOfWord 64 = .ok (.iconst 5, 1) := by decide +kernel
theorem dX6_subjectOfWord_65 : decode cX6_subjectOfWord 65 = .ok (.ireturn, 1) := by decide +kernel
theorem dX6_subjectOfWord_66 : decode cX6_subjectOfWord 66 = .ok (.aload_n 0, 1) := by decide +kernel
theorem dX6_subjectOfWord_67 : decode cX6_subjectOfWord 67 = .ok (.ldc 96, 2) := by decide +kernel
theorem dX6_subjectOfWord_69 : decode cX6_subjectOfWord 69 = .ok (.invokevirtual 69, 3) := by decide +kernel
theorem dX6_subjectOfWord_72 : decode cX6_subjectOfWord 72 = .ok (.ifCond .eq 8, 3) := by decide +kernel
theorem dX6_subjectOfWord_75 : decode cX6_subjectOfWord 75 = .ok (.bipush 6, 2) := by decide +kernel
theorem dX6_subjectOfWord_77 : decode cX6_subjectOfWord 77 = .ok (.goto 4, 3) := by decide +kernel
theorem dX6_subjectOfWord_80 : decode cX6_subjectOfWord 80 = .ok (.iconst (-1), 1) := by decide +kernel
theorem dX6_subjectOfWord_81 : decode cX6_subjectOfWord 81 = .ok (.ireturn, 1) := by decide +kernel
theorem dX6_wordIs_0 : decode cX6_wordIs 0 = .ok (.aload_n 1, 1) := by decide +kernel
theorem dX6_wordIs_1 : decode cX6_wordIs 1 = .ok (.invokevirtual 98, 3) := by decide +kernel
theorem dX6_wordIs_4 : decode cX6_wordIs 4 = .ok (.aload_n 0, 1) := by decide +kernel
theorem dX6_wordIs_5 : decode cX6_wordIs 5 = .ok (.getfield 25, 3) := by decide +kernel
theorem dX6_wordIs_8 : decode cX6_wordIs 8 = .ok (.aload_n 0, 1) := by decide +kernel
theorem dX6_wordIs_9 : decode cX6_wordIs 9 = .ok (.getfield 21, 3) := by decide +kernel
theorem dX6_wordIs_12 : decode cX6_wordIs 12 = .ok (.isub, 1) := by decide +kernel
theorem dX6_wordIs_13 : decode cX6_wordIs 13 = .ok (.if_icmp .eq 5, 3) := by decide +kernel
theorem dX6_wordIs_16 : decode cX6_wordIs 16 = .ok (.iconst 0, 1) := by decide +kernel
theorem dX6_wordIs_17 : decode cX6_wordIs 17 = .ok (.ireturn, 1) := by decide +kernel
theorem dX6_wordIs_18 : decode cX6_wordIs 18 = .ok (.iconst 0, 1) := by decide +kernel
theorem dX6_wordIs_19 : decode cX6_wordIs 19 = .ok (.istore_n 2, 1) := by decide +kernel
theorem dX6_wordIs_20 : decode cX6_wordIs 20 = .ok (.iload_n 2, 1) := by decide +kernel
theorem dX6_wordIs_21 : decode cX6_wordIs 21 = .ok (.aload_n 1, 1) := by decide +kernel
theorem dX6_wordIs_22 : decode cX6_wordIs 22 = .ok (.invokevirtual 98, 3) := by decide +kernel
theorem dX6_wordIs_25 : decode cX6_wordIs 25 = .ok (.if_icmp .ge 33, 3) := by decide +kernel
theorem dX6_wordIs_28 : decode cX6_wordIs 28 = .ok (.aload_n 1, 1) := by decide +kernel
theorem dX6_wordIs_29 : decode cX6_wordIs 29 = .ok (.iload_n 2, 1) := by decide +kernel
theorem dX6_wordIs_30 : decode cX6_wordIs 30 = .ok (.invokevirtual 102, 3) := by decide +kernel
theorem dX6_wordIs_33 : decode cX6_wordIs 33 = .ok (.aload_n 0, 1) := by decide +kernel
theorem dX6_wordIs_34 : decode cX6_wordIs 34 = .ok (.getfield 31, 3) := by decide +kernel
theorem dX6_wordIs_37 : decode cX6_wordIs 37 = .ok (.getfield 44, 3) := by decide +kernel
theorem dX6_wordIs_40 : decode cX6_wordIs 40 = .ok (.aload_n 0, 1) := by decide +kernel
theorem dX6_wordIs_41 : decode cX6_wordIs 41 = .ok (.getfield 21, 3) := by decide +kernel
theorem dX6_wordIs_44 : decode cX6_wordIs 44 = .ok (.iload_n 2, 1) := by decide +kernel
theorem dX6_wordIs_45 : decode cX6_wordIs 45 = .ok (.iadd, 1) := by decide +kernel
theorem dX6_wordIs_46 : decode cX6_wordIs 46 = .ok (.baload, 1) := by decide +kernel
theorem dX6_wordIs_47 : decode cX6_wordIs 47 = .ok (.if_icmp .eq 5, 3) := by decide +kernel
theorem dX6_wordIs_50 : decode cX6_wordIs 50 = .ok (.iconst 0, 1) := by decide +kernel
theorem dX6_wordIs_51 : decode cX6_wordIs 51 = .ok (.ireturn, 1) := by decide +kernel
theorem dX6_wordIs_52 : decode cX6_wordIs 52 = .ok (.iinc 2 1, 3) := by decide +kernel
theorem dX6_wordIs_55 : decode cX6_wordIs 55 = .ok (.goto (-35), 3) := by decide +kernel
theorem dX6_wordIs_58 : decode cX6_wordIs 58 = .ok (.iconst 1, 1) := by decide +kernel
theorem dX6_wordIs_59 : decode cX6_wordIs 59 = .ok (.ireturn, 1) := by decide +kernel
theorem dX6_scanNumber_0 : decode cX6_scanNumber 0 = .ok (.aload_n 0, 1) := by decide +kernel
theorem dX6_scanNumber_1 : decode cX6_scanNumber 1 = .ok (.getfield 25, 3) := by decide +kernel
theorem dX6_scanNumber_4 : decode cX6_scanNumber 4 = .ok (.aload_n 0, 1) := by decide +kernel
theorem dX6_scanNumber_5 : decode cX6_scanNumber 5 = .ok (.getfield 31, 3) := by decide +kernel
theorem dX6_scanNumber_8 : decode cX6_scanNumber 8 = .ok (.getfield 39, 3) := by decide +kernel
theorem dX6_scanNumber_11 : decode cX6_scanNumber 11 = .ok (.if_icmp .ge 61, 3) := by decide +kernel
theorem dX6_scanNumber_14 : decode cX6_scanNumber 14 = .ok (.aload_n 0, 1) := by decide +kernel
theorem dX6_scanNumber_15 : decode cX6_scanNumber 15 = .ok (.getfield 31, 3) := by decide +kernel
theorem dX6_scanNumber_18 : decode cX6_scanNumber 18 = .ok (.getfield 44, 3) := by decide +kernel
theorem dX6_scanNumber_21 : decode cX6_scanNumber 21 = .ok (.aload_n 0, 1) := by decide +kernel
theorem dX6_scanNumber_22 : decode cX6_scanNumber 22 = .ok (.getfield 25, 3) := by decide +kernel
theorem dX6_scanNumber_25 : decode cX6_scanNumber 25 = .ok (.baload, 1) := by decide +kernel
theorem dX6_scanNumber_26 : decode cX6_scanNumber 26 = .ok (.invokestatic 58, 3) := by decide +kernel
theorem dX6_scanNumber_29 : decode cX6_scanNumber 29 = .ok (.ifCond .eq 43, 3) := by decide +kernel
theorem dX6_scanNumber_32 : decode cX6_scanNumber 32 = .ok (.aload_n 0, 1) := by decide +kernel
theorem dX6_scanNumber_33 : decode cX6_scanNumber 33 = .ok (.bipush 10, 2) := by decide +kernel
theorem dX6_scanNumber_35 : decode cX6_scanNumber 35 = .ok (.aload_n 0, 1) := by decide +kernel
theorem dX6_scanNumber_36 : decode cX6_scanNumber 36 = .ok (.getfield 28, 3) := by decide +kernel
theorem dX6_scanNumber_39 : decode cX6_scanNumber 39 = .ok (.imul, 1) := by decide +kernel
theorem dX6_scanNumber_40 : decode cX6_scanNumber 40 = .ok (.aload_n 0, 1) := by decide +kernel
theorem dX6_scanNumber_41 : decode cX6_scanNumber 41 = .ok (.getfield 31, 3) := by decide +kernel
theorem dX6_scanNumber_44 : decode cX6_scanNumber 44 = .ok (.getfield 44, 3) := by decide +kernel
theorem dX6_scanNumber_47 : decode cX6_scanNumber 47 = .ok (.aload_n 0, 1) := by decide +kernel
theorem dX6_scanNumber_48 : decode cX6_scanNumber 48 = .ok (.getfield 25, 3) := by decide +kernel
theorem dX6_scanNumber_51 : decode cX6_scanNumber 51 = .ok (.baload, 1) := by decide +kernel
theorem dX6_scanNumber_52 : decode cX6_scanNumber 52 = .ok (.iadd, 1) := by decide +kernel
theorem dX6_scanNumber_53 : decode cX6_scanNumber 53 = .ok (.bipush 48, 2) := by decide +kernel
theorem dX6_scanNumber_55 : decode cX6_scanNumber 55 = .ok (.isub, 1) := by decide +kernel
theorem dX6_scanNumber_56 : decode cX6_scanNumber 56 = .ok (.putfield 28, 3) := by decide +kernel
theorem dX6_scanNumber_59 : decode cX6_scanNumber 59 = .ok (.aload_n 0, 1) := by decide +kernel
theorem dX6_scanNumber_60 : decode cX6_scanNumber 60 = .ok (.dup, 1) := by decide +kernel
theorem dX6_scanNumber_61 : decode cX6_scanNumber 61 = .ok (.getfield 25, 3) := by decide +kernel
theorem dX6_scanNumber_64 : decode cX6_scanNumber 64 = .ok (.iconst 1, 1) := by decide +kernel
theorem dX6_scanNumber_65 : decode cX6_scanNumber 65 = .ok (.iadd, 1) := by decide +kernel
theorem dX6_scanNumber_66 : decode cX6_scanNumber 66 = .ok (.putfield 25, 3) := by decide +kernel
theorem dX6_scanNumber_69 : decode cX6_scanNumber 69 = .ok (.goto (-69), 3) := by decide +kernel
theorem dX6_scanNumber_72 : decode cX6_scanNumber 72 = .ok (.aload_n 0, 1) := by decide +kernel
theorem dX6_scanNumber_73 : decode cX6_scanNumber 73 = .ok (.getfield 25, 3) := by decide +kernel
theorem dX6_scanNumber_76 : decode cX6_scanNumber 76 = .ok (.aload_n 0, 1) := by decide +kernel
theorem dX6_scanNumber_77 : decode cX6_scanNumber 77 = .ok (.getfield 21, 3) := by decide +kernel
theorem dX6_scanNumber_80 : decode cX6_scanNumber 80 = .ok (.isub, 1) := by decide +kernel
theorem dX6_scanNumber_81 : decode cX6_scanNumber 81 = .ok (.iconst 3, 1) := by decide +kernel
theorem dX6_scanNumber_82 : decode cX6_scanNumber 82 = .ok (.if_icmp .le 7, 3) := by decide +kernel
theorem dX6_scanNumber_85 : decode cX6_scanNumber 85 = .ok (.iconst 1, 1) := by decide +kernel
theorem dX6_scanNumber_86 : decode cX6_scanNumber 86 = .ok (.goto 4, 3) := by decide +kernel
theorem dX6_scanNumber_89 : decode cX6_scanNumber 89 = .ok (.iconst 2, 1) := by decide +kernel
theorem dX6_scanNumber_90 : decode cX6_scanNumber 90 = .ok (.ireturn, 1) := by decide +kernel
theorem dX6_scanSign_0 : decode cX6_scanSign 0 = .ok (.aload_n 0, 1) := by decide +kernel
theorem dX6_scanSign_1 : decode cX6_scanSign 1 = .ok (.getfield 31, 3) := by decide +kernel
theorem dX6_scanSign_4 : decode cX6_scanSign 4 = .ok (.getfield 44, 3) := by decide +kernel
theorem dX6_scanSign_7 : decode cX6_scanSign 7 = .ok (.aload_n 0, 1) := by decide +kernel
theorem dX6_scanSign_8 : decode cX6_scanSign 8 = .ok (.getfield 25, 3) := by decide +kernel
theorem dX6_scanSign_11 : decode cX6_scanSign 11 = .ok (.baload, 1) := by decide +kernel
theorem dX6_scanSign_12 : decode cX6_scanSign 12 = .ok (.istore_n 1, 1) := by decide +kernel
theorem dX6_scanSign_13 : decode cX6_scanSign 13 = .ok (.aload_n 0, 1) := by decide +kernel
theorem dX6_scanSign_14 : decode cX6_scanSign 14 = .ok (.dup, 1) := by decide +kernel
theorem dX6_scanSign_15 : decode cX6_scanSign 15 = .ok (.getfield 25, 3) := by decide +kernel
theorem dX6_scanSign_18 : decode cX6_scanSign 18 = .ok (.iconst 1, 1) := by decide +kernel
theorem dX6_scanSign_19 : decode cX6_scanSign 19 = .ok (.iadd, 1) := by decide +kernel
theorem dX6_scanSign_20 : decode cX6_scanSign 20 = .ok (.putfield 25, 3) := by decide +kernel
theorem dX6_scanSign_23 : decode cX6_scanSign 23 = .ok (.iload_n 1, 1) := by decide +kernel
theorem dX6_scanSign_24 : decode cX6_scanSign 24 = .ok (.tableswitch 62 58 62 #[36, 38, 41, 55, 48], 36) := by decide +kernel
theorem dX6_scanSign_60 : decode cX6_scanSign 60 = .ok (.iconst 5, 1) := by decide +kernel
theorem dX6_scanSign_61 : decode cX6_scanSign 61 = .ok (.ireturn, 1) := by decide +kernel
theorem dX6_scanSign_62 : decode cX6_scanSign 62 = .ok (.bipush 6, 2) := by decide +kernel
theorem dX6_scanSign_64 : decode cX6_scanSign 64 = .ok (.ireturn, 1) := by decide +kernel
theorem dX6_scanSign_65 : decode cX6_scanSign 65 = .ok (.aload_n 0, 1) := by decide +kernel
theorem dX6_scanSign_66 : decode cX6_scanSign 66 = .ok (.iconst 1, 1) := by decide +kernel
theorem dX6_scanSign_67 : decode cX6_scanSign 67 = .ok (.putfield 28, 3) := by decide +kernel
theorem dX6_scanSign_70 : decode cX6_scanSign 70 = .ok (.iconst 4, 1) := by decide +kernel
theorem dX6_scanSign_71 : decode cX6_scanSign 71 = .ok (.ireturn, 1) := by decide +kernel
theorem dX6_scanSign_72 : decode cX6_scanSign 72 = .ok (.aload_n 0, 1) := by decide +kernel
theorem dX6_scanSign_73 : decode cX6_scanSign 73 = .ok (.iconst 4, 1) := by decide +kernel
theorem dX6_scanSign_74 : decode cX6_scanSign 74 = .ok (.putfield 28, 3) := by decide +kernel
theorem dX6_scanSign_77 : decode cX6_scanSign 77 = .ok (.iconst 4, 1) := by decide +kernel
theorem dX6_scanSign_78 : decode cX6_scanSign 78 = .ok (.ireturn, 1) := by decide +kernel
theorem dX6_scanSign_79 : decode cX6_scanSign 79 = .ok (.aload_n 0, 1) := by decide +kernel
theorem dX6_scanSign_80 : decode cX6_scanSign 80 = .ok (.iconst 2, 1) := by decide +kernel
theorem dX6_scanSign_81 : decode cX6_scanSign 81 = .ok (.putfield 28, 3) := by decide +kernel
theorem dX6_scanSign_84 : decode cX6_scanSign 84 = .ok (.iconst 4, 1) := by decide +kernel
theorem dX6_scanSign_85 : decode cX6_scanSign 85 = .ok (.ireturn, 1) := by decide +kernel
theorem dX6_scanSign_86 : decode cX6_scanSign 86 = .ok (.iconst 1, 1) := by decide +kernel
theorem dX6_scanSign_87 : decode cX6_scanSign 87 = .ok (.ireturn, 1) := by decide +kernel
theorem dX6_isBlank_0 : decode cX6_isBlank 0 = .ok (.iload_n 0, 1) := by decide +kernel
theorem dX6_isBlank_1 : decode cX6_isBlank 1 = .ok (.bipush 10, 2) := by decide +kernel
theorem dX6_isBlank_3 : decode cX6_isBlank 3 = .ok (.if_icmp .eq 9, 3) := by decide +kernel
theorem dX6_isBlank_6 : decode cX6_isBlank 6 = .ok (.iload_n 0, 1) := by decide +kernel
theorem dX6_isBlank_7 : decode cX6_isBlank 7 = .ok (.bipush 32, 2) := by decide +kernel
theorem dX6_isBlank_9 : decode cX6_isBlank 9 = .ok (.if_icmp .ne 7, 3) := by decide +kernel
theorem dX6_isBlank_12 : decode cX6_isBlank 12 = .ok (.iconst 1, 1) := by decide +kernel
theorem dX6_isBlank_13 : decode cX6_isBlank 13 = .ok (.goto 4, 3) := by decide +kernel
theorem dX6_isBlank_16 : decode cX6_isBlank 16 = .ok (.iconst 0, 1) := by decide +kernel
theorem dX6_isBlank_17 : decode cX6_isBlank 17 = .ok (.ireturn, 1) := by decide +kernel
theorem dX6_isLetter_0 : decode cX6_isLetter 0 = .ok (.iload_n 0, 1) := by decide +kernel
theorem dX6_isLetter_1 : decode cX6_isLetter 1 = .ok (.bipush 97, 2) := by decide +kernel
theorem dX6_isLetter_3 : decode cX6_isLetter 3 = .ok (.if_icmp .lt 13, 3) := by decide +kernel
theorem dX6_isLetter_6 : decode cX6_isLetter 6 = .ok (.iload_n 0, 1) := by decide +kernel
theorem dX6_isLetter_7 : decode cX6_isLetter 7 = .ok (.bipush 122, 2) := by decide +kernel
theorem dX6_isLetter_9 : decode cX6_isLetter 9 = .ok (.if_icmp .gt 7, 3) := by decide +kernel
theorem dX6_isLetter_12 : decode cX6_isLetter 12 = .ok (.iconst 1, 1) := by decide +kernel
theorem dX6_isLetter_13 : decode cX6_isLetter 13 = .ok (.goto 4, 3) := by decide +kernel
theorem dX6_isLetter_16 : decode cX6_isLetter 16 = .ok (.iconst 0, 1) := by decide +kernel
theorem dX6_isLetter_17 : decode cX6_isLetter 17 = .ok (.ireturn, 1) := by decide +kernel
theorem dX6_isDigit_0 : decode cX6_isDigit 0 = .ok (.iload_n 0, 1) := by decide +kernel
theorem dX6_isDigit_1 : decode cX6_isDigit 1 = .ok (.bipush 48, 2) := by decide +kernel
theorem dX6_isDigit_3 : decode cX6_isDigit 3 = .ok (.if_icmp .lt 13, 3) := by decide +kernel
theorem dX6_isDigit_6 : decode cX6_isDigit 6 = .ok (.iload_n 0, 1) := by decide +kernel
theorem dX6_isDigit_7 : decode cX6_isDigit 7 = .ok (.bipush 57, 2) := by decide +kernel
theorem dX6_isDigit_9 : decode cX6_isDigit 9 = .ok (.if_icmp .gt 7, 3) := by decide +kernel
theorem dX6_isDigit_12 : decode cX6_isDigit 12 = .ok (.iconst 1, 1) := by decide +kernel
theorem dX6_isDigit_13 : decode cX6_isDigit 13 = .ok (.goto 4, 3) := by decide +kernel
theorem dX6_isDigit_16 : decode cX6_isDigit 16 = .ok (.iconst 0, 1) := by decide +kernel
theorem dX6_isDigit_17 : decode cX6_isDigit 17 = .ok (.ireturn, 1) := by decide +kernel
theorem dX7_init_0 : decode cX7_init 0 = .ok (.aload_n 0, 1) := by decide +kernel
theorem dX7_init_1 : decode cX7_init 1 = .ok (.invokespecial 3, 3) := by decide +kernel
theorem dX7_init_4 : decode cX7_init 4 = .ok (.aload_n 0, 1) := by decide +kernel
theorem dX7_init_5 : decode cX7_init 5 = .ok (.new 9, 3) := by decide +kernel
theorem dX7_init_8 : decode cX7_init 8 = .ok (.dup, 1) := by decide +kernel
theorem dX7_init_9 : decode cX7_init 9 = .ok (.invokespecial 11, 3) := by decide +kernel
theorem dX7_init_12 : decode cX7_init 12 = .ok (.putfield 12, 3) := by decide +kernel
theorem dX7_init_15 : decode cX7_init 15 = .ok (.aload_n 0, 1) := by decide +kernel
theorem dX7_init_16 : decode cX7_init 16 = .ok (.new 18, 3) := by decide +kernel
theorem dX7_init_19 : decode cX7_init 19 = .ok (.dup, 1) := by decide +kernel
theorem dX7_init_20 : decode cX7_init 20 = .ok (.invokespecial 20, 3) := by decide +kernel
theorem dX7_init_23 : decode cX7_init 23 = .ok (.putfield 21, 3) := by decide +kernel
theorem dX7_init_26 : decode cX7_init 26 = .ok (.aload_n 0, 1) := by decide +kernel
theorem dX7_init_27 : decode cX7_init 27 = .ok (.iconst 0, 1) := by decide +kernel
theorem dX7_init_28 : decode cX7_init 28 = .ok (.putfield 25, 3) := by decide +kernel
theorem dX7_init_31 : decode cX7_init 31 = .ok (.aload_n 0, 1) := by decide +kernel
theorem dX7_init_32 : decode cX7_init 32 = .ok (.iconst (-1), 1) := by decide +kernel
theorem dX7_init_33 : decode cX7_init 33 = .ok (.putfield 29, 3) := by decide +kernel
theorem dX7_init_36 : decode cX7_init 36 = .ok (.aload_n 0, 1) := by decide +kernel
theorem dX7_init_37 : decode cX7_init 37 = .ok (.bipush 8, 2) := by decide +kernel
theorem dX7_init_39 : decode cX7_init 39 = .ok (.anewarray 32, 3) := by decide +kernel
theorem dX7_init_42 : decode cX7_init 42 = .ok (.putfield 34, 3) := by decide +kernel
theorem dX7_init_45 : decode cX7_init 45 = .ok (.aload_n 0, 1) := by decide +kernel
theorem dX7_init_46 : decode cX7_init 46 = .ok (.iconst 0, 1) := by decide +kernel
theorem dX7_init_47 : decode cX7_init 47 = .ok (.putfield 38, 3) := by decide +kernel
theorem dX7_init_50 : decode cX7_init 50 = .ok (.aload_n 0, 1) := by decide +kernel
theorem dX7_init_51 : decode cX7_init 51 = .ok (.iconst 5, 1) := by decide +kernel
theorem dX7_init_52 : decode cX7_init 52 = .ok (.newarray .int, 2) := by decide +kernel
theorem dX7_init_54 : decode cX7_init 54 = .ok (.dup, 1) := by decide +kernel
theorem dX7_init_55 : decode cX7_init 55 = .ok (.iconst 0, 1) := by decide +kernel
theorem dX7_init_56 : decode cX7_init 56 = .ok (.bipush 10, 2) := by decide +kernel
theorem dX7_init_58 : decode cX7_init 58 = .ok (.iastore, 1) := by decide +kernel
theorem dX7_init_59 : decode cX7_init 59 = .ok (.dup, 1) := by decide +kernel
theorem dX7_init_60 : decode cX7_init 60 = .ok (.iconst 1, 1) := by decide +kernel
theorem dX7_init_61 : decode cX7_init 61 = .ok (.bipush 10, 2) := by decide +kernel
theorem dX7_init_63 : decode cX7_init 63 = .ok (.iastore, 1) := by decide +kernel
theorem dX7_init_64 : decode cX7_init 64 = .ok (.dup, 1) := by decide +kernel
theorem dX7_init_65 : decode cX7_init 65 = .ok (.iconst 2, 1) := by decide +kernel
theorem dX7_init_66 : decode cX7_init 66 = .ok (.bipush 10, 2) := by decide +kernel
theorem dX7_init_68 : decode cX7_init 68 = .ok (.iastore, 1) := by decide +kernel
theorem dX7_init_69 : decode cX7_init 69 = .ok (.dup, 1) := by decide +kernel
theorem dX7_init_70 : decode cX7_init 70 = .ok (.iconst 3, 1) := by decide +kernel
theorem dX7_init_71 : decode cX7_init 71 = .ok (.bipush 10, 2) := by decide +kernel
theorem dX7_init_73 : decode cX7_init 73 = .ok (.iastore, 1) := by decide +kernel
theorem dX7_init_74 : decode cX7_init 74 = .ok (.dup, 1) := by decide +kernel
theorem dX7_init_75 : decode cX7_init 75 = .ok (.iconst 4, 1) := by decide +kernel
theorem dX7_init_76 : decode cX7_init 76 = .ok (.bipush 10, 2) := by decide +kernel
theorem dX7_init_78 : decode cX7_init 78 = .ok (.iastore, 1) := by decide +kernel
theorem dX7_init_79 : decode cX7_init 79 = .ok (.putfield 41, 3) := by decide +kernel
theorem dX7_init_82 : decode cX7_init 82 = .ok (.aload_n 0, 1) := by decide +kernel
theorem dX7_init_83 : decode cX7_init 83 = .ok (.iconst 5, 1) := by decide +kernel
theorem dX7_init_84 : decode cX7_init 84 = .ok (.newarray .int, 2) := by decide +kernel
theorem dX7_init_86 : decode cX7_init 86 = .ok (.dup, 1) := by decide +kernel
theorem dX7_init_87 : decode cX7_init 87 = .ok (.iconst 0, 1) := by decide +kernel
theorem dX7_init_88 : decode cX7_init 88 = .ok (.sipush 200, 3) := by decide +kernel
theorem dX7_init_91 : decode cX7_init 91 = .ok (.iastore, 1) := by decide +kernel
theorem dX7_init_92 : decode cX7_init 92 = .ok (.dup, 1) := by decide +kernel
theorem dX7_init_93 : decode cX7_init 93 = .ok (.iconst 1, 1) := by decide +kernel
theorem dX7_init_94 : decode cX7_init 94 = .ok (.sipush 200, 3) := by decide +kernel
theorem dX7_init_97 : decode cX7_init 97 = .ok (.iastore, 1) := by decide +kernel
theorem dX7_init_98 : decode cX7_init 98 = .ok (.dup, 1) := by decide +kernel
theorem dX7_init_99 : decode cX7_init 99 = .ok (.iconst 2, 1) := by decide +kernel
theorem dX7_init_100 : decode cX7_init 100 = .ok (.sipush 200, 3) := by decide +kernel
theorem dX7_init_103 : decode cX7_init 103 = .ok (.iastore, 1) := by decide +kernel
theorem dX7_init_104 : decode cX7_init 104 = .ok (.dup, 1) := by decide +kernel
theorem dX7_init_105 : decode cX7_init 105 = .ok (.iconst 3, 1) := by decide +kernel
theorem dX7_init_106 : decode cX7_init 106 = .ok (.sipush 200, 3) := by decide +kernel
theorem dX7_init_109 : decode cX7_init 109 = .ok (.iastore, 1) := by decide +kernel
theorem dX7_init_110 : decode cX7_init 110 = .ok (.dup, 1) := by decide +kernel
theorem dX7_init_111 : decode cX7_init 111 = .ok (.iconst 4, 1) := by decide +kernel
theorem dX7_init_112 : decode cX7_init 112 = .ok (.sipush 200, 3) := by decide +kernel
theorem dX7_init_115 : decode cX7_init 115 = .ok (.iastore, 1) := by decide +kernel
theorem dX7_init_116 : decode cX7_init 116 = .ok (.putfield 45, 3) := by decide +kernel
theorem dX7_init_119 : decode cX7_init 119 = .ok (.aload_n 0, 1) := by decide +kernel
theorem dX7_init_120 : decode cX7_init 120 = .ok (.iconst 4, 1) := by decide +kernel
theorem dX7_init_121 : decode cX7_init 121 = .ok (.newarray .int, 2) := by decide +kernel
theorem dX7_init_123 : decode cX7_init 123 = .ok (.dup, 1) := by decide +kernel
theorem dX7_init_124 : decode cX7_init 124 = .ok (.iconst 0, 1) := by decide +kernel
theorem dX7_init_125 : decode cX7_init 125 = .ok (.iconst 5, 1) := by decide +kernel
theorem dX7_init_126 : decode cX7_init 126 = .ok (.iastore, 1) := by decide +kernel
theorem dX7_init_127 : decode cX7_init 127 = .ok (.dup, 1) := by decide +kernel
theorem dX7_init_128 : decode cX7_init 128 = .ok (.iconst 1, 1) := by decide +kernel
theorem dX7_init_129 : decode cX7_init 129 = .ok (.iconst 5, 1) := by decide +kernel
theorem dX7_init_130 : decode cX7_init 130 = .ok (.iastore, 1) := by decide +kernel
theorem dX7_init_131 : decode cX7_init 131 = .ok (.dup, 1) := by decide +kernel
theorem dX7_init_132 : decode cX7_init 132 = .ok (.iconst 2, 1) := by decide +kernel
theorem dX7_init_133 : decode cX7_init 133 = .ok (.iconst 5, 1) := by decide +kernel
theorem dX7_init_134 : decode cX7_init 134 = .ok (.iastore, 1) := by decide +kernel
theorem dX7_init_135 : decode cX7_init 135 = .ok (.dup, 1) := by decide +kernel
theorem dX7_init_136 : decode cX7_init 136 = .ok (.iconst 3, 1) := by decide +kernel
theorem dX7_init_137 : decode cX7_init 137 = .ok (.iconst 5, 1) := by decide +kernel
theorem dX7_init_138 : decode cX7_init 138 = .ok (.iastore, 1) := by decide +kernel
theorem dX7_init_139 : decode cX7_init 139 = .ok (.putfield 48, 3) := by decide +kernel
theorem dX7_init_142 : decode cX7_init 142 = .ok (.aload_n 0, 1) := by decide +kernel
theorem dX7_init_143 : decode cX7_init 143 = .ok (.new 51, 3) := by decide +kernel
theorem dX7_init_146 : decode cX7_init 146 = .ok (.dup, 1) := by decide +kernel
theorem dX7_init_147 : decode cX7_init 147 = .ok (.invokespecial 53, 3) := by decide +kernel
theorem dX7_init_150 : decode cX7_init 150 = .ok (.putfield 54, 3) := by decide +kernel
theorem dX7_init_153 : decode cX7_init 153 = .ok (.aload_n 0, 1) := by decide +kernel
theorem dX7_init_154 : decode cX7_init 154 = .ok (.bipush 24, 2) := by decide +kernel
theorem dX7_init_156 : decode cX7_init 156 = .ok (.anewarray 58, 3) := by decide +kernel
theorem dX7_init_159 : decode cX7_init 159 = .ok (.putfield 60, 3) := by decide +kernel
theorem dX7_init_162 : decode cX7_init 162 = .ok (.aload_n 0, 1) := by decide +kernel
theorem dX7_init_163 : decode cX7_init 163 = .ok (.iconst 0, 1) := by decide +kernel
theorem dX7_init_164 : decode cX7_init 164 = .ok (.putfield 64, 3) := by decide +kernel
theorem dX7_init_167 : decode cX7_init 167 = .ok (.aload_n 0, 1) := by decide +kernel
theorem dX7_init_168 : decode cX7_init 168 = .ok (.iconst 0, 1) := by decide +kernel
theorem dX7_init_169 : decode cX7_init 169 = .ok (.putfield 67, 3) := by decide +kernel
theorem dX7_init_172 : decode cX7_init 172 = .ok (.iconst 0, 1) := by decide +kernel
theorem dX7_init_173 : decode cX7_init 173 = .ok (.istore_n 1, 1) := by decide +kernel
theorem dX7_init_174 : decode cX7_init 174 = .ok (.iload_n 1, 1) := by decide +kernel
theorem dX7_init_175 : decode cX7_init 175 = .ok (.bipush 8, 2) := by decide +kernel
theorem dX7_init_177 : decode cX7_init 177 = .ok (.if_icmp .ge 22, 3) := by decide +kernel
theorem dX7_init_180 : decode cX7_init 180 = .ok (.aload_n 0, 1) := by decide +kernel
theorem dX7_init_181 : decode cX7_init 181 = .ok (.getfield 34, 3) := by decide +kernel
theorem dX7_init_184 : decode cX7_init 184 = .ok (.iload_n 1, 1) := by decide +kernel
theorem dX7_init_185 : decode cX7_init 185 = .ok (.new 32, 3) := by decide +kernel
theorem dX7_init_188 : decode cX7_init 188 = .ok (.dup, 1) := by decide +kernel
theorem dX7_init_189 : decode cX7_init 189 = .ok (.invokespecial 70, 3) := by decide +kernel
theorem dX7_init_192 : decode cX7_init 192 = .ok (.aastore, 1) := by decide +kernel
theorem dX7_init_193 : decode cX7_init 193 = .ok (.iinc 1 1, 3) := by decide +kernel
theorem dX7_init_196 : decode cX7_init 196 = .ok (.goto (-22), 3) := by decide +kernel
theorem dX7_init_199 : decode cX7_init 199 = .ok (.iconst 0, 1) := by decide +kernel
theorem dX7_init_200 : decode cX7_init 200 = .ok (.istore_n 1, 1) := by decide +kernel
theorem dX7_init_201 : decode cX7_init 201 = .ok (.iload_n 1, 1) := by decide +kernel
theorem dX7_init_202 : decode cX7_init 202 = .ok (.bipush 24, 2) := by decide +kernel
theorem dX7_init_204 : decode cX7_init 204 = .ok (.if_icmp .ge 22, 3) := by decide +kernel
theorem dX7_init_207 : decode cX7_init 207 = .ok (.aload_n 0, 1) := by decide +kernel
theorem dX7_init_208 : decode cX7_init 208 = .ok (.getfield 60, 3) := by decide +kernel
theorem dX7_init_211 : decode cX7_init 211 = .ok (.iload_n 1, 1) := by decide +kernel
theorem dX7_init_212 : decode cX7_init 212 = .ok (.new 58, 3) := by decide +kernel
theorem dX7_init_215 : decode cX7_init 215 = .ok (.dup, 1) := by decide +kernel
theorem dX7_init_216 : decode cX7_init 216 = .ok (.invokespecial 71, 3) := by decide +kernel
theorem dX7_init_219 : decode cX7_init 219 = .ok (.aastore, 1) := by decide +kernel
theorem dX7_init_220 : decode cX7_init 220 = .ok (.iinc 1 1, 3) := by decide +kernel
theorem dX7_init_223 : decode cX7_init 223 = .ok (.goto (-22), 3) := by decide +kernel
theorem dX7_init_226 : decode cX7_init 226 = .ok (.return_, 1) := by decide +kernel
theorem dX7_copyFrom_0 : decode cX7_copyFrom 0 = .ok (.aload_n 0, 1) := by decide +kernel
theorem dX7_copyFrom_1 : decode cX7_copyFrom 1 = .ok (.getfield 12, 3) := by decide +kernel
theorem dX7_copyFrom_4 : decode cX7_copyFrom 4 = .ok (.aload_n 1, 1) := by decide +kernel
theorem dX7_copyFrom_5 : decode cX7_copyFrom 5 = .ok (.getfield 12, 3) := by decide +kernel
theorem dX7_copyFrom_8 : decode cX7_copyFrom 8 = .ok (.invokevirtual 72, 3) := by decide +kernel
theorem dX7_copyFrom_11 : decode cX7_copyFrom 11 = .ok (.aload_n 0, 1) := by decide +kernel
theorem dX7_copyFrom_12 : decode cX7_copyFrom 12 = .ok (.getfield 21, 3) := by decide +kernel
theorem dX7_copyFrom_15 : decode cX7_copyFrom 15 = .ok (.aload_n 1, 1) := by decide +kernel
theorem dX7_copyFrom_16 : decode cX7_copyFrom 16 = .ok (.getfield 21, 3) := by decide +kernel
theorem dX7_copyFrom_19 : decode cX7_copyFrom 19 = .ok (.invokevirtual 76, 3) := by decide +kernel
theorem dX7_copyFrom_22 : decode cX7_copyFrom 22 = .ok (.aload_n 0, 1) := by decide +kernel
theorem dX7_copyFrom_23 : decode cX7_copyFrom 23 = .ok (.aload_n 1, 1) := by decide +kernel
theorem dX7_copyFrom_24 : decode cX7_copyFrom 24 = .ok (.getfield 25, 3) := by decide +kernel
theorem dX7_copyFrom_27 : decode cX7_copyFrom 27 = .ok (.putfield 25, 3) := by decide +kernel
theorem dX7_copyFrom_30 : decode cX7_copyFrom 30 = .ok (.aload_n 0, 1) := by decide +kernel
theorem dX7_copyFrom_31 : decode cX7_copyFrom 31 = .ok (.aload_n 1, 1) := by decide +kernel
theorem dX7_copyFrom_32 : decode cX7_copyFrom 32 = .ok (.getfield 29, 3) := by decide +kernel
theorem dX7_copyFrom_35 : decode cX7_copyFrom 35 = .ok (.putfield 29, 3) := by decide +kernel
theorem dX7_copyFrom_38 : decode cX7_copyFrom 38 = .ok (.iconst 0, 1) := by decide +kernel
theorem dX7_copyFrom_39 : decode cX7_copyFrom 39 = .ok (.istore_n 2, 1) := by decide +kernel
theorem dX7_copyFrom_40 : decode cX7_copyFrom 40 = .ok (.iload_n 2, 1) := by decide +kernel
theorem dX7_copyFrom_41 : decode cX7_copyFrom 41 = .ok (.bipush 8, 2) := by decide +kernel
theorem dX7_copyFrom_43 : decode cX7_copyFrom 43 = .ok (.if_icmp .ge 24, 3) := by decide +kernel
theorem dX7_copyFrom_46 : decode cX7_copyFrom 46 = .ok (.aload_n 0, 1) := by decide +kernel
theorem dX7_copyFrom_47 : decode cX7_copyFrom 47 = .ok (.getfield 34, 3) := by decide +kernel
theorem dX7_copyFrom_50 : decode cX7_copyFrom 50 = .ok (.iload_n 2, 1) := by decide +kernel
theorem dX7_copyFrom_51 : decode cX7_copyFrom 51 = .ok (.aaload, 1) := by decide +kernel
theorem dX7_copyFrom_52 : decode cX7_copyFrom 52 = .ok (.aload_n 1, 1) := by decide +kernel
theorem dX7_copyFrom_53 : decode cX7_copyFrom 53 = .ok (.getfield 34, 3) := by decide +kernel
theorem dX7_copyFrom_56 : decode cX7_copyFrom 56 = .ok (.iload_n 2, 1) := by decide +kernel
theorem dX7_copyFrom_57 : decode cX7_copyFrom 57 = .ok (.aaload, 1) := by decide +kernel
theorem dX7_copyFrom_58 : decode cX7_copyFrom 58 = .ok (.invokevirtual 79, 3) := by decide +kernel
theorem dX7_copyFrom_61 : decode cX7_copyFrom 61 = .ok (.iinc 2 1, 3) := by decide +kernel
theorem dX7_copyFrom_64 : decode cX7_copyFrom 64 = .ok (.goto (-24), 3) := by decide +kernel
theorem dX7_copyFrom_67 : decode cX7_copyFrom 67 = .ok (.aload_n 0, 1) := by decide +kernel
theorem dX7_copyFrom_68 : decode cX7_copyFrom 68 = .ok (.aload_n 1, 1) := by decide +kernel
theorem dX7_copyFrom_69 : decode cX7_copyFrom 69 = .ok (.getfield 38, 3) := by decide +kernel
theorem dX7_copyFrom_72 : decode cX7_copyFrom 72 = .ok (.putfield 38, 3) := by decide +kernel
theorem dX7_copyFrom_75 : decode cX7_copyFrom 75 = .ok (.aload_n 1, 1) := by decide +kernel
theorem dX7_copyFrom_76 : decode cX7_copyFrom 76 = .ok (.getfield 41, 3) := by decide +kernel
theorem dX7_copyFrom_79 : decode cX7_copyFrom 79 = .ok (.iconst 0, 1) := by decide +kernel
theorem dX7_copyFrom_80 : decode cX7_copyFrom 80 = .ok (.aload_n 0, 1) := by decide +kernel
theorem dX7_copyFrom_81 : decode cX7_copyFrom 81 = .ok (.getfield 41, 3) := by decide +kernel
theorem dX7_copyFrom_84 : decode cX7_copyFrom 84 = .ok (.iconst 0, 1) := by decide +kernel
theorem dX7_copyFrom_85 : decode cX7_copyFrom 85 = .ok (.iconst 5, 1) := by decide +kernel
theorem dX7_copyFrom_86 : decode cX7_copyFrom 86 = .ok (.invokestatic 82, 3) := by decide +kernel
theorem dX7_copyFrom_89 : decode cX7_copyFrom 89 = .ok (.aload_n 1, 1) := by decide +kernel
theorem dX7_copyFrom_90 : decode cX7_copyFrom 90 = .ok (.getfield 45, 3) := by decide +kernel
theorem dX7_copyFrom_93 : decode cX7_copyFrom 93 = .ok (.iconst 0, 1) := by decide +kernel
theorem dX7_copyFrom_94 : decode cX7_copyFrom 94 = .ok (.aload_n 0, 1) := by decide +kernel
theorem dX7_copyFrom_95 : decode cX7_copyFrom 95 = .ok (.getfield 45, 3) := by decide +kernel
theorem dX7_copyFrom_98 : decode cX7_copyFrom 98 = .ok (.iconst 0, 1) := by decide +kernel
theorem dX7_copyFrom_99 : decode cX7_copyFrom 99 = .ok (.iconst 5, 1) := by decide +kernel
theorem dX7_copyFrom_100 : decode cX7_copyFrom 100 = .ok (.invokestatic 82, 3) := by decide +kernel
theorem dX7_copyFrom_103 : decode cX7_copyFrom 103 = .ok (.aload_n 1, 1) := by decide +kernel
theorem dX7_copyFrom_104 : decode cX7_copyFrom 104 = .ok (.getfield 48, 3) := by decide +kernel
theorem dX7_copyFrom_107 : decode cX7_copyFrom 107 = .ok (.iconst 0, 1) := by decide +kernel
theorem dX7_copyFrom_108 : decode cX7_copyFrom 108 = .ok (.aload_n 0, 1) := by decide +kernel
theorem dX7_copyFrom_109 : decode cX7_copyFrom 109 = .ok (.getfield 48, 3) := by decide +kernel
theorem dX7_copyFrom_112 : decode cX7_copyFrom 112 = .ok (.iconst 0, 1) := by decide +kernel
theorem dX7_copyFrom_113 : decode cX7_copyFrom 113 = .ok (.iconst 4, 1) := by decide +kernel
theorem dX7_copyFrom_114 : decode cX7_copyFrom 114 = .ok (.invokestatic 82, 3) := by decide +kernel
theorem dX7_copyFrom_117 : decode cX7_copyFrom 117 = .ok (.aload_n 0, 1) := by decide +kernel
theorem dX7_copyFrom_118 : decode cX7_copyFrom 118 = .ok (.getfield 54, 3) := by decide +kernel
theorem dX7_copyFrom_121 : decode cX7_copyFrom 121 = .ok (.aload_n 1, 1) := by decide +kernel
theorem dX7_copyFrom_122 : decode cX7_copyFrom 122 = .ok (.getfield 54, 3) := by decide +kernel
theorem dX7_copyFrom_125 : decode cX7_copyFrom 125 = .ok (.invokevirtual 88, 3) := by decide +kernel
theorem dX7_copyFrom_128 : decode cX7_copyFrom 128 = .ok (.iconst 0, 1) := by decide +kernel
theorem dX7_copyFrom_129 : decode cX7_copyFrom 129 = .ok (.istore_n 2, 1) := by decide +kernel
theorem dX7_copyFrom_130 : decode cX7_copyFrom 130 = .ok (.iload_n 2, 1) := by decide +kernel
theorem dX7_copyFrom_131 : decode cX7_copyFrom 131 = .ok (.bipush 24, 2) := by decide +kernel
theorem dX7_copyFrom_133 : decode cX7_copyFrom 133 = .ok (.if_icmp .ge 24, 3) := by decide +kernel
theorem dX7_copyFrom_136 : decode cX7_copyFrom 136 = .ok (.aload_n 0, 1) := by decide +kernel
theorem dX7_copyFrom_137 : decode cX7_copyFrom 137 = .ok (.getfield 60, 3) := by decide +kernel
theorem dX7_copyFrom_140 : decode cX7_copyFrom 140 = .ok (.iload_n 2, 1) := by decide +kernel
theorem dX7_copyFrom_141 : decode cX7_copyFrom 141 = .ok (.aaload, 1) := by decide +kernel
theorem dX7_copyFrom_142 : decode cX7_copyFrom 142 = .ok (.aload_n 1, 1) := by decide +kernel
theorem dX7_copyFrom_143 : decode cX7_copyFrom 143 = .ok (.getfield 60, 3) := by decide +kernel
theorem dX7_copyFrom_146 : decode cX7_copyFrom 146 = .ok (.iload_n 2, 1) := by decide +kernel
theorem dX7_copyFrom_147 : decode cX7_copyFrom 147 = .ok (.aaload, 1) := by decide +kernel
theorem dX7_copyFrom_148 : decode cX7_copyFrom 148 = .ok (.invokevirtual 91, 3) := by decide +kernel
theorem dX7_copyFrom_151 : decode cX7_copyFrom 151 = .ok (.iinc 2 1, 3) := by decide +kernel
theorem dX7_copyFrom_154 : decode cX7_copyFrom 154 = .ok (.goto (-24), 3) := by decide +kernel
theorem dX7_copyFrom_157 : decode cX7_copyFrom 157 = .ok (.aload_n 0, 1) := by decide +kernel
theorem dX7_copyFrom_158 : decode cX7_copyFrom 158 = .ok (.aload_n 1, 1) := by decide +kernel
theorem dX7_copyFrom_159 : decode cX7_copyFrom 159 = .ok (.getfield 64, 3) := by decide +kernel
theorem dX7_copyFrom_162 : decode cX7_copyFrom 162 = .ok (.putfield 64, 3) := by decide +kernel
theorem dX7_copyFrom_165 : decode cX7_copyFrom 165 = .ok (.aload_n 0, 1) := by decide +kernel
theorem dX7_copyFrom_166 : decode cX7_copyFrom 166 = .ok (.aload_n 1, 1) := by decide +kernel
theorem dX7_copyFrom_167 : decode cX7_copyFrom 167 = .ok (.getfield 67, 3) := by decide +kernel
theorem dX7_copyFrom_170 : decode cX7_copyFrom 170 = .ok (.putfield 67, 3) := by decide +kernel
theorem dX7_copyFrom_173 : decode cX7_copyFrom 173 = .ok (.return_, 1) := by decide +kernel
theorem dX7_hasHouse_0 : decode cX7_hasHouse 0 = .ok (.iload_n 1, 1) := by decide +kernel
theorem dX7_hasHouse_1 : decode cX7_hasHouse 1 = .ok (.iconst 0, 1) := by decide +kernel
theorem dX7_hasHouse_2 : decode cX7_hasHouse 2 = .ok (.aload_n 0, 1) := by decide +kernel
theorem dX7_hasHouse_3 : decode cX7_hasHouse 3 = .ok (.getfield 38, 3) := by decide +kernel
theorem dX7_hasHouse_6 : decode cX7_hasHouse 6 = .ok (.iconst 1, 1) := by decide +kernel
theorem dX7_hasHouse_7 : decode cX7_hasHouse 7 = .ok (.isub, 1) := by decide +kernel
theorem dX7_hasHouse_8 : decode cX7_hasHouse 8 = .ok (.invokestatic 94, 3) := by decide +kernel
theorem dX7_hasHouse_11 : decode cX7_hasHouse 11 = .ok (.ireturn, 1) := by decide +kernel
theorem dX7_standingPots_0 : decode cX7_standingPots 0 = .ok (.iconst 0, 1) := by decide +kernel
theorem dX7_standingPots_1 : decode cX7_standingPots 1 = .ok (.istore_n 1, 1) := by decide +kernel
theorem dX7_standingPots_2 : decode cX7_standingPots 2 = .ok (.iconst 0, 1) := by decide +kernel
theorem dX7_standingPots_3 : decode cX7_standingPots 3 = .ok (.istore_n 2, 1) := by decide +kernel
theorem dX7_standingPots_4 : decode cX7_standingPots 4 = .ok (.iload_n 2, 1) := by decide +kernel
theorem dX7_standingPots_5 : decode cX7_standingPots 5 = .ok (.aload_n 0, 1) := by decide +kernel
theorem dX7_standingPots_6 : decode cX7_standingPots 6 = .ok (.getfield 64, 3) := by decide +kernel
theorem dX7_standingPots_9 : decode cX7_standingPots 9 = .ok (.if_icmp .ge 24, 3) := by decide +kernel
theorem dX7_standingPots_12 : decode cX7_standingPots 12 = .ok (.aload_n 0, 1) := by decide +kernel
theorem dX7_standingPots_13 : decode cX7_standingPots 13 = .ok (.getfield 60, 3) := by decide +kernel
theorem dX7_standingPots_16 : decode cX7_standingPots 16 = .ok (.iload_n 2, 1) := by decide +kernel
theorem dX7_standingPots_17 : decode cX7_standingPots 17 = .ok (.aaload, 1) := by decide +kernel
theorem dX7_standingPots_18 : decode cX7_standingPots 18 = .ok (.invokevirtual 98, 3) := by decide +kernel
theorem dX7_standingPots_21 : decode cX7_standingPots 21 = .ok (.ifCond .eq 6, 3) := by decide +kernel
theorem dX7_standingPots_24 : decode cX7_standingPots 24 = .ok (.iinc 1 1, 3) := by decide +kernel
theorem dX7_standingPots_27 : decode cX7_standingPots 27 = .ok (.iinc 2 1, 3) := by decide +kernel
theorem dX7_standingPots_30 : decode cX7_standingPots 30 = .ok (.goto (-26), 3) := by decide +kernel
theorem dX7_standingPots_33 : decode cX7_standingPots 33 = .ok (.iload_n 1, 1) := by decide +kernel
theorem dX7_standingPots_34 : decode cX7_standingPots 34 = .ok (.ireturn, 1) := by decide +kernel
theorem dX7_potsOf_0 : decode cX7_potsOf 0 = .ok (.iconst 0, 1) := by decide +kernel
theorem dX7_potsOf_1 : decode cX7_potsOf 1 = .ok (.istore_n 3, 1) := by decide +kernel
theorem dX7_potsOf_2 : decode cX7_potsOf 2 = .ok (.iconst 0, 1) := by decide +kernel
theorem dX7_potsOf_3 : decode cX7_potsOf 3 = .ok (.istore 4, 2) := by decide +kernel
theorem dX7_potsOf_5 : decode cX7_potsOf 5 = .ok (.iload 4, 2) := by decide +kernel
theorem dX7_potsOf_7 : decode cX7_potsOf 7 = .ok (.aload_n 0, 1) := by decide +kernel
theorem dX7_potsOf_8 : decode cX7_potsOf 8 = .ok (.getfield 64, 3) := by decide +kernel
theorem dX7_potsOf_11 : decode cX7_potsOf 11 = .ok (.if_icmp .ge 43, 3) := by decide +kernel
theorem dX7_potsOf_14 : decode cX7_potsOf 14 = .ok (.aload_n 0, 1) := by decide +kernel
theorem dX7_potsOf_15 : decode cX7_potsOf 15 = .ok (.getfield 60, 3) := by decide +kernel
theorem dX7_potsOf_18 : decode cX7_potsOf 18 = .ok (.iload 4, 2) := by decide +kernel
theorem dX7_potsOf_20 : decode cX7_potsOf 20 = .ok (.aaload, 1) := by decide +kernel
theorem dX7_potsOf_21 : decode cX7_potsOf 21 = .ok (.getfield 102, 3) := by decide +kernel
theorem dX7_potsOf_24 : decode cX7_potsOf 24 = .ok (.iload_n 1, 1) := by decide +kernel
theorem dX7_potsOf_25 : decode cX7_potsOf 25 = .ok (.if_icmp .ne 23, 3) := by decide +kernel
theorem dX7_potsOf_28 : decode cX7_potsOf 28 = .ok (.aload_n 0, 1) := by decide +kernel
theorem dX7_potsOf_29 : decode cX7_potsOf 29 = .ok (.getfield 60, 3) := by decide +kernel
theorem dX7_potsOf_32 : decode cX7_potsOf 32 = .ok (.iload 4, 2) := by decide +kernel
theorem dX7_potsOf_34 : decode cX7_potsOf 34 = .ok (.aaload, 1) := by decide +kernel
theorem dX7_potsOf_35 : decode cX7_potsOf 35 = .ok (.invokevirtual 98, 3) := by decide +kernel
theorem dX7_potsOf_38 : decode cX7_potsOf 38 = .ok (.ifCond .ne 7, 3) := by decide +kernel
theorem dX7_potsOf_41 : decode cX7_potsOf 41 = .ok (.iload_n 2, 1) := by decide +kernel
theorem dX7_potsOf_42 : decode cX7_potsOf 42 = .ok (.ifCond .ne 6, 3) := by decide +kernel
theorem dX7_potsOf_45 : decode cX7_potsOf 45 = .ok (.iinc 3 1, 3) := by decide +kernel
theorem dX7_potsOf_48 : decode cX7_potsOf 48 = .ok (.iinc 4 1, 3) := by decide +kernel
theorem dX7_potsOf_51 : decode cX7_potsOf 51 = .ok (.goto (-46), 3) := by decide +kernel
theorem dX7_potsOf_54 : decode cX7_potsOf 54 = .ok (.iload_n 3, 1) := by decide +kernel
theorem dX7_potsOf_55 : decode cX7_potsOf 55 = .ok (.ireturn, 1) := by decide +kernel
theorem dX7_dryWaiting_0 : decode cX7_dryWaiting 0 = .ok (.iconst 0, 1) := by decide +kernel
theorem dX7_dryWaiting_1 : decode cX7_dryWaiting 1 = .ok (.istore_n 2, 1) := by decide +kernel
theorem dX7_dryWaiting_2 : decode cX7_dryWaiting 2 = .ok (.iload_n 2, 1) := by decide +kernel
theorem dX7_dryWaiting_3 : decode cX7_dryWaiting 3 = .ok (.aload_n 0, 1) := by decide +kernel
theorem dX7_dryWaiting_4 : decode cX7_dryWaiting 4 = .ok (.getfield 64, 3) := by decide +kernel
theorem dX7_dryWaiting_7 : decode cX7_dryWaiting 7 = .ok (.if_icmp .ge 45, 3) := by decide +kernel
theorem dX7_dryWaiting_10 : decode cX7_dryWaiting 10 = .ok (.aload_n 0, 1) := by decide +kernel
theorem dX7_dryWaiting_11 : decode cX7_dryWaiting 11 = .ok (.getfield 60, 3) := by decide +kernel
theorem dX7_dryWaiting_14 : decode cX7_dryWaiting 14 = .ok (.iload_n 2, 1) := by decide +kernel
theorem dX7_dryWaiting_15 : decode cX7_dryWaiting 15 = .ok (.aaload, 1) := by decide +kernel
theorem dX7_dryWaiting_16 : decode cX7_dryWaiting 16 = .ok (.invokevirtual 98, 3) := by decide +kernel
theorem dX7_dryWaiting_19 : decode cX7_dryWaiting 19 = .ok (.ifCond .ne 27, 3) := by decide +kernel
theorem dX7_dryWaiting_22 : decode cX7_dryWaiting 22 = .ok (.aload_n 0, 1) := by decide +kernel
theorem dX7_dryWaiting_23 : decode cX7_dryWaiting 23 = .ok (.getfield 60, 3) := by decide +kernel
theorem dX7_dryWaiting_26 : decode cX7_dryWaiting 26 = .ok (.iload_n 2, 1) := by decide +kernel
theorem dX7_dryWaiting_27 : decode cX7_dryWaiting 27 = .ok (.aaload, 1) := by decide +kernel
theorem dX7_dryWaiting_28 : decode cX7_dryWaiting 28 = .ok (.iconst 0, 1) := by decide +kernel
theorem dX7_dryWaiting_29 : decode cX7_dryWaiting 29 = .ok (.aload_n 0, 1) := by decide +kernel
theorem dX7_dryWaiting_30 : decode cX7_dryWaiting 30 = .ok (.getfield 60, 3) := by decide +kernel
theorem dX7_dryWaiting_33 : decode cX7_dryWaiting 33 = .ok (.iload_n 2, 1) := by decide +kernel
theorem dX7_dryWaiting_34 : decode cX7_dryWaiting 34 = .ok (.aaload, 1) := by decide +kernel
theorem dX7_dryWaiting_35 : decode cX7_dryWaiting 35 = .ok (.getfield 105, 3) := by decide +kernel
theorem dX7_dryWaiting_38 : decode cX7_dryWaiting 38 = .ok (.iload_n 1, 1) := by decide +kernel
theorem dX7_dryWaiting_39 : decode cX7_dryWaiting 39 = .ok (.isub, 1) := by decide +kernel
theorem dX7_dryWaiting_40 : decode cX7_dryWaiting 40 = .ok (.invokestatic 108, 3) := by decide +kernel
theorem dX7_dryWaiting_43 : decode cX7_dryWaiting 43 = .ok (.putfield 105, 3) := by decide +kernel
theorem dX7_dryWaiting_46 : decode cX7_dryWaiting 46 = .ok (.iinc 2 1, 3) := by decide +kernel
theorem dX7_dryWaiting_49 : decode cX7_dryWaiting 49 = .ok (.goto (-47), 3) := by decide +kernel
theorem dX7_dryWaiting_52 : decode cX7_dryWaiting 52 = .ok (.return_, 1) := by decide +kernel
theorem dX7_dealPlaces_0 : decode cX7_dealPlaces 0 = .ok (.iconst 0, 1) := by decide +kernel
theorem dX7_dealPlaces_1 : decode cX7_dealPlaces 1 = .ok (.istore_n 1, 1) := by decide +kernel
theorem dX7_dealPlaces_2 : decode cX7_dealPlaces 2 = .ok (.iconst 0, 1) := by decide +kernel
theorem dX7_dealPlaces_3 : decode cX7_dealPlaces 3 = .ok (.istore_n 2, 1) := by decide +kernel
theorem dX7_dealPlaces_4 : decode cX7_dealPlaces 4 = .ok (.iload_n 2, 1) := by decide +kernel
theorem dX7_dealPlaces_5 : decode cX7_dealPlaces 5 = .ok (.bipush 24, 2) := by decide +kernel
theorem dX7_dealPlaces_7 : decode cX7_dealPlaces 7 = .ok (.if_icmp .ge 109, 3) := by decide +kernel
theorem dX7_dealPlaces_10 : decode cX7_dealPlaces 10 = .ok (.aload_n 0, 1) := by decide +kernel
theorem dX7_dealPlaces_11 : decode cX7_dealPlaces 11 = .ok (.getfield 54, 3) := by decide +kernel
theorem dX7_dealPlaces_14 : decode cX7_dealPlaces 14 = .ok (.invokevirtual 114, 3) := by decide +kernel
theorem dX7_dealPlaces_17 : decode cX7_dealPlaces 17 = .ok (.istore_n 3, 1) := by decide +kernel
theorem dX7_dealPlaces_18 : decode cX7_dealPlaces 18 = .ok (.aload_n 0, 1) := by decide +kernel
theorem dX7_dealPlaces_19 : decode cX7_dealPlaces 19 = .ok (.invokevirtual 118, 3) := by decide +kernel
theorem dX7_dealPlaces_22 : decode cX7_dealPlaces 22 = .ok (.istore 4, 2) := by decide +kernel
theorem dX7_dealPlaces_24 : decode cX7_dealPlaces 24 = .ok (.iload_n 3, 1) := by decide +kernel
theorem dX7_dealPlaces_25 : decode cX7_dealPlaces 25 = .ok (.iconst (-1), 1) := by decide +kernel
theorem dX7_dealPlaces_26 : decode cX7_dealPlaces 26 = .ok (.if_icmp .eq 90, 3) := by decide +kernel
theorem dX7_dealPlaces_29 : decode cX7_dealPlaces 29 = .ok (.iload 4, 2) := by decide +kernel
theorem dX7_dealPlaces_31 : decode cX7_dealPlaces 31 = .ok (.iconst (-1), 1) := by decide +kernel
theorem dX7_dealPlaces_32 : decode cX7_dealPlaces 32 = .ok (.if_icmp .ne 6, 3) := by decide +kernel
theorem dX7_dealPlaces_35 : decode cX7_dealPlaces 35 = .ok (.goto 81, 3) := by decide +kernel
theorem dX7_dealPlaces_38 : decode cX7_dealPlaces 38 = .ok (.aload_n 0, 1) := by decide +kernel
theorem dX7_dealPlaces_39 : decode cX7_dealPlaces 39 = .ok (.getfield 54, 3) := by decide +kernel
theorem dX7_dealPlaces_42 : decode cX7_dealPlaces 42 = .ok (.getfield 121, 3) := by decide +kernel
theorem dX7_dealPlaces_45 : decode cX7_dealPlaces 45 = .ok (.iload_n 3, 1) := by decide +kernel
theorem dX7_dealPlaces_46 : decode cX7_dealPlaces 46 = .ok (.iload 4, 2) := by decide +kernel
theorem dX7_dealPlaces_48 : decode cX7_dealPlaces 48 = .ok (.iastore, 1) := by decide +kernel
theorem dX7_dealPlaces_49 : decode cX7_dealPlaces 49 = .ok (.aload_n 0, 1) := by decide +kernel
theorem dX7_dealPlaces_50 : decode cX7_dealPlaces 50 = .ok (.getfield 60, 3) := by decide +kernel
theorem dX7_dealPlaces_53 : decode cX7_dealPlaces 53 = .ok (.iload 4, 2) := by decide +kernel
theorem dX7_dealPlaces_55 : decode cX7_dealPlaces 55 = .ok (.aaload, 1) := by decide +kernel
theorem dX7_dealPlaces_56 : decode cX7_dealPlaces 56 = .ok (.iload_n 3, 1) := by decide +kernel
theorem dX7_dealPlaces_57 : decode cX7_dealPlaces 57 = .ok (.iconst 4, 1) := by decide +kernel
theorem dX7_dealPlaces_58 : decode cX7_dealPlaces 58 = .ok (.idiv, 1) := by decide +kernel
theorem dX7_dealPlaces_59 : decode cX7_dealPlaces 59 = .ok (.putfield 124, 3) := by decide +kernel
theorem dX7_dealPlaces_62 : decode cX7_dealPlaces 62 = .ok (.aload_n 0, 1) := by decide +kernel
theorem dX7_dealPlaces_63 : decode cX7_dealPlaces 63 = .ok (.getfield 60, 3) := by decide +kernel
theorem dX7_dealPlaces_66 : decode cX7_dealPlaces 66 = .ok (.iload 4, 2) := by decide +kernel
theorem dX7_dealPlaces_68 : decode cX7_dealPlaces 68 = .ok (.aaload, 1) := by decide +kernel
theorem dX7_dealPlaces_69 : decode cX7_dealPlaces 69 = .ok (.iload_n 3, 1) := by decide +kernel
theorem dX7_dealPlaces_70 : decode cX7_dealPlaces 70 = .ok (.iconst 4, 1) := by decide +kernel
theorem dX7_dealPlaces_71 : decode cX7_dealPlaces 71 = .ok (.irem, 1) := by decide +kernel
theorem dX7_dealPlaces_72 : decode cX7_dealPlaces 72 = .ok (.putfield 127, 3) := by decide +kernel
theorem dX7_dealPlaces_75 : decode cX7_dealPlaces 75 = .ok (.aload_n 0, 1) := by decide +kernel
theorem dX7_dealPlaces_76 : decode cX7_dealPlaces 76 = .ok (.getfield 34, 3) := by decide +kernel
theorem dX7_dealPlaces_79 : decode cX7_dealPlaces 79 = .ok (.aload_n 0, 1) := by decide +kernel
theorem dX7_dealPlaces_80 : decode cX7_dealPlaces 80 = .ok (.getfield 60, 3) := by decide +kernel
theorem dX7_dealPlaces_83 : decode cX7_dealPlaces 83 = .ok (.iload 4, 2) := by decide +kernel
theorem dX7_dealPlaces_85 : decode cX7_dealPlaces 85 = .ok (.aaload, 1) := by decide +kernel
theorem dX7_dealPlaces_86 : decode cX7_dealPlaces 86 = .ok (.getfield 102, 3) := by decide +kernel
theorem dX7_dealPlaces_89 : decode cX7_dealPlaces 89 = .ok (.aaload, 1) := by decide +kernel
theorem dX7_dealPlaces_90 : decode cX7_dealPlaces 90 = .ok (.dup, 1) := by decide +kernel
theorem dX7_dealPlaces_91 : decode cX7_dealPlaces 91 = .ok (.getfield 130, 3) := by decide +kernel
theorem dX7_dealPlaces_94 : decode cX7_dealPlaces 94 = .ok (.aload_n 0, 1) := by decide +kernel
theorem dX7_dealPlaces_95 : decode cX7_dealPlaces 95 = .ok (.getfield 54, 3) := by decide +kernel
theorem dX7_dealPlaces_98 : decode cX7_dealPlaces 98 = .ok (.getfield 133, 3) := by decide +kernel
theorem dX7_dealPlaces_101 : decode cX7_dealPlaces 101 = .ok (.iload_n 3, 1) := by decide +kernel
theorem dX7_dealPlaces_102 : decode cX7_dealPlaces 102 = .ok (.iaload, 1) := by decide +kernel
theorem dX7_dealPlaces_103 : decode cX7_dealPlaces 103 = .ok (.iadd, 1) := by decide +kernel
theorem dX7_dealPlaces_104 : decode cX7_dealPlaces 104 = .ok (.putfield 130, 3) := by decide +kernel
theorem dX7_dealPlaces_107 : decode cX7_dealPlaces 107 = .ok (.iinc 1 1, 3) := by decide +kernel
theorem dX7_dealPlaces_110 : decode cX7_dealPlaces 110 = .ok (.iinc 2 1, 3) := by decide +kernel
theorem dX7_dealPlaces_113 : decode cX7_dealPlaces 113 = .ok (.goto (-109), 3) := by decide +kernel
theorem dX7_dealPlaces_116 : decode cX7_dealPlaces 116 = .ok (.iload_n 1, 1) := by decide +kernel
theorem dX7_dealPlaces_117 : decode cX7_dealPlaces 117 = .ok (.ireturn, 1) := by decide +kernel
theorem dX7_nextPot_0 : decode cX7_nextPot 0 = .ok (.iconst (-1), 1) := by decide +kernel
theorem dX7_nextPot_1 : decode cX7_nextPot 1 = .ok (.istore_n 1, 1) := by decide +kernel
theorem dX7_nextPot_2 : decode cX7_nextPot 2 = .ok (.iconst 0, 1) := by decide +kernel
theorem dX7_nextPot_3 : decode cX7_nextPot 3 = .ok (.istore_n 2, 1) := by decide +kernel
theorem dX7_nextPot_4 : decode cX7_nextPot 4 = .ok (.iload_n 2, 1) := by decide +kernel
theorem dX7_nextPot_5 : decode cX7_nextPot 5 = .ok (.aload_n 0, 1) := by decide +kernel
theorem dX7_nextPot_6 : decode cX7_nextPot 6 = .ok (.getfield 64, 3) := by decide +kernel
theorem dX7_nextPot_9 : decode cX7_nextPot 9 = .ok (.if_icmp .ge 53, 3) := by decide +kernel
theorem dX7_nextPot_12 : decode cX7_nextPot 12 = .ok (.aload_n 0, 1) := by decide +kernel
theorem dX7_nextPot_13 : decode cX7_nextPot 13 = .ok (.getfield 60, 3) := by decide +kernel
theorem dX7_nextPot_16 : decode cX7_nextPot 16 = .ok (.iload_n 2, 1) := by decide +kernel
theorem dX7_nextPot_17 : decode cX7_nextPot 17 = .ok (.aaload, 1) := by decide +kernel
theorem dX7_nextPot_18 : decode cX7_nextPot 18 = .ok (.invokevirtual 98, 3) := by decide +kernel
theorem dX7_nextPot_21 : decode cX7_nextPot 21 = .ok (.ifCond .ne 35, 3) := by decide +kernel
theorem dX7_nextPot_24 : decode cX7_nextPot 24 = .ok (.iload_n 1, 1) := by decide +kernel
theorem dX7_nextPot_25 : decode cX7_nextPot 25 = .ok (.iconst (-1), 1) := by decide +kernel
theorem dX7_nextPot_26 : decode cX7_nextPot 26 = .ok (.if_icmp .eq 28, 3) := by decide +kernel
theorem dX7_nextPot_29 : decode cX7_nextPot 29 = .ok (.aload_n 0, 1) := by decide +kernel
theorem dX7_nextPot_30 : decode cX7_nextPot 30 = .ok (.aload_n 0, 1) := by decide +kernel
theorem dX7_nextPot_31 : decode cX7_nextPot 31 = .ok (.getfield 60, 3) := by decide +kernel
theorem dX7_nextPot_34 : decode cX7_nextPot 34 = .ok (.iload_n 2, 1) := by decide +kernel
theorem dX7_nextPot_35 : decode cX7_nextPot 35 = .ok (.aaload, 1) := by decide +kernel
theorem dX7_nextPot_36 : decode cX7_nextPot 36 = .ok (.getfield 102, 3) := by decide +kernel
theorem dX7_nextPot_39 : decode cX7_nextPot 39 = .ok (.aload_n 0, 1) := by decide +kernel
theorem dX7_nextPot_40 : decode cX7_nextPot 40 = .ok (.getfield 60, 3) := by decide +kernel
theorem dX7_nextPot_43 : decode cX7_nextPot 43 = .ok (.iload_n 1, 1) := by decide +kernel
theorem dX7_nextPot_44 : decode cX7_nextPot 44 = .ok (.aaload, 1) := by decide +kernel
theorem dX7_nextPot_45 : decode cX7_nextPot 45 = .ok (.getfield 102, 3) := by decide +kernel
theorem dX7_nextPot_48 : decode cX7_nextPot 48 = .ok (.invokevirtual 136, 3) := by decide +kernel
theorem dX7_nextPot_51 : decode cX7_nextPot 51 = .ok (.ifCond .eq 5, 3) := by decide +kernel
theorem dX7_nextPot_54 : decode cX7_nextPot 54 = .ok (.iload_n 2, 1) := by decide +kernel
theorem dX7_nextPot_55 : decode cX7_nextPot 55 = .ok (.istore_n 1, 1) := by decide +kernel
theorem dX7_nextPot_56 : decode cX7_nextPot 56 = .ok (.iinc 2 1, 3) := by decide +kernel
theorem dX7_nextPot_59 : decode cX7_nextPot 59 = .ok (.goto (-55), 3) := by decide +kernel
theorem dX7_nextPot_62 : decode cX7_nextPot 62 = .ok (.iload_n 1, 1) := by decide +kernel
theorem dX7_nextPot_63 : decode cX7_nextPot 63 = .ok (.ireturn, 1) := by decide +kernel
theorem dX7_goesBefore_0 : decode cX7_goesBefore 0 = .ok (.aload_n 0, 1) := by decide +kernel
theorem dX7_goesBefore_1 : decode cX7_goesBefore 1 = .ok (.getfield 34, 3) := by decide +kernel
theorem dX7_goesBefore_4 : decode cX7_goesBefore 4 = .ok (.iload_n 1, 1) := by decide +kernel
theorem dX7_goesBefore_5 : decode cX7_goesBefore 5 = .ok (.aaload, 1) := by decide +kernel
theorem dX7_goesBefore_6 : decode cX7_goesBefore 6 = .ok (.getfield 130, 3) := by decide +kernel
theorem dX7_goesBefore_9 : decode cX7_goesBefore 9 = .ok (.istore_n 3, 1) := by decide +kernel
theorem dX7_goesBefore_10 : decode cX7_goesBefore 10 = .ok (.aload_n 0, 1) := by decide +kernel
theorem dX7_goesBefore_11 : decode cX7_goesBefore 11 = .ok (.getfield 34, 3) := by decide +kernel
theorem dX7_goesBefore_14 : decode cX7_goesBefore 14 = .ok (.iload_n 2, 1) := by decide +kernel
theorem dX7_goesBefore_15 : decode cX7_goesBefore 15 = .ok (.aaload, 1) := by decide +kernel
theorem dX7_goesBefore_16 : decode cX7_goesBefore 16 = .ok (.getfield 130, 3) := by decide +kernel
theorem dX7_goesBefore_19 : decode cX7_goesBefore 19 = .ok (.istore 4, 2) := by decide +kernel
theorem dX7_goesBefore_21 : decode cX7_goesBefore 21 = .ok (.iload_n 3, 1) := by decide +kernel
theorem dX7_goesBefore_22 : decode cX7_goesBefore 22 = .ok (.iload 4, 2) := by decide +kernel
theorem dX7_goesBefore_24 : decode cX7_goesBefore 24 = .ok (.if_icmp .lt 14, 3) := by decide +kernel
theorem dX7_goesBefore_27 : decode cX7_goesBefore 27 = .ok (.iload_n 3, 1) := by decide +kernel
theorem dX7_goesBefore_28 : decode cX7_goesBefore 28 = .ok (.iload 4, 2) := by decide +kernel
theorem dX7_goesBefore_30 : decode cX7_goesBefore 30 = .ok (.if_icmp .ne 12, 3) := by decide +kernel
theorem dX7_goesBefore_33 : decode cX7_goesBefore 33 = .ok (.iload_n 1, 1) := by decide +kernel
theorem dX7_goesBefore_34 : decode cX7_goesBefore 34 = .ok (.iload_n 2, 1) := by decide +kernel
theorem dX7_goesBefore_35 : decode cX7_goesBefore 35 = .ok (.if_icmp .ge 7, 3) := by decide +kernel
theorem dX7_goesBefore_38 : decode cX7_goesBefore 38 = .ok (.iconst 1, 1) := by decide +kernel
theorem dX7_goesBefore_39 : decode cX7_goesBefore 39 = .ok (.goto 4, 3) := by decide +kernel
theorem dX7_goesBefore_42 : decode cX7_goesBefore 42 = .ok (.iconst 0, 1) := by decide +kernel
theorem dX7_goesBefore_43 : decode cX7_goesBefore 43 = .ok (.ireturn, 1) := by decide +kernel
theorem dX7_spreadOfHad_0 : decode cX7_spreadOfHad 0 = .ok (.iconst 0, 1) := by decide +kernel
theorem dX7_spreadOfHad_1 : decode cX7_spreadOfHad 1 = .ok (.istore_n 1, 1) := by decide +kernel
theorem dX7_spreadOfHad_2 : decode cX7_spreadOfHad 2 = .ok (.iconst 0, 1) := by decide +kernel
theorem dX7_spreadOfHad_3 : decode cX7_spreadOfHad 3 = .ok (.istore_n 2, 1) := by decide +kernel
theorem dX7_spreadOfHad_4 : decode cX7_spreadOfHad 4 = .ok (.iconst 0, 1) := by decide +kernel
theorem dX7_spreadOfHad_5 : decode cX7_spreadOfHad 5 = .ok (.istore_n 3, 1) := by decide +kernel
theorem dX7_spreadOfHad_6 : decode cX7_spreadOfHad 6 = .ok (.iconst 0, 1) := by decide +kernel
theorem dX7_spreadOfHad_7 : decode cX7_spreadOfHad 7 = .ok (.istore 4, 2) := by decide +kernel
theorem dX7_spreadOfHad_9 : decode cX7_spreadOfHad 9 = .ok (.iload 4, 2) := by decide +kernel
theorem dX7_spreadOfHad_11 : decode cX7_spreadOfHad 11 = .ok (.aload_n 0, 1) := by decide +kernel
theorem dX7_spreadOfHad_12 : decode cX7_spreadOfHad 12 = .ok (.getfield 38, 3) := by decide +kernel
theorem dX7_spreadOfHad_15 : decode cX7_spreadOfHad 15 = .ok (.if_icmp .ge 59, 3) := by decide +kernel
theorem dX7_spreadOfHad_18 : decode cX7_spreadOfHad 18 = .ok (.aload_n 0, 1) := by decide +kernel
theorem dX7_spreadOfHad_19 : decode cX7_spreadOfHad 19 = .ok (.getfield 34, 3) := by decide +kernel
theorem dX7_spreadOfHad_22 : decode cX7_spreadOfHad 22 = .ok (.iload 4, 2) := by decide +kernel
theorem dX7_spreadOfHad_24 : decode cX7_spreadOfHad 24 = .ok (.aaload, 1) := by decide +kernel
theorem dX7_spreadOfHad_25 : decode cX7_spreadOfHad 25 = .ok (.getfield 140, 3) := by decide +kernel
theorem dX7_spreadOfHad_28 : decode cX7_spreadOfHad 28 = .ok (.ifCond .eq 40, 3) := by decide +kernel
theorem dX7_spreadOfHad_31 : decode cX7_spreadOfHad 31 = .ok (.aload_n 0, 1) := by decide +kernel
theorem dX7_spreadOfHad_32 : decode cX7_spreadOfHad 32 = .ok (.getfield 34, 3) := by decide +kernel
theorem dX7_spreadOfHad_35 : decode cX7_spreadOfHad 35 = .ok (.iload 4, 2) := by decide +kernel
theorem dX7_spreadOfHad_37 : decode cX7_spreadOfHad 37 = .ok (.aaload, 1) := by decide +kernel
theorem dX7_spreadOfHad_38 : decode cX7_spreadOfHad 38 = .ok (.getfield 130, 3) := by decide +kernel
theorem dX7_spreadOfHad_41 : decode cX7_spreadOfHad 41 = .ok (.istore 5, 2) := by decide +kernel
theorem dX7_spreadOfHad_43 : decode cX7_spreadOfHad 43 = .ok (.iload_n 1, 1) := by decide +kernel
theorem dX7_spreadOfHad_44 : decode cX7_spreadOfHad 44 = .ok (.ifCond .eq 12, 3) := by decide +kernel
theorem dX7_spreadOfHad_47 : decode cX7_spreadOfHad 47 = .ok (.iload_n 2, 1) := by decide +kernel
theorem dX7_spreadOfHad_48 : decode cX7_spreadOfHad 48 = .ok (.iload 5, 2) := by decide +kernel
theorem dX7_spreadOfHad_50 : decode cX7_spreadOfHad 50 = .ok (.invokestatic 144, 3) := by decide +kernel
theorem dX7_spreadOfHad_53 : decode cX7_spreadOfHad 53 = .ok (.goto 5, 3) := by decide +kernel
theorem dX7_spreadOfHad_56 : decode cX7_spreadOfHad 56 = .ok (.iload 5, 2) := by decide +kernel
theorem dX7_spreadOfHad_58 : decode cX7_spreadOfHad 58 = .ok (.istore_n 2, 1) := by decide +kernel
theorem dX7_spreadOfHad_59 : decode cX7_spreadOfHad 59 = .ok (.iload_n 3, 1) := by decide +kernel
theorem dX7_spreadOfHad_60 : decode cX7_spreadOfHad 60 = .ok (.iload 5, 2) := by decide +kernel
theorem dX7_spreadOfHad_62 : decode cX7_spreadOfHad 62 = .ok (.invokestatic 108, 3) := by decide +kernel
theorem dX7_spreadOfHad_65 : decode cX7_spreadOfHad 65 = .ok (.istore_n 3, 1) := by decide +kernel
theorem dX7_spreadOfHad_66 : decode cX7_spreadOfHad 66 = .ok (.iconst 1, 1) := by decide +kernel
theorem dX7_spreadOfHad_67 : decode cX7_spreadOfHad 67 = .ok (.istore_n 1, 1) := by decide +kernel
theorem dX7_spreadOfHad_68 : decode cX7_spreadOfHad 68 = .ok (.iinc 4 1, 3) := by decide +kernel
theorem dX7_spreadOfHad_71 : decode cX7_spreadOfHad 71 = .ok (.goto (-62), 3) := by decide +kernel
theorem dX7_spreadOfHad_74 : decode cX7_spreadOfHad 74 = .ok (.iload_n 3, 1) := by decide +kernel
theorem dX7_spreadOfHad_75 : decode cX7_spreadOfHad 75 = .ok (.iload_n 2, 1) := by decide +kernel
theorem dX7_spreadOfHad_76 : decode cX7_spreadOfHad 76 = .ok (.isub, 1) := by decide +kernel
theorem dX7_spreadOfHad_77 : decode cX7_spreadOfHad 77 = .ok (.ireturn, 1) := by decide +kernel
theorem dX7_passHour_0 : decode cX7_passHour 0 = .ok (.aload_n 0, 1) := by decide +kernel
theorem dX7_passHour_1 : decode cX7_passHour 1 = .ok (.getfield 54, 3) := by decide +kernel
theorem dX7_passHour_4 : decode cX7_passHour 4 = .ok (.iload_n 1, 1) := by decide +kernel
theorem dX7_passHour_5 : decode cX7_passHour 5 = .ok (.iload_n 2, 1) := by decide +kernel
theorem dX7_passHour_6 : decode cX7_passHour 6 = .ok (.invokevirtual 147, 3) := by decide +kernel
theorem dX7_passHour_9 : decode cX7_passHour 9 = .ok (.iconst 0, 1) := by decide +kernel
theorem dX7_passHour_10 : decode cX7_passHour 10 = .ok (.istore_n 3, 1) := by decide +kernel
theorem dX7_passHour_11 : decode cX7_passHour 11 = .ok (.iload_n 3, 1) := by decide +kernel
theorem dX7_passHour_12 : decode cX7_passHour 12 = .ok (.aload_n 0, 1) := by decide +kernel
theorem dX7_passHour_13 : decode cX7_passHour 13 = .ok (.getfield 64, 3) := by decide +kernel
theorem dX7_passHour_16 : decode cX7_passHour 16 = .ok (.if_icmp .ge 73, 3) := by decide +kernel
theorem dX7_passHour_19 : decode cX7_passHour 19 = .ok (.aload_n 0, 1) := by decide +kernel
theorem dX7_passHour_20 : decode cX7_passHour 20 = .ok (.getfield 60, 3) := by decide +kernel
theorem dX7_passHour_23 : decode cX7_passHour 23 = .ok (.iload_n 3, 1) := by decide +kernel
theorem dX7_passHour_24 : decode cX7_passHour 24 = .ok (.aaload, 1) := by decide +kernel
theorem dX7_passHour_25 : decode cX7_passHour 25 = .ok (.astore 4, 2) := by decide +kernel
theorem dX7_passHour_27 : decode cX7_passHour 27 = .ok (.aload 4, 2) := by decide +kernel
theorem dX7_passHour_29 : decode cX7_passHour 29 = .ok (.invokevirtual 98, 3) := by decide +kernel
theorem dX7_passHour_32 : decode cX7_passHour 32 = .ok (.ifCond .eq 51, 3) := by decide +kernel
theorem dX7_passHour_35 : decode cX7_passHour 35 = .ok (.aload 4, 2) := by decide +kernel
theorem dX7_passHour_37 : decode cX7_passHour 37 = .ok (.getfield 151, 3) := by decide +kernel
theorem dX7_passHour_40 : decode cX7_passHour 40 = .ok (.ifCond .ne 43, 3) := by decide +kernel
theorem dX7_passHour_43 : decode cX7_passHour 43 = .ok (.aload 4, 2) := by decide +kernel
theorem dX7_passHour_45 : decode cX7_passHour 45 = .ok (.aload_n 0, 1) := by decide +kernel
theorem dX7_passHour_46 : decode cX7_passHour 46 = .ok (.getfield 54, 3) := by decide +kernel
theorem dX7_passHour_49 : decode cX7_passHour 49 = .ok (.getfield 154, 3) := by decide +kernel
theorem dX7_passHour_52 : decode cX7_passHour 52 = .ok (.aload 4, 2) := by decide +kernel
theorem dX7_passHour_54 : decode cX7_passHour 54 = .ok (.getfield 124, 3) := by decide +kernel
theorem dX7_passHour_57 : decode cX7_passHour 57 = .ok (.iaload, 1) := by decide +kernel
theorem dX7_passHour_58 : decode cX7_passHour 58 = .ok (.aload_n 0, 1) := by decide +kernel
theorem dX7_passHour_59 : decode cX7_passHour 59 = .ok (.getfield 54, 3) := by decide +kernel
theorem dX7_passHour_62 : decode cX7_passHour 62 = .ok (.aload 4, 2) := by decide +kernel
theorem dX7_passHour_64 : decode cX7_passHour 64 = .ok (.getfield 124, 3) := by decide +kernel
theorem dX7_passHour_67 : decode cX7_passHour 67 = .ok (.invokevirtual 157, 3) := by decide +kernel
theorem dX7_passHour_70 : decode cX7_passHour 70 = .ok (.aload_n 0, 1) := by decide +kernel
theorem dX7_passHour_71 : decode cX7_passHour 71 = .ok (.getfield 45, 3) := by decide +kernel
theorem dX7_passHour_74 : decode cX7_passHour 74 = .ok (.aload 4, 2) := by decide +kernel
theorem dX7_passHour_76 : decode cX7_passHour 76 = .ok (.getfield 161, 3) := by decide +kernel
theorem dX7_passHour_79 : decode cX7_passHour 79 = .ok (.iaload, 1) := by decide +kernel
theorem dX7_passHour_80 : decode cX7_passHour 80 = .ok (.invokevirtual 164, 3) := by decide +kernel
theorem dX7_passHour_83 : decode cX7_passHour 83 = .ok (.iinc 3 1, 3) := by decide +kernel
theorem dX7_passHour_86 : decode cX7_passHour 86 = .ok (.goto (-75), 3) := by decide +kernel
theorem dX7_passHour_89 : decode cX7_passHour 89 = .ok (.return_, 1) := by decide +kernel
theorem dX7_giveAllBack_0 : decode cX7_giveAllBack 0 = .ok (.iconst 0, 1) := by decide +kernel
theorem dX7_giveAllBack_1 : decode cX7_giveAllBack 1 = .ok (.istore_n 1, 1) := by decide +kernel
theorem dX7_giveAllBack_2 : decode cX7_giveAllBack 2 = .ok (.iconst 0, 1) := by decide +kernel
theorem dX7_giveAllBack_3 : decode cX7_giveAllBack 3 = .ok (.istore_n 2, 1) := by decide +kernel
theorem dX7_giveAllBack_4 : decode cX7_giveAllBack 4 = .ok (.iconst 0, 1) := by decide +kernel
theorem dX7_giveAllBack_5 : decode cX7_giveAllBack 5 = .ok (.istore_n 3, 1) := by decide +kernel
theorem dX7_giveAllBack_6 : decode cX7_giveAllBack 6 = .ok (.iload_n 3, 1) := by decide +kernel
theorem dX7_giveAllBack_7 : decode cX7_giveAllBack 7 = .ok (.aload_n 0, 1) := by decide +kernel
theorem dX7_giveAllBack_8 : decode cX7_giveAllBack 8 = .ok (.getfield 64, 3) := by decide +kernel
theorem dX7_giveAllBack_11 : decode cX7_giveAllBack 11 = .ok (.if_icmp .ge 54, 3) := by decide +kernel
theorem dX7_giveAllBack_14 : decode cX7_giveAllBack 14 = .ok (.aload_n 0, 1) := by decide +kernel
theorem dX7_giveAllBack_15 : decode cX7_giveAllBack 15 = .ok (.getfield 60, 3) := by decide +kernel
theorem dX7_giveAllBack_18 : decode cX7_giveAllBack 18 = .ok (.iload_n 3, 1) := by decide +kernel
theorem dX7_giveAllBack_19 : decode cX7_giveAllBack 19 = .ok (.aaload, 1) := by decide +kernel
theorem dX7_giveAllBack_20 : decode cX7_giveAllBack 20 = .ok (.astore 4, 2) := by decide +kernel
theorem dX7_giveAllBack_22 : decode cX7_giveAllBack 22 = .ok (.aload 4, 2) := by decide +kernel
theorem dX7_giveAllBack_24 : decode cX7_giveAllBack 24 = .ok (.invokevirtual 98, 3) := by decide +kernel
theorem dX7_giveAllBack_27 : decode cX7_giveAllBack 27 = .ok (.ifCond .ne 20, 3) := by decide +kernel
theorem dX7_giveAllBack_30 : decode cX7_giveAllBack 30 = .ok (.aload_n 0, 1) := by decide +kernel
theorem dX7_giveAllBack_31 : decode cX7_giveAllBack 31 = .ok (.getfield 60, 3) := by decide +kernel
theorem dX7_giveAllBack_34 : decode cX7_giveAllBack 34 = .ok (.iload_n 2, 1) := by decide +kernel
theorem dX7_giveAllBack_35 : decode cX7_giveAllBack 35 = .ok (.aaload, 1) := by decide +kernel
theorem dX7_giveAllBack_36 : decode cX7_giveAllBack 36 = .ok (.aload 4, 2) := by decide +kernel
theorem dX7_giveAllBack_38 : decode cX7_giveAllBack 38 = .ok (.invokevirtual 91, 3) := by decide +kernel
theorem dX7_giveAllBack_41 : decode cX7_giveAllBack 41 = .ok (.iinc 2 1, 3) := by decide +kernel
theorem dX7_giveAllBack_44 : decode cX7_giveAllBack 44 = .ok (.goto 15, 3) := by decide +kernel
theorem dX7_giveAllBack_47 : decode cX7_giveAllBack 47 = .ok (.aload_n 0, 1) := by decide +kernel
theorem dX7_giveAllBack_48 : decode cX7_giveAllBack 48 = .ok (.aload 4, 2) := by decide +kernel
theorem dX7_giveAllBack_50 : decode cX7_giveAllBack 50 = .ok (.invokevirtual 168, 3) := by decide +kernel
theorem dX7_giveAllBack_53 : decode cX7_giveAllBack 53 = .ok (.ifCond .eq 6, 3) := by decide +kernel
theorem dX7_giveAllBack_56 : decode cX7_giveAllBack 56 = .ok (.iinc 1 1, 3) := by decide +kernel
theorem dX7_giveAllBack_59 : decode cX7_giveAllBack 59 = .ok (.iinc 3 1, 3) := by decide +kernel
theorem dX7_giveAllBack_62 : decode cX7_giveAllBack 62 = .ok (.goto (-56), 3) := by decide +kernel
theorem dX7_giveAllBack_65 : decode cX7_giveAllBack 65 = .ok (.aload_n 0, 1) := by decide +kernel
theorem dX7_giveAllBack_66 : decode cX7_giveAllBack 66 = .ok (.iload_n 2, 1) := by decide +kernel
theorem dX7_giveAllBack_67 : decode cX7_giveAllBack 67 = .ok (.putfield 64, 3) := by decide +kernel
theorem dX7_giveAllBack_70 : decode cX7_giveAllBack 70 = .ok (.aload_n 0, 1) := by decide +kernel
theorem dX7_giveAllBack_71 : decode cX7_giveAllBack 71 = .ok (.getfield 54, 3) := by decide +kernel
theorem dX7_giveAllBack_74 : decode cX7_giveAllBack 74 = .ok (.invokevirtual 172, 3) := by decide +kernel
theorem dX7_giveAllBack_77 : decode cX7_giveAllBack 77 = .ok (.aload_n 0, 1) := by decide +kernel
theorem dX7_giveAllBack_78 : decode cX7_giveAllBack 78 = .ok (.dup, 1) := by decide +kernel
theorem dX7_giveAllBack_79 : decode cX7_giveAllBack 79 = .ok (.getfield 67, 3) := by decide +kernel
theorem dX7_giveAllBack_82 : decode cX7_giveAllBack 82 = .ok (.iconst 1, 1) := by decide +kernel
theorem dX7_giveAllBack_83 : decode cX7_giveAllBack 83 = .ok (.iadd, 1) := by decide +kernel
theorem dX7_giveAllBack_84 : decode cX7_giveAllBack 84 = .ok (.putfield 67, 3) := by decide +kernel
theorem dX7_giveAllBack_87 : decode cX7_giveAllBack 87 = .ok (.iload_n 1, 1) := by decide +kernel
theorem dX7_giveAllBack_88 : decode cX7_giveAllBack 88 = .ok (.ireturn, 1) := by decide +kernel
theorem dX7_giveBack_0 : decode cX7_giveBack 0 = .ok (.aload_n 0, 1) := by decide +kernel
theorem dX7_giveBack_1 : decode cX7_giveBack 1 = .ok (.getfield 34, 3) := by decide +kernel
theorem dX7_giveBack_4 : decode cX7_giveBack 4 = .ok (.aload_n 1, 1) := by decide +kernel
theorem dX7_giveBack_5 : decode cX7_giveBack 5 = .ok (.getfield 102, 3) := by decide +kernel
theorem dX7_giveBack_8 : decode cX7_giveBack 8 = .ok (.aaload, 1) := by decide +kernel
theorem dX7_giveBack_9 : decode cX7_giveBack 9 = .ok (.astore_n 2, 1) := by decide +kernel
theorem dX7_giveBack_10 : decode cX7_giveBack 10 = .ok (.aload_n 0, 1) := by decide +kernel
theorem dX7_giveBack_11 : decode cX7_giveBack 11 = .ok (.getfield 41, 3) := by decide +kernel
theorem dX7_giveBack_14 : decode cX7_giveBack 14 = .ok (.aload_n 1, 1) := by decide +kernel
theorem dX7_giveBack_15 : decode cX7_giveBack 15 = .ok (.getfield 161, 3) := by decide +kernel
theorem dX7_giveBack_18 : decode cX7_giveBack 18 = .ok (.iaload, 1) := by decide +kernel
theorem dX7_giveBack_19 : decode cX7_giveBack 19 = .ok (.istore_n 3, 1) := by decide +kernel
theorem dX7_giveBack_20 : decode cX7_giveBack 20 = .ok (.aload_n 1, 1) := by decide +kernel
theorem dX7_giveBack_21 : decode cX7_giveBack 21 = .ok (.getfield 151, 3) := by decide +kernel
theorem dX7_giveBack_24 : decode cX7_giveBack 24 = .ok (.ifCond .eq 33, 3) := by decide +kernel
theorem dX7_giveBack_27 : decode cX7_giveBack 27 = .ok (.aload_n 2, 1) := by decide +kernel
theorem dX7_giveBack_28 : decode cX7_giveBack 28 = .ok (.dup, 1) := by decide +kernel
theorem dX7_giveBack_29 : decode cX7_giveBack 29 = .ok (.getfield 175, 3) := by decide +kernel
theorem dX7_giveBack_32 : decode cX7_giveBack 32 = .ok (.iconst 1, 1) := by decide +kernel
theorem dX7_giveBack_33 : decode cX7_giveBack 33 = .ok (.iadd, 1) := by decide +kernel
theorem dX7_giveBack_34 : decode cX7_giveBack 34 = .ok (.putfield 175, 3) := by decide +kernel
theorem dX7_giveBack_37 : decode cX7_giveBack 37 = .ok (.aload_n 0, 1) := by decide +kernel
theorem dX7_giveBack_38 : decode cX7_giveBack 38 = .ok (.aload_n 2, 1) := by decide +kernel
theorem dX7_giveBack_39 : decode cX7_giveBack 39 = .ok (.iload_n 3, 1) := by decide +kernel
theorem dX7_giveBack_40 : decode cX7_giveBack 40 = .ok (.aload_n 0, 1) := by decide +kernel
theorem dX7_giveBack_41 : decode cX7_giveBack 41 = .ok (.getfield 21, 3) := by decide +kernel
theorem dX7_giveBack_44 : decode cX7_giveBack 44 = .ok (.aload_n 1, 1) := by decide +kernel
theorem dX7_giveBack_45 : decode cX7_giveBack 45 = .ok (.invokevirtual 178, 3) := by decide +kernel
theorem dX7_giveBack_48 : decode cX7_giveBack 48 = .ok (.imul, 1) := by decide +kernel
theorem dX7_giveBack_49 : decode cX7_giveBack 49 = .ok (.bipush 100, 2) := by decide +kernel
theorem dX7_giveBack_51 : decode cX7_giveBack 51 = .ok (.idiv, 1) := by decide +kernel
theorem dX7_giveBack_52 : decode cX7_giveBack 52 = .ok (.invokevirtual 182, 3) := by decide +kernel
theorem dX7_giveBack_55 : decode cX7_giveBack 55 = .ok (.iconst 0, 1) := by decide +kernel
theorem dX7_giveBack_56 : decode cX7_giveBack 56 = .ok (.ireturn, 1) := by decide +kernel
theorem dX7_giveBack_57 : decode cX7_giveBack 57 = .ok (.aload_n 0, 1) := by decide +kernel
theorem dX7_giveBack_58 : decode cX7_giveBack 58 = .ok (.aload_n 1, 1) := by decide +kernel
theorem dX7_giveBack_59 : decode cX7_giveBack 59 = .ok (.invokevirtual 186, 3) := by decide +kernel
theorem dX7_giveBack_62 : decode cX7_giveBack 62 = .ok (.istore 4, 2) := by decide +kernel
theorem dX7_giveBack_64 : decode cX7_giveBack 64 = .ok (.aload_n 2, 1) := by decide +kernel
theorem dX7_giveBack_65 : decode cX7_giveBack 65 = .ok (.dup, 1) := by decide +kernel
theorem dX7_giveBack_66 : decode cX7_giveBack 66 = .ok (.getfield 189, 3) := by decide +kernel
theorem dX7_giveBack_69 : decode cX7_giveBack 69 = .ok (.iload 4, 2) := by decide +kernel
theorem dX7_giveBack_71 : decode cX7_giveBack 71 = .ok (.ifCond .eq 7, 3) := by decide +kernel
theorem dX7_giveBack_74 : decode cX7_giveBack 74 = .ok (.iload_n 3, 1) := by decide +kernel
theorem dX7_giveBack_75 : decode cX7_giveBack 75 = .ok (.goto 6, 3) := by decide +kernel
theorem dX7_giveBack_78 : decode cX7_giveBack 78 = .ok (.iload_n 3, 1) := by decide +kernel
theorem dX7_giveBack_79 : decode cX7_giveBack 79 = .ok (.iconst 2, 1) := by decide +kernel
theorem dX7_giveBack_80 : decode cX7_giveBack 80 = .ok (.idiv, 1) := by decide +kernel
theorem dX7_giveBack_81 : decode cX7_giveBack 81 = .ok (.iadd, 1) := by decide +kernel
theorem dX7_giveBack_82 : decode cX7_giveBack 82 = .ok (.putfield 189, 3) := by decide +kernel
theorem dX7_giveBack_85 : decode cX7_giveBack 85 = .ok (.iload 4, 2) := by decide +kernel
theorem dX7_giveBack_87 : decode cX7_giveBack 87 = .ok (.ireturn, 1) := by decide +kernel
theorem dX7_isRipe_0 : decode cX7_isRipe 0 = .ok (.aload_n 0, 1) := by decide +kernel
theorem dX7_isRipe_1 : decode cX7_isRipe 1 = .ok (.getfield 48, 3) := by decide +kernel
theorem dX7_isRipe_4 : decode cX7_isRipe 4 = .ok (.aload_n 1, 1) := by decide +kernel
theorem dX7_isRipe_5 : decode cX7_isRipe 5 = .ok (.getfield 192, 3) := by decide +kernel
theorem dX7_isRipe_8 : decode cX7_isRipe 8 = .ok (.iaload, 1) := by decide +kernel
theorem dX7_isRipe_9 : decode cX7_isRipe 9 = .ok (.istore_n 2, 1) := by decide +kernel
theorem dX7_isRipe_10 : decode cX7_isRipe 10 = .ok (.bipush 8, 2) := by decide +kernel
theorem dX7_isRipe_12 : decode cX7_isRipe 12 = .ok (.bipush 10, 2) := by decide +kernel
theorem dX7_isRipe_14 : decode cX7_isRipe 14 = .ok (.iload_n 2, 1) := by decide +kernel
theorem dX7_isRipe_15 : decode cX7_isRipe 15 = .ok (.isub, 1) := by decide +kernel
theorem dX7_isRipe_16 : decode cX7_isRipe 16 = .ok (.imul, 1) := by decide +kernel
theorem dX7_isRipe_17 : decode cX7_isRipe 17 = .ok (.bipush 20, 2) := by decide +kernel
theorem dX7_isRipe_19 : decode cX7_isRipe 19 = .ok (.iadd, 1) := by decide +kernel
theorem dX7_isRipe_20 : decode cX7_isRipe 20 = .ok (.istore_n 3, 1) := by decide +kernel
theorem dX7_isRipe_21 : decode cX7_isRipe 21 = .ok (.aload_n 1, 1) := by decide +kernel
theorem dX7_isRipe_22 : decode cX7_isRipe 22 = .ok (.getfield 195, 3) := by decide +kernel
theorem dX7_isRipe_25 : decode cX7_isRipe 25 = .ok (.iload_n 3, 1) := by decide +kernel
theorem dX7_isRipe_26 : decode cX7_isRipe 26 = .ok (.iload_n 3, 1) := by decide +kernel
theorem dX7_isRipe_27 : decode cX7_isRipe 27 = .ok (.bipush 6, 2) := by decide +kernel
theorem dX7_isRipe_29 : decode cX7_isRipe 29 = .ok (.iload_n 2, 1) := by decide +kernel
theorem dX7_isRipe_30 : decode cX7_isRipe 30 = .ok (.imul, 1) := by decide +kernel
theorem dX7_isRipe_31 : decode cX7_isRipe 31 = .ok (.iadd, 1) := by decide +kernel
theorem dX7_isRipe_32 : decode cX7_isRipe 32 = .ok (.invokestatic 94, 3) := by decide +kernel
theorem dX7_isRipe_35 : decode cX7_isRipe 35 = .ok (.ireturn, 1) := by decide +kernel
theorem dX7_shareLoss_0 : decode cX7_shareLoss 0 = .ok (.aload_n 0, 1) := by decide +kernel
theorem dX7_shareLoss_1 : decode cX7_shareLoss 1 = .ok (.getfield 38, 3) := by decide +kernel
theorem dX7_shareLoss_4 : decode cX7_shareLoss 4 = .ok (.ifCond .ne 4, 3) := by decide +kernel
theorem dX7_shareLoss_7 : decode cX7_shareLoss 7 = .ok (.return_, 1) := by decide +kernel
theorem dX7_shareLoss_8 : decode cX7_shareLoss 8 = .ok (.iload_n 2, 1) := by decide +kernel
theorem dX7_shareLoss_9 : decode cX7_shareLoss 9 = .ok (.aload_n 0, 1) := by decide +kernel
theorem dX7_shareLoss_10 : decode cX7_shareLoss 10 = .ok (.getfield 38, 3) := by decide +kernel
theorem dX7_shareLoss_13 : decode cX7_shareLoss 13 = .ok (.idiv, 1) := by decide +kernel
theorem dX7_shareLoss_14 : decode cX7_shareLoss 14 = .ok (.istore_n 3, 1) := by decide +kernel
theorem dX7_shareLoss_15 : decode cX7_shareLoss 15 = .ok (.iconst 0, 1) := by decide +kernel
theorem dX7_shareLoss_16 : decode cX7_shareLoss 16 = .ok (.istore 4, 2) := by decide +kernel
theorem dX7_shareLoss_18 : decode cX7_shareLoss 18 = .ok (.iload 4, 2) := by decide +kernel
theorem dX7_shareLoss_20 : decode cX7_shareLoss 20 = .ok (.aload_n 0, 1) := by decide +kernel
theorem dX7_shareLoss_21 : decode cX7_shareLoss 21 = .ok (.getfield 38, 3) := by decide +kernel
theorem dX7_shareLoss_24 : decode cX7_shareLoss 24 = .ok (.if_icmp .ge 25, 3) := by decide +kernel
theorem dX7_shareLoss_27 : decode cX7_shareLoss 27 = .ok (.aload_n 0, 1) := by decide +kernel
theorem dX7_shareLoss_28 : decode cX7_shareLoss 28 = .ok (.getfield 34, 3) := by decide +kernel
theorem dX7_shareLoss_31 : decode cX7_shareLoss 31 = .ok (.iload 4, 2) := by decide +kernel
theorem dX7_shareLoss_33 : decode cX7_shareLoss 33 = .ok (.aaload, 1) := by decide +kernel
theorem dX7_shareLoss_34 : decode cX7_shareLoss 34 = .ok (.dup, 1) := by decide +kernel
theorem dX7_shareLoss_35 : decode cX7_shareLoss 35 = .ok (.getfield 189, 3) := by decide +kernel
theorem dX7_shareLoss_38 : decode cX7_shareLoss 38 = .ok (.iload_n 3, 1) := by decide +kernel
theorem dX7_shareLoss_39 : decode cX7_shareLoss 39 = .ok (.isub, 1) := by decide +kernel
theorem dX7_shareLoss_40 : decode cX7_shareLoss 40 = .ok (.putfield 189, 3) := by decide +kernel
theorem dX7_shareLoss_43 : decode cX7_shareLoss 43 = .ok (.iinc 4 1, 3) := by decide +kernel
theorem dX7_shareLoss_46 : decode cX7_shareLoss 46 = .ok (.goto (-28), 3) := by decide +kernel
theorem dX7_shareLoss_49 : decode cX7_shareLoss 49 = .ok (.aload_n 1, 1) := by decide +kernel
theorem dX7_shareLoss_50 : decode cX7_shareLoss 50 = .ok (.dup, 1) := by decide +kernel
theorem dX7_shareLoss_51 : decode cX7_shareLoss 51 = .ok (.getfield 189, 3) := by decide +kernel
theorem dX7_shareLoss_54 : decode cX7_shareLoss 54 = .ok (.iload_n 3, 1) := by decide +kernel
theorem dX7_shareLoss_55 : decode cX7_shareLoss 55 = .ok (.aload_n 0, 1) := by decide +kernel
theorem dX7_shareLoss_56 : decode cX7_shareLoss 56 = .ok (.getfield 38, 3) := by decide +kernel
theorem dX7_shareLoss_59 : decode cX7_shareLoss 59 = .ok (.imul, 1) := by decide +kernel
theorem dX7_shareLoss_60 : decode cX7_shareLoss 60 = .ok (.iadd, 1) := by decide +kernel
theorem dX7_shareLoss_61 : decode cX7_shareLoss 61 = .ok (.putfield 189, 3) := by decide +kernel
theorem dX7_shareLoss_64 : decode cX7_shareLoss 64 = .ok (.return_, 1) := by decide +kernel
theorem dX8_init_0 : decode cX8_init 0 = .ok (.aload_n 0, 1) := by decide +kernel
theorem dX8_init_1 : decode cX8_init 1 = .ok (.invokespecial 1, 3) := by decide +kernel
theorem dX8_init_4 : decode cX8_init 4 = .ok (.aload_n 0, 1) := by decide +kernel
theorem dX8_init_5 : decode cX8_init 5 = .ok (.new 7, 3) := by decide +kernel
theorem dX8_init_8 : decode cX8_init 8 = .ok (.dup, 1) := by decide +kernel
theorem dX8_init_9 : decode cX8_init 9 = .ok (.invokespecial 9, 3) := by decide +kernel
theorem dX8_init_12 : decode cX8_init 12 = .ok (.putfield 10, 3) := by decide +kernel
theorem dX8_init_15 : decode cX8_init 15 = .ok (.aload_n 0, 1) := by decide +kernel
theorem dX8_init_16 : decode cX8_init 16 = .ok (.new 16, 3) := by decide +kernel
theorem dX8_init_19 : decode cX8_init 19 = .ok (.dup, 1) := by decide +kernel
theorem dX8_init_20 : decode cX8_init 20 = .ok (.aload_n 0, 1) := by decide +kernel
theorem dX8_init_21 : decode cX8_init 21 = .ok (.getfield 10, 3) := by decide +kernel
theorem dX8_init_24 : decode cX8_init 24 = .ok (.getfield 18, 3) := by decide +kernel
theorem dX8_init_27 : decode cX8_init 27 = .ok (.invokespecial 22, 3) := by decide +kernel
theorem dX8_init_30 : decode cX8_init 30 = .ok (.putfield 25, 3) := by decide +kernel
theorem dX8_init_33 : decode cX8_init 33 = .ok (.aload_n 0, 1) := by decide +kernel
theorem dX8_init_34 : decode cX8_init 34 = .ok (.iconst 3, 1) := by decide +kernel
theorem dX8_init_35 : decode cX8_init 35 = .ok (.anewarray 7, 3) := by decide +kernel
theorem dX8_init_38 : decode cX8_init 38 = .ok (.putfield 29, 3) := by decide +kernel
theorem dX8_init_41 : decode cX8_init 41 = .ok (.return_, 1) := by decide +kernel
theorem dX8_feed_0 : decode cX8_feed 0 = .ok (.aload_n 0, 1) := by decide +kernel
theorem dX8_feed_1 : decode cX8_feed 1 = .ok (.getfield 10, 3) := by decide +kernel
theorem dX8_feed_4 : decode cX8_feed 4 = .ok (.getfield 18, 3) := by decide +kernel
theorem dX8_feed_7 : decode cX8_feed 7 = .ok (.astore 6, 2) := by decide +kernel
theorem dX8_feed_9 : decode cX8_feed 9 = .ok (.aload 6, 2) := by decide +kernel
theorem dX8_feed_11 : decode cX8_feed 11 = .ok (.getfield 33, 3) := by decide +kernel
theorem dX8_feed_14 : decode cX8_feed 14 = .ok (.bipush 20, 2) := by decide +kernel
theorem dX8_feed_16 : decode cX8_feed 16 = .ok (.iadd, 1) := by decide +kernel
theorem dX8_feed_17 : decode cX8_feed 17 = .ok (.sipush 300, 3) := by decide +kernel
theorem dX8_feed_20 : decode cX8_feed 20 = .ok (.if_icmp .le 5, 3) := by decide +kernel
theorem dX8_feed_23 : decode cX8_feed 23 = .ok (.iconst (-1), 1) := by decide +kernel
theorem dX8_feed_24 : decode cX8_feed 24 = .ok (.ireturn, 1) := by decide +kernel
theorem dX8_feed_25 : decode cX8_feed 25 = .ok (.aload 6, 2) := by decide +kernel
theorem dX8_feed_27 : decode cX8_feed 27 = .ok (.iload_n 1, 1) := by decide +kernel
theorem dX8_feed_28 : decode cX8_feed 28 = .ok (.invokevirtual 39, 3) := by decide +kernel
theorem dX8_feed_31 : decode cX8_feed 31 = .ok (.aload 6, 2) := by decide +kernel
theorem dX8_feed_33 : decode cX8_feed 33 = .ok (.iload_n 2, 1) := by decide +kernel
theorem dX8_feed_34 : decode cX8_feed 34 = .ok (.invokevirtual 39, 3) := by decide +kernel
theorem dX8_feed_37 : decode cX8_feed 37 = .ok (.aload 6, 2) := by decide +kernel
theorem dX8_feed_39 : decode cX8_feed 39 = .ok (.iload_n 3, 1) := by decide +kernel
theorem dX8_feed_40 : decode cX8_feed 40 = .ok (.invokevirtual 39, 3) := by decide +kernel
theorem dX8_feed_43 : decode cX8_feed 43 = .ok (.aload 6, 2) := by decide +kernel
theorem dX8_feed_45 : decode cX8_feed 45 = .ok (.iload 4, 2) := by decide +kernel
theorem dX8_feed_47 : decode cX8_feed 47 = .ok (.invokevirtual 39, 3) := by decide +kernel
theorem dX8_feed_50 : decode cX8_feed 50 = .ok (.aload 6, 2) := by decide +kernel
theorem dX8_feed_52 : decode cX8_feed 52 = .ok (.iload 5, 2) := by decide +kernel
theorem dX8_feed_54 : decode cX8_feed 54 = .ok (.invokevirtual 39, 3) := by decide +kernel
theorem dX8_feed_57 : decode cX8_feed 57 = .ok (.aload 6, 2) := by decide +kernel
theorem dX8_feed_59 : decode cX8_feed 59 = .ok (.getfield 33, 3) := by decide +kernel
theorem dX8_feed_62 : decode cX8_feed 62 = .ok (.ireturn, 1) := by decide +kernel
theorem dX8_end_0 : decode cX8_end 0 = .ok (.iload_n 1, 1) := by decide +kernel
theorem dX8_end_1 : decode cX8_end 1 = .ok (.iconst 0, 1) := by decide +kernel
theorem dX8_end_2 : decode cX8_end 2 = .ok (.aload_n 0, 1) := by decide +kernel
theorem dX8_end_3 : decode cX8_end 3 = .ok (.getfield 10, 3) := by decide +kernel
theorem dX8_end_6 : decode cX8_end 6 = .ok (.getfield 18, 3) := by decide +kernel
theorem dX8_end_9 : decode cX8_end 9 = .ok (.getfield 33, 3) := by decide +kernel
theorem dX8_end_12 : decode cX8_end 12 = .ok (.invokestatic 43, 3) := by decide +kernel
theorem dX8_end_15 : decode cX8_end 15 = .ok (.ifCond .ne 5, 3) := by decide +kernel
theorem dX8_end_18 : decode cX8_end 18 = .ok (.iconst (-1), 1) := by decide +kernel
theorem dX8_end_19 : decode cX8_end 19 = .ok (.ireturn, 1) := by decide +kernel
theorem dX8_end_20 : decode cX8_end 20 = .ok (.aload_n 0, 1) := by decide +kernel
theorem dX8_end_21 : decode cX8_end 21 = .ok (.getfield 10, 3) := by decide +kernel
theorem dX8_end_24 : decode cX8_end 24 = .ok (.getfield 18, 3) := by decide +kernel
theorem dX8_end_27 : decode cX8_end 27 = .ok (.iload_n 1, 1) := by decide +kernel
theorem dX8_end_28 : decode cX8_end 28 = .ok (.putfield 33, 3) := by decide +kernel
theorem dX8_end_31 : decode cX8_end 31 = .ok (.iload_n 1, 1) := by decide +kernel
theorem dX8_end_32 : decode cX8_end 32 = .ok (.ireturn, 1) := by decide +kernel
theorem dX8_custom_0 : decode cX8_custom 0 = .ok (.aload_n 0, 1) := by decide +kernel
theorem dX8_custom_1 : decode cX8_custom 1 = .ok (.getfield 25, 3) := by decide +kernel
theorem dX8_custom_4 : decode cX8_custom 4 = .ok (.invokevirtual 47, 3) := by decide +kernel
theorem dX8_custom_7 : decode cX8_custom 7 = .ok (.aload_n 0, 1) := by decide +kernel
theorem dX8_custom_8 : decode cX8_custom 8 = .ok (.getfield 10, 3) := by decide +kernel
theorem dX8_custom_11 : decode cX8_custom 11 = .ok (.getfield 18, 3) := by decide +kernel
theorem dX8_custom_14 : decode cX8_custom 14 = .ok (.iconst 0, 1) := by decide +kernel
theorem dX8_custom_15 : decode cX8_custom 15 = .ok (.putfield 33, 3) := by decide +kernel
theorem dX8_custom_18 : decode cX8_custom 18 = .ok (.aload_n 0, 1) := by decide +kernel
theorem dX8_custom_19 : decode cX8_custom 19 = .ok (.getfield 10, 3) := by decide +kernel
theorem dX8_custom_22 : decode cX8_custom 22 = .ok (.aload_n 0, 1) := by decide +kernel
theorem dX8_custom_23 : decode cX8_custom 23 = .ok (.getfield 25, 3) := by decide +kernel
theorem dX8_custom_26 : decode cX8_custom 26 = .ok (.getfield 50, 3) := by decide +kernel
theorem dX8_custom_29 : decode cX8_custom 29 = .ok (.putfield 53, 3) := by decide +kernel
theorem dX8_custom_32 : decode cX8_custom 32 = .ok (.aload_n 0, 1) := by decide +kernel
theorem dX8_custom_33 : decode cX8_custom 33 = .ok (.getfield 10, 3) := by decide +kernel
theorem dX8_custom_36 : decode cX8_custom 36 = .ok (.aload_n 0, 1) := by decide +kernel
theorem dX8_custom_37 : decode cX8_custom 37 = .ok (.getfield 25, 3) := by decide +kernel
theorem dX8_custom_40 : decode cX8_custom 40 = .ok (.getfield 54, 3) := by decide +kernel
theorem dX8_custom_43 : decode cX8_custom 43 = .ok (.putfield 57, 3) := by decide +kernel
theorem dX8_custom_46 : decode cX8_custom 46 = .ok (.aload_n 0, 1) := by decide +kernel
theorem dX8_custom_47 : decode cX8_custom 47 = .ok (.getfield 25, 3) := by decide +kernel
theorem dX8_custom_50 : decode cX8_custom 50 = .ok (.getfield 50, 3) := by decide +kernel
theorem dX8_custom_53 : decode cX8_custom 53 = .ok (.ifCond .eq 5, 3) := by decide +kernel
theorem dX8_custom_56 : decode cX8_custom 56 = .ok (.iconst (-1), 1) := by decide +kernel
theorem dX8_custom_57 : decode cX8_custom 57 = .ok (.ireturn, 1) := by decide +kernel
theorem dX8_custom_58 : decode cX8_custom 58 = .ok (.aload_n 0, 1) := by decide +kernel
theorem dX8_custom_59 : decode cX8_custom 59 = .ok (.getfield 10, 3) := by decide +kernel
theorem dX8_custom_62 : decode cX8_custom 62 = .ok (.getfield 58, 3) := by decide +kernel
theorem dX8_custom_65 : decode cX8_custom 65 = .ok (.aload_n 0, 1) := by decide +kernel
theorem dX8_custom_66 : decode cX8_custom 66 = .ok (.getfield 25, 3) := by decide +kernel
theorem dX8_custom_69 : decode cX8_custom 69 = .ok (.getfield 62, 3) := by decide +kernel
theorem dX8_custom_72 : decode cX8_custom 72 = .ok (.invokevirtual 65, 3) := by decide +kernel
theorem dX8_custom_75 : decode cX8_custom 75 = .ok (.aload_n 0, 1) := by decide +kernel
theorem dX8_custom_76 : decode cX8_custom 76 = .ok (.getfield 10, 3) := by decide +kernel
theorem dX8_custom_79 : decode cX8_custom 79 = .ok (.getfield 58, 3) := by decide +kernel
theorem dX8_custom_82 : decode cX8_custom 82 = .ok (.getfield 71, 3) := by decide +kernel
theorem dX8_custom_85 : decode cX8_custom 85 = .ok (.ireturn, 1) := by decide +kernel
theorem dX8_fault_0 : decode cX8_fault 0 = .ok (.iload_n 1, 1) := by decide +kernel
theorem dX8_fault_1 : decode cX8_fault 1 = .ok (.lookupswitch 43 #[(0, 27), (1, 35)], 27) := by decide +kernel
theorem dX8_fault_28 : decode cX8_fault 28 = .ok (.aload_n 0, 1) := by decide +kernel
theorem dX8_fault_29 : decode cX8_fault 29 = .ok (.getfield 10, 3) := by decide +kernel
theorem dX8_fault_32 : decode cX8_fault 32 = .ok (.getfield 53, 3) := by decide +kernel
theorem dX8_fault_35 : decode cX8_fault 35 = .ok (.ireturn, 1) := by decide +kernel
theorem dX8_fault_36 : decode cX8_fault 36 = .ok (.aload_n 0, 1) := by decide +kernel
theorem dX8_fault_37 : decode cX8_fault 37 = .ok (.getfield 10, 3) := by decide +kernel
theorem dX8_fault_40 : decode cX8_fault 40 = .ok (.getfield 57, 3) := by decide +kernel
theorem dX8_fault_43 : decode cX8_fault 43 = .ok (.ireturn, 1) := by decide +kernel
theorem dX8_fault_44 : decode cX8_fault 44 = .ok (.iconst (-1), 1) := by decide +kernel
theorem dX8_fault_45 : decode cX8_fault 45 = .ok (.ireturn, 1) := by decide +kernel
theorem dX8_house_0 : decode cX8_house 0 = .ok (.aload_n 0, 1) := by decide +kernel
theorem dX8_house_1 : decode cX8_house 1 = .ok (.getfield 10, 3) := by decide +kernel
theorem dX8_house_4 : decode cX8_house 4 = .ok (.getfield 74, 3) := by decide +kernel
theorem dX8_house_7 : decode cX8_house 7 = .ok (.bipush 8, 2) := by decide +kernel
theorem dX8_house_9 : decode cX8_house 9 = .ok (.if_icmp .lt 5, 3) := by decide +kernel
theorem dX8_house_12 : decode cX8_house 12 = .ok (.iconst (-1), 1) := by decide +kernel
theorem dX8_house_13 : decode cX8_house 13 = .ok (.ireturn, 1) := by decide +kernel
theorem dX8_house_14 : decode cX8_house 14 = .ok (.aload_n 0, 1) := by decide +kernel
theorem dX8_house_15 : decode cX8_house 15 = .ok (.getfield 10, 3) := by decide +kernel
theorem dX8_house_18 : decode cX8_house 18 = .ok (.dup, 1) := by decide +kernel
theorem dX8_house_19 : decode cX8_house 19 = .ok (.getfield 74, 3) := by decide +kernel
theorem dX8_house_22 : decode cX8_house 22 = .ok (.iconst 1, 1) := by decide +kernel
theorem dX8_house_23 : decode cX8_house 23 = .ok (.iadd, 1) := by decide +kernel
theorem dX8_house_24 : decode cX8_house 24 = .ok (.putfield 74, 3) := by decide +kernel
theorem dX8_house_27 : decode cX8_house 27 = .ok (.aload_n 0, 1) := by decide +kernel
theorem dX8_house_28 : decode cX8_house 28 = .ok (.getfield 10, 3) := by decide +kernel
theorem dX8_house_31 : decode cX8_house 31 = .ok (.getfield 74, 3) := by decide +kernel
theorem dX8_house_34 : decode cX8_house 34 = .ok (.iconst 1, 1) := by decide +kernel
theorem dX8_house_35 : decode cX8_house 35 = .ok (.isub, 1) := by decide +kernel
theorem dX8_house_36 : decode cX8_house 36 = .ok (.ireturn, 1) := by decide +kernel
theorem dX8_shape_0 : decode cX8_shape 0 = .ok (.iload_n 1, 1) := by decide +kernel
theorem dX8_shape_1 : decode cX8_shape 1 = .ok (.iconst 0, 1) := by decide +kernel
theorem dX8_shape_2 : decode cX8_shape 2 = .ok (.iconst 4, 1) := by decide +kernel
theorem dX8_shape_3 : decode cX8_shape 3 = .ok (.invokestatic 43, 3) := by decide +kernel
theorem dX8_shape_6 : decode cX8_shape 6 = .ok (.ifCond .eq 25, 3) := by decide +kernel
theorem dX8_shape_9 : decode cX8_shape 9 = .ok (.iload_n 2, 1) := by decide +kernel
theorem dX8_shape_10 : decode cX8_shape 10 = .ok (.iconst 1, 1) := by decide +kernel
theorem dX8_shape_11 : decode cX8_shape 11 = .ok (.sipush 999, 3) := by decide +kernel
theorem dX8_shape_14 : decode cX8_shape 14 = .ok (.invokestatic 43, 3) := by decide +kernel
theorem dX8_shape_17 : decode cX8_shape 17 = .ok (.ifCond .eq 14, 3) := by decide +kernel
theorem dX8_shape_20 : decode cX8_shape 20 = .ok (.iload_n 3, 1) := by decide +kernel
theorem dX8_shape_21 : decode cX8_shape 21 = .ok (.iconst 1, 1) := by decide +kernel
theorem dX8_shape_22 : decode cX8_shape 22 = .ok (.sipush 999, 3) := by decide +kernel
theorem dX8_shape_25 : decode cX8_shape 25 = .ok (.invokestatic 43, 3) := by decide +kernel
theorem dX8_shape_28 : decode cX8_shape 28 = .ok (.ifCond .ne 5, 3) := by decide +kernel
theorem dX8_shape_31 : decode cX8_shape 31 = .ok (.iconst 0, 1) := by decide +kernel
theorem dX8_shape_32 : decode cX8_shape 32 = .ok (.ireturn, 1) := by decide +kernel
theorem dX8_shape_33 : decode cX8_shape 33 = .ok (.aload_n 0, 1) := by decide +kernel
theorem dX8_shape_34 : decode cX8_shape 34 = .ok (.getfield 10, 3) := by decide +kernel
theorem dX8_shape_37 : decode cX8_shape 37 = .ok (.getfield 77, 3) := by decide +kernel
theorem dX8_shape_40 : decode cX8_shape 40 = .ok (.iload_n 1, 1) := by decide +kernel
theorem dX8_shape_41 : decode cX8_shape 41 = .ok (.iload_n 2, 1) := by decide +kernel
theorem dX8_shape_42 : decode cX8_shape 42 = .ok (.iastore, 1) := by decide +kernel
theorem dX8_shape_43 : decode cX8_shape 43 = .ok (.aload_n 0, 1) := by decide +kernel
theorem dX8_shape_44 : decode cX8_shape 44 = .ok (.getfield 10, 3) := by decide +kernel
theorem dX8_shape_47 : decode cX8_shape 47 = .ok (.getfield 81, 3) := by decide +kernel
theorem dX8_shape_50 : decode cX8_shape 50 = .ok (.iload_n 1, 1) := by decide +kernel
theorem dX8_shape_51 : decode cX8_shape 51 = .ok (.iload_n 3, 1) := by decide +kernel
theorem dX8_shape_52 : decode cX8_shape 52 = .ok (.iastore, 1) := by decide +kernel
theorem dX8_shape_53 : decode cX8_shape 53 = .ok (.iconst 1, 1) := by decide +kernel
theorem dX8_shape_54 : decode cX8_shape 54 = .ok (.ireturn, 1) := by decide +kernel
theorem dX8_glaze_0 : decode cX8_glaze 0 = .ok (.iload_n 1, 1) := by decide +kernel
theorem dX8_glaze_1 : decode cX8_glaze 1 = .ok (.iconst 0, 1) := by decide +kernel
theorem dX8_glaze_2 : decode cX8_glaze 2 = .ok (.iconst 3, 1) := by decide +kernel
theorem dX8_glaze_3 : decode cX8_glaze 3 = .ok (.invokestatic 43, 3) := by decide +kernel
theorem dX8_glaze_6 : decode cX8_glaze 6 = .ok (.ifCond .eq 13, 3) := by decide +kernel
theorem dX8_glaze_9 : decode cX8_glaze 9 = .ok (.iload_n 2, 1) := by decide +kernel
theorem dX8_glaze_10 : decode cX8_glaze 10 = .ok (.iconst 0, 1) := by decide +kernel
theorem dX8_glaze_11 : decode cX8_glaze 11 = .ok (.bipush 10, 2) := by decide +kernel
theorem dX8_glaze_13 : decode cX8_glaze 13 = .ok (.invokestatic 43, 3) := by decide +kernel
theorem dX8_glaze_16 : decode cX8_glaze 16 = .ok (.ifCond .ne 5, 3) := by decide +kernel
theorem dX8_glaze_19 : decode cX8_glaze 19 = .ok (.iconst 0, 1) := by decide +kernel
theorem dX8_glaze_20 : decode cX8_glaze 20 = .ok (.ireturn, 1) := by decide +kernel
theorem dX8_glaze_21 : decode cX8_glaze 21 = .ok (.aload_n 0, 1) := by decide +kernel
theorem dX8_glaze_22 : decode cX8_glaze 22 = .ok (.getfield 10, 3) := by decide +kernel
theorem dX8_glaze_25 : decode cX8_glaze 25 = .ok (.getfield 84, 3) := by decide +kernel
theorem dX8_glaze_28 : decode cX8_glaze 28 = .ok (.iload_n 1, 1) := by decide +kernel
theorem dX8_glaze_29 : decode cX8_glaze 29 = .ok (.iload_n 2, 1) := by decide +kernel
theorem dX8_glaze_30 : decode cX8_glaze 30 = .ok (.iastore, 1) := by decide +kernel
theorem dX8_glaze_31 : decode cX8_glaze 31 = .ok (.iconst 1, 1) := by decide +kernel
theorem dX8_glaze_32 : decode cX8_glaze 32 = .ok (.ireturn, 1) := by decide +kernel
theorem dX8_kiln_0 : decode cX8_kiln 0 = .ok (.iload_n 1, 1) := by decide +kernel
theorem dX8_kiln_1 : decode cX8_kiln 1 = .ok (.iconst 2, 1) := by decide +kernel
theorem dX8_kiln_2 : decode cX8_kiln 2 = .ok (.bipush 6, 2) := by decide +kernel
theorem dX8_kiln_4 : decode cX8_kiln 4 = .ok (.invokestatic 43, 3) := by decide +kernel
theorem dX8_kiln_7 : decode cX8_kiln 7 = .ok (.ifCond .eq 13, 3) := by decide +kernel
theorem dX8_kiln_10 : decode cX8_kiln 10 = .ok (.aload_n 0, 1) := by decide +kernel
theorem dX8_kiln_11 : decode cX8_kiln 11 = .ok (.getfield 10, 3) := by decide +kernel
theorem dX8_kiln_14 : decode cX8_kiln 14 = .ok (.invokevirtual 87, 3) := by decide +kernel
theorem dX8_kiln_17 : decode cX8_kiln 17 = .ok (.ifCond .le 5, 3) := by decide +kernel
theorem dX8_kiln_20 : decode cX8_kiln 20 = .ok (.iconst 0, 1) := by decide +kernel
theorem dX8_kiln_21 : decode cX8_kiln 21 = .ok (.ireturn, 1) := by decide +kernel
theorem dX8_kiln_22 : decode cX8_kiln 22 = .ok (.aload_n 0, 1) := by decide +kernel
theorem dX8_kiln_23 : decode cX8_kiln 23 = .ok (.getfield 10, 3) := by decide +kernel
theorem dX8_kiln_26 : decode cX8_kiln 26 = .ok (.getfield 91, 3) := by decide +kernel
theorem dX8_kiln_29 : decode cX8_kiln 29 = .ok (.iload_n 1, 1) := by decide +kernel
theorem dX8_kiln_30 : decode cX8_kiln 30 = .ok (.invokevirtual 95, 3) := by decide +kernel
theorem dX8_kiln_33 : decode cX8_kiln 33 = .ok (.iconst 1, 1) := by decide +kernel
theorem dX8_kiln_34 : decode cX8_kiln 34 = .ok (.ireturn, 1) := by decide +kernel
theorem dX8_value_0 : decode cX8_value 0 = .ok (.aload_n 0, 1) := by decide +kernel
theorem dX8_value_1 : decode cX8_value 1 = .ok (.getfield 10, 3) := by decide +kernel
theorem dX8_value_4 : decode cX8_value 4 = .ok (.getfield 91, 3) := by decide +kernel
theorem dX8_value_7 : decode cX8_value 7 = .ok (.iload_n 1, 1) := by decide +kernel
theorem dX8_value_8 : decode cX8_value 8 = .ok (.iload_n 2, 1) := by decide +kernel
theorem dX8_value_9 : decode cX8_value 9 = .ok (.invokevirtual 100, 3) := by decide +kernel
theorem dX8_value_12 : decode cX8_value 12 = .ok (.ifCond .eq 13, 3) := by decide +kernel
theorem dX8_value_15 : decode cX8_value 15 = .ok (.iload_n 3, 1) := by decide +kernel
theorem dX8_value_16 : decode cX8_value 16 = .ok (.iconst 1, 1) := by decide +kernel
theorem dX8_value_17 : decode cX8_value 17 = .ok (.bipush 99, 2) := by decide +kernel
theorem dX8_value_19 : decode cX8_value 19 = .ok (.invokestatic 43, 3) := by decide +kernel
theorem dX8_value_22 : decode cX8_value 22 = .ok (.ifCond .ne 5, 3) := by decide +kernel
theorem dX8_value_25 : decode cX8_value 25 = .ok (.iconst 0, 1) := by decide +kernel
theorem dX8_value_26 : decode cX8_value 26 = .ok (.ireturn, 1) := by decide +kernel
theorem dX8_value_27 : decode cX8_value 27 = .ok (.aload_n 0, 1) := by decide +kernel
theorem dX8_value_28 : decode cX8_value 28 = .ok (.getfield 10, 3) := by decide +kernel
theorem dX8_value_31 : decode cX8_value 31 = .ok (.getfield 91, 3) := by decide +kernel
theorem dX8_value_34 : decode cX8_value 34 = .ok (.getfield 104, 3) := by decide +kernel
theorem dX8_value_37 : decode cX8_value 37 = .ok (.iload_n 1, 1) := by decide +kernel
theorem dX8_value_38 : decode cX8_value 38 = .ok (.iconst 4, 1) := by decide +kernel
theorem dX8_value_39 : decode cX8_value 39 = .ok (.imul, 1) := by decide +kernel
theorem dX8_value_40 : decode cX8_value 40 = .ok (.iload_n 2, 1) := by decide +kernel
theorem dX8_value_41 : decode cX8_value 41 = .ok (.iadd, 1) := by decide +kernel
theorem dX8_value_42 : decode cX8_value 42 = .ok (.iload_n 3, 1) := by decide +kernel
theorem dX8_value_43 : decode cX8_value 43 = .ok (.iastore, 1) := by decide +kernel
theorem dX8_value_44 : decode cX8_value 44 = .ok (.iconst 1, 1) := by decide +kernel
theorem dX8_value_45 : decode cX8_value 45 = .ok (.ireturn, 1) := by decide +kernel
theorem dX8_pot_0 : decode cX8_pot 0 = .ok (.aload_n 0, 1) := by decide +kernel
theorem dX8_pot_1 : decode cX8_pot 1 = .ok (.getfield 10, 3) := by decide +kernel
theorem dX8_pot_4 : decode cX8_pot 4 = .ok (.getfield 107, 3) := by decide +kernel
theorem dX8_pot_7 : decode cX8_pot 7 = .ok (.bipush 24, 2) := by decide +kernel
theorem dX8_pot_9 : decode cX8_pot 9 = .ok (.if_icmp .ge 43, 3) := by decide +kernel
theorem dX8_pot_12 : decode cX8_pot 12 = .ok (.aload_n 0, 1) := by decide +kernel
theorem dX8_pot_13 : decode cX8_pot 13 = .ok (.getfield 10, 3) := by decide +kernel
theorem dX8_pot_16 : decode cX8_pot 16 = .ok (.iload_n 1, 1) := by decide +kernel
theorem dX8_pot_17 : decode cX8_pot 17 = .ok (.invokevirtual 110, 3) := by decide +kernel
theorem dX8_pot_20 : decode cX8_pot 20 = .ok (.ifCond .eq 32, 3) := by decide +kernel
theorem dX8_pot_23 : decode cX8_pot 23 = .ok (.iload_n 2, 1) := by decide +kernel
theorem dX8_pot_24 : decode cX8_pot 24 = .ok (.iconst 0, 1) := by decide +kernel
theorem dX8_pot_25 : decode cX8_pot 25 = .ok (.iconst 4, 1) := by decide +kernel
theorem dX8_pot_26 : decode cX8_pot 26 = .ok (.invokestatic 43, 3) := by decide +kernel
theorem dX8_pot_29 : decode cX8_pot 29 = .ok (.ifCond .eq 23, 3) := by decide +kernel
theorem dX8_pot_32 : decode cX8_pot 32 = .ok (.iload_n 3, 1) := by decide +kernel
theorem dX8_pot_33 : decode cX8_pot 33 = .ok (.iconst 0, 1) := by decide +kernel
theorem dX8_pot_34 : decode cX8_pot 34 = .ok (.iconst 3, 1) := by decide +kernel
theorem dX8_pot_35 : decode cX8_pot 35 = .ok (.invokestatic 43, 3) := by decide +kernel
theorem dX8_pot_38 : decode cX8_pot 38 = .ok (.ifCond .eq 14, 3) := by decide +kernel
theorem dX8_pot_41 : decode cX8_pot 41 = .ok (.iload 4, 2) := by decide +kernel
theorem dX8_pot_43 : decode cX8_pot 43 = .ok (.iconst 0, 1) := by decide +kernel
theorem dX8_pot_44 : decode cX8_pot 44 = .ok (.bipush 9, 2) := by decide +kernel
theorem dX8_pot_46 : decode cX8_pot 46 = .ok (.invokestatic 43, 3) := by decide +kernel
theorem dX8_pot_49 : decode cX8_pot 49 = .ok (.ifCond .ne 5, 3) := by decide +kernel
theorem dX8_pot_52 : decode cX8_pot 52 = .ok (.iconst (-1), 1) := by decide +kernel
theorem dX8_pot_53 : decode cX8_pot 53 = .ok (.ireturn, 1) := by decide +kernel
theorem dX8_pot_54 : decode cX8_pot 54 = .ok (.aload_n 0, 1) := by decide +kernel
theorem dX8_pot_55 : decode cX8_pot 55 = .ok (.getfield 10, 3) := by decide +kernel
theorem dX8_pot_58 : decode cX8_pot 58 = .ok (.getfield 114, 3) := by decide +kernel
theorem dX8_pot_61 : decode cX8_pot 61 = .ok (.aload_n 0, 1) := by decide +kernel
theorem dX8_pot_62 : decode cX8_pot 62 = .ok (.getfield 10, 3) := by decide +kernel
theorem dX8_pot_65 : decode cX8_pot 65 = .ok (.getfield 107, 3) := by decide +kernel
theorem dX8_pot_68 : decode cX8_pot 68 = .ok (.aaload, 1) := by decide +kernel
theorem dX8_pot_69 : decode cX8_pot 69 = .ok (.iload_n 1, 1) := by decide +kernel
theorem dX8_pot_70 : decode cX8_pot 70 = .ok (.iload_n 2, 1) := by decide +kernel
theorem dX8_pot_71 : decode cX8_pot 71 = .ok (.iload_n 3, 1) := by decide +kernel
theorem dX8_pot_72 : decode cX8_pot 72 = .ok (.iload 4, 2) := by decide +kernel
theorem dX8_pot_74 : decode cX8_pot 74 = .ok (.invokevirtual 118, 3) := by decide +kernel
theorem dX8_pot_77 : decode cX8_pot 77 = .ok (.aload_n 0, 1) := by decide +kernel
theorem dX8_pot_78 : decode cX8_pot 78 = .ok (.getfield 10, 3) := by decide +kernel
theorem dX8_pot_81 : decode cX8_pot 81 = .ok (.getfield 124, 3) := by decide +kernel
theorem dX8_pot_84 : decode cX8_pot 84 = .ok (.iload_n 1, 1) := by decide +kernel
theorem dX8_pot_85 : decode cX8_pot 85 = .ok (.aaload, 1) := by decide +kernel
theorem dX8_pot_86 : decode cX8_pot 86 = .ok (.iconst 1, 1) := by decide +kernel
theorem dX8_pot_87 : decode cX8_pot 87 = .ok (.putfield 128, 3) := by decide +kernel
theorem dX8_pot_90 : decode cX8_pot 90 = .ok (.aload_n 0, 1) := by decide +kernel
theorem dX8_pot_91 : decode cX8_pot 91 = .ok (.getfield 10, 3) := by decide +kernel
theorem dX8_pot_94 : decode cX8_pot 94 = .ok (.dup, 1) := by decide +kernel
theorem dX8_pot_95 : decode cX8_pot 95 = .ok (.getfield 107, 3) := by decide +kernel
theorem dX8_pot_98 : decode cX8_pot 98 = .ok (.iconst 1, 1) := by decide +kernel
theorem dX8_pot_99 : decode cX8_pot 99 = .ok (.iadd, 1) := by decide +kernel
theorem dX8_pot_100 : decode cX8_pot 100 = .ok (.putfield 107, 3) := by decide +kernel
theorem dX8_pot_103 : decode cX8_pot 103 = .ok (.aload_n 0, 1) := by decide +kernel
theorem dX8_pot_104 : decode cX8_pot 104 = .ok (.getfield 10, 3) := by decide +kernel
theorem dX8_pot_107 : decode cX8_pot 107 = .ok (.getfield 107, 3) := by decide +kernel
theorem dX8_pot_110 : decode cX8_pot 110 = .ok (.iconst 1, 1) := by decide +kernel
theorem dX8_pot_111 : decode cX8_pot 111 = .ok (.isub, 1) := by decide +kernel
theorem dX8_pot_112 : decode cX8_pot 112 = .ok (.ireturn, 1) := by decide +kernel
theorem dX8_dry_0 : decode cX8_dry 0 = .ok (.iload_n 1, 1) := by decide +kernel
theorem dX8_dry_1 : decode cX8_dry 1 = .ok (.iconst 1, 1) := by decide +kernel
theorem dX8_dry_2 : decode cX8_dry 2 = .ok (.bipush 9, 2) := by decide +kernel
theorem dX8_dry_4 : decode cX8_dry 4 = .ok (.invokestatic 43, 3) := by decide +kernel
theorem dX8_dry_7 : decode cX8_dry 7 = .ok (.ifCond .ne 5, 3) := by decide +kernel
theorem dX8_dry_10 : decode cX8_dry 10 = .ok (.iconst 0, 1) := by decide +kernel
theorem dX8_dry_11 : decode cX8_dry 11 = .ok (.ireturn, 1) := by decide +kernel
theorem dX8_dry_12 : decode cX8_dry 12 = .ok (.aload_n 0, 1) := by decide +kernel
theorem dX8_dry_13 : decode cX8_dry 13 = .ok (.getfield 10, 3) := by decide +kernel
theorem dX8_dry_16 : decode cX8_dry 16 = .ok (.iload_n 1, 1) := by decide +kernel
theorem dX8_dry_17 : decode cX8_dry 17 = .ok (.invokevirtual 134, 3) := by decide +kernel
theorem dX8_dry_20 : decode cX8_dry 20 = .ok (.iconst 1, 1) := by decide +kernel
theorem dX8_dry_21 : decode cX8_dry 21 = .ok (.ireturn, 1) := by decide +kernel
theorem dX8_deal_0 : decode cX8_deal 0 = .ok (.aload_n 0, 1) := by decide +kernel
theorem dX8_deal_1 : decode cX8_deal 1 = .ok (.getfield 10, 3) := by decide +kernel
theorem dX8_deal_4 : decode cX8_deal 4 = .ok (.getfield 91, 3) := by decide +kernel
theorem dX8_deal_7 : decode cX8_deal 7 = .ok (.invokevirtual 137, 3) := by decide +kernel
theorem dX8_deal_10 : decode cX8_deal 10 = .ok (.bipush 50, 2) := by decide +kernel
theorem dX8_deal_12 : decode cX8_deal 12 = .ok (.if_icmp .le 5, 3) := by decide +kernel
theorem dX8_deal_15 : decode cX8_deal 15 = .ok (.iconst (-1), 1) := by decide +kernel
theorem dX8_deal_16 : decode cX8_deal 16 = .ok (.ireturn, 1) := by decide +kernel
theorem dX8_deal_17 : decode cX8_deal 17 = .ok (.aload_n 0, 1) := by decide +kernel
theorem dX8_deal_18 : decode cX8_deal 18 = .ok (.getfield 10, 3) := by decide +kernel
theorem dX8_deal_21 : decode cX8_deal 21 = .ok (.invokevirtual 140, 3) := by decide +kernel
theorem dX8_deal_24 : decode cX8_deal 24 = .ok (.ireturn, 1) := by decide +kernel
theorem dX8_spread_0 : decode cX8_spread 0 = .ok (.aload_n 0, 1) := by decide +kernel
theorem dX8_spread_1 : decode cX8_spread 1 = .ok (.getfield 10, 3) := by decide +kernel
theorem dX8_spread_4 : decode cX8_spread 4 = .ok (.invokevirtual 143, 3) := by decide +kernel
theorem dX8_spread_7 : decode cX8_spread 7 = .ok (.ireturn, 1) := by decide +kernel
theorem dX8_fire_0 : decode cX8_fire 0 = .ok (.aload_n 0, 1) := by decide +kernel
theorem dX8_fire_1 : decode cX8_fire 1 = .ok (.getfield 10, 3) := by decide +kernel
theorem dX8_fire_4 : decode cX8_fire 4 = .ok (.getfield 91, 3) := by decide +kernel
theorem dX8_fire_7 : decode cX8_fire 7 = .ok (.iload_n 1, 1) := by decide +kernel
theorem dX8_fire_8 : decode cX8_fire 8 = .ok (.invokevirtual 146, 3) := by decide +kernel
theorem dX8_fire_11 : decode cX8_fire 11 = .ok (.ifCond .eq 13, 3) := by decide +kernel
theorem dX8_fire_14 : decode cX8_fire 14 = .ok (.iload_n 2, 1) := by decide +kernel
theorem dX8_fire_15 : decode cX8_fire 15 = .ok (.iconst 0, 1) := by decide +kernel
theorem dX8_fire_16 : decode cX8_fire 16 = .ok (.bipush 9, 2) := by decide +kernel
theorem dX8_fire_18 : decode cX8_fire 18 = .ok (.invokestatic 43, 3) := by decide +kernel
theorem dX8_fire_21 : decode cX8_fire 21 = .ok (.ifCond .ne 5, 3) := by decide +kernel
theorem dX8_fire_24 : decode cX8_fire 24 = .ok (.iconst (-1), 1) := by decide +kernel
theorem dX8_fire_25 : decode cX8_fire 25 = .ok (.ireturn, 1) := by decide +kernel
theorem dX8_fire_26 : decode cX8_fire 26 = .ok (.aload_n 0, 1) := by decide +kernel
theorem dX8_fire_27 : decode cX8_fire 27 = .ok (.getfield 10, 3) := by decide +kernel
theorem dX8_fire_30 : decode cX8_fire 30 = .ok (.iload_n 1, 1) := by decide +kernel
theorem dX8_fire_31 : decode cX8_fire 31 = .ok (.iload_n 2, 1) := by decide +kernel
theorem dX8_fire_32 : decode cX8_fire 32 = .ok (.invokevirtual 149, 3) := by decide +kernel
theorem dX8_fire_35 : decode cX8_fire 35 = .ok (.aload_n 0, 1) := by decide +kernel
theorem dX8_fire_36 : decode cX8_fire 36 = .ok (.getfield 10, 3) := by decide +kernel
theorem dX8_fire_39 : decode cX8_fire 39 = .ok (.getfield 91, 3) := by decide +kernel
theorem dX8_fire_42 : decode cX8_fire 42 = .ok (.getfield 153, 3) := by decide +kernel
theorem dX8_fire_45 : decode cX8_fire 45 = .ok (.iload_n 1, 1) := by decide +kernel
theorem dX8_fire_46 : decode cX8_fire 46 = .ok (.iaload, 1) := by decide +kernel
theorem dX8_fire_47 : decode cX8_fire 47 = .ok (.ireturn, 1) := by decide +kernel
theorem dX8_rest_0 : decode cX8_rest 0 = .ok (.iload_n 1, 1) := by decide +kernel
theorem dX8_rest_1 : decode cX8_rest 1 = .ok (.iconst 1, 1) := by decide +kernel
theorem dX8_rest_2 : decode cX8_rest 2 = .ok (.bipush 60, 2) := by decide +kernel
theorem dX8_rest_4 : decode cX8_rest 4 = .ok (.invokestatic 43, 3) := by decide +kernel
theorem dX8_rest_7 : decode cX8_rest 7 = .ok (.ifCond .ne 5, 3) := by decide +kernel
theorem dX8_rest_10 : decode cX8_rest 10 = .ok (.iconst (-1), 1) := by decide +kernel
theorem dX8_rest_11 : decode cX8_rest 11 = .ok (.ireturn, 1) := by decide +kernel
theorem dX8_rest_12 : decode cX8_rest 12 = .ok (.iconst 0, 1) := by decide +kernel
theorem dX8_rest_13 : decode cX8_rest 13 = .ok (.istore_n 2, 1) := by decide +kernel
theorem dX8_rest_14 : decode cX8_rest 14 = .ok (.iload_n 2, 1) := by decide +kernel
theorem dX8_rest_15 : decode cX8_rest 15 = .ok (.iload_n 1, 1) := by decide +kernel
theorem dX8_rest_16 : decode cX8_rest 16 = .ok (.if_icmp .ge 18, 3) := by decide +kernel
theorem dX8_rest_19 : decode cX8_rest 19 = .ok (.aload_n 0, 1) := by decide +kernel
theorem dX8_rest_20 : decode cX8_rest 20 = .ok (.getfield 10, 3) := by decide +kernel
theorem dX8_rest_23 : decode cX8_rest 23 = .ok (.iconst 0, 1) := by decide +kernel
theorem dX8_rest_24 : decode cX8_rest 24 = .ok (.iconst 0, 1) := by decide +kernel
theorem dX8_rest_25 : decode cX8_rest 25 = .ok (.invokevirtual 149, 3) := by decide +kernel
theorem dX8_rest_28 : decode cX8_rest 28 = .ok (.iinc 2 1, 3) := by decide +kernel
theorem dX8_rest_31 : decode cX8_rest 31 = .ok (.goto (-17), 3) := by decide +kernel
theorem dX8_rest_34 : decode cX8_rest 34 = .ok (.aload_n 0, 1) := by decide +kernel
theorem dX8_rest_35 : decode cX8_rest 35 = .ok (.getfield 10, 3) := by decide +kernel
theorem dX8_rest_38 : decode cX8_rest 38 = .ok (.getfield 91, 3) := by decide +kernel
theorem dX8_rest_41 : decode cX8_rest 41 = .ok (.invokevirtual 137, 3) := by decide +kernel
theorem dX8_rest_44 : decode cX8_rest 44 = .ok (.ireturn, 1) := by decide +kernel
theorem dX8_heat_0 : decode cX8_heat 0 = .ok (.aload_n 0, 1) := by decide +kernel
theorem dX8_heat_1 : decode cX8_heat 1 = .ok (.getfield 10, 3) := by decide +kernel
theorem dX8_heat_4 : decode cX8_heat 4 = .ok (.getfield 91, 3) := by decide +kernel
theorem dX8_heat_7 : decode cX8_heat 7 = .ok (.iload_n 1, 1) := by decide +kernel
theorem dX8_heat_8 : decode cX8_heat 8 = .ok (.invokevirtual 146, 3) := by decide +kernel
theorem dX8_heat_11 : decode cX8_heat 11 = .ok (.ifCond .eq 18, 3) := by decide +kernel
theorem dX8_heat_14 : decode cX8_heat 14 = .ok (.aload_n 0, 1) := by decide +kernel
theorem dX8_heat_15 : decode cX8_heat 15 = .ok (.getfield 10, 3) := by decide +kernel
theorem dX8_heat_18 : decode cX8_heat 18 = .ok (.getfield 91, 3) := by decide +kernel
theorem dX8_heat_21 : decode cX8_heat 21 = .ok (.getfield 153, 3) := by decide +kernel
theorem dX8_heat_24 : decode cX8_heat 24 = .ok (.iload_n 1, 1) := by decide +kernel
theorem dX8_heat_25 : decode cX8_heat 25 = .ok (.iaload, 1) := by decide +kernel
theorem dX8_heat_26 : decode cX8_heat 26 = .ok (.goto 4, 3) := by decide +kernel
theorem dX8_heat_29 : decode cX8_heat 29 = .ok (.iconst (-1), 1) := by decide +kernel
theorem dX8_heat_30 : decode cX8_heat 30 = .ok (.ireturn, 1) := by decide +kernel
theorem dX8_open_0 : decode cX8_open 0 = .ok (.aload_n 0, 1) := by decide +kernel
theorem dX8_open_1 : decode cX8_open 1 = .ok (.getfield 10, 3) := by decide +kernel
theorem dX8_open_4 : decode cX8_open 4 = .ok (.getfield 91, 3) := by decide +kernel
theorem dX8_open_7 : decode cX8_open 7 = .ok (.invokevirtual 137, 3) := by decide +kernel
theorem dX8_open_10 : decode cX8_open 10 = .ok (.sipush 200, 3) := by decide +kernel
theorem dX8_open_13 : decode cX8_open 13 = .ok (.if_icmp .gt 13, 3) := by decide +kernel
theorem dX8_open_16 : decode cX8_open 16 = .ok (.aload_n 0, 1) := by decide +kernel
theorem dX8_open_17 : decode cX8_open 17 = .ok (.getfield 10, 3) := by decide +kernel
theorem dX8_open_20 : decode cX8_open 20 = .ok (.invokevirtual 87, 3) := by decide +kernel
theorem dX8_open_23 : decode cX8_open 23 = .ok (.ifCond .ne 5, 3) := by decide +kernel
theorem dX8_open_26 : decode cX8_open 26 = .ok (.iconst (-1), 1) := by decide +kernel
theorem dX8_open_27 : decode cX8_open 27 = .ok (.ireturn, 1) := by decide +kernel
theorem dX8_open_28 : decode cX8_open 28 = .ok (.aload_n 0, 1) := by decide +kernel
theorem dX8_open_29 : decode cX8_open 29 = .ok (.getfield 10, 3) := by decide +kernel
theorem dX8_open_32 : decode cX8_open 32 = .ok (.invokevirtual 156, 3) := by decide +kernel
theorem dX8_open_35 : decode cX8_open 35 = .ok (.ireturn, 1) := by decide +kernel
theorem dX8_about_0 : decode cX8_about 0 = .ok (.iload_n 1, 1) := by decide +kernel
theorem dX8_about_1 : decode cX8_about 1 = .ok (.iconst 0, 1) := by decide +kernel
theorem dX8_about_2 : decode cX8_about 2 = .ok (.aload_n 0, 1) := by decide +kernel
theorem dX8_about_3 : decode cX8_about 3 = .ok (.getfield 10, 3) := by decide +kernel
theorem dX8_about_6 : decode cX8_about 6 = .ok (.getfield 107, 3) := by decide +kernel
theorem dX8_about_9 : decode cX8_about 9 = .ok (.iconst 1, 1) := by decide +kernel
theorem dX8_about_10 : decode cX8_about 10 = .ok (.isub, 1) := by decide +kernel
theorem dX8_about_11 : decode cX8_about 11 = .ok (.invokestatic 43, 3) := by decide +kernel
theorem dX8_about_14 : decode cX8_about 14 = .ok (.ifCond .ne 5, 3) := by decide +kernel
theorem dX8_about_17 : decode cX8_about 17 = .ok (.iconst (-1), 1) := by decide +kernel
theorem dX8_about_18 : decode cX8_about 18 = .ok (.ireturn, 1) := by decide +kernel
theorem dX8_about_19 : decode cX8_about 19 = .ok (.aload_n 0, 1) := by decide +kernel
theorem dX8_about_20 : decode cX8_about 20 = .ok (.getfield 10, 3) := by decide +kernel
theorem dX8_about_23 : decode cX8_about 23 = .ok (.getfield 114, 3) := by decide +kernel
theorem dX8_about_26 : decode cX8_about 26 = .ok (.iload_n 1, 1) := by decide +kernel
theorem dX8_about_27 : decode cX8_about 27 = .ok (.aaload, 1) := by decide +kernel
theorem dX8_about_28 : decode cX8_about 28 = .ok (.astore_n 3, 1) := by decide +kernel
theorem dX8_about_29 : decode cX8_about 29 = .ok (.iload_n 2, 1) := by decide +kernel
theorem dX8_about_30 : decode cX8_about 30 = .ok (.tableswitch 110 0 8 #[50, 55, 60, 65, 70, 75, 80, 93, 98], 50) := by decide +kernel
theorem dX8_about_80 : decode cX8_about 80 = .ok (.aload_n 3, 1) := by decide +kernel
theorem dX8_about_81 : decode cX8_about 81 = .ok (.getfield 159, 3) := by decide +kernel
theorem dX8_about_84 : decode cX8_about 84 = .ok (.ireturn, 1) := by decide +kernel
theorem dX8_about_85 : decode cX8_about 85 = .ok (.aload_n 3, 1) := by decide +kernel
theorem dX8_about_86 : decode cX8_about 86 = .ok (.getfield 162, 3) := by decide +kernel
theorem dX8_about_89 : decode cX8_about 89 = .ok (.ireturn, 1) := by decide +kernel
theorem dX8_about_90 : decode cX8_about 90 = .ok (.aload_n 3, 1) := by decide +kernel
theorem dX8_about_91 : decode cX8_about 91 = .ok (.getfield 165, 3) := by decide +kernel
theorem dX8_about_94 : decode cX8_about 94 = .ok (.ireturn, 1) := by decide +kernel
theorem dX8_about_95 : decode cX8_about 95 = .ok (.aload_n 3, 1) := by decide +kernel
theorem dX8_about_96 : decode cX8_about 96 = .ok (.getfield 168, 3) := by decide +kernel
theorem dX8_about_99 : decode cX8_about 99 = .ok (.ireturn, 1) := by decide +kernel
theorem dX8_about_100 : decode cX8_about 100 = .ok (.aload_n 3, 1) := by decide +kernel
theorem dX8_about_101 : decode cX8_about 101 = .ok (.getfield 171, 3) := by decide +kernel
theorem dX8_about_104 : decode cX8_about 104 = .ok (.ireturn, 1) := by decide +kernel
theorem dX8_about_105 : decode cX8_about 105 = .ok (.aload_n 3, 1) := by decide +kernel
theorem dX8_about_106 : decode cX8_about 106 = .ok (.getfield 174, 3) := by decide +kernel
theorem dX8_about_109 : decode cX8_about 109 = .ok (.ireturn, 1) := by decide +kernel
theorem dX8_about_110 : decode cX8_about 110 = .ok (.aload_n 3, 1) := by decide +kernel
theorem dX8_about_111 : decode cX8_about 111 = .ok (.getfield 177, 3) := by decide +kernel
theorem dX8_about_114 : decode cX8_about 114 = .ok (.ifCond .eq 7, 3) := by decide +kernel
theorem dX8_about_117 : decode cX8_about 117 = .ok (.iconst 1, 1) := by decide +kernel
theorem dX8_about_118 : decode cX8_about 118 = .ok (.goto 4, 3) := by decide +kernel
theorem dX8_about_121 : decode cX8_about 121 = .ok (.iconst 0, 1) := by decide +kernel
theorem dX8_about_122 : decode cX8_about 122 = .ok (.ireturn, 1) := by decide +kernel
theorem dX8_about_123 : decode cX8_about 123 = .ok (.aload_n 3, 1) := by decide +kernel
theorem dX8_about_124 : decode cX8_about 124 = .ok (.getfield 180, 3) := by decide +kernel
theorem dX8_about_127 : decode cX8_about 127 = .ok (.ireturn, 1) := by decide +kernel
theorem dX8_about_128 : decode cX8_about 128 = .ok (.aload_n 0, 1) := by decide +kernel
theorem dX8_about_129 : decode cX8_about 129 = .ok (.getfield 10, 3) := by decide +kernel
theorem dX8_about_132 : decode cX8_about 132 = .ok (.getfield 58, 3) := by decide +kernel
theorem dX8_about_135 : decode cX8_about 135 = .ok (.aload_n 3, 1) := by decide +kernel
theorem dX8_about_136 : decode cX8_about 136 = .ok (.invokevirtual 183, 3) := by decide +kernel
theorem dX8_about_139 : decode cX8_about 139 = .ok (.ireturn, 1) := by decide +kernel
theorem dX8_about_140 : decode cX8_about 140 = .ok (.iconst (-1), 1) := by decide +kernel
theorem dX8_about_141 : decode cX8_about 141 = .ok (.ireturn, 1) := by decide +kernel
theorem dX8_at_0 : decode cX8_at 0 = .ok (.aload_n 0, 1) := by decide +kernel
theorem dX8_at_1 : decode cX8_at 1 = .ok (.getfield 10, 3) := by decide +kernel
theorem dX8_at_4 : decode cX8_at 4 = .ok (.getfield 91, 3) := by decide +kernel
theorem dX8_at_7 : decode cX8_at 7 = .ok (.iload_n 1, 1) := by decide +kernel
theorem dX8_at_8 : decode cX8_at 8 = .ok (.iload_n 2, 1) := by decide +kernel
theorem dX8_at_9 : decode cX8_at 9 = .ok (.invokevirtual 100, 3) := by decide +kernel
theorem dX8_at_12 : decode cX8_at 12 = .ok (.ifCond .eq 22, 3) := by decide +kernel
theorem dX8_at_15 : decode cX8_at 15 = .ok (.aload_n 0, 1) := by decide +kernel
theorem dX8_at_16 : decode cX8_at 16 = .ok (.getfield 10, 3) := by decide +kernel
theorem dX8_at_19 : decode cX8_at 19 = .ok (.getfield 91, 3) := by decide +kernel
theorem dX8_at_22 : decode cX8_at 22 = .ok (.getfield 187, 3) := by decide +kernel
theorem dX8_at_25 : decode cX8_at 25 = .ok (.iload_n 1, 1) := by decide +kernel
theorem dX8_at_26 : decode cX8_at 26 = .ok (.iconst 4, 1) := by decide +kernel
theorem dX8_at_27 : decode cX8_at 27 = .ok (.imul, 1) := by decide +kernel
theorem dX8_at_28 : decode cX8_at 28 = .ok (.iload_n 2, 1) := by decide +kernel
theorem dX8_at_29 : decode cX8_at 29 = .ok (.iadd, 1) := by decide +kernel
theorem dX8_at_30 : decode cX8_at 30 = .ok (.iaload, 1) := by decide +kernel
theorem dX8_at_31 : decode cX8_at 31 = .ok (.goto 4, 3) := by decide +kernel
theorem dX8_at_34 : decode cX8_at 34 = .ok (.iconst (-1), 1) := by decide +kernel
theorem dX8_at_35 : decode cX8_at 35 = .ok (.ireturn, 1) := by decide +kernel
theorem dX8_tell_0 : decode cX8_tell 0 = .ok (.aload_n 0, 1) := by decide +kernel
theorem dX8_tell_1 : decode cX8_tell 1 = .ok (.getfield 10, 3) := by decide +kernel
theorem dX8_tell_4 : decode cX8_tell 4 = .ok (.iload_n 1, 1) := by decide +kernel
theorem dX8_tell_5 : decode cX8_tell 5 = .ok (.invokevirtual 110, 3) := by decide +kernel
theorem dX8_tell_8 : decode cX8_tell 8 = .ok (.ifCond .ne 6, 3) := by decide +kernel
theorem dX8_tell_11 : decode cX8_tell 11 = .ok (.ldc 190, 2) := by decide +kernel
theorem dX8_tell_13 : decode cX8_tell 13 = .ok (.ireturn, 1) := by decide +kernel
theorem dX8_tell_14 : decode cX8_tell 14 = .ok (.aload_n 0, 1) := by decide +kernel
theorem dX8_tell_15 : decode cX8_tell 15 = .ok (.getfield 10, 3) := by decide +kernel
theorem dX8_tell_18 : decode cX8_tell 18 = .ok (.getfield 124, 3) := by decide +kernel
theorem dX8_tell_21 : decode cX8_tell 21 = .ok (.iload_n 1, 1) := by decide +kernel
theorem dX8_tell_22 : decode cX8_tell 22 = .ok (.aaload, 1) := by decide +kernel
theorem dX8_tell_23 : decode cX8_tell 23 = .ok (.astore_n 3, 1) := by decide +kernel
theorem dX8_tell_24 : decode cX8_tell 24 = .ok (.iload_n 2, 1) := by decide +kernel
theorem dX8_tell_25 : decode cX8_tell 25 = .ok (.tableswitch 101 0 7 #[47, 52, 57, 67, 77, 82, 91, 96], 47) := by decide +kernel
theorem dX8_tell_72 : decode cX8_tell 72 = .ok (.aload_n 3, 1) := by decide +kernel
theorem dX8_tell_73 : decode cX8_tell 73 = .ok (.getfield 191, 3) := by decide +kernel
theorem dX8_tell_76 : decode cX8_tell 76 = .ok (.ireturn, 1) := by decide +kernel
theorem dX8_tell_77 : decode cX8_tell 77 = .ok (.aload_n 3, 1) := by decide +kernel
theorem dX8_tell_78 : decode cX8_tell 78 = .ok (.getfield 194, 3) := by decide +kernel
theorem dX8_tell_81 : decode cX8_tell 81 = .ok (.ireturn, 1) := by decide +kernel
theorem dX8_tell_82 : decode cX8_tell 82 = .ok (.aload_n 0, 1) := by decide +kernel
theorem dX8_tell_83 : decode cX8_tell 83 = .ok (.getfield 10, 3) := by decide +kernel
theorem dX8_tell_86 : decode cX8_tell 86 = .ok (.iload_n 1, 1) := by decide +kernel
theorem dX8_tell_87 : decode cX8_tell 87 = .ok (.iconst 0, 1) := by decide +kernel
theorem dX8_tell_88 : decode cX8_tell 88 = .ok (.invokevirtual 197, 3) := by decide +kernel
theorem dX8_tell_91 : decode cX8_tell 91 = .ok (.ireturn, 1) := by decide +kernel
theorem dX8_tell_92 : decode cX8_tell 92 = .ok (.aload_n 0, 1) := by decide +kernel
theorem dX8_tell_93 : decode cX8_tell 93 = .ok (.getfield 10, 3) := by decide +kernel
theorem dX8_tell_96 : decode cX8_tell 96 = .ok (.iload_n 1, 1) := by decide +kernel
theorem dX8_tell_97 : decode cX8_tell 97 = .ok (.iconst 1, 1) := by decide +kernel
theorem dX8_tell_98 : decode cX8_tell 98 = .ok (.invokevirtual 197, 3) := by decide +kernel
theorem dX8_tell_101 : decode cX8_tell 101 = .ok (.ireturn, 1) := by decide +kernel
theorem dX8_tell_102 : decode cX8_tell 102 = .ok (.aload_n 3, 1) := by decide +kernel
theorem dX8_tell_103 : decode cX8_tell 103 = .ok (.getfield 201, 3) := by decide +kernel
theorem dX8_tell_106 : decode cX8_tell 106 = .ok (.ireturn, 1) := by decide +kernel
theorem dX8_tell_107 : decode cX8_tell 107 = .ok (.aload_n 3, 1) := by decide +kernel
theorem dX8_tell_108 : decode cX8_tell 108 = .ok (.aload_n 3, 1) := by decide +kernel
theorem dX8_tell_109 : decode cX8_tell 109 = .ok (.invokevirtual 204, 3) := by decide +kernel
theorem dX8_tell_112 : decode cX8_tell 112 = .ok (.invokevirtual 207, 3) := by decide +kernel
theorem dX8_tell_115 : decode cX8_tell 115 = .ok (.ireturn, 1) := by decide +kernel
theorem dX8_tell_116 : decode cX8_tell 116 = .ok (.aload_n 3, 1) := by decide +kernel
theorem dX8_tell_117 : decode cX8_tell 117 = .ok (.invokevirtual 204, 3) := by decide +kernel
theorem dX8_tell_120 : decode cX8_tell 120 = .ok (.ireturn, 1) := by decide +kernel
theorem dX8_tell_121 : decode cX8_tell 121 = .ok (.aload_n 3, 1) := by decide +kernel
theorem dX8_tell_122 : decode cX8_tell 122 = .ok (.getfield 211, 3) := by decide +kernel
theorem dX8_tell_125 : decode cX8_tell 125 = .ok (.ireturn, 1) := by decide +kernel
theorem dX8_tell_126 : decode cX8_tell 126 = .ok (.ldc 190, 2) := by decide +kernel
theorem dX8_tell_128 : decode cX8_tell 128 = .ok (.ireturn, 1) := by decide +kernel
theorem dX8_order_0 : decode cX8_order 0 = .ok (.aload_n 0, 1) := by decide +kernel
theorem dX8_order_1 : decode cX8_order 1 = .ok (.getfield 10, 3) := by decide +kernel
theorem dX8_order_4 : decode cX8_order 4 = .ok (.iload_n 1, 1) := by decide +kernel
theorem dX8_order_5 : decode cX8_order 5 = .ok (.invokevirtual 110, 3) := by decide +kernel
theorem dX8_order_8 : decode cX8_order 8 = .ok (.ifCond .eq 53, 3) := by decide +kernel
theorem dX8_order_11 : decode cX8_order 11 = .ok (.aload_n 0, 1) := by decide +kernel
theorem dX8_order_12 : decode cX8_order 12 = .ok (.getfield 10, 3) := by decide +kernel
theorem dX8_order_15 : decode cX8_order 15 = .ok (.getfield 124, 3) := by decide +kernel
theorem dX8_order_18 : decode cX8_order 18 = .ok (.iload_n 1, 1) := by decide +kernel
theorem dX8_order_19 : decode cX8_order 19 = .ok (.aaload, 1) := by decide +kernel
theorem dX8_order_20 : decode cX8_order 20 = .ok (.getfield 201, 3) := by decide +kernel
theorem dX8_order_23 : decode cX8_order 23 = .ok (.bipush 8, 2) := by decide +kernel
theorem dX8_order_25 : decode cX8_order 25 = .ok (.if_icmp .ge 36, 3) := by decide +kernel
theorem dX8_order_28 : decode cX8_order 28 = .ok (.iload_n 2, 1) := by decide +kernel
theorem dX8_order_29 : decode cX8_order 29 = .ok (.iconst 1, 1) := by decide +kernel
theorem dX8_order_30 : decode cX8_order 30 = .ok (.bipush 30, 2) := by decide +kernel
theorem dX8_order_32 : decode cX8_order 32 = .ok (.invokestatic 43, 3) := by decide +kernel
theorem dX8_order_35 : decode cX8_order 35 = .ok (.ifCond .eq 26, 3) := by decide +kernel
theorem dX8_order_38 : decode cX8_order 38 = .ok (.iload_n 3, 1) := by decide +kernel
theorem dX8_order_39 : decode cX8_order 39 = .ok (.iconst 1, 1) := by decide +kernel
theorem dX8_order_40 : decode cX8_order 40 = .ok (.sipush 200, 3) := by decide +kernel
theorem dX8_order_43 : decode cX8_order 43 = .ok (.invokestatic 43, 3) := by decide +kernel
theorem dX8_order_46 : decode cX8_order 46 = .ok (.ifCond .eq 15, 3) := by decide +kernel
theorem dX8_order_49 : decode cX8_order 49 = .ok (.iload 4, 2) := by decide +kernel
theorem dX8_order_51 : decode cX8_order 51 = .ok (.iconst 1, 1) := by decide +kernel
theorem dX8_order_52 : decode cX8_order 52 = .ok (.sipush 999, 3) := by decide +kernel
theorem dX8_order_55 : decode cX8_order 55 = .ok (.invokestatic 43, 3) := by decide +kernel
theorem dX8_order_58 : decode cX8_order 58 = .ok (.ifCond .ne 5, 3) := by decide +kernel
theorem dX8_order_61 : decode cX8_order 61 = .ok (.iconst (-1), 1) := by decide +kernel
theorem dX8_order_62 : decode cX8_order 62 = .ok (.ireturn, 1) := by decide +kernel
theorem dX8_order_63 : decode cX8_order 63 = .ok (.aload_n 0, 1) := by decide +kernel
theorem dX8_order_64 : decode cX8_order 64 = .ok (.getfield 10, 3) := by decide +kernel
theorem dX8_order_67 : decode cX8_order 67 = .ok (.getfield 124, 3) := by decide +kernel
theorem dX8_order_70 : decode cX8_order 70 = .ok (.iload_n 1, 1) := by decide +kernel
theorem dX8_order_71 : decode cX8_order 71 = .ok (.aaload, 1) := by decide +kernel
theorem dX8_order_72 : decode cX8_order 72 = .ok (.astore 5, 2) := by decide +kernel
theorem dX8_order_74 : decode cX8_order 74 = .ok (.aload 5, 2) := by decide +kernel
theorem dX8_order_76 : decode cX8_order 76 = .ok (.iload_n 2, 1) := by decide +kernel
theorem dX8_order_77 : decode cX8_order 77 = .ok (.iload_n 3, 1) := by decide +kernel
theorem dX8_order_78 : decode cX8_order 78 = .ok (.iload 4, 2) := by decide +kernel
theorem dX8_order_80 : decode cX8_order 80 = .ok (.invokevirtual 214, 3) := by decide +kernel
theorem dX8_order_83 : decode cX8_order 83 = .ok (.aload 5, 2) := by decide +kernel
theorem dX8_order_85 : decode cX8_order 85 = .ok (.getfield 201, 3) := by decide +kernel
theorem dX8_order_88 : decode cX8_order 88 = .ok (.iconst 1, 1) := by decide +kernel
theorem dX8_order_89 : decode cX8_order 89 = .ok (.isub, 1) := by decide +kernel
theorem dX8_order_90 : decode cX8_order 90 = .ok (.ireturn, 1) := by decide +kernel
theorem dX8_inTime_0 : decode cX8_inTime 0 = .ok (.aload_n 0, 1) := by decide +kernel
theorem dX8_inTime_1 : decode cX8_inTime 1 = .ok (.getfield 10, 3) := by decide +kernel
theorem dX8_inTime_4 : decode cX8_inTime 4 = .ok (.iload_n 1, 1) := by decide +kernel
theorem dX8_inTime_5 : decode cX8_inTime 5 = .ok (.invokevirtual 110, 3) := by decide +kernel
theorem dX8_inTime_8 : decode cX8_inTime 8 = .ok (.ifCond .eq 39, 3) := by decide +kernel
theorem dX8_inTime_11 : decode cX8_inTime 11 = .ok (.aload_n 0, 1) := by decide +kernel
theorem dX8_inTime_12 : decode cX8_inTime 12 = .ok (.getfield 10, 3) := by decide +kernel
theorem dX8_inTime_15 : decode cX8_inTime 15 = .ok (.getfield 124, 3) := by decide +kernel
theorem dX8_inTime_18 : decode cX8_inTime 18 = .ok (.iload_n 1, 1) := by decide +kernel
theorem dX8_inTime_19 : decode cX8_inTime 19 = .ok (.aaload, 1) := by decide +kernel
theorem dX8_inTime_20 : decode cX8_inTime 20 = .ok (.iload_n 2, 1) := by decide +kernel
theorem dX8_inTime_21 : decode cX8_inTime 21 = .ok (.invokevirtual 218, 3) := by decide +kernel
theorem dX8_inTime_24 : decode cX8_inTime 24 = .ok (.ifCond .eq 23, 3) := by decide +kernel
theorem dX8_inTime_27 : decode cX8_inTime 27 = .ok (.aload_n 0, 1) := by decide +kernel
theorem dX8_inTime_28 : decode cX8_inTime 28 = .ok (.getfield 10, 3) := by decide +kernel
theorem dX8_inTime_31 : decode cX8_inTime 31 = .ok (.getfield 124, 3) := by decide +kernel
theorem dX8_inTime_34 : decode cX8_inTime 34 = .ok (.iload_n 1, 1) := by decide +kernel
theorem dX8_inTime_35 : decode cX8_inTime 35 = .ok (.aaload, 1) := by decide +kernel
theorem dX8_inTime_36 : decode cX8_inTime 36 = .ok (.iload_n 2, 1) := by decide +kernel
theorem dX8_inTime_37 : decode cX8_inTime 37 = .ok (.invokevirtual 221, 3) := by decide +kernel
theorem dX8_inTime_40 : decode cX8_inTime 40 = .ok (.ifCond .eq 7, 3) := by decide +kernel
theorem dX8_inTime_43 : decode cX8_inTime 43 = .ok (.iconst 1, 1) := by decide +kernel
theorem dX8_inTime_44 : decode cX8_inTime 44 = .ok (.goto 4, 3) := by decide +kernel
theorem dX8_inTime_47 : decode cX8_inTime 47 = .ok (.iconst 0, 1) := by decide +kernel
theorem dX8_inTime_48 : decode cX8_inTime 48 = .ok (.ireturn, 1) := by decide +kernel
theorem dX8_forget_0 : decode cX8_forget 0 = .ok (.aload_n 0, 1) := by decide +kernel
theorem dX8_forget_1 : decode cX8_forget 1 = .ok (.getfield 10, 3) := by decide +kernel
theorem dX8_forget_4 : decode cX8_forget 4 = .ok (.iload_n 1, 1) := by decide +kernel
