theorem dX8_forget_5 : decode cX8_forget 5 = .ok (.invokevirtual 110, 3) := by decide +kernel
theorem dX8_forget_8 : decode cX8_forget 8 = .ok (.ifCond .ne 5, 3) := by decide +kernel
theorem dX8_forget_11 : decode cX8_forget 11 = .ok (.iconst 0, 1) := by decide +kernel
theorem dX8_forget_12 : decode cX8_forget 12 = .ok (.ireturn, 1) := by decide +kernel
theorem dX8_forget_13 : decode cX8_forget 13 = .ok (.aload_n 0, 1) := by decide +kernel
theorem dX8_forget_14 : decode cX8_forget 14 = .ok (.getfield 10, 3) := by decide +kernel
theorem dX8_forget_17 : decode cX8_forget 17 = .ok (.getfield 124, 3) := by decide +kernel
theorem dX8_forget_20 : decode cX8_forget 20 = .ok (.iload_n 1, 1) := by decide +kernel
theorem dX8_forget_21 : decode cX8_forget 21 = .ok (.aaload, 1) := by decide +kernel
theorem dX8_forget_22 : decode cX8_forget 22 = .ok (.iconst 0, 1) := by decide +kernel
theorem dX8_forget_23 : decode cX8_forget 23 = .ok (.putfield 201, 3) := by decide +kernel
theorem dX8_forget_26 : decode cX8_forget 26 = .ok (.iconst 1, 1) := by decide +kernel
theorem dX8_forget_27 : decode cX8_forget 27 = .ok (.ireturn, 1) := by decide +kernel
theorem dX8_count_0 : decode cX8_count 0 = .ok (.iload_n 1, 1) := by decide +kernel
theorem dX8_count_1 : decode cX8_count 1 = .ok (.tableswitch 138 0 8 #[51, 59, 67, 75, 86, 97, 105, 116, 127], 51) := by decide +kernel
theorem dX8_count_52 : decode cX8_count 52 = .ok (.aload_n 0, 1) := by decide +kernel
theorem dX8_count_53 : decode cX8_count 53 = .ok (.getfield 10, 3) := by decide +kernel
theorem dX8_count_56 : decode cX8_count 56 = .ok (.getfield 74, 3) := by decide +kernel
theorem dX8_count_59 : decode cX8_count 59 = .ok (.ireturn, 1) := by decide +kernel
theorem dX8_count_60 : decode cX8_count 60 = .ok (.aload_n 0, 1) := by decide +kernel
theorem dX8_count_61 : decode cX8_count 61 = .ok (.getfield 10, 3) := by decide +kernel
theorem dX8_count_64 : decode cX8_count 64 = .ok (.getfield 107, 3) := by decide +kernel
theorem dX8_count_67 : decode cX8_count 67 = .ok (.ireturn, 1) := by decide +kernel
theorem dX8_count_68 : decode cX8_count 68 = .ok (.aload_n 0, 1) := by decide +kernel
theorem dX8_count_69 : decode cX8_count 69 = .ok (.getfield 10, 3) := by decide +kernel
theorem dX8_count_72 : decode cX8_count 72 = .ok (.invokevirtual 87, 3) := by decide +kernel
theorem dX8_count_75 : decode cX8_count 75 = .ok (.ireturn, 1) := by decide +kernel
theorem dX8_count_76 : decode cX8_count 76 = .ok (.aload_n 0, 1) := by decide +kernel
theorem dX8_count_77 : decode cX8_count 77 = .ok (.getfield 10, 3) := by decide +kernel
theorem dX8_count_80 : decode cX8_count 80 = .ok (.getfield 91, 3) := by decide +kernel
theorem dX8_count_83 : decode cX8_count 83 = .ok (.getfield 224, 3) := by decide +kernel
theorem dX8_count_86 : decode cX8_count 86 = .ok (.ireturn, 1) := by decide +kernel
theorem dX8_count_87 : decode cX8_count 87 = .ok (.aload_n 0, 1) := by decide +kernel
theorem dX8_count_88 : decode cX8_count 88 = .ok (.getfield 10, 3) := by decide +kernel
theorem dX8_count_91 : decode cX8_count 91 = .ok (.getfield 91, 3) := by decide +kernel
theorem dX8_count_94 : decode cX8_count 94 = .ok (.getfield 227, 3) := by decide +kernel
theorem dX8_count_97 : decode cX8_count 97 = .ok (.ireturn, 1) := by decide +kernel
theorem dX8_count_98 : decode cX8_count 98 = .ok (.aload_n 0, 1) := by decide +kernel
theorem dX8_count_99 : decode cX8_count 99 = .ok (.getfield 10, 3) := by decide +kernel
theorem dX8_count_102 : decode cX8_count 102 = .ok (.getfield 230, 3) := by decide +kernel
theorem dX8_count_105 : decode cX8_count 105 = .ok (.ireturn, 1) := by decide +kernel
theorem dX8_count_106 : decode cX8_count 106 = .ok (.aload_n 0, 1) := by decide +kernel
theorem dX8_count_107 : decode cX8_count 107 = .ok (.getfield 10, 3) := by decide +kernel
theorem dX8_count_110 : decode cX8_count 110 = .ok (.getfield 58, 3) := by decide +kernel
theorem dX8_count_113 : decode cX8_count 113 = .ok (.getfield 71, 3) := by decide +kernel
theorem dX8_count_116 : decode cX8_count 116 = .ok (.ireturn, 1) := by decide +kernel
theorem dX8_count_117 : decode cX8_count 117 = .ok (.aload_n 0, 1) := by decide +kernel
theorem dX8_count_118 : decode cX8_count 118 = .ok (.getfield 10, 3) := by decide +kernel
theorem dX8_count_121 : decode cX8_count 121 = .ok (.getfield 91, 3) := by decide +kernel
theorem dX8_count_124 : decode cX8_count 124 = .ok (.getfield 233, 3) := by decide +kernel
theorem dX8_count_127 : decode cX8_count 127 = .ok (.ireturn, 1) := by decide +kernel
theorem dX8_count_128 : decode cX8_count 128 = .ok (.aload_n 0, 1) := by decide +kernel
theorem dX8_count_129 : decode cX8_count 129 = .ok (.getfield 10, 3) := by decide +kernel
theorem dX8_count_132 : decode cX8_count 132 = .ok (.getfield 91, 3) := by decide +kernel
theorem dX8_count_135 : decode cX8_count 135 = .ok (.invokevirtual 236, 3) := by decide +kernel
theorem dX8_count_138 : decode cX8_count 138 = .ok (.ireturn, 1) := by decide +kernel
theorem dX8_count_139 : decode cX8_count 139 = .ok (.iconst (-1), 1) := by decide +kernel
theorem dX8_count_140 : decode cX8_count 140 = .ok (.ireturn, 1) := by decide +kernel
theorem dX8_image_0 : decode cX8_image 0 = .ok (.iload_n 1, 1) := by decide +kernel
theorem dX8_image_1 : decode cX8_image 1 = .ok (.iconst 0, 1) := by decide +kernel
theorem dX8_image_2 : decode cX8_image 2 = .ok (.iconst 2, 1) := by decide +kernel
theorem dX8_image_3 : decode cX8_image 3 = .ok (.invokestatic 43, 3) := by decide +kernel
theorem dX8_image_6 : decode cX8_image 6 = .ok (.ifCond .ne 5, 3) := by decide +kernel
theorem dX8_image_9 : decode cX8_image 9 = .ok (.iconst 0, 1) := by decide +kernel
theorem dX8_image_10 : decode cX8_image 10 = .ok (.ireturn, 1) := by decide +kernel
theorem dX8_image_11 : decode cX8_image 11 = .ok (.aload_n 0, 1) := by decide +kernel
theorem dX8_image_12 : decode cX8_image 12 = .ok (.getfield 29, 3) := by decide +kernel
theorem dX8_image_15 : decode cX8_image 15 = .ok (.iload_n 1, 1) := by decide +kernel
theorem dX8_image_16 : decode cX8_image 16 = .ok (.aaload, 1) := by decide +kernel
theorem dX8_image_17 : decode cX8_image 17 = .ok (.ifnonnull 16, 3) := by decide +kernel
theorem dX8_image_20 : decode cX8_image 20 = .ok (.aload_n 0, 1) := by decide +kernel
theorem dX8_image_21 : decode cX8_image 21 = .ok (.getfield 29, 3) := by decide +kernel
theorem dX8_image_24 : decode cX8_image 24 = .ok (.iload_n 1, 1) := by decide +kernel
theorem dX8_image_25 : decode cX8_image 25 = .ok (.new 7, 3) := by decide +kernel
theorem dX8_image_28 : decode cX8_image 28 = .ok (.dup, 1) := by decide +kernel
theorem dX8_image_29 : decode cX8_image 29 = .ok (.invokespecial 9, 3) := by decide +kernel
theorem dX8_image_32 : decode cX8_image 32 = .ok (.aastore, 1) := by decide +kernel
theorem dX8_image_33 : decode cX8_image 33 = .ok (.aload_n 0, 1) := by decide +kernel
theorem dX8_image_34 : decode cX8_image 34 = .ok (.getfield 29, 3) := by decide +kernel
theorem dX8_image_37 : decode cX8_image 37 = .ok (.iload_n 1, 1) := by decide +kernel
theorem dX8_image_38 : decode cX8_image 38 = .ok (.aaload, 1) := by decide +kernel
theorem dX8_image_39 : decode cX8_image 39 = .ok (.aload_n 0, 1) := by decide +kernel
theorem dX8_image_40 : decode cX8_image 40 = .ok (.getfield 10, 3) := by decide +kernel
theorem dX8_image_43 : decode cX8_image 43 = .ok (.invokevirtual 239, 3) := by decide +kernel
theorem dX8_image_46 : decode cX8_image 46 = .ok (.iconst 1, 1) := by decide +kernel
theorem dX8_image_47 : decode cX8_image 47 = .ok (.ireturn, 1) := by decide +kernel
theorem dX8_again_0 : decode cX8_again 0 = .ok (.iload_n 1, 1) := by decide +kernel
theorem dX8_again_1 : decode cX8_again 1 = .ok (.iconst 0, 1) := by decide +kernel
theorem dX8_again_2 : decode cX8_again 2 = .ok (.iconst 2, 1) := by decide +kernel
theorem dX8_again_3 : decode cX8_again 3 = .ok (.invokestatic 43, 3) := by decide +kernel
theorem dX8_again_6 : decode cX8_again 6 = .ok (.ifCond .eq 12, 3) := by decide +kernel
theorem dX8_again_9 : decode cX8_again 9 = .ok (.aload_n 0, 1) := by decide +kernel
theorem dX8_again_10 : decode cX8_again 10 = .ok (.getfield 29, 3) := by decide +kernel
theorem dX8_again_13 : decode cX8_again 13 = .ok (.iload_n 1, 1) := by decide +kernel
theorem dX8_again_14 : decode cX8_again 14 = .ok (.aaload, 1) := by decide +kernel
theorem dX8_again_15 : decode cX8_again 15 = .ok (.ifnonnull 5, 3) := by decide +kernel
theorem dX8_again_18 : decode cX8_again 18 = .ok (.iconst 0, 1) := by decide +kernel
theorem dX8_again_19 : decode cX8_again 19 = .ok (.ireturn, 1) := by decide +kernel
theorem dX8_again_20 : decode cX8_again 20 = .ok (.aload_n 0, 1) := by decide +kernel
theorem dX8_again_21 : decode cX8_again 21 = .ok (.getfield 10, 3) := by decide +kernel
theorem dX8_again_24 : decode cX8_again 24 = .ok (.aload_n 0, 1) := by decide +kernel
theorem dX8_again_25 : decode cX8_again 25 = .ok (.getfield 29, 3) := by decide +kernel
theorem dX8_again_28 : decode cX8_again 28 = .ok (.iload_n 1, 1) := by decide +kernel
theorem dX8_again_29 : decode cX8_again 29 = .ok (.aaload, 1) := by decide +kernel
theorem dX8_again_30 : decode cX8_again 30 = .ok (.invokevirtual 239, 3) := by decide +kernel
theorem dX8_again_33 : decode cX8_again 33 = .ok (.iconst 1, 1) := by decide +kernel
theorem dX8_again_34 : decode cX8_again 34 = .ok (.ireturn, 1) := by decide +kernel
theorem dX8_within_0 : decode cX8_within 0 = .ok (.iload_n 0, 1) := by decide +kernel
theorem dX8_within_1 : decode cX8_within 1 = .ok (.iload_n 1, 1) := by decide +kernel
theorem dX8_within_2 : decode cX8_within 2 = .ok (.if_icmp .lt 12, 3) := by decide +kernel
theorem dX8_within_5 : decode cX8_within 5 = .ok (.iload_n 0, 1) := by decide +kernel
theorem dX8_within_6 : decode cX8_within 6 = .ok (.iload_n 2, 1) := by decide +kernel
theorem dX8_within_7 : decode cX8_within 7 = .ok (.if_icmp .gt 7, 3) := by decide +kernel
theorem dX8_within_10 : decode cX8_within 10 = .ok (.iconst 1, 1) := by decide +kernel
theorem dX8_within_11 : decode cX8_within 11 = .ok (.goto 4, 3) := by decide +kernel
theorem dX8_within_14 : decode cX8_within 14 = .ok (.iconst 0, 1) := by decide +kernel
theorem dX8_within_15 : decode cX8_within 15 = .ok (.ireturn, 1) := by decide +kernel
theorem dX9_init_0 : decode cX9_init 0 = .ok (.aload_n 0, 1) := by decide +kernel
theorem dX9_init_1 : decode cX9_init 1 = .ok (.invokespecial 1, 3) := by decide +kernel
theorem dX9_init_4 : decode cX9_init 4 = .ok (.aload_n 0, 1) := by decide +kernel
theorem dX9_init_5 : decode cX9_init 5 = .ok (.sipush 4080, 3) := by decide +kernel
theorem dX9_init_8 : decode cX9_init 8 = .ok (.newarray .int, 2) := by decide +kernel
theorem dX9_init_10 : decode cX9_init 10 = .ok (.putfield 7, 3) := by decide +kernel
theorem dX9_init_13 : decode cX9_init 13 = .ok (.aload_n 0, 1) := by decide +kernel
theorem dX9_init_14 : decode cX9_init 14 = .ok (.iconst 3, 1) := by decide +kernel
theorem dX9_init_15 : decode cX9_init 15 = .ok (.newarray .boolean, 2) := by decide +kernel
theorem dX9_init_17 : decode cX9_init 17 = .ok (.putfield 13, 3) := by decide +kernel
theorem dX9_init_20 : decode cX9_init 20 = .ok (.aload_n 0, 1) := by decide +kernel
theorem dX9_init_21 : decode cX9_init 21 = .ok (.sipush 216, 3) := by decide +kernel
theorem dX9_init_24 : decode cX9_init 24 = .ok (.newarray .int, 2) := by decide +kernel
theorem dX9_init_26 : decode cX9_init 26 = .ok (.putfield 17, 3) := by decide +kernel
theorem dX9_init_29 : decode cX9_init 29 = .ok (.aload_n 0, 1) := by decide +kernel
theorem dX9_init_30 : decode cX9_init 30 = .ok (.iconst 4, 1) := by decide +kernel
theorem dX9_init_31 : decode cX9_init 31 = .ok (.newarray .int, 2) := by decide +kernel
theorem dX9_init_33 : decode cX9_init 33 = .ok (.putfield 20, 3) := by decide +kernel
theorem dX9_init_36 : decode cX9_init 36 = .ok (.aload_n 0, 1) := by decide +kernel
theorem dX9_init_37 : decode cX9_init 37 = .ok (.bipush 6, 2) := by decide +kernel
theorem dX9_init_39 : decode cX9_init 39 = .ok (.newarray .int, 2) := by decide +kernel
theorem dX9_init_41 : decode cX9_init 41 = .ok (.putfield 23, 3) := by decide +kernel
theorem dX9_init_44 : decode cX9_init 44 = .ok (.aload_n 0, 1) := by decide +kernel
theorem dX9_init_45 : decode cX9_init 45 = .ok (.getfield 7, 3) := by decide +kernel
theorem dX9_init_48 : decode cX9_init 48 = .ok (.bipush 9, 2) := by decide +kernel
theorem dX9_init_50 : decode cX9_init 50 = .ok (.iconst (-1), 1) := by decide +kernel
theorem dX9_init_51 : decode cX9_init 51 = .ok (.iastore, 1) := by decide +kernel
theorem dX9_init_52 : decode cX9_init 52 = .ok (.iconst 0, 1) := by decide +kernel
theorem dX9_init_53 : decode cX9_init 53 = .ok (.istore_n 1, 1) := by decide +kernel
theorem dX9_init_54 : decode cX9_init 54 = .ok (.iload_n 1, 1) := by decide +kernel
theorem dX9_init_55 : decode cX9_init 55 = .ok (.iconst 5, 1) := by decide +kernel
theorem dX9_init_56 : decode cX9_init 56 = .ok (.if_icmp .ge 38, 3) := by decide +kernel
theorem dX9_init_59 : decode cX9_init 59 = .ok (.aload_n 0, 1) := by decide +kernel
theorem dX9_init_60 : decode cX9_init 60 = .ok (.getfield 7, 3) := by decide +kernel
theorem dX9_init_63 : decode cX9_init 63 = .ok (.bipush 40, 2) := by decide +kernel
theorem dX9_init_65 : decode cX9_init 65 = .ok (.iconst 2, 1) := by decide +kernel
theorem dX9_init_66 : decode cX9_init 66 = .ok (.iload_n 1, 1) := by decide +kernel
theorem dX9_init_67 : decode cX9_init 67 = .ok (.imul, 1) := by decide +kernel
theorem dX9_init_68 : decode cX9_init 68 = .ok (.iadd, 1) := by decide +kernel
theorem dX9_init_69 : decode cX9_init 69 = .ok (.bipush 10, 2) := by decide +kernel
theorem dX9_init_71 : decode cX9_init 71 = .ok (.iastore, 1) := by decide +kernel
theorem dX9_init_72 : decode cX9_init 72 = .ok (.aload_n 0, 1) := by decide +kernel
theorem dX9_init_73 : decode cX9_init 73 = .ok (.getfield 7, 3) := by decide +kernel
theorem dX9_init_76 : decode cX9_init 76 = .ok (.bipush 40, 2) := by decide +kernel
theorem dX9_init_78 : decode cX9_init 78 = .ok (.iconst 2, 1) := by decide +kernel
theorem dX9_init_79 : decode cX9_init 79 = .ok (.iload_n 1, 1) := by decide +kernel
theorem dX9_init_80 : decode cX9_init 80 = .ok (.imul, 1) := by decide +kernel
theorem dX9_init_81 : decode cX9_init 81 = .ok (.iadd, 1) := by decide +kernel
theorem dX9_init_82 : decode cX9_init 82 = .ok (.iconst 1, 1) := by decide +kernel
theorem dX9_init_83 : decode cX9_init 83 = .ok (.iadd, 1) := by decide +kernel
theorem dX9_init_84 : decode cX9_init 84 = .ok (.sipush 200, 3) := by decide +kernel
theorem dX9_init_87 : decode cX9_init 87 = .ok (.iastore, 1) := by decide +kernel
theorem dX9_init_88 : decode cX9_init 88 = .ok (.iinc 1 1, 3) := by decide +kernel
theorem dX9_init_91 : decode cX9_init 91 = .ok (.goto (-37), 3) := by decide +kernel
theorem dX9_init_94 : decode cX9_init 94 = .ok (.iconst 0, 1) := by decide +kernel
theorem dX9_init_95 : decode cX9_init 95 = .ok (.istore_n 1, 1) := by decide +kernel
theorem dX9_init_96 : decode cX9_init 96 = .ok (.iload_n 1, 1) := by decide +kernel
theorem dX9_init_97 : decode cX9_init 97 = .ok (.iconst 4, 1) := by decide +kernel
theorem dX9_init_98 : decode cX9_init 98 = .ok (.if_icmp .ge 19, 3) := by decide +kernel
theorem dX9_init_101 : decode cX9_init 101 = .ok (.aload_n 0, 1) := by decide +kernel
theorem dX9_init_102 : decode cX9_init 102 = .ok (.getfield 7, 3) := by decide +kernel
theorem dX9_init_105 : decode cX9_init 105 = .ok (.bipush 50, 2) := by decide +kernel
theorem dX9_init_107 : decode cX9_init 107 = .ok (.iload_n 1, 1) := by decide +kernel
theorem dX9_init_108 : decode cX9_init 108 = .ok (.iadd, 1) := by decide +kernel
theorem dX9_init_109 : decode cX9_init 109 = .ok (.iconst 5, 1) := by decide +kernel
theorem dX9_init_110 : decode cX9_init 110 = .ok (.iastore, 1) := by decide +kernel
theorem dX9_init_111 : decode cX9_init 111 = .ok (.iinc 1 1, 3) := by decide +kernel
theorem dX9_init_114 : decode cX9_init 114 = .ok (.goto (-18), 3) := by decide +kernel
theorem dX9_init_117 : decode cX9_init 117 = .ok (.aload_n 0, 1) := by decide +kernel
theorem dX9_init_118 : decode cX9_init 118 = .ok (.iconst 3, 1) := by decide +kernel
theorem dX9_init_119 : decode cX9_init 119 = .ok (.invokevirtual 26, 3) := by decide +kernel
theorem dX9_init_122 : decode cX9_init 122 = .ok (.return_, 1) := by decide +kernel
theorem dX9_isIn_0 : decode cX9_isIn 0 = .ok (.iload_n 0, 1) := by decide +kernel
theorem dX9_isIn_1 : decode cX9_isIn 1 = .ok (.iload_n 1, 1) := by decide +kernel
theorem dX9_isIn_2 : decode cX9_isIn 2 = .ok (.if_icmp .lt 12, 3) := by decide +kernel
theorem dX9_isIn_5 : decode cX9_isIn 5 = .ok (.iload_n 0, 1) := by decide +kernel
theorem dX9_isIn_6 : decode cX9_isIn 6 = .ok (.iload_n 2, 1) := by decide +kernel
theorem dX9_isIn_7 : decode cX9_isIn 7 = .ok (.if_icmp .gt 7, 3) := by decide +kernel
theorem dX9_isIn_10 : decode cX9_isIn 10 = .ok (.iconst 1, 1) := by decide +kernel
theorem dX9_isIn_11 : decode cX9_isIn 11 = .ok (.goto 4, 3) := by decide +kernel
theorem dX9_isIn_14 : decode cX9_isIn 14 = .ok (.iconst 0, 1) := by decide +kernel
theorem dX9_isIn_15 : decode cX9_isIn 15 = .ok (.ireturn, 1) := by decide +kernel
theorem dX9_begins_0 : decode cX9_begins 0 = .ok (.aload_n 0, 1) := by decide +kernel
theorem dX9_begins_1 : decode cX9_begins 1 = .ok (.getfield 7, 3) := by decide +kernel
theorem dX9_begins_4 : decode cX9_begins 4 = .ok (.iconst 2, 1) := by decide +kernel
theorem dX9_begins_5 : decode cX9_begins 5 = .ok (.iload_n 1, 1) := by decide +kernel
theorem dX9_begins_6 : decode cX9_begins 6 = .ok (.iastore, 1) := by decide +kernel
theorem dX9_begins_7 : decode cX9_begins 7 = .ok (.iconst 0, 1) := by decide +kernel
theorem dX9_begins_8 : decode cX9_begins 8 = .ok (.istore_n 2, 1) := by decide +kernel
theorem dX9_begins_9 : decode cX9_begins 9 = .ok (.iload_n 2, 1) := by decide +kernel
theorem dX9_begins_10 : decode cX9_begins 10 = .ok (.bipush 6, 2) := by decide +kernel
theorem dX9_begins_12 : decode cX9_begins 12 = .ok (.if_icmp .ge 52, 3) := by decide +kernel
theorem dX9_begins_15 : decode cX9_begins 15 = .ok (.aload_n 0, 1) := by decide +kernel
theorem dX9_begins_16 : decode cX9_begins 16 = .ok (.getfield 7, 3) := by decide +kernel
theorem dX9_begins_19 : decode cX9_begins 19 = .ok (.bipush 10, 2) := by decide +kernel
theorem dX9_begins_21 : decode cX9_begins 21 = .ok (.iload_n 2, 1) := by decide +kernel
theorem dX9_begins_22 : decode cX9_begins 22 = .ok (.iadd, 1) := by decide +kernel
theorem dX9_begins_23 : decode cX9_begins 23 = .ok (.bipush 20, 2) := by decide +kernel
theorem dX9_begins_25 : decode cX9_begins 25 = .ok (.iastore, 1) := by decide +kernel
theorem dX9_begins_26 : decode cX9_begins 26 = .ok (.iconst 0, 1) := by decide +kernel
theorem dX9_begins_27 : decode cX9_begins 27 = .ok (.istore_n 3, 1) := by decide +kernel
theorem dX9_begins_28 : decode cX9_begins 28 = .ok (.iload_n 3, 1) := by decide +kernel
theorem dX9_begins_29 : decode cX9_begins 29 = .ok (.iconst 4, 1) := by decide +kernel
theorem dX9_begins_30 : decode cX9_begins 30 = .ok (.if_icmp .ge 28, 3) := by decide +kernel
theorem dX9_begins_33 : decode cX9_begins 33 = .ok (.aload_n 0, 1) := by decide +kernel
theorem dX9_begins_34 : decode cX9_begins 34 = .ok (.getfield 7, 3) := by decide +kernel
theorem dX9_begins_37 : decode cX9_begins 37 = .ok (.bipush 16, 2) := by decide +kernel
theorem dX9_begins_39 : decode cX9_begins 39 = .ok (.iconst 4, 1) := by decide +kernel
theorem dX9_begins_40 : decode cX9_begins 40 = .ok (.iload_n 2, 1) := by decide +kernel
theorem dX9_begins_41 : decode cX9_begins 41 = .ok (.imul, 1) := by decide +kernel
theorem dX9_begins_42 : decode cX9_begins 42 = .ok (.iadd, 1) := by decide +kernel
theorem dX9_begins_43 : decode cX9_begins 43 = .ok (.iload_n 3, 1) := by decide +kernel
theorem dX9_begins_44 : decode cX9_begins 44 = .ok (.iadd, 1) := by decide +kernel
theorem dX9_begins_45 : decode cX9_begins 45 = .ok (.bipush 10, 2) := by decide +kernel
theorem dX9_begins_47 : decode cX9_begins 47 = .ok (.iload_n 2, 1) := by decide +kernel
theorem dX9_begins_48 : decode cX9_begins 48 = .ok (.isub, 1) := by decide +kernel
theorem dX9_begins_49 : decode cX9_begins 49 = .ok (.iload_n 3, 1) := by decide +kernel
theorem dX9_begins_50 : decode cX9_begins 50 = .ok (.iadd, 1) := by decide +kernel
theorem dX9_begins_51 : decode cX9_begins 51 = .ok (.iastore, 1) := by decide +kernel
theorem dX9_begins_52 : decode cX9_begins 52 = .ok (.iinc 3 1, 3) := by decide +kernel
theorem dX9_begins_55 : decode cX9_begins 55 = .ok (.goto (-27), 3) := by decide +kernel
theorem dX9_begins_58 : decode cX9_begins 58 = .ok (.iinc 2 1, 3) := by decide +kernel
theorem dX9_begins_61 : decode cX9_begins 61 = .ok (.goto (-52), 3) := by decide +kernel
theorem dX9_begins_64 : decode cX9_begins 64 = .ok (.return_, 1) := by decide +kernel
theorem dX9_feed_0 : decode cX9_feed 0 = .ok (.aload_n 0, 1) := by decide +kernel
theorem dX9_feed_1 : decode cX9_feed 1 = .ok (.getfield 7, 3) := by decide +kernel
theorem dX9_feed_4 : decode cX9_feed 4 = .ok (.bipush 7, 2) := by decide +kernel
theorem dX9_feed_6 : decode cX9_feed 6 = .ok (.iaload, 1) := by decide +kernel
theorem dX9_feed_7 : decode cX9_feed 7 = .ok (.bipush 20, 2) := by decide +kernel
theorem dX9_feed_9 : decode cX9_feed 9 = .ok (.iadd, 1) := by decide +kernel
theorem dX9_feed_10 : decode cX9_feed 10 = .ok (.sipush 300, 3) := by decide +kernel
theorem dX9_feed_13 : decode cX9_feed 13 = .ok (.if_icmp .le 5, 3) := by decide +kernel
theorem dX9_feed_16 : decode cX9_feed 16 = .ok (.iconst (-1), 1) := by decide +kernel
theorem dX9_feed_17 : decode cX9_feed 17 = .ok (.ireturn, 1) := by decide +kernel
theorem dX9_feed_18 : decode cX9_feed 18 = .ok (.iconst 0, 1) := by decide +kernel
theorem dX9_feed_19 : decode cX9_feed 19 = .ok (.istore 6, 2) := by decide +kernel
theorem dX9_feed_21 : decode cX9_feed 21 = .ok (.iload 6, 2) := by decide +kernel
theorem dX9_feed_23 : decode cX9_feed 23 = .ok (.bipush 20, 2) := by decide +kernel
theorem dX9_feed_25 : decode cX9_feed 25 = .ok (.if_icmp .ge 101, 3) := by decide +kernel
theorem dX9_feed_28 : decode cX9_feed 28 = .ok (.iload 6, 2) := by decide +kernel
theorem dX9_feed_30 : decode cX9_feed 30 = .ok (.iconst 4, 1) := by decide +kernel
theorem dX9_feed_31 : decode cX9_feed 31 = .ok (.if_icmp .ge 7, 3) := by decide +kernel
theorem dX9_feed_34 : decode cX9_feed 34 = .ok (.iload_n 1, 1) := by decide +kernel
theorem dX9_feed_35 : decode cX9_feed 35 = .ok (.goto 39, 3) := by decide +kernel
theorem dX9_feed_38 : decode cX9_feed 38 = .ok (.iload 6, 2) := by decide +kernel
theorem dX9_feed_40 : decode cX9_feed 40 = .ok (.bipush 8, 2) := by decide +kernel
theorem dX9_feed_42 : decode cX9_feed 42 = .ok (.if_icmp .ge 7, 3) := by decide +kernel
theorem dX9_feed_45 : decode cX9_feed 45 = .ok (.iload_n 2, 1) := by decide +kernel
theorem dX9_feed_46 : decode cX9_feed 46 = .ok (.goto 28, 3) := by decide +kernel
theorem dX9_feed_49 : decode cX9_feed 49 = .ok (.iload 6, 2) := by decide +kernel
theorem dX9_feed_51 : decode cX9_feed 51 = .ok (.bipush 12, 2) := by decide +kernel
theorem dX9_feed_53 : decode cX9_feed 53 = .ok (.if_icmp .ge 7, 3) := by decide +kernel
theorem dX9_feed_56 : decode cX9_feed 56 = .ok (.iload_n 3, 1) := by decide +kernel
theorem dX9_feed_57 : decode cX9_feed 57 = .ok (.goto 17, 3) := by decide +kernel
theorem dX9_feed_60 : decode cX9_feed 60 = .ok (.iload 6, 2) := by decide +kernel
theorem dX9_feed_62 : decode cX9_feed 62 = .ok (.bipush 16, 2) := by decide +kernel
theorem dX9_feed_64 : decode cX9_feed 64 = .ok (.if_icmp .ge 8, 3) := by decide +kernel
theorem dX9_feed_67 : decode cX9_feed 67 = .ok (.iload 4, 2) := by decide +kernel
theorem dX9_feed_69 : decode cX9_feed 69 = .ok (.goto 5, 3) := by decide +kernel
theorem dX9_feed_72 : decode cX9_feed 72 = .ok (.iload 5, 2) := by decide +kernel
theorem dX9_feed_74 : decode cX9_feed 74 = .ok (.istore 7, 2) := by decide +kernel
theorem dX9_feed_76 : decode cX9_feed 76 = .ok (.aload_n 0, 1) := by decide +kernel
theorem dX9_feed_77 : decode cX9_feed 77 = .ok (.getfield 7, 3) := by decide +kernel
theorem dX9_feed_80 : decode cX9_feed 80 = .ok (.sipush 720, 3) := by decide +kernel
theorem dX9_feed_83 : decode cX9_feed 83 = .ok (.aload_n 0, 1) := by decide +kernel
theorem dX9_feed_84 : decode cX9_feed 84 = .ok (.getfield 7, 3) := by decide +kernel
theorem dX9_feed_87 : decode cX9_feed 87 = .ok (.bipush 7, 2) := by decide +kernel
theorem dX9_feed_89 : decode cX9_feed 89 = .ok (.iaload, 1) := by decide +kernel
theorem dX9_feed_90 : decode cX9_feed 90 = .ok (.iadd, 1) := by decide +kernel
theorem dX9_feed_91 : decode cX9_feed 91 = .ok (.iload 7, 2) := by decide +kernel
theorem dX9_feed_93 : decode cX9_feed 93 = .ok (.bipush 24, 2) := by decide +kernel
theorem dX9_feed_95 : decode cX9_feed 95 = .ok (.bipush 8, 2) := by decide +kernel
theorem dX9_feed_97 : decode cX9_feed 97 = .ok (.iload 6, 2) := by decide +kernel
theorem dX9_feed_99 : decode cX9_feed 99 = .ok (.iconst 4, 1) := by decide +kernel
theorem dX9_feed_100 : decode cX9_feed 100 = .ok (.irem, 1) := by decide +kernel
theorem dX9_feed_101 : decode cX9_feed 101 = .ok (.imul, 1) := by decide +kernel
theorem dX9_feed_102 : decode cX9_feed 102 = .ok (.isub, 1) := by decide +kernel
theorem dX9_feed_103 : decode cX9_feed 103 = .ok (.ishr, 1) := by decide +kernel
theorem dX9_feed_104 : decode cX9_feed 104 = .ok (.sipush 255, 3) := by decide +kernel
theorem dX9_feed_107 : decode cX9_feed 107 = .ok (.iand, 1) := by decide +kernel
theorem dX9_feed_108 : decode cX9_feed 108 = .ok (.iastore, 1) := by decide +kernel
theorem dX9_feed_109 : decode cX9_feed 109 = .ok (.aload_n 0, 1) := by decide +kernel
theorem dX9_feed_110 : decode cX9_feed 110 = .ok (.getfield 7, 3) := by decide +kernel
theorem dX9_feed_113 : decode cX9_feed 113 = .ok (.bipush 7, 2) := by decide +kernel
theorem dX9_feed_115 : decode cX9_feed 115 = .ok (.dup2, 1) := by decide +kernel
theorem dX9_feed_116 : decode cX9_feed 116 = .ok (.iaload, 1) := by decide +kernel
theorem dX9_feed_117 : decode cX9_feed 117 = .ok (.iconst 1, 1) := by decide +kernel
theorem dX9_feed_118 : decode cX9_feed 118 = .ok (.iadd, 1) := by decide +kernel
theorem dX9_feed_119 : decode cX9_feed 119 = .ok (.iastore, 1) := by decide +kernel
theorem dX9_feed_120 : decode cX9_feed 120 = .ok (.iinc 6 1, 3) := by decide +kernel
theorem dX9_feed_123 : decode cX9_feed 123 = .ok (.goto (-102), 3) := by decide +kernel
theorem dX9_feed_126 : decode cX9_feed 126 = .ok (.aload_n 0, 1) := by decide +kernel
theorem dX9_feed_127 : decode cX9_feed 127 = .ok (.getfield 7, 3) := by decide +kernel
theorem dX9_feed_130 : decode cX9_feed 130 = .ok (.bipush 7, 2) := by decide +kernel
theorem dX9_feed_132 : decode cX9_feed 132 = .ok (.iaload, 1) := by decide +kernel
theorem dX9_feed_133 : decode cX9_feed 133 = .ok (.ireturn, 1) := by decide +kernel
theorem dX9_end_0 : decode cX9_end 0 = .ok (.iload_n 1, 1) := by decide +kernel
theorem dX9_end_1 : decode cX9_end 1 = .ok (.ifCond .lt 14, 3) := by decide +kernel
theorem dX9_end_4 : decode cX9_end 4 = .ok (.iload_n 1, 1) := by decide +kernel
theorem dX9_end_5 : decode cX9_end 5 = .ok (.aload_n 0, 1) := by decide +kernel
theorem dX9_end_6 : decode cX9_end 6 = .ok (.getfield 7, 3) := by decide +kernel
theorem dX9_end_9 : decode cX9_end 9 = .ok (.bipush 7, 2) := by decide +kernel
theorem dX9_end_11 : decode cX9_end 11 = .ok (.iaload, 1) := by decide +kernel
theorem dX9_end_12 : decode cX9_end 12 = .ok (.if_icmp .le 5, 3) := by decide +kernel
theorem dX9_end_15 : decode cX9_end 15 = .ok (.iconst (-1), 1) := by decide +kernel
theorem dX9_end_16 : decode cX9_end 16 = .ok (.ireturn, 1) := by decide +kernel
theorem dX9_end_17 : decode cX9_end 17 = .ok (.aload_n 0, 1) := by decide +kernel
theorem dX9_end_18 : decode cX9_end 18 = .ok (.getfield 7, 3) := by decide +kernel
theorem dX9_end_21 : decode cX9_end 21 = .ok (.bipush 7, 2) := by decide +kernel
theorem dX9_end_23 : decode cX9_end 23 = .ok (.iload_n 1, 1) := by decide +kernel
theorem dX9_end_24 : decode cX9_end 24 = .ok (.iastore, 1) := by decide +kernel
theorem dX9_end_25 : decode cX9_end 25 = .ok (.iload_n 1, 1) := by decide +kernel
theorem dX9_end_26 : decode cX9_end 26 = .ok (.ireturn, 1) := by decide +kernel
theorem dX9_byteAt_0 : decode cX9_byteAt 0 = .ok (.iload_n 1, 1) := by decide +kernel
theorem dX9_byteAt_1 : decode cX9_byteAt 1 = .ok (.aload_n 0, 1) := by decide +kernel
theorem dX9_byteAt_2 : decode cX9_byteAt 2 = .ok (.getfield 30, 3) := by decide +kernel
theorem dX9_byteAt_5 : decode cX9_byteAt 5 = .ok (.if_icmp .ge 16, 3) := by decide +kernel
theorem dX9_byteAt_8 : decode cX9_byteAt 8 = .ok (.aload_n 0, 1) := by decide +kernel
theorem dX9_byteAt_9 : decode cX9_byteAt 9 = .ok (.getfield 7, 3) := by decide +kernel
theorem dX9_byteAt_12 : decode cX9_byteAt 12 = .ok (.sipush 720, 3) := by decide +kernel
theorem dX9_byteAt_15 : decode cX9_byteAt 15 = .ok (.iload_n 1, 1) := by decide +kernel
theorem dX9_byteAt_16 : decode cX9_byteAt 16 = .ok (.iadd, 1) := by decide +kernel
theorem dX9_byteAt_17 : decode cX9_byteAt 17 = .ok (.iaload, 1) := by decide +kernel
theorem dX9_byteAt_18 : decode cX9_byteAt 18 = .ok (.goto 4, 3) := by decide +kernel
theorem dX9_byteAt_21 : decode cX9_byteAt 21 = .ok (.iconst (-1), 1) := by decide +kernel
theorem dX9_byteAt_22 : decode cX9_byteAt 22 = .ok (.ireturn, 1) := by decide +kernel
theorem dX9_isLetter_0 : decode cX9_isLetter 0 = .ok (.iload_n 0, 1) := by decide +kernel
theorem dX9_isLetter_1 : decode cX9_isLetter 1 = .ok (.bipush 97, 2) := by decide +kernel
theorem dX9_isLetter_3 : decode cX9_isLetter 3 = .ok (.if_icmp .lt 13, 3) := by decide +kernel
theorem dX9_isLetter_6 : decode cX9_isLetter 6 = .ok (.iload_n 0, 1) := by decide +kernel
theorem dX9_isLetter_7 : decode cX9_isLetter 7 = .ok (.bipush 122, 2) := by decide +kernel
theorem dX9_isLetter_9 : decode cX9_isLetter 9 = .ok (.if_icmp .gt 7, 3) := by decide +kernel
theorem dX9_isLetter_12 : decode cX9_isLetter 12 = .ok (.iconst 1, 1) := by decide +kernel
theorem dX9_isLetter_13 : decode cX9_isLetter 13 = .ok (.goto 4, 3) := by decide +kernel
theorem dX9_isLetter_16 : decode cX9_isLetter 16 = .ok (.iconst 0, 1) := by decide +kernel
theorem dX9_isLetter_17 : decode cX9_isLetter 17 = .ok (.ireturn, 1) := by decide +kernel
theorem dX9_isDigit_0 : decode cX9_isDigit 0 = .ok (.iload_n 0, 1) := by decide +kernel
theorem dX9_isDigit_1 : decode cX9_isDigit 1 = .ok (.bipush 48, 2) := by decide +kernel
theorem dX9_isDigit_3 : decode cX9_isDigit 3 = .ok (.if_icmp .lt 13, 3) := by decide +kernel
theorem dX9_isDigit_6 : decode cX9_isDigit 6 = .ok (.iload_n 0, 1) := by decide +kernel
theorem dX9_isDigit_7 : decode cX9_isDigit 7 = .ok (.bipush 57, 2) := by decide +kernel
theorem dX9_isDigit_9 : decode cX9_isDigit 9 = .ok (.if_icmp .gt 7, 3) := by decide +kernel
theorem dX9_isDigit_12 : decode cX9_isDigit 12 = .ok (.iconst 1, 1) := by decide +kernel
theorem dX9_isDigit_13 : decode cX9_isDigit 13 = .ok (.goto 4, 3) := by decide +kernel
theorem dX9_isDigit_16 : decode cX9_isDigit 16 = .ok (.iconst 0, 1) := by decide +kernel
theorem dX9_isDigit_17 : decode cX9_isDigit 17 = .ok (.ireturn, 1) := by decide +kernel
theorem dX9_three_0 : decode cX9_three 0 = .ok (.ldc2_w 34, 3) := by decide +kernel
theorem dX9_three_3 : decode cX9_three 3 = .ok (.iload_n 0, 1) := by decide +kernel
theorem dX9_three_4 : decode cX9_three 4 = .ok (.bipush 96, 2) := by decide +kernel
theorem dX9_three_6 : decode cX9_three 6 = .ok (.isub, 1) := by decide +kernel
theorem dX9_three_7 : decode cX9_three 7 = .ok (.i2l, 1) := by decide +kernel
theorem dX9_three_8 : decode cX9_three 8 = .ok (.lmul, 1) := by decide +kernel
theorem dX9_three_9 : decode cX9_three 9 = .ok (.iload_n 1, 1) := by decide +kernel
theorem dX9_three_10 : decode cX9_three 10 = .ok (.i2l, 1) := by decide +kernel
theorem dX9_three_11 : decode cX9_three 11 = .ok (.ladd, 1) := by decide +kernel
theorem dX9_three_12 : decode cX9_three 12 = .ok (.ldc2_w 36, 3) := by decide +kernel
theorem dX9_three_15 : decode cX9_three 15 = .ok (.lsub, 1) := by decide +kernel
theorem dX9_three_16 : decode cX9_three 16 = .ok (.ldc2_w 34, 3) := by decide +kernel
theorem dX9_three_19 : decode cX9_three 19 = .ok (.lmul, 1) := by decide +kernel
theorem dX9_three_20 : decode cX9_three 20 = .ok (.iload_n 2, 1) := by decide +kernel
theorem dX9_three_21 : decode cX9_three 21 = .ok (.i2l, 1) := by decide +kernel
theorem dX9_three_22 : decode cX9_three 22 = .ok (.ladd, 1) := by decide +kernel
theorem dX9_three_23 : decode cX9_three 23 = .ok (.ldc2_w 36, 3) := by decide +kernel
theorem dX9_three_26 : decode cX9_three 26 = .ok (.lsub, 1) := by decide +kernel
theorem dX9_three_27 : decode cX9_three 27 = .ok (.lreturn, 1) := by decide +kernel
theorem dX9_four_0 : decode cX9_four 0 = .ok (.iload_n 0, 1) := by decide +kernel
theorem dX9_four_1 : decode cX9_four 1 = .ok (.iload_n 1, 1) := by decide +kernel
theorem dX9_four_2 : decode cX9_four 2 = .ok (.iload_n 2, 1) := by decide +kernel
theorem dX9_four_3 : decode cX9_four 3 = .ok (.invokestatic 38, 3) := by decide +kernel
theorem dX9_four_6 : decode cX9_four 6 = .ok (.ldc2_w 34, 3) := by decide +kernel
theorem dX9_four_9 : decode cX9_four 9 = .ok (.lmul, 1) := by decide +kernel
theorem dX9_four_10 : decode cX9_four 10 = .ok (.iload_n 3, 1) := by decide +kernel
theorem dX9_four_11 : decode cX9_four 11 = .ok (.i2l, 1) := by decide +kernel
theorem dX9_four_12 : decode cX9_four 12 = .ok (.ladd, 1) := by decide +kernel
theorem dX9_four_13 : decode cX9_four 13 = .ok (.ldc2_w 36, 3) := by decide +kernel
theorem dX9_four_16 : decode cX9_four 16 = .ok (.lsub, 1) := by decide +kernel
theorem dX9_four_17 : decode cX9_four 17 = .ok (.lreturn, 1) := by decide +kernel
theorem dX9_wordOf_0 : decode cX9_wordOf 0 = .ok (.lload_n 0, 1) := by decide +kernel
theorem dX9_wordOf_1 : decode cX9_wordOf 1 = .ok (.bipush 99, 2) := by decide +kernel
theorem dX9_wordOf_3 : decode cX9_wordOf 3 = .ok (.bipush 104, 2) := by decide +kernel
theorem dX9_wordOf_5 : decode cX9_wordOf 5 = .ok (.bipush 97, 2) := by decide +kernel
theorem dX9_wordOf_7 : decode cX9_wordOf 7 = .ok (.invokestatic 38, 3) := by decide +kernel
theorem dX9_wordOf_10 : decode cX9_wordOf 10 = .ok (.ldc2_w 42, 3) := by decide +kernel
theorem dX9_wordOf_13 : decode cX9_wordOf 13 = .ok (.lmul, 1) := by decide +kernel
theorem dX9_wordOf_14 : decode cX9_wordOf 14 = .ok (.bipush 109, 2) := by decide +kernel
theorem dX9_wordOf_16 : decode cX9_wordOf 16 = .ok (.bipush 98, 2) := by decide +kernel
theorem dX9_wordOf_18 : decode cX9_wordOf 18 = .ok (.bipush 101, 2) := by decide +kernel
theorem dX9_wordOf_20 : decode cX9_wordOf 20 = .ok (.invokestatic 38, 3) := by decide +kernel
theorem dX9_wordOf_23 : decode cX9_wordOf 23 = .ok (.ladd, 1) := by decide +kernel
theorem dX9_wordOf_24 : decode cX9_wordOf 24 = .ok (.ldc2_w 34, 3) := by decide +kernel
theorem dX9_wordOf_27 : decode cX9_wordOf 27 = .ok (.lmul, 1) := by decide +kernel
theorem dX9_wordOf_28 : decode cX9_wordOf 28 = .ok (.ldc2_w 44, 3) := by decide +kernel
theorem dX9_wordOf_31 : decode cX9_wordOf 31 = .ok (.ladd, 1) := by decide +kernel
theorem dX9_wordOf_32 : decode cX9_wordOf 32 = .ok (.ldc2_w 36, 3) := by decide +kernel
theorem dX9_wordOf_35 : decode cX9_wordOf 35 = .ok (.lsub, 1) := by decide +kernel
theorem dX9_wordOf_36 : decode cX9_wordOf 36 = .ok (.lcmp, 1) := by decide +kernel
theorem dX9_wordOf_37 : decode cX9_wordOf 37 = .ok (.ifCond .ne 5, 3) := by decide +kernel
theorem dX9_wordOf_40 : decode cX9_wordOf 40 = .ok (.iconst 1, 1) := by decide +kernel
theorem dX9_wordOf_41 : decode cX9_wordOf 41 = .ok (.ireturn, 1) := by decide +kernel
theorem dX9_wordOf_42 : decode cX9_wordOf 42 = .ok (.lload_n 0, 1) := by decide +kernel
theorem dX9_wordOf_43 : decode cX9_wordOf 43 = .ok (.bipush 115, 2) := by decide +kernel
theorem dX9_wordOf_45 : decode cX9_wordOf 45 = .ok (.bipush 112, 2) := by decide +kernel
theorem dX9_wordOf_47 : decode cX9_wordOf 47 = .ok (.bipush 111, 2) := by decide +kernel
theorem dX9_wordOf_49 : decode cX9_wordOf 49 = .ok (.bipush 116, 2) := by decide +kernel
theorem dX9_wordOf_51 : decode cX9_wordOf 51 = .ok (.invokestatic 46, 3) := by decide +kernel
theorem dX9_wordOf_54 : decode cX9_wordOf 54 = .ok (.lcmp, 1) := by decide +kernel
theorem dX9_wordOf_55 : decode cX9_wordOf 55 = .ok (.ifCond .ne 5, 3) := by decide +kernel
theorem dX9_wordOf_58 : decode cX9_wordOf 58 = .ok (.iconst 2, 1) := by decide +kernel
theorem dX9_wordOf_59 : decode cX9_wordOf 59 = .ok (.ireturn, 1) := by decide +kernel
theorem dX9_wordOf_60 : decode cX9_wordOf 60 = .ok (.lload_n 0, 1) := by decide +kernel
theorem dX9_wordOf_61 : decode cX9_wordOf 61 = .ok (.bipush 115, 2) := by decide +kernel
theorem dX9_wordOf_63 : decode cX9_wordOf 63 = .ok (.bipush 104, 2) := by decide +kernel
theorem dX9_wordOf_65 : decode cX9_wordOf 65 = .ok (.bipush 97, 2) := by decide +kernel
theorem dX9_wordOf_67 : decode cX9_wordOf 67 = .ok (.bipush 112, 2) := by decide +kernel
theorem dX9_wordOf_69 : decode cX9_wordOf 69 = .ok (.invokestatic 46, 3) := by decide +kernel
theorem dX9_wordOf_72 : decode cX9_wordOf 72 = .ok (.ldc2_w 34, 3) := by decide +kernel
theorem dX9_wordOf_75 : decode cX9_wordOf 75 = .ok (.lmul, 1) := by decide +kernel
theorem dX9_wordOf_76 : decode cX9_wordOf 76 = .ok (.ldc2_w 50, 3) := by decide +kernel
theorem dX9_wordOf_79 : decode cX9_wordOf 79 = .ok (.ladd, 1) := by decide +kernel
theorem dX9_wordOf_80 : decode cX9_wordOf 80 = .ok (.ldc2_w 36, 3) := by decide +kernel
theorem dX9_wordOf_83 : decode cX9_wordOf 83 = .ok (.lsub, 1) := by decide +kernel
theorem dX9_wordOf_84 : decode cX9_wordOf 84 = .ok (.lcmp, 1) := by decide +kernel
theorem dX9_wordOf_85 : decode cX9_wordOf 85 = .ok (.ifCond .ne 5, 3) := by decide +kernel
theorem dX9_wordOf_88 : decode cX9_wordOf 88 = .ok (.iconst 3, 1) := by decide +kernel
theorem dX9_wordOf_89 : decode cX9_wordOf 89 = .ok (.ireturn, 1) := by decide +kernel
theorem dX9_wordOf_90 : decode cX9_wordOf 90 = .ok (.lload_n 0, 1) := by decide +kernel
theorem dX9_wordOf_91 : decode cX9_wordOf 91 = .ok (.bipush 103, 2) := by decide +kernel
theorem dX9_wordOf_93 : decode cX9_wordOf 93 = .ok (.bipush 108, 2) := by decide +kernel
theorem dX9_wordOf_95 : decode cX9_wordOf 95 = .ok (.bipush 97, 2) := by decide +kernel
theorem dX9_wordOf_97 : decode cX9_wordOf 97 = .ok (.bipush 122, 2) := by decide +kernel
theorem dX9_wordOf_99 : decode cX9_wordOf 99 = .ok (.invokestatic 46, 3) := by decide +kernel
theorem dX9_wordOf_102 : decode cX9_wordOf 102 = .ok (.ldc2_w 34, 3) := by decide +kernel
theorem dX9_wordOf_105 : decode cX9_wordOf 105 = .ok (.lmul, 1) := by decide +kernel
theorem dX9_wordOf_106 : decode cX9_wordOf 106 = .ok (.ldc2_w 50, 3) := by decide +kernel
theorem dX9_wordOf_109 : decode cX9_wordOf 109 = .ok (.ladd, 1) := by decide +kernel
theorem dX9_wordOf_110 : decode cX9_wordOf 110 = .ok (.ldc2_w 36, 3) := by decide +kernel
theorem dX9_wordOf_113 : decode cX9_wordOf 113 = .ok (.lsub, 1) := by decide +kernel
theorem dX9_wordOf_114 : decode cX9_wordOf 114 = .ok (.lcmp, 1) := by decide +kernel
theorem dX9_wordOf_115 : decode cX9_wordOf 115 = .ok (.ifCond .ne 5, 3) := by decide +kernel
theorem dX9_wordOf_118 : decode cX9_wordOf 118 = .ok (.iconst 4, 1) := by decide +kernel
theorem dX9_wordOf_119 : decode cX9_wordOf 119 = .ok (.ireturn, 1) := by decide +kernel
theorem dX9_wordOf_120 : decode cX9_wordOf 120 = .ok (.lload_n 0, 1) := by decide +kernel
theorem dX9_wordOf_121 : decode cX9_wordOf 121 = .ok (.bipush 104, 2) := by decide +kernel
theorem dX9_wordOf_123 : decode cX9_wordOf 123 = .ok (.bipush 111, 2) := by decide +kernel
theorem dX9_wordOf_125 : decode cX9_wordOf 125 = .ok (.bipush 117, 2) := by decide +kernel
theorem dX9_wordOf_127 : decode cX9_wordOf 127 = .ok (.bipush 115, 2) := by decide +kernel
theorem dX9_wordOf_129 : decode cX9_wordOf 129 = .ok (.invokestatic 46, 3) := by decide +kernel
theorem dX9_wordOf_132 : decode cX9_wordOf 132 = .ok (.ldc2_w 34, 3) := by decide +kernel
theorem dX9_wordOf_135 : decode cX9_wordOf 135 = .ok (.lmul, 1) := by decide +kernel
theorem dX9_wordOf_136 : decode cX9_wordOf 136 = .ok (.ldc2_w 50, 3) := by decide +kernel
theorem dX9_wordOf_139 : decode cX9_wordOf 139 = .ok (.ladd, 1) := by decide +kernel
theorem dX9_wordOf_140 : decode cX9_wordOf 140 = .ok (.ldc2_w 36, 3) := by decide +kernel
theorem dX9_wordOf_143 : decode cX9_wordOf 143 = .ok (.lsub, 1) := by decide +kernel
theorem dX9_wordOf_144 : decode cX9_wordOf 144 = .ok (.lcmp, 1) := by decide +kernel
theorem dX9_wordOf_145 : decode cX9_wordOf 145 = .ok (.ifCond .ne 5, 3) := by decide +kernel
theorem dX9_wordOf_148 : decode cX9_wordOf 148 = .ok (.iconst 5, 1) := by decide +kernel
theorem dX9_wordOf_149 : decode cX9_wordOf 149 = .ok (.ireturn, 1) := by decide +kernel
theorem dX9_wordOf_150 : decode cX9_wordOf 150 = .ok (.lload_n 0, 1) := by decide +kernel
theorem dX9_wordOf_151 : decode cX9_wordOf 151 = .ok (.bipush 119, 2) := by decide +kernel
theorem dX9_wordOf_153 : decode cX9_wordOf 153 = .ok (.bipush 101, 2) := by decide +kernel
theorem dX9_wordOf_155 : decode cX9_wordOf 155 = .ok (.bipush 116, 2) := by decide +kernel
theorem dX9_wordOf_157 : decode cX9_wordOf 157 = .ok (.invokestatic 38, 3) := by decide +kernel
theorem dX9_wordOf_160 : decode cX9_wordOf 160 = .ok (.lcmp, 1) := by decide +kernel
theorem dX9_wordOf_161 : decode cX9_wordOf 161 = .ok (.ifCond .ne 6, 3) := by decide +kernel
theorem dX9_wordOf_164 : decode cX9_wordOf 164 = .ok (.bipush 6, 2) := by decide +kernel
theorem dX9_wordOf_166 : decode cX9_wordOf 166 = .ok (.ireturn, 1) := by decide +kernel
theorem dX9_wordOf_167 : decode cX9_wordOf 167 = .ok (.lload_n 0, 1) := by decide +kernel
theorem dX9_wordOf_168 : decode cX9_wordOf 168 = .ok (.bipush 114, 2) := by decide +kernel
theorem dX9_wordOf_170 : decode cX9_wordOf 170 = .ok (.bipush 105, 2) := by decide +kernel
theorem dX9_wordOf_172 : decode cX9_wordOf 172 = .ok (.bipush 112, 2) := by decide +kernel
theorem dX9_wordOf_174 : decode cX9_wordOf 174 = .ok (.bipush 101, 2) := by decide +kernel
theorem dX9_wordOf_176 : decode cX9_wordOf 176 = .ok (.invokestatic 46, 3) := by decide +kernel
theorem dX9_wordOf_179 : decode cX9_wordOf 179 = .ok (.lcmp, 1) := by decide +kernel
theorem dX9_wordOf_180 : decode cX9_wordOf 180 = .ok (.ifCond .ne 6, 3) := by decide +kernel
theorem dX9_wordOf_183 : decode cX9_wordOf 183 = .ok (.bipush 7, 2) := by decide +kernel
theorem dX9_wordOf_185 : decode cX9_wordOf 185 = .ok (.ireturn, 1) := by decide +kernel
theorem dX9_wordOf_186 : decode cX9_wordOf 186 = .ok (.lload_n 0, 1) := by decide +kernel
theorem dX9_wordOf_187 : decode cX9_wordOf 187 = .ok (.bipush 98, 2) := by decide +kernel
theorem dX9_wordOf_189 : decode cX9_wordOf 189 = .ok (.bipush 101, 2) := by decide +kernel
theorem dX9_wordOf_191 : decode cX9_wordOf 191 = .ok (.bipush 97, 2) := by decide +kernel
theorem dX9_wordOf_193 : decode cX9_wordOf 193 = .ok (.bipush 114, 2) := by decide +kernel
theorem dX9_wordOf_195 : decode cX9_wordOf 195 = .ok (.invokestatic 46, 3) := by decide +kernel
theorem dX9_wordOf_198 : decode cX9_wordOf 198 = .ok (.lcmp, 1) := by decide +kernel
theorem dX9_wordOf_199 : decode cX9_wordOf 199 = .ok (.ifCond .ne 6, 3) := by decide +kernel
theorem dX9_wordOf_202 : decode cX9_wordOf 202 = .ok (.bipush 20, 2) := by decide +kernel
theorem dX9_wordOf_204 : decode cX9_wordOf 204 = .ok (.ireturn, 1) := by decide +kernel
theorem dX9_wordOf_205 : decode cX9_wordOf 205 = .ok (.lload_n 0, 1) := by decide +kernel
theorem dX9_wordOf_206 : decode cX9_wordOf 206 = .ok (.bipush 112, 2) := by decide +kernel
theorem dX9_wordOf_208 : decode cX9_wordOf 208 = .ok (.bipush 97, 2) := by decide +kernel
theorem dX9_wordOf_210 : decode cX9_wordOf 210 = .ok (.bipush 114, 2) := by decide +kernel
theorem dX9_wordOf_212 : decode cX9_wordOf 212 = .ok (.bipush 116, 2) := by decide +kernel
theorem dX9_wordOf_214 : decode cX9_wordOf 214 = .ok (.invokestatic 46, 3) := by decide +kernel
theorem dX9_wordOf_217 : decode cX9_wordOf 217 = .ok (.lcmp, 1) := by decide +kernel
theorem dX9_wordOf_218 : decode cX9_wordOf 218 = .ok (.ifCond .ne 6, 3) := by decide +kernel
theorem dX9_wordOf_221 : decode cX9_wordOf 221 = .ok (.bipush 21, 2) := by decide +kernel
theorem dX9_wordOf_223 : decode cX9_wordOf 223 = .ok (.ireturn, 1) := by decide +kernel
theorem dX9_wordOf_224 : decode cX9_wordOf 224 = .ok (.lload_n 0, 1) := by decide +kernel
theorem dX9_wordOf_225 : decode cX9_wordOf 225 = .ok (.ldc2_w 52, 3) := by decide +kernel
theorem dX9_wordOf_228 : decode cX9_wordOf 228 = .ok (.lcmp, 1) := by decide +kernel
theorem dX9_wordOf_229 : decode cX9_wordOf 229 = .ok (.ifCond .ne 6, 3) := by decide +kernel
theorem dX9_wordOf_232 : decode cX9_wordOf 232 = .ok (.bipush 30, 2) := by decide +kernel
theorem dX9_wordOf_234 : decode cX9_wordOf 234 = .ok (.ireturn, 1) := by decide +kernel
theorem dX9_wordOf_235 : decode cX9_wordOf 235 = .ok (.lload_n 0, 1) := by decide +kernel
theorem dX9_wordOf_236 : decode cX9_wordOf 236 = .ok (.bipush 97, 2) := by decide +kernel
theorem dX9_wordOf_238 : decode cX9_wordOf 238 = .ok (.bipush 110, 2) := by decide +kernel
theorem dX9_wordOf_240 : decode cX9_wordOf 240 = .ok (.bipush 100, 2) := by decide +kernel
theorem dX9_wordOf_242 : decode cX9_wordOf 242 = .ok (.invokestatic 38, 3) := by decide +kernel
theorem dX9_wordOf_245 : decode cX9_wordOf 245 = .ok (.lcmp, 1) := by decide +kernel
theorem dX9_wordOf_246 : decode cX9_wordOf 246 = .ok (.ifCond .ne 6, 3) := by decide +kernel
theorem dX9_wordOf_249 : decode cX9_wordOf 249 = .ok (.bipush 31, 2) := by decide +kernel
theorem dX9_wordOf_251 : decode cX9_wordOf 251 = .ok (.ireturn, 1) := by decide +kernel
theorem dX9_wordOf_252 : decode cX9_wordOf 252 = .ok (.lload_n 0, 1) := by decide +kernel
theorem dX9_wordOf_253 : decode cX9_wordOf 253 = .ok (.bipush 110, 2) := by decide +kernel
theorem dX9_wordOf_255 : decode cX9_wordOf 255 = .ok (.bipush 111, 2) := by decide +kernel
theorem dX9_wordOf_257 : decode cX9_wordOf 257 = .ok (.bipush 116, 2) := by decide +kernel
theorem dX9_wordOf_259 : decode cX9_wordOf 259 = .ok (.invokestatic 38, 3) := by decide +kernel
theorem dX9_wordOf_262 : decode cX9_wordOf 262 = .ok (.lcmp, 1) := by decide +kernel
theorem dX9_wordOf_263 : decode cX9_wordOf 263 = .ok (.ifCond .ne 6, 3) := by decide +kernel
theorem dX9_wordOf_266 : decode cX9_wordOf 266 = .ok (.bipush 32, 2) := by decide +kernel
theorem dX9_wordOf_268 : decode cX9_wordOf 268 = .ok (.ireturn, 1) := by decide +kernel
theorem dX9_wordOf_269 : decode cX9_wordOf 269 = .ok (.bipush 99, 2) := by decide +kernel
theorem dX9_wordOf_271 : decode cX9_wordOf 271 = .ok (.ireturn, 1) := by decide +kernel
theorem dX9_isSignByte_0 : decode cX9_isSignByte 0 = .ok (.iload_n 0, 1) := by decide +kernel
theorem dX9_isSignByte_1 : decode cX9_isSignByte 1 = .ok (.bipush 58, 2) := by decide +kernel
theorem dX9_isSignByte_3 : decode cX9_isSignByte 3 = .ok (.if_icmp .eq 27, 3) := by decide +kernel
theorem dX9_isSignByte_6 : decode cX9_isSignByte 6 = .ok (.iload_n 0, 1) := by decide +kernel
theorem dX9_isSignByte_7 : decode cX9_isSignByte 7 = .ok (.bipush 59, 2) := by decide +kernel
theorem dX9_isSignByte_9 : decode cX9_isSignByte 9 = .ok (.if_icmp .eq 21, 3) := by decide +kernel
theorem dX9_isSignByte_12 : decode cX9_isSignByte 12 = .ok (.iload_n 0, 1) := by decide +kernel
theorem dX9_isSignByte_13 : decode cX9_isSignByte 13 = .ok (.bipush 60, 2) := by decide +kernel
theorem dX9_isSignByte_15 : decode cX9_isSignByte 15 = .ok (.if_icmp .eq 15, 3) := by decide +kernel
theorem dX9_isSignByte_18 : decode cX9_isSignByte 18 = .ok (.iload_n 0, 1) := by decide +kernel
theorem dX9_isSignByte_19 : decode cX9_isSignByte 19 = .ok (.bipush 62, 2) := by decide +kernel
theorem dX9_isSignByte_21 : decode cX9_isSignByte 21 = .ok (.if_icmp .eq 9, 3) := by decide +kernel
theorem dX9_isSignByte_24 : decode cX9_isSignByte 24 = .ok (.iload_n 0, 1) := by decide +kernel
theorem dX9_isSignByte_25 : decode cX9_isSignByte 25 = .ok (.bipush 61, 2) := by decide +kernel
theorem dX9_isSignByte_27 : decode cX9_isSignByte 27 = .ok (.if_icmp .ne 7, 3) := by decide +kernel
theorem dX9_isSignByte_30 : decode cX9_isSignByte 30 = .ok (.iconst 1, 1) := by decide +kernel
theorem dX9_isSignByte_31 : decode cX9_isSignByte 31 = .ok (.goto 4, 3) := by decide +kernel
theorem dX9_isSignByte_34 : decode cX9_isSignByte 34 = .ok (.iconst 0, 1) := by decide +kernel
theorem dX9_isSignByte_35 : decode cX9_isSignByte 35 = .ok (.ireturn, 1) := by decide +kernel
theorem dX9_advance_0 : decode cX9_advance 0 = .ok (.aload_n 0, 1) := by decide +kernel
theorem dX9_advance_1 : decode cX9_advance 1 = .ok (.aload_n 0, 1) := by decide +kernel
theorem dX9_advance_2 : decode cX9_advance 2 = .ok (.getfield 54, 3) := by decide +kernel
theorem dX9_advance_5 : decode cX9_advance 5 = .ok (.invokevirtual 57, 3) := by decide +kernel
theorem dX9_advance_8 : decode cX9_advance 8 = .ok (.bipush 10, 2) := by decide +kernel
theorem dX9_advance_10 : decode cX9_advance 10 = .ok (.if_icmp .eq 16, 3) := by decide +kernel
theorem dX9_advance_13 : decode cX9_advance 13 = .ok (.aload_n 0, 1) := by decide +kernel
theorem dX9_advance_14 : decode cX9_advance 14 = .ok (.aload_n 0, 1) := by decide +kernel
theorem dX9_advance_15 : decode cX9_advance 15 = .ok (.getfield 54, 3) := by decide +kernel
theorem dX9_advance_18 : decode cX9_advance 18 = .ok (.invokevirtual 57, 3) := by decide +kernel
theorem dX9_advance_21 : decode cX9_advance 21 = .ok (.bipush 32, 2) := by decide +kernel
theorem dX9_advance_23 : decode cX9_advance 23 = .ok (.if_icmp .ne 16, 3) := by decide +kernel
theorem dX9_advance_26 : decode cX9_advance 26 = .ok (.aload_n 0, 1) := by decide +kernel
theorem dX9_advance_27 : decode cX9_advance 27 = .ok (.dup, 1) := by decide +kernel
theorem dX9_advance_28 : decode cX9_advance 28 = .ok (.getfield 54, 3) := by decide +kernel
theorem dX9_advance_31 : decode cX9_advance 31 = .ok (.iconst 1, 1) := by decide +kernel
theorem dX9_advance_32 : decode cX9_advance 32 = .ok (.iadd, 1) := by decide +kernel
theorem dX9_advance_33 : decode cX9_advance 33 = .ok (.putfield 54, 3) := by decide +kernel
theorem dX9_advance_36 : decode cX9_advance 36 = .ok (.goto (-36), 3) := by decide +kernel
theorem dX9_advance_39 : decode cX9_advance 39 = .ok (.aload_n 0, 1) := by decide +kernel
theorem dX9_advance_40 : decode cX9_advance 40 = .ok (.aload_n 0, 1) := by decide +kernel
theorem dX9_advance_41 : decode cX9_advance 41 = .ok (.getfield 54, 3) := by decide +kernel
theorem dX9_advance_44 : decode cX9_advance 44 = .ok (.putfield 61, 3) := by decide +kernel
theorem dX9_advance_47 : decode cX9_advance 47 = .ok (.aload_n 0, 1) := by decide +kernel
theorem dX9_advance_48 : decode cX9_advance 48 = .ok (.aload_n 0, 1) := by decide +kernel
theorem dX9_advance_49 : decode cX9_advance 49 = .ok (.getfield 54, 3) := by decide +kernel
theorem dX9_advance_52 : decode cX9_advance 52 = .ok (.invokevirtual 57, 3) := by decide +kernel
theorem dX9_advance_55 : decode cX9_advance 55 = .ok (.istore_n 1, 1) := by decide +kernel
theorem dX9_advance_56 : decode cX9_advance 56 = .ok (.iload_n 1, 1) := by decide +kernel
theorem dX9_advance_57 : decode cX9_advance 57 = .ok (.ifCond .ge 11, 3) := by decide +kernel
theorem dX9_advance_60 : decode cX9_advance 60 = .ok (.aload_n 0, 1) := by decide +kernel
theorem dX9_advance_61 : decode cX9_advance 61 = .ok (.iconst 0, 1) := by decide +kernel
theorem dX9_advance_62 : decode cX9_advance 62 = .ok (.putfield 64, 3) := by decide +kernel
theorem dX9_advance_65 : decode cX9_advance 65 = .ok (.goto 252, 3) := by decide +kernel
theorem dX9_advance_68 : decode cX9_advance 68 = .ok (.iload_n 1, 1) := by decide +kernel
theorem dX9_advance_69 : decode cX9_advance 69 = .ok (.invokestatic 67, 3) := by decide +kernel
theorem dX9_advance_72 : decode cX9_advance 72 = .ok (.ifCond .eq 114, 3) := by decide +kernel
theorem dX9_advance_75 : decode cX9_advance 75 = .ok (.lconst 0, 1) := by decide +kernel
theorem dX9_advance_76 : decode cX9_advance 76 = .ok (.lstore_n 2, 1) := by decide +kernel
theorem dX9_advance_77 : decode cX9_advance 77 = .ok (.aload_n 0, 1) := by decide +kernel
theorem dX9_advance_78 : decode cX9_advance 78 = .ok (.aload_n 0, 1) := by decide +kernel
theorem dX9_advance_79 : decode cX9_advance 79 = .ok (.getfield 54, 3) := by decide +kernel
theorem dX9_advance_82 : decode cX9_advance 82 = .ok (.invokevirtual 57, 3) := by decide +kernel
theorem dX9_advance_85 : decode cX9_advance 85 = .ok (.invokestatic 67, 3) := by decide +kernel
theorem dX9_advance_88 : decode cX9_advance 88 = .ok (.ifCond .eq 50, 3) := by decide +kernel
theorem dX9_advance_91 : decode cX9_advance 91 = .ok (.aload_n 0, 1) := by decide +kernel
theorem dX9_advance_92 : decode cX9_advance 92 = .ok (.getfield 54, 3) := by decide +kernel
theorem dX9_advance_95 : decode cX9_advance 95 = .ok (.aload_n 0, 1) := by decide +kernel
theorem dX9_advance_96 : decode cX9_advance 96 = .ok (.getfield 61, 3) := by decide +kernel
theorem dX9_advance_99 : decode cX9_advance 99 = .ok (.isub, 1) := by decide +kernel
theorem dX9_advance_100 : decode cX9_advance 100 = .ok (.bipush 8, 2) := by decide +kernel
theorem dX9_advance_102 : decode cX9_advance 102 = .ok (.if_icmp .ge 23, 3) := by decide +kernel
theorem dX9_advance_105 : decode cX9_advance 105 = .ok (.ldc2_w 34, 3) := by decide +kernel
theorem dX9_advance_108 : decode cX9_advance 108 = .ok (.lload_n 2, 1) := by decide +kernel
theorem dX9_advance_109 : decode cX9_advance 109 = .ok (.lmul, 1) := by decide +kernel
theorem dX9_advance_110 : decode cX9_advance 110 = .ok (.aload_n 0, 1) := by decide +kernel
theorem dX9_advance_111 : decode cX9_advance 111 = .ok (.aload_n 0, 1) := by decide +kernel
theorem dX9_advance_112 : decode cX9_advance 112 = .ok (.getfield 54, 3) := by decide +kernel
theorem dX9_advance_115 : decode cX9_advance 115 = .ok (.invokevirtual 57, 3) := by decide +kernel
theorem dX9_advance_118 : decode cX9_advance 118 = .ok (.i2l, 1) := by decide +kernel
theorem dX9_advance_119 : decode cX9_advance 119 = .ok (.ladd, 1) := by decide +kernel
theorem dX9_advance_120 : decode cX9_advance 120 = .ok (.ldc2_w 36, 3) := by decide +kernel
theorem dX9_advance_123 : decode cX9_advance 123 = .ok (.lsub, 1) := by decide +kernel
theorem dX9_advance_124 : decode cX9_advance 124 = .ok (.lstore_n 2, 1) := by decide +kernel
theorem dX9_advance_125 : decode cX9_advance 125 = .ok (.aload_n 0, 1) := by decide +kernel
theorem dX9_advance_126 : decode cX9_advance 126 = .ok (.dup, 1) := by decide +kernel
theorem dX9_advance_127 : decode cX9_advance 127 = .ok (.getfield 54, 3) := by decide +kernel
theorem dX9_advance_130 : decode cX9_advance 130 = .ok (.iconst 1, 1) := by decide +kernel
theorem dX9_advance_131 : decode cX9_advance 131 = .ok (.iadd, 1) := by decide +kernel
theorem dX9_advance_132 : decode cX9_advance 132 = .ok (.putfield 54, 3) := by decide +kernel
theorem dX9_advance_135 : decode cX9_advance 135 = .ok (.goto (-58), 3) := by decide +kernel
theorem dX9_advance_138 : decode cX9_advance 138 = .ok (.aload_n 0, 1) := by decide +kernel
theorem dX9_advance_139 : decode cX9_advance 139 = .ok (.aload_n 0, 1) := by decide +kernel
theorem dX9_advance_140 : decode cX9_advance 140 = .ok (.getfield 54, 3) := by decide +kernel
theorem dX9_advance_143 : decode cX9_advance 143 = .ok (.aload_n 0, 1) := by decide +kernel
theorem dX9_advance_144 : decode cX9_advance 144 = .ok (.getfield 61, 3) := by decide +kernel
theorem dX9_advance_147 : decode cX9_advance 147 = .ok (.isub, 1) := by decide +kernel
theorem dX9_advance_148 : decode cX9_advance 148 = .ok (.bipush 7, 2) := by decide +kernel
theorem dX9_advance_150 : decode cX9_advance 150 = .ok (.if_icmp .le 8, 3) := by decide +kernel
theorem dX9_advance_153 : decode cX9_advance 153 = .ok (.bipush 99, 2) := by decide +kernel
theorem dX9_advance_155 : decode cX9_advance 155 = .ok (.goto 7, 3) := by decide +kernel
theorem dX9_advance_158 : decode cX9_advance 158 = .ok (.lload_n 2, 1) := by decide +kernel
theorem dX9_advance_159 : decode cX9_advance 159 = .ok (.invokestatic 71, 3) := by decide +kernel
theorem dX9_advance_162 : decode cX9_advance 162 = .ok (.putfield 75, 3) := by decide +kernel
theorem dX9_advance_165 : decode cX9_advance 165 = .ok (.aload_n 0, 1) := by decide +kernel
theorem dX9_advance_166 : decode cX9_advance 166 = .ok (.aload_n 0, 1) := by decide +kernel
theorem dX9_advance_167 : decode cX9_advance 167 = .ok (.getfield 75, 3) := by decide +kernel
theorem dX9_advance_170 : decode cX9_advance 170 = .ok (.bipush 99, 2) := by decide +kernel
theorem dX9_advance_172 : decode cX9_advance 172 = .ok (.if_icmp .ne 7, 3) := by decide +kernel
theorem dX9_advance_175 : decode cX9_advance 175 = .ok (.iconst 4, 1) := by decide +kernel
theorem dX9_advance_176 : decode cX9_advance 176 = .ok (.goto 4, 3) := by decide +kernel
theorem dX9_advance_179 : decode cX9_advance 179 = .ok (.iconst 3, 1) := by decide +kernel
theorem dX9_advance_180 : decode cX9_advance 180 = .ok (.putfield 64, 3) := by decide +kernel
theorem dX9_advance_183 : decode cX9_advance 183 = .ok (.goto 134, 3) := by decide +kernel
theorem dX9_advance_186 : decode cX9_advance 186 = .ok (.iload_n 1, 1) := by decide +kernel
theorem dX9_advance_187 : decode cX9_advance 187 = .ok (.invokestatic 78, 3) := by decide +kernel
theorem dX9_advance_190 : decode cX9_advance 190 = .ok (.ifCond .eq 96, 3) := by decide +kernel
theorem dX9_advance_193 : decode cX9_advance 193 = .ok (.aload_n 0, 1) := by decide +kernel
theorem dX9_advance_194 : decode cX9_advance 194 = .ok (.iconst 0, 1) := by decide +kernel
theorem dX9_advance_195 : decode cX9_advance 195 = .ok (.putfield 81, 3) := by decide +kernel
theorem dX9_advance_198 : decode cX9_advance 198 = .ok (.aload_n 0, 1) := by decide +kernel
theorem dX9_advance_199 : decode cX9_advance 199 = .ok (.aload_n 0, 1) := by decide +kernel
theorem dX9_advance_200 : decode cX9_advance 200 = .ok (.getfield 54, 3) := by decide +kernel
theorem dX9_advance_203 : decode cX9_advance 203 = .ok (.invokevirtual 57, 3) := by decide +kernel
theorem dX9_advance_206 : decode cX9_advance 206 = .ok (.invokestatic 78, 3) := by decide +kernel
theorem dX9_advance_209 : decode cX9_advance 209 = .ok (.ifCond .eq 52, 3) := by decide +kernel
theorem dX9_advance_212 : decode cX9_advance 212 = .ok (.aload_n 0, 1) := by decide +kernel
theorem dX9_advance_213 : decode cX9_advance 213 = .ok (.getfield 54, 3) := by decide +kernel
theorem dX9_advance_216 : decode cX9_advance 216 = .ok (.aload_n 0, 1) := by decide +kernel
theorem dX9_advance_217 : decode cX9_advance 217 = .ok (.getfield 61, 3) := by decide +kernel
theorem dX9_advance_220 : decode cX9_advance 220 = .ok (.isub, 1) := by decide +kernel
theorem dX9_advance_221 : decode cX9_advance 221 = .ok (.iconst 3, 1) := by decide +kernel
theorem dX9_advance_222 : decode cX9_advance 222 = .ok (.if_icmp .ge 26, 3) := by decide +kernel
theorem dX9_advance_225 : decode cX9_advance 225 = .ok (.aload_n 0, 1) := by decide +kernel
theorem dX9_advance_226 : decode cX9_advance 226 = .ok (.bipush 10, 2) := by decide +kernel
theorem dX9_advance_228 : decode cX9_advance 228 = .ok (.aload_n 0, 1) := by decide +kernel
theorem dX9_advance_229 : decode cX9_advance 229 = .ok (.getfield 81, 3) := by decide +kernel
theorem dX9_advance_232 : decode cX9_advance 232 = .ok (.imul, 1) := by decide +kernel
theorem dX9_advance_233 : decode cX9_advance 233 = .ok (.aload_n 0, 1) := by decide +kernel
theorem dX9_advance_234 : decode cX9_advance 234 = .ok (.aload_n 0, 1) := by decide +kernel
theorem dX9_advance_235 : decode cX9_advance 235 = .ok (.getfield 54, 3) := by decide +kernel
theorem dX9_advance_238 : decode cX9_advance 238 = .ok (.invokevirtual 57, 3) := by decide +kernel
theorem dX9_advance_241 : decode cX9_advance 241 = .ok (.iadd, 1) := by decide +kernel
theorem dX9_advance_242 : decode cX9_advance 242 = .ok (.bipush 48, 2) := by decide +kernel
theorem dX9_advance_244 : decode cX9_advance 244 = .ok (.isub, 1) := by decide +kernel
theorem dX9_advance_245 : decode cX9_advance 245 = .ok (.putfield 81, 3) := by decide +kernel
theorem dX9_advance_248 : decode cX9_advance 248 = .ok (.aload_n 0, 1) := by decide +kernel
theorem dX9_advance_249 : decode cX9_advance 249 = .ok (.dup, 1) := by decide +kernel
theorem dX9_advance_250 : decode cX9_advance 250 = .ok (.getfield 54, 3) := by decide +kernel
theorem dX9_advance_253 : decode cX9_advance 253 = .ok (.iconst 1, 1) := by decide +kernel
theorem dX9_advance_254 : decode cX9_advance 254 = .ok (.iadd, 1) := by decide +kernel
theorem dX9_advance_255 : decode cX9_advance 255 = .ok (.putfield 54, 3) := by decide +kernel
theorem dX9_advance_258 : decode cX9_advance 258 = .ok (.goto (-60), 3) := by decide +kernel
theorem dX9_advance_261 : decode cX9_advance 261 = .ok (.aload_n 0, 1) := by decide +kernel
theorem dX9_advance_262 : decode cX9_advance 262 = .ok (.aload_n 0, 1) := by decide +kernel
theorem dX9_advance_263 : decode cX9_advance 263 = .ok (.getfield 54, 3) := by decide +kernel
theorem dX9_advance_266 : decode cX9_advance 266 = .ok (.aload_n 0, 1) := by decide +kernel
theorem dX9_advance_267 : decode cX9_advance 267 = .ok (.getfield 61, 3) := by decide +kernel
theorem dX9_advance_270 : decode cX9_advance 270 = .ok (.isub, 1) := by decide +kernel
theorem dX9_advance_271 : decode cX9_advance 271 = .ok (.iconst 3, 1) := by decide +kernel
theorem dX9_advance_272 : decode cX9_advance 272 = .ok (.if_icmp .le 7, 3) := by decide +kernel
theorem dX9_advance_275 : decode cX9_advance 275 = .ok (.iconst 4, 1) := by decide +kernel
theorem dX9_advance_276 : decode cX9_advance 276 = .ok (.goto 4, 3) := by decide +kernel
theorem dX9_advance_279 : decode cX9_advance 279 = .ok (.iconst 1, 1) := by decide +kernel
theorem dX9_advance_280 : decode cX9_advance 280 = .ok (.putfield 64, 3) := by decide +kernel
theorem dX9_advance_283 : decode cX9_advance 283 = .ok (.goto 34, 3) := by decide +kernel
theorem dX9_advance_286 : decode cX9_advance 286 = .ok (.aload_n 0, 1) := by decide +kernel
theorem dX9_advance_287 : decode cX9_advance 287 = .ok (.dup, 1) := by decide +kernel
theorem dX9_advance_288 : decode cX9_advance 288 = .ok (.getfield 54, 3) := by decide +kernel
theorem dX9_advance_291 : decode cX9_advance 291 = .ok (.iconst 1, 1) := by decide +kernel
theorem dX9_advance_292 : decode cX9_advance 292 = .ok (.iadd, 1) := by decide +kernel
theorem dX9_advance_293 : decode cX9_advance 293 = .ok (.putfield 54, 3) := by decide +kernel
theorem dX9_advance_296 : decode cX9_advance 296 = .ok (.aload_n 0, 1) := by decide +kernel
theorem dX9_advance_297 : decode cX9_advance 297 = .ok (.iload_n 1, 1) := by decide +kernel
theorem dX9_advance_298 : decode cX9_advance 298 = .ok (.putfield 84, 3) := by decide +kernel
theorem dX9_advance_301 : decode cX9_advance 301 = .ok (.aload_n 0, 1) := by decide +kernel
theorem dX9_advance_302 : decode cX9_advance 302 = .ok (.iload_n 1, 1) := by decide +kernel
theorem dX9_advance_303 : decode cX9_advance 303 = .ok (.invokestatic 87, 3) := by decide +kernel
theorem dX9_advance_306 : decode cX9_advance 306 = .ok (.ifCond .eq 7, 3) := by decide +kernel
theorem dX9_advance_309 : decode cX9_advance 309 = .ok (.iconst 2, 1) := by decide +kernel
theorem dX9_advance_310 : decode cX9_advance 310 = .ok (.goto 4, 3) := by decide +kernel
theorem dX9_advance_313 : decode cX9_advance 313 = .ok (.iconst 4, 1) := by decide +kernel
theorem dX9_advance_314 : decode cX9_advance 314 = .ok (.putfield 64, 3) := by decide +kernel
theorem dX9_advance_317 : decode cX9_advance 317 = .ok (.return_, 1) := by decide +kernel
theorem dX9_stops_0 : decode cX9_stops 0 = .ok (.aload_n 0, 1) := by decide +kernel
theorem dX9_stops_1 : decode cX9_stops 1 = .ok (.getfield 90, 3) := by decide +kernel
theorem dX9_stops_4 : decode cX9_stops 4 = .ok (.ifCond .eq 4, 3) := by decide +kernel
theorem dX9_stops_7 : decode cX9_stops 7 = .ok (.return_, 1) := by decide +kernel
theorem dX9_stops_8 : decode cX9_stops 8 = .ok (.aload_n 0, 1) := by decide +kernel
theorem dX9_stops_9 : decode cX9_stops 9 = .ok (.iconst 1, 1) := by decide +kernel
theorem dX9_stops_10 : decode cX9_stops 10 = .ok (.putfield 90, 3) := by decide +kernel
theorem dX9_stops_13 : decode cX9_stops 13 = .ok (.aload_n 0, 1) := by decide +kernel
theorem dX9_stops_14 : decode cX9_stops 14 = .ok (.getfield 7, 3) := by decide +kernel
theorem dX9_stops_17 : decode cX9_stops 17 = .ok (.bipush 8, 2) := by decide +kernel
theorem dX9_stops_19 : decode cX9_stops 19 = .ok (.iconst 1, 1) := by decide +kernel
theorem dX9_stops_20 : decode cX9_stops 20 = .ok (.iastore, 1) := by decide +kernel
theorem dX9_stops_21 : decode cX9_stops 21 = .ok (.aload_n 0, 1) := by decide +kernel
theorem dX9_stops_22 : decode cX9_stops 22 = .ok (.getfield 7, 3) := by decide +kernel
theorem dX9_stops_25 : decode cX9_stops 25 = .ok (.bipush 9, 2) := by decide +kernel
theorem dX9_stops_27 : decode cX9_stops 27 = .ok (.aload_n 0, 1) := by decide +kernel
theorem dX9_stops_28 : decode cX9_stops 28 = .ok (.getfield 61, 3) := by decide +kernel
theorem dX9_stops_31 : decode cX9_stops 31 = .ok (.iastore, 1) := by decide +kernel
theorem dX9_stops_32 : decode cX9_stops 32 = .ok (.return_, 1) := by decide +kernel
theorem dX9_tells_0 : decode cX9_tells 0 = .ok (.aload_n 0, 1) := by decide +kernel
theorem dX9_tells_1 : decode cX9_tells 1 = .ok (.getfield 90, 3) := by decide +kernel
theorem dX9_tells_4 : decode cX9_tells 4 = .ok (.ifCond .ne 13, 3) := by decide +kernel
theorem dX9_tells_7 : decode cX9_tells 7 = .ok (.aload_n 0, 1) := by decide +kernel
theorem dX9_tells_8 : decode cX9_tells 8 = .ok (.getfield 7, 3) := by decide +kernel
theorem dX9_tells_11 : decode cX9_tells 11 = .ok (.bipush 8, 2) := by decide +kernel
theorem dX9_tells_13 : decode cX9_tells 13 = .ok (.iaload, 1) := by decide +kernel
theorem dX9_tells_14 : decode cX9_tells 14 = .ok (.ifCond .eq 4, 3) := by decide +kernel
theorem dX9_tells_17 : decode cX9_tells 17 = .ok (.return_, 1) := by decide +kernel
theorem dX9_tells_18 : decode cX9_tells 18 = .ok (.aload_n 0, 1) := by decide +kernel
theorem dX9_tells_19 : decode cX9_tells 19 = .ok (.getfield 7, 3) := by decide +kernel
theorem dX9_tells_22 : decode cX9_tells 22 = .ok (.bipush 8, 2) := by decide +kernel
theorem dX9_tells_24 : decode cX9_tells 24 = .ok (.iload_n 1, 1) := by decide +kernel
theorem dX9_tells_25 : decode cX9_tells 25 = .ok (.iastore, 1) := by decide +kernel
theorem dX9_tells_26 : decode cX9_tells 26 = .ok (.aload_n 0, 1) := by decide +kernel
theorem dX9_tells_27 : decode cX9_tells 27 = .ok (.getfield 7, 3) := by decide +kernel
theorem dX9_tells_30 : decode cX9_tells 30 = .ok (.bipush 9, 2) := by decide +kernel
theorem dX9_tells_32 : decode cX9_tells 32 = .ok (.iload_n 2, 1) := by decide +kernel
theorem dX9_tells_33 : decode cX9_tells 33 = .ok (.iastore, 1) := by decide +kernel
theorem dX9_tells_34 : decode cX9_tells 34 = .ok (.return_, 1) := by decide +kernel
theorem dX9_takes_0 : decode cX9_takes 0 = .ok (.aload_n 0, 1) := by decide +kernel
theorem dX9_takes_1 : decode cX9_takes 1 = .ok (.getfield 90, 3) := by decide +kernel
theorem dX9_takes_4 : decode cX9_takes 4 = .ok (.ifCond .ne 19, 3) := by decide +kernel
theorem dX9_takes_7 : decode cX9_takes 7 = .ok (.aload_n 0, 1) := by decide +kernel
theorem dX9_takes_8 : decode cX9_takes 8 = .ok (.getfield 64, 3) := by decide +kernel
theorem dX9_takes_11 : decode cX9_takes 11 = .ok (.iconst 3, 1) := by decide +kernel
theorem dX9_takes_12 : decode cX9_takes 12 = .ok (.if_icmp .ne 11, 3) := by decide +kernel
theorem dX9_takes_15 : decode cX9_takes 15 = .ok (.aload_n 0, 1) := by decide +kernel
theorem dX9_takes_16 : decode cX9_takes 16 = .ok (.getfield 75, 3) := by decide +kernel
theorem dX9_takes_19 : decode cX9_takes 19 = .ok (.iload_n 1, 1) := by decide +kernel
theorem dX9_takes_20 : decode cX9_takes 20 = .ok (.if_icmp .eq 5, 3) := by decide +kernel
theorem dX9_takes_23 : decode cX9_takes 23 = .ok (.iconst 0, 1) := by decide +kernel
theorem dX9_takes_24 : decode cX9_takes 24 = .ok (.ireturn, 1) := by decide +kernel
theorem dX9_takes_25 : decode cX9_takes 25 = .ok (.aload_n 0, 1) := by decide +kernel
theorem dX9_takes_26 : decode cX9_takes 26 = .ok (.invokevirtual 94, 3) := by decide +kernel
theorem dX9_takes_29 : decode cX9_takes 29 = .ok (.iconst 1, 1) := by decide +kernel
theorem dX9_takes_30 : decode cX9_takes 30 = .ok (.ireturn, 1) := by decide +kernel
theorem dX9_must_0 : decode cX9_must 0 = .ok (.aload_n 0, 1) := by decide +kernel
theorem dX9_must_1 : decode cX9_must 1 = .ok (.getfield 90, 3) := by decide +kernel
theorem dX9_must_4 : decode cX9_must 4 = .ok (.ifCond .ne 26, 3) := by decide +kernel
theorem dX9_must_7 : decode cX9_must 7 = .ok (.aload_n 0, 1) := by decide +kernel
theorem dX9_must_8 : decode cX9_must 8 = .ok (.getfield 64, 3) := by decide +kernel
theorem dX9_must_11 : decode cX9_must 11 = .ok (.iconst 2, 1) := by decide +kernel
theorem dX9_must_12 : decode cX9_must 12 = .ok (.if_icmp .ne 18, 3) := by decide +kernel
theorem dX9_must_15 : decode cX9_must 15 = .ok (.aload_n 0, 1) := by decide +kernel
theorem dX9_must_16 : decode cX9_must 16 = .ok (.getfield 84, 3) := by decide +kernel
theorem dX9_must_19 : decode cX9_must 19 = .ok (.iload_n 1, 1) := by decide +kernel
theorem dX9_must_20 : decode cX9_must 20 = .ok (.if_icmp .ne 10, 3) := by decide +kernel
theorem dX9_must_23 : decode cX9_must 23 = .ok (.aload_n 0, 1) := by decide +kernel
theorem dX9_must_24 : decode cX9_must 24 = .ok (.invokevirtual 94, 3) := by decide +kernel
theorem dX9_must_27 : decode cX9_must 27 = .ok (.goto 7, 3) := by decide +kernel
theorem dX9_must_30 : decode cX9_must 30 = .ok (.aload_n 0, 1) := by decide +kernel
theorem dX9_must_31 : decode cX9_must 31 = .ok (.invokevirtual 97, 3) := by decide +kernel
theorem dX9_must_34 : decode cX9_must 34 = .ok (.return_, 1) := by decide +kernel
theorem dX9_numbered_0 : decode cX9_numbered 0 = .ok (.aload_n 0, 1) := by decide +kernel
theorem dX9_numbered_1 : decode cX9_numbered 1 = .ok (.getfield 81, 3) := by decide +kernel
theorem dX9_numbered_4 : decode cX9_numbered 4 = .ok (.istore_n 1, 1) := by decide +kernel
theorem dX9_numbered_5 : decode cX9_numbered 5 = .ok (.aload_n 0, 1) := by decide +kernel
theorem dX9_numbered_6 : decode cX9_numbered 6 = .ok (.getfield 90, 3) := by decide +kernel
theorem dX9_numbered_9 : decode cX9_numbered 9 = .ok (.ifCond .ne 18, 3) := by decide +kernel
theorem dX9_numbered_12 : decode cX9_numbered 12 = .ok (.aload_n 0, 1) := by decide +kernel
theorem dX9_numbered_13 : decode cX9_numbered 13 = .ok (.getfield 64, 3) := by decide +kernel
theorem dX9_numbered_16 : decode cX9_numbered 16 = .ok (.iconst 1, 1) := by decide +kernel
theorem dX9_numbered_17 : decode cX9_numbered 17 = .ok (.if_icmp .ne 10, 3) := by decide +kernel
theorem dX9_numbered_20 : decode cX9_numbered 20 = .ok (.aload_n 0, 1) := by decide +kernel
theorem dX9_numbered_21 : decode cX9_numbered 21 = .ok (.invokevirtual 94, 3) := by decide +kernel
theorem dX9_numbered_24 : decode cX9_numbered 24 = .ok (.goto 7, 3) := by decide +kernel
theorem dX9_numbered_27 : decode cX9_numbered 27 = .ok (.aload_n 0, 1) := by decide +kernel
theorem dX9_numbered_28 : decode cX9_numbered 28 = .ok (.invokevirtual 97, 3) := by decide +kernel
theorem dX9_numbered_31 : decode cX9_numbered 31 = .ok (.iload_n 1, 1) := by decide +kernel
theorem dX9_numbered_32 : decode cX9_numbered 32 = .ok (.ireturn, 1) := by decide +kernel
theorem dX9_aTest_0 : decode cX9_aTest 0 = .ok (.aload_n 0, 1) := by decide +kernel
theorem dX9_aTest_1 : decode cX9_aTest 1 = .ok (.getfield 20, 3) := by decide +kernel
theorem dX9_aTest_4 : decode cX9_aTest 4 = .ok (.iconst 0, 1) := by decide +kernel
theorem dX9_aTest_5 : decode cX9_aTest 5 = .ok (.aload_n 0, 1) := by decide +kernel
theorem dX9_aTest_6 : decode cX9_aTest 6 = .ok (.bipush 32, 2) := by decide +kernel
theorem dX9_aTest_8 : decode cX9_aTest 8 = .ok (.invokevirtual 100, 3) := by decide +kernel
theorem dX9_aTest_11 : decode cX9_aTest 11 = .ok (.ifCond .eq 7, 3) := by decide +kernel
theorem dX9_aTest_14 : decode cX9_aTest 14 = .ok (.iconst 1, 1) := by decide +kernel
theorem dX9_aTest_15 : decode cX9_aTest 15 = .ok (.goto 4, 3) := by decide +kernel
theorem dX9_aTest_18 : decode cX9_aTest 18 = .ok (.iconst 0, 1) := by decide +kernel
theorem dX9_aTest_19 : decode cX9_aTest 19 = .ok (.iastore, 1) := by decide +kernel
theorem dX9_aTest_20 : decode cX9_aTest 20 = .ok (.aload_n 0, 1) := by decide +kernel
theorem dX9_aTest_21 : decode cX9_aTest 21 = .ok (.getfield 20, 3) := by decide +kernel
theorem dX9_aTest_24 : decode cX9_aTest 24 = .ok (.iconst 1, 1) := by decide +kernel
theorem dX9_aTest_25 : decode cX9_aTest 25 = .ok (.aload_n 0, 1) := by decide +kernel
theorem dX9_aTest_26 : decode cX9_aTest 26 = .ok (.getfield 75, 3) := by decide +kernel
theorem dX9_aTest_29 : decode cX9_aTest 29 = .ok (.iastore, 1) := by decide +kernel
theorem dX9_aTest_30 : decode cX9_aTest 30 = .ok (.aload_n 0, 1) := by decide +kernel
theorem dX9_aTest_31 : decode cX9_aTest 31 = .ok (.getfield 90, 3) := by decide +kernel
theorem dX9_aTest_34 : decode cX9_aTest 34 = .ok (.ifCond .ne 24, 3) := by decide +kernel
theorem dX9_aTest_37 : decode cX9_aTest 37 = .ok (.aload_n 0, 1) := by decide +kernel
theorem dX9_aTest_38 : decode cX9_aTest 38 = .ok (.getfield 64, 3) := by decide +kernel
theorem dX9_aTest_41 : decode cX9_aTest 41 = .ok (.iconst 3, 1) := by decide +kernel
theorem dX9_aTest_42 : decode cX9_aTest 42 = .ok (.if_icmp .ne 16, 3) := by decide +kernel
theorem dX9_aTest_45 : decode cX9_aTest 45 = .ok (.aload_n 0, 1) := by decide +kernel
theorem dX9_aTest_46 : decode cX9_aTest 46 = .ok (.getfield 75, 3) := by decide +kernel
theorem dX9_aTest_49 : decode cX9_aTest 49 = .ok (.iconst 1, 1) := by decide +kernel
theorem dX9_aTest_50 : decode cX9_aTest 50 = .ok (.bipush 7, 2) := by decide +kernel
theorem dX9_aTest_52 : decode cX9_aTest 52 = .ok (.invokestatic 103, 3) := by decide +kernel
theorem dX9_aTest_55 : decode cX9_aTest 55 = .ok (.ifCond .ne 8, 3) := by decide +kernel
theorem dX9_aTest_58 : decode cX9_aTest 58 = .ok (.aload_n 0, 1) := by decide +kernel
theorem dX9_aTest_59 : decode cX9_aTest 59 = .ok (.invokevirtual 97, 3) := by decide +kernel
theorem dX9_aTest_62 : decode cX9_aTest 62 = .ok (.return_, 1) := by decide +kernel
theorem dX9_aTest_63 : decode cX9_aTest 63 = .ok (.aload_n 0, 1) := by decide +kernel
theorem dX9_aTest_64 : decode cX9_aTest 64 = .ok (.invokevirtual 94, 3) := by decide +kernel
theorem dX9_aTest_67 : decode cX9_aTest 67 = .ok (.aload_n 0, 1) := by decide +kernel
theorem dX9_aTest_68 : decode cX9_aTest 68 = .ok (.getfield 20, 3) := by decide +kernel
theorem dX9_aTest_71 : decode cX9_aTest 71 = .ok (.iconst 2, 1) := by decide +kernel
theorem dX9_aTest_72 : decode cX9_aTest 72 = .ok (.aload_n 0, 1) := by decide +kernel
theorem dX9_aTest_73 : decode cX9_aTest 73 = .ok (.getfield 84, 3) := by decide +kernel
theorem dX9_aTest_76 : decode cX9_aTest 76 = .ok (.iastore, 1) := by decide +kernel
theorem dX9_aTest_77 : decode cX9_aTest 77 = .ok (.aload_n 0, 1) := by decide +kernel
theorem dX9_aTest_78 : decode cX9_aTest 78 = .ok (.getfield 64, 3) := by decide +kernel
theorem dX9_aTest_81 : decode cX9_aTest 81 = .ok (.iconst 2, 1) := by decide +kernel
theorem dX9_aTest_82 : decode cX9_aTest 82 = .ok (.if_icmp .ne 21, 3) := by decide +kernel
theorem dX9_aTest_85 : decode cX9_aTest 85 = .ok (.aload_n 0, 1) := by decide +kernel
theorem dX9_aTest_86 : decode cX9_aTest 86 = .ok (.getfield 84, 3) := by decide +kernel
theorem dX9_aTest_89 : decode cX9_aTest 89 = .ok (.bipush 58, 2) := by decide +kernel
theorem dX9_aTest_91 : decode cX9_aTest 91 = .ok (.if_icmp .eq 12, 3) := by decide +kernel
theorem dX9_aTest_94 : decode cX9_aTest 94 = .ok (.aload_n 0, 1) := by decide +kernel
theorem dX9_aTest_95 : decode cX9_aTest 95 = .ok (.getfield 84, 3) := by decide +kernel
theorem dX9_aTest_98 : decode cX9_aTest 98 = .ok (.bipush 59, 2) := by decide +kernel
theorem dX9_aTest_100 : decode cX9_aTest 100 = .ok (.if_icmp .ne 8, 3) := by decide +kernel
theorem dX9_aTest_103 : decode cX9_aTest 103 = .ok (.aload_n 0, 1) := by decide +kernel
theorem dX9_aTest_104 : decode cX9_aTest 104 = .ok (.invokevirtual 97, 3) := by decide +kernel
theorem dX9_aTest_107 : decode cX9_aTest 107 = .ok (.return_, 1) := by decide +kernel
theorem dX9_aTest_108 : decode cX9_aTest 108 = .ok (.aload_n 0, 1) := by decide +kernel
theorem dX9_aTest_109 : decode cX9_aTest 109 = .ok (.invokevirtual 94, 3) := by decide +kernel
theorem dX9_aTest_112 : decode cX9_aTest 112 = .ok (.aload_n 0, 1) := by decide +kernel
theorem dX9_aTest_113 : decode cX9_aTest 113 = .ok (.getfield 20, 3) := by decide +kernel
theorem dX9_aTest_116 : decode cX9_aTest 116 = .ok (.iconst 3, 1) := by decide +kernel
theorem dX9_aTest_117 : decode cX9_aTest 117 = .ok (.aload_n 0, 1) := by decide +kernel
theorem dX9_aTest_118 : decode cX9_aTest 118 = .ok (.invokevirtual 107, 3) := by decide +kernel
theorem dX9_aTest_121 : decode cX9_aTest 121 = .ok (.iastore, 1) := by decide +kernel
theorem dX9_aTest_122 : decode cX9_aTest 122 = .ok (.return_, 1) := by decide +kernel
theorem dX9_puts_0 : decode cX9_puts 0 = .ok (.aload_n 0, 1) := by decide +kernel
theorem dX9_puts_1 : decode cX9_puts 1 = .ok (.getfield 111, 3) := by decide +kernel
theorem dX9_puts_4 : decode cX9_puts 4 = .ok (.bipush 12, 2) := by decide +kernel
theorem dX9_puts_6 : decode cX9_puts 6 = .ok (.if_icmp .ge 18, 3) := by decide +kernel
theorem dX9_puts_9 : decode cX9_puts 9 = .ok (.aload_n 0, 1) := by decide +kernel
theorem dX9_puts_10 : decode cX9_puts 10 = .ok (.getfield 17, 3) := by decide +kernel
theorem dX9_puts_13 : decode cX9_puts 13 = .ok (.bipush 18, 2) := by decide +kernel
theorem dX9_puts_15 : decode cX9_puts 15 = .ok (.aload_n 0, 1) := by decide +kernel
theorem dX9_puts_16 : decode cX9_puts 16 = .ok (.getfield 111, 3) := by decide +kernel
theorem dX9_puts_19 : decode cX9_puts 19 = .ok (.imul, 1) := by decide +kernel
theorem dX9_puts_20 : decode cX9_puts 20 = .ok (.iload_n 1, 1) := by decide +kernel
theorem dX9_puts_21 : decode cX9_puts 21 = .ok (.iadd, 1) := by decide +kernel
theorem dX9_puts_22 : decode cX9_puts 22 = .ok (.iload_n 2, 1) := by decide +kernel
theorem dX9_puts_23 : decode cX9_puts 23 = .ok (.iastore, 1) := by decide +kernel
theorem dX9_puts_24 : decode cX9_puts 24 = .ok (.return_, 1) := by decide +kernel
theorem dX9_aLine_0 : decode cX9_aLine 0 = .ok (.aload_n 0, 1) := by decide +kernel
theorem dX9_aLine_1 : decode cX9_aLine 1 = .ok (.getfield 111, 3) := by decide +kernel
theorem dX9_aLine_4 : decode cX9_aLine 4 = .ok (.bipush 12, 2) := by decide +kernel
theorem dX9_aLine_6 : decode cX9_aLine 6 = .ok (.if_icmp .lt 12, 3) := by decide +kernel
theorem dX9_aLine_9 : decode cX9_aLine 9 = .ok (.aload_n 0, 1) := by decide +kernel
theorem dX9_aLine_10 : decode cX9_aLine 10 = .ok (.iconst 3, 1) := by decide +kernel
theorem dX9_aLine_11 : decode cX9_aLine 11 = .ok (.aload_n 0, 1) := by decide +kernel
theorem dX9_aLine_12 : decode cX9_aLine 12 = .ok (.getfield 61, 3) := by decide +kernel
theorem dX9_aLine_15 : decode cX9_aLine 15 = .ok (.invokevirtual 114, 3) := by decide +kernel
theorem dX9_aLine_18 : decode cX9_aLine 18 = .ok (.iconst 0, 1) := by decide +kernel
theorem dX9_aLine_19 : decode cX9_aLine 19 = .ok (.istore_n 1, 1) := by decide +kernel
theorem dX9_aLine_20 : decode cX9_aLine 20 = .ok (.aload_n 0, 1) := by decide +kernel
theorem dX9_aLine_21 : decode cX9_aLine 21 = .ok (.bipush 30, 2) := by decide +kernel
theorem dX9_aLine_23 : decode cX9_aLine 23 = .ok (.invokevirtual 100, 3) := by decide +kernel
theorem dX9_aLine_26 : decode cX9_aLine 26 = .ok (.ifCond .eq 81, 3) := by decide +kernel
theorem dX9_aLine_29 : decode cX9_aLine 29 = .ok (.iconst 1, 1) := by decide +kernel
theorem dX9_aLine_30 : decode cX9_aLine 30 = .ok (.istore_n 2, 1) := by decide +kernel
theorem dX9_aLine_31 : decode cX9_aLine 31 = .ok (.iload_n 2, 1) := by decide +kernel
theorem dX9_aLine_32 : decode cX9_aLine 32 = .ok (.ifCond .eq 69, 3) := by decide +kernel
theorem dX9_aLine_35 : decode cX9_aLine 35 = .ok (.iload_n 1, 1) := by decide +kernel
theorem dX9_aLine_36 : decode cX9_aLine 36 = .ok (.iconst 3, 1) := by decide +kernel
theorem dX9_aLine_37 : decode cX9_aLine 37 = .ok (.if_icmp .le 12, 3) := by decide +kernel
theorem dX9_aLine_40 : decode cX9_aLine 40 = .ok (.aload_n 0, 1) := by decide +kernel
theorem dX9_aLine_41 : decode cX9_aLine 41 = .ok (.iconst 3, 1) := by decide +kernel
theorem dX9_aLine_42 : decode cX9_aLine 42 = .ok (.aload_n 0, 1) := by decide +kernel
theorem dX9_aLine_43 : decode cX9_aLine 43 = .ok (.getfield 61, 3) := by decide +kernel
theorem dX9_aLine_46 : decode cX9_aLine 46 = .ok (.invokevirtual 114, 3) := by decide +kernel
theorem dX9_aLine_49 : decode cX9_aLine 49 = .ok (.aload_n 0, 1) := by decide +kernel
theorem dX9_aLine_50 : decode cX9_aLine 50 = .ok (.invokevirtual 118, 3) := by decide +kernel
theorem dX9_aLine_53 : decode cX9_aLine 53 = .ok (.iconst 0, 1) := by decide +kernel
theorem dX9_aLine_54 : decode cX9_aLine 54 = .ok (.istore_n 3, 1) := by decide +kernel
theorem dX9_aLine_55 : decode cX9_aLine 55 = .ok (.iload_n 3, 1) := by decide +kernel
theorem dX9_aLine_56 : decode cX9_aLine 56 = .ok (.iconst 4, 1) := by decide +kernel
theorem dX9_aLine_57 : decode cX9_aLine 57 = .ok (.if_icmp .ge 31, 3) := by decide +kernel
theorem dX9_aLine_60 : decode cX9_aLine 60 = .ok (.iload_n 1, 1) := by decide +kernel
theorem dX9_aLine_61 : decode cX9_aLine 61 = .ok (.iconst 4, 1) := by decide +kernel
theorem dX9_aLine_62 : decode cX9_aLine 62 = .ok (.if_icmp .ge 26, 3) := by decide +kernel
theorem dX9_aLine_65 : decode cX9_aLine 65 = .ok (.aload_n 0, 1) := by decide +kernel
theorem dX9_aLine_66 : decode cX9_aLine 66 = .ok (.iconst 1, 1) := by decide +kernel
theorem dX9_aLine_67 : decode cX9_aLine 67 = .ok (.iconst 4, 1) := by decide +kernel
theorem dX9_aLine_68 : decode cX9_aLine 68 = .ok (.iload_n 1, 1) := by decide +kernel
theorem dX9_aLine_69 : decode cX9_aLine 69 = .ok (.imul, 1) := by decide +kernel
theorem dX9_aLine_70 : decode cX9_aLine 70 = .ok (.iadd, 1) := by decide +kernel
theorem dX9_aLine_71 : decode cX9_aLine 71 = .ok (.iload_n 3, 1) := by decide +kernel
theorem dX9_aLine_72 : decode cX9_aLine 72 = .ok (.iadd, 1) := by decide +kernel
theorem dX9_aLine_73 : decode cX9_aLine 73 = .ok (.aload_n 0, 1) := by decide +kernel
theorem dX9_aLine_74 : decode cX9_aLine 74 = .ok (.getfield 20, 3) := by decide +kernel
theorem dX9_aLine_77 : decode cX9_aLine 77 = .ok (.iload_n 3, 1) := by decide +kernel
theorem dX9_aLine_78 : decode cX9_aLine 78 = .ok (.iaload, 1) := by decide +kernel
theorem dX9_aLine_79 : decode cX9_aLine 79 = .ok (.invokevirtual 121, 3) := by decide +kernel
theorem dX9_aLine_82 : decode cX9_aLine 82 = .ok (.iinc 3 1, 3) := by decide +kernel
theorem dX9_aLine_85 : decode cX9_aLine 85 = .ok (.goto (-30), 3) := by decide +kernel
theorem dX9_aLine_88 : decode cX9_aLine 88 = .ok (.iinc 1 1, 3) := by decide +kernel
theorem dX9_aLine_91 : decode cX9_aLine 91 = .ok (.aload_n 0, 1) := by decide +kernel
theorem dX9_aLine_92 : decode cX9_aLine 92 = .ok (.bipush 31, 2) := by decide +kernel
theorem dX9_aLine_94 : decode cX9_aLine 94 = .ok (.invokevirtual 100, 3) := by decide +kernel
theorem dX9_aLine_97 : decode cX9_aLine 97 = .ok (.istore_n 2, 1) := by decide +kernel
theorem dX9_aLine_98 : decode cX9_aLine 98 = .ok (.goto (-67), 3) := by decide +kernel
theorem dX9_aLine_101 : decode cX9_aLine 101 = .ok (.aload_n 0, 1) := by decide +kernel
theorem dX9_aLine_102 : decode cX9_aLine 102 = .ok (.bipush 58, 2) := by decide +kernel
theorem dX9_aLine_104 : decode cX9_aLine 104 = .ok (.invokevirtual 124, 3) := by decide +kernel
theorem dX9_aLine_107 : decode cX9_aLine 107 = .ok (.iconst 0, 1) := by decide +kernel
theorem dX9_aLine_108 : decode cX9_aLine 108 = .ok (.istore_n 2, 1) := by decide +kernel
theorem dX9_aLine_109 : decode cX9_aLine 109 = .ok (.aload_n 0, 1) := by decide +kernel
theorem dX9_aLine_110 : decode cX9_aLine 110 = .ok (.bipush 20, 2) := by decide +kernel
theorem dX9_aLine_112 : decode cX9_aLine 112 = .ok (.invokevirtual 100, 3) := by decide +kernel
theorem dX9_aLine_115 : decode cX9_aLine 115 = .ok (.ifCond .ne 38, 3) := by decide +kernel
theorem dX9_aLine_118 : decode cX9_aLine 118 = .ok (.aload_n 0, 1) := by decide +kernel
theorem dX9_aLine_119 : decode cX9_aLine 119 = .ok (.bipush 21, 2) := by decide +kernel
theorem dX9_aLine_121 : decode cX9_aLine 121 = .ok (.invokevirtual 100, 3) := by decide +kernel
theorem dX9_aLine_124 : decode cX9_aLine 124 = .ok (.ifCond .ne 7, 3) := by decide +kernel
theorem dX9_aLine_127 : decode cX9_aLine 127 = .ok (.aload_n 0, 1) := by decide +kernel
theorem dX9_aLine_128 : decode cX9_aLine 128 = .ok (.invokevirtual 97, 3) := by decide +kernel
theorem dX9_aLine_131 : decode cX9_aLine 131 = .ok (.aload_n 0, 1) := by decide +kernel
theorem dX9_aLine_132 : decode cX9_aLine 132 = .ok (.getfield 61, 3) := by decide +kernel
theorem dX9_aLine_135 : decode cX9_aLine 135 = .ok (.istore_n 3, 1) := by decide +kernel
theorem dX9_aLine_136 : decode cX9_aLine 136 = .ok (.aload_n 0, 1) := by decide +kernel
theorem dX9_aLine_137 : decode cX9_aLine 137 = .ok (.invokevirtual 107, 3) := by decide +kernel
theorem dX9_aLine_140 : decode cX9_aLine 140 = .ok (.istore_n 2, 1) := by decide +kernel
theorem dX9_aLine_141 : decode cX9_aLine 141 = .ok (.iload_n 2, 1) := by decide +kernel
theorem dX9_aLine_142 : decode cX9_aLine 142 = .ok (.bipush 100, 2) := by decide +kernel
theorem dX9_aLine_144 : decode cX9_aLine 144 = .ok (.if_icmp .le 9, 3) := by decide +kernel
theorem dX9_aLine_147 : decode cX9_aLine 147 = .ok (.aload_n 0, 1) := by decide +kernel
theorem dX9_aLine_148 : decode cX9_aLine 148 = .ok (.iconst 2, 1) := by decide +kernel
theorem dX9_aLine_149 : decode cX9_aLine 149 = .ok (.iload_n 3, 1) := by decide +kernel
theorem dX9_aLine_150 : decode cX9_aLine 150 = .ok (.invokevirtual 114, 3) := by decide +kernel
theorem dX9_aLine_153 : decode cX9_aLine 153 = .ok (.aload_n 0, 1) := by decide +kernel
theorem dX9_aLine_154 : decode cX9_aLine 154 = .ok (.bipush 59, 2) := by decide +kernel
theorem dX9_aLine_156 : decode cX9_aLine 156 = .ok (.invokevirtual 124, 3) := by decide +kernel
theorem dX9_aLine_159 : decode cX9_aLine 159 = .ok (.aload_n 0, 1) := by decide +kernel
theorem dX9_aLine_160 : decode cX9_aLine 160 = .ok (.iconst 0, 1) := by decide +kernel
theorem dX9_aLine_161 : decode cX9_aLine 161 = .ok (.iload_n 1, 1) := by decide +kernel
theorem dX9_aLine_162 : decode cX9_aLine 162 = .ok (.invokevirtual 121, 3) := by decide +kernel
theorem dX9_aLine_165 : decode cX9_aLine 165 = .ok (.aload_n 0, 1) := by decide +kernel
theorem dX9_aLine_166 : decode cX9_aLine 166 = .ok (.bipush 17, 2) := by decide +kernel
theorem dX9_aLine_168 : decode cX9_aLine 168 = .ok (.iload_n 2, 1) := by decide +kernel
theorem dX9_aLine_169 : decode cX9_aLine 169 = .ok (.invokevirtual 121, 3) := by decide +kernel
theorem dX9_aLine_172 : decode cX9_aLine 172 = .ok (.aload_n 0, 1) := by decide +kernel
theorem dX9_aLine_173 : decode cX9_aLine 173 = .ok (.dup, 1) := by decide +kernel
theorem dX9_aLine_174 : decode cX9_aLine 174 = .ok (.getfield 111, 3) := by decide +kernel
theorem dX9_aLine_177 : decode cX9_aLine 177 = .ok (.iconst 1, 1) := by decide +kernel
theorem dX9_aLine_178 : decode cX9_aLine 178 = .ok (.iadd, 1) := by decide +kernel
theorem dX9_aLine_179 : decode cX9_aLine 179 = .ok (.putfield 111, 3) := by decide +kernel
theorem dX9_aLine_182 : decode cX9_aLine 182 = .ok (.return_, 1) := by decide +kernel
theorem dX9_custom_0 : decode cX9_custom 0 = .ok (.aload_n 0, 1) := by decide +kernel
theorem dX9_custom_1 : decode cX9_custom 1 = .ok (.aload_n 0, 1) := by decide +kernel
theorem dX9_custom_2 : decode cX9_custom 2 = .ok (.getfield 7, 3) := by decide +kernel
theorem dX9_custom_5 : decode cX9_custom 5 = .ok (.bipush 7, 2) := by decide +kernel
theorem dX9_custom_7 : decode cX9_custom 7 = .ok (.iaload, 1) := by decide +kernel
theorem dX9_custom_8 : decode cX9_custom 8 = .ok (.putfield 30, 3) := by decide +kernel
theorem dX9_custom_11 : decode cX9_custom 11 = .ok (.aload_n 0, 1) := by decide +kernel
theorem dX9_custom_12 : decode cX9_custom 12 = .ok (.getfield 7, 3) := by decide +kernel
theorem dX9_custom_15 : decode cX9_custom 15 = .ok (.bipush 7, 2) := by decide +kernel
theorem dX9_custom_17 : decode cX9_custom 17 = .ok (.iconst 0, 1) := by decide +kernel
theorem dX9_custom_18 : decode cX9_custom 18 = .ok (.iastore, 1) := by decide +kernel
theorem dX9_custom_19 : decode cX9_custom 19 = .ok (.aload_n 0, 1) := by decide +kernel
theorem dX9_custom_20 : decode cX9_custom 20 = .ok (.iconst 0, 1) := by decide +kernel
theorem dX9_custom_21 : decode cX9_custom 21 = .ok (.putfield 54, 3) := by decide +kernel
theorem dX9_custom_24 : decode cX9_custom 24 = .ok (.aload_n 0, 1) := by decide +kernel
theorem dX9_custom_25 : decode cX9_custom 25 = .ok (.getfield 7, 3) := by decide +kernel
theorem dX9_custom_28 : decode cX9_custom 28 = .ok (.bipush 8, 2) := by decide +kernel
theorem dX9_custom_30 : decode cX9_custom 30 = .ok (.iconst 0, 1) := by decide +kernel
theorem dX9_custom_31 : decode cX9_custom 31 = .ok (.iastore, 1) := by decide +kernel
theorem dX9_custom_32 : decode cX9_custom 32 = .ok (.aload_n 0, 1) := by decide +kernel
theorem dX9_custom_33 : decode cX9_custom 33 = .ok (.getfield 7, 3) := by decide +kernel
theorem dX9_custom_36 : decode cX9_custom 36 = .ok (.bipush 9, 2) := by decide +kernel
theorem dX9_custom_38 : decode cX9_custom 38 = .ok (.iconst (-1), 1) := by decide +kernel
theorem dX9_custom_39 : decode cX9_custom 39 = .ok (.iastore, 1) := by decide +kernel
theorem dX9_custom_40 : decode cX9_custom 40 = .ok (.aload_n 0, 1) := by decide +kernel
theorem dX9_custom_41 : decode cX9_custom 41 = .ok (.iconst 0, 1) := by decide +kernel
theorem dX9_custom_42 : decode cX9_custom 42 = .ok (.putfield 90, 3) := by decide +kernel
theorem dX9_custom_45 : decode cX9_custom 45 = .ok (.aload_n 0, 1) := by decide +kernel
theorem dX9_custom_46 : decode cX9_custom 46 = .ok (.iconst 0, 1) := by decide +kernel
theorem dX9_custom_47 : decode cX9_custom 47 = .ok (.putfield 111, 3) := by decide +kernel
theorem dX9_custom_50 : decode cX9_custom 50 = .ok (.aload_n 0, 1) := by decide +kernel
theorem dX9_custom_51 : decode cX9_custom 51 = .ok (.invokevirtual 94, 3) := by decide +kernel
theorem dX9_custom_54 : decode cX9_custom 54 = .ok (.aload_n 0, 1) := by decide +kernel
theorem dX9_custom_55 : decode cX9_custom 55 = .ok (.getfield 90, 3) := by decide +kernel
theorem dX9_custom_58 : decode cX9_custom 58 = .ok (.ifCond .ne 17, 3) := by decide +kernel
theorem dX9_custom_61 : decode cX9_custom 61 = .ok (.aload_n 0, 1) := by decide +kernel
theorem dX9_custom_62 : decode cX9_custom 62 = .ok (.getfield 64, 3) := by decide +kernel
theorem dX9_custom_65 : decode cX9_custom 65 = .ok (.ifCond .eq 10, 3) := by decide +kernel
theorem dX9_custom_68 : decode cX9_custom 68 = .ok (.aload_n 0, 1) := by decide +kernel
theorem dX9_custom_69 : decode cX9_custom 69 = .ok (.invokevirtual 127, 3) := by decide +kernel
theorem dX9_custom_72 : decode cX9_custom 72 = .ok (.goto (-18), 3) := by decide +kernel
theorem dX9_custom_75 : decode cX9_custom 75 = .ok (.aload_n 0, 1) := by decide +kernel
theorem dX9_custom_76 : decode cX9_custom 76 = .ok (.getfield 7, 3) := by decide +kernel
theorem dX9_custom_79 : decode cX9_custom 79 = .ok (.bipush 8, 2) := by decide +kernel
theorem dX9_custom_81 : decode cX9_custom 81 = .ok (.iaload, 1) := by decide +kernel
theorem dX9_custom_82 : decode cX9_custom 82 = .ok (.ifCond .eq 5, 3) := by decide +kernel
theorem dX9_custom_85 : decode cX9_custom 85 = .ok (.iconst (-1), 1) := by decide +kernel
theorem dX9_custom_86 : decode cX9_custom 86 = .ok (.ireturn, 1) := by decide +kernel
theorem dX9_custom_87 : decode cX9_custom 87 = .ok (.iconst 0, 1) := by decide +kernel
theorem dX9_custom_88 : decode cX9_custom 88 = .ok (.istore_n 1, 1) := by decide +kernel
theorem dX9_custom_89 : decode cX9_custom 89 = .ok (.iload_n 1, 1) := by decide +kernel
theorem dX9_custom_90 : decode cX9_custom 90 = .ok (.sipush 216, 3) := by decide +kernel
theorem dX9_custom_93 : decode cX9_custom 93 = .ok (.if_icmp .ge 25, 3) := by decide +kernel
theorem dX9_custom_96 : decode cX9_custom 96 = .ok (.aload_n 0, 1) := by decide +kernel
theorem dX9_custom_97 : decode cX9_custom 97 = .ok (.getfield 7, 3) := by decide +kernel
theorem dX9_custom_100 : decode cX9_custom 100 = .ok (.sipush 500, 3) := by decide +kernel
theorem dX9_custom_103 : decode cX9_custom 103 = .ok (.iload_n 1, 1) := by decide +kernel
theorem dX9_custom_104 : decode cX9_custom 104 = .ok (.iadd, 1) := by decide +kernel
theorem dX9_custom_105 : decode cX9_custom 105 = .ok (.aload_n 0, 1) := by decide +kernel
theorem dX9_custom_106 : decode cX9_custom 106 = .ok (.getfield 17, 3) := by decide +kernel
theorem dX9_custom_109 : decode cX9_custom 109 = .ok (.iload_n 1, 1) := by decide +kernel
theorem dX9_custom_110 : decode cX9_custom 110 = .ok (.iaload, 1) := by decide +kernel
theorem dX9_custom_111 : decode cX9_custom 111 = .ok (.iastore, 1) := by decide +kernel
theorem dX9_custom_112 : decode cX9_custom 112 = .ok (.iinc 1 1, 3) := by decide +kernel
theorem dX9_custom_115 : decode cX9_custom 115 = .ok (.goto (-26), 3) := by decide +kernel
theorem dX9_custom_118 : decode cX9_custom 118 = .ok (.aload_n 0, 1) := by decide +kernel
theorem dX9_custom_119 : decode cX9_custom 119 = .ok (.getfield 7, 3) := by decide +kernel
theorem dX9_custom_122 : decode cX9_custom 122 = .ok (.bipush 6, 2) := by decide +kernel
theorem dX9_custom_124 : decode cX9_custom 124 = .ok (.aload_n 0, 1) := by decide +kernel
theorem dX9_custom_125 : decode cX9_custom 125 = .ok (.getfield 111, 3) := by decide +kernel
theorem dX9_custom_128 : decode cX9_custom 128 = .ok (.iastore, 1) := by decide +kernel
theorem dX9_custom_129 : decode cX9_custom 129 = .ok (.aload_n 0, 1) := by decide +kernel
theorem dX9_custom_130 : decode cX9_custom 130 = .ok (.getfield 111, 3) := by decide +kernel
theorem dX9_custom_133 : decode cX9_custom 133 = .ok (.ireturn, 1) := by decide +kernel
theorem dX9_fault_0 : decode cX9_fault 0 = .ok (.iload_n 1, 1) := by decide +kernel
theorem dX9_fault_1 : decode cX9_fault 1 = .ok (.ifCond .ne 13, 3) := by decide +kernel
theorem dX9_fault_4 : decode cX9_fault 4 = .ok (.aload_n 0, 1) := by decide +kernel
theorem dX9_fault_5 : decode cX9_fault 5 = .ok (.getfield 7, 3) := by decide +kernel
theorem dX9_fault_8 : decode cX9_fault 8 = .ok (.bipush 8, 2) := by decide +kernel
theorem dX9_fault_10 : decode cX9_fault 10 = .ok (.iaload, 1) := by decide +kernel
theorem dX9_fault_11 : decode cX9_fault 11 = .ok (.goto 19, 3) := by decide +kernel
theorem dX9_fault_14 : decode cX9_fault 14 = .ok (.iload_n 1, 1) := by decide +kernel
theorem dX9_fault_15 : decode cX9_fault 15 = .ok (.iconst 1, 1) := by decide +kernel
theorem dX9_fault_16 : decode cX9_fault 16 = .ok (.if_icmp .ne 13, 3) := by decide +kernel
theorem dX9_fault_19 : decode cX9_fault 19 = .ok (.aload_n 0, 1) := by decide +kernel
theorem dX9_fault_20 : decode cX9_fault 20 = .ok (.getfield 7, 3) := by decide +kernel
theorem dX9_fault_23 : decode cX9_fault 23 = .ok (.bipush 9, 2) := by decide +kernel
theorem dX9_fault_25 : decode cX9_fault 25 = .ok (.iaload, 1) := by decide +kernel
theorem dX9_fault_26 : decode cX9_fault 26 = .ok (.goto 4, 3) := by decide +kernel
theorem dX9_fault_29 : decode cX9_fault 29 = .ok (.iconst (-1), 1) := by decide +kernel
theorem dX9_fault_30 : decode cX9_fault 30 = .ok (.ireturn, 1) := by decide +kernel
theorem dX9_isHouse_0 : decode cX9_isHouse 0 = .ok (.iload_n 1, 1) := by decide +kernel
theorem dX9_isHouse_1 : decode cX9_isHouse 1 = .ok (.iconst 0, 1) := by decide +kernel
theorem dX9_isHouse_2 : decode cX9_isHouse 2 = .ok (.aload_n 0, 1) := by decide +kernel
theorem dX9_isHouse_3 : decode cX9_isHouse 3 = .ok (.getfield 7, 3) := by decide +kernel
theorem dX9_isHouse_6 : decode cX9_isHouse 6 = .ok (.iconst 0, 1) := by decide +kernel
theorem dX9_isHouse_7 : decode cX9_isHouse 7 = .ok (.iaload, 1) := by decide +kernel
theorem dX9_isHouse_8 : decode cX9_isHouse 8 = .ok (.iconst 1, 1) := by decide +kernel
theorem dX9_isHouse_9 : decode cX9_isHouse 9 = .ok (.isub, 1) := by decide +kernel
theorem dX9_isHouse_10 : decode cX9_isHouse 10 = .ok (.invokestatic 103, 3) := by decide +kernel
theorem dX9_isHouse_13 : decode cX9_isHouse 13 = .ok (.ireturn, 1) := by decide +kernel
theorem dX9_of_0 : decode cX9_of 0 = .ok (.aload_n 0, 1) := by decide +kernel
theorem dX9_of_1 : decode cX9_of 1 = .ok (.getfield 7, 3) := by decide +kernel
theorem dX9_of_4 : decode cX9_of 4 = .ok (.bipush 60, 2) := by decide +kernel
theorem dX9_of_6 : decode cX9_of 6 = .ok (.bipush 30, 2) := by decide +kernel
theorem dX9_of_8 : decode cX9_of 8 = .ok (.iload_n 1, 1) := by decide +kernel
theorem dX9_of_9 : decode cX9_of 9 = .ok (.imul, 1) := by decide +kernel
theorem dX9_of_10 : decode cX9_of 10 = .ok (.iadd, 1) := by decide +kernel
theorem dX9_of_11 : decode cX9_of 11 = .ok (.iload_n 2, 1) := by decide +kernel
theorem dX9_of_12 : decode cX9_of 12 = .ok (.iadd, 1) := by decide +kernel
theorem dX9_of_13 : decode cX9_of 13 = .ok (.iaload, 1) := by decide +kernel
theorem dX9_of_14 : decode cX9_of 14 = .ok (.ireturn, 1) := by decide +kernel
theorem dX9_adds_0 : decode cX9_adds 0 = .ok (.aload_n 0, 1) := by decide +kernel
theorem dX9_adds_1 : decode cX9_adds 1 = .ok (.getfield 7, 3) := by decide +kernel
theorem dX9_adds_4 : decode cX9_adds 4 = .ok (.bipush 60, 2) := by decide +kernel
theorem dX9_adds_6 : decode cX9_adds 6 = .ok (.bipush 30, 2) := by decide +kernel
theorem dX9_adds_8 : decode cX9_adds 8 = .ok (.iload_n 1, 1) := by decide +kernel
theorem dX9_adds_9 : decode cX9_adds 9 = .ok (.imul, 1) := by decide +kernel
theorem dX9_adds_10 : decode cX9_adds 10 = .ok (.iadd, 1) := by decide +kernel
theorem dX9_adds_11 : decode cX9_adds 11 = .ok (.iload_n 2, 1) := by decide +kernel
theorem dX9_adds_12 : decode cX9_adds 12 = .ok (.iadd, 1) := by decide +kernel
theorem dX9_adds_13 : decode cX9_adds 13 = .ok (.dup2, 1) := by decide +kernel
theorem dX9_adds_14 : decode cX9_adds 14 = .ok (.iaload, 1) := by decide +kernel
theorem dX9_adds_15 : decode cX9_adds 15 = .ok (.iload_n 3, 1) := by decide +kernel
theorem dX9_adds_16 : decode cX9_adds 16 = .ok (.iadd, 1) := by decide +kernel
theorem dX9_adds_17 : decode cX9_adds 17 = .ok (.iastore, 1) := by decide +kernel
theorem dX9_adds_18 : decode cX9_adds 18 = .ok (.return_, 1) := by decide +kernel
theorem dX9_house_0 : decode cX9_house 0 = .ok (.aload_n 0, 1) := by decide +kernel
theorem dX9_house_1 : decode cX9_house 1 = .ok (.getfield 7, 3) := by decide +kernel
theorem dX9_house_4 : decode cX9_house 4 = .ok (.iconst 0, 1) := by decide +kernel
theorem dX9_house_5 : decode cX9_house 5 = .ok (.iaload, 1) := by decide +kernel
theorem dX9_house_6 : decode cX9_house 6 = .ok (.bipush 8, 2) := by decide +kernel
theorem dX9_house_8 : decode cX9_house 8 = .ok (.if_icmp .ne 5, 3) := by decide +kernel
theorem dX9_house_11 : decode cX9_house 11 = .ok (.iconst (-1), 1) := by decide +kernel
theorem dX9_house_12 : decode cX9_house 12 = .ok (.ireturn, 1) := by decide +kernel
theorem dX9_house_13 : decode cX9_house 13 = .ok (.iconst 0, 1) := by decide +kernel
theorem dX9_house_14 : decode cX9_house 14 = .ok (.istore_n 1, 1) := by decide +kernel
theorem dX9_house_15 : decode cX9_house 15 = .ok (.iload_n 1, 1) := by decide +kernel
theorem dX9_house_16 : decode cX9_house 16 = .ok (.bipush 30, 2) := by decide +kernel
theorem dX9_house_18 : decode cX9_house 18 = .ok (.if_icmp .ge 29, 3) := by decide +kernel
theorem dX9_house_21 : decode cX9_house 21 = .ok (.aload_n 0, 1) := by decide +kernel
theorem dX9_house_22 : decode cX9_house 22 = .ok (.getfield 7, 3) := by decide +kernel
theorem dX9_house_25 : decode cX9_house 25 = .ok (.bipush 60, 2) := by decide +kernel
theorem dX9_house_27 : decode cX9_house 27 = .ok (.bipush 30, 2) := by decide +kernel
theorem dX9_house_29 : decode cX9_house 29 = .ok (.aload_n 0, 1) := by decide +kernel
theorem dX9_house_30 : decode cX9_house 30 = .ok (.getfield 7, 3) := by decide +kernel
theorem dX9_house_33 : decode cX9_house 33 = .ok (.iconst 0, 1) := by decide +kernel
theorem dX9_house_34 : decode cX9_house 34 = .ok (.iaload, 1) := by decide +kernel
theorem dX9_house_35 : decode cX9_house 35 = .ok (.imul, 1) := by decide +kernel
theorem dX9_house_36 : decode cX9_house 36 = .ok (.iadd, 1) := by decide +kernel
theorem dX9_house_37 : decode cX9_house 37 = .ok (.iload_n 1, 1) := by decide +kernel
theorem dX9_house_38 : decode cX9_house 38 = .ok (.iadd, 1) := by decide +kernel
theorem dX9_house_39 : decode cX9_house 39 = .ok (.iconst 0, 1) := by decide +kernel
theorem dX9_house_40 : decode cX9_house 40 = .ok (.iastore, 1) := by decide +kernel
theorem dX9_house_41 : decode cX9_house 41 = .ok (.iinc 1 1, 3) := by decide +kernel
theorem dX9_house_44 : decode cX9_house 44 = .ok (.goto (-29), 3) := by decide +kernel
theorem dX9_house_47 : decode cX9_house 47 = .ok (.aload_n 0, 1) := by decide +kernel
theorem dX9_house_48 : decode cX9_house 48 = .ok (.getfield 7, 3) := by decide +kernel
theorem dX9_house_51 : decode cX9_house 51 = .ok (.iconst 0, 1) := by decide +kernel
theorem dX9_house_52 : decode cX9_house 52 = .ok (.dup2, 1) := by decide +kernel
theorem dX9_house_53 : decode cX9_house 53 = .ok (.iaload, 1) := by decide +kernel
theorem dX9_house_54 : decode cX9_house 54 = .ok (.iconst 1, 1) := by decide +kernel
theorem dX9_house_55 : decode cX9_house 55 = .ok (.iadd, 1) := by decide +kernel
theorem dX9_house_56 : decode cX9_house 56 = .ok (.iastore, 1) := by decide +kernel
theorem dX9_house_57 : decode cX9_house 57 = .ok (.aload_n 0, 1) := by decide +kernel
theorem dX9_house_58 : decode cX9_house 58 = .ok (.getfield 7, 3) := by decide +kernel
theorem dX9_house_61 : decode cX9_house 61 = .ok (.iconst 0, 1) := by decide +kernel
theorem dX9_house_62 : decode cX9_house 62 = .ok (.iaload, 1) := by decide +kernel
theorem dX9_house_63 : decode cX9_house 63 = .ok (.iconst 1, 1) := by decide +kernel
theorem dX9_house_64 : decode cX9_house 64 = .ok (.isub, 1) := by decide +kernel
theorem dX9_house_65 : decode cX9_house 65 = .ok (.ireturn, 1) := by decide +kernel
theorem dX9_shape_0 : decode cX9_shape 0 = .ok (.iload_n 1, 1) := by decide +kernel
theorem dX9_shape_1 : decode cX9_shape 1 = .ok (.iconst 0, 1) := by decide +kernel
theorem dX9_shape_2 : decode cX9_shape 2 = .ok (.iconst 4, 1) := by decide +kernel
theorem dX9_shape_3 : decode cX9_shape 3 = .ok (.invokestatic 103, 3) := by decide +kernel
theorem dX9_shape_6 : decode cX9_shape 6 = .ok (.ifCond .eq 25, 3) := by decide +kernel
theorem dX9_shape_9 : decode cX9_shape 9 = .ok (.iload_n 2, 1) := by decide +kernel
theorem dX9_shape_10 : decode cX9_shape 10 = .ok (.iconst 1, 1) := by decide +kernel
theorem dX9_shape_11 : decode cX9_shape 11 = .ok (.sipush 999, 3) := by decide +kernel
theorem dX9_shape_14 : decode cX9_shape 14 = .ok (.invokestatic 103, 3) := by decide +kernel
theorem dX9_shape_17 : decode cX9_shape 17 = .ok (.ifCond .eq 14, 3) := by decide +kernel
theorem dX9_shape_20 : decode cX9_shape 20 = .ok (.iload_n 3, 1) := by decide +kernel
theorem dX9_shape_21 : decode cX9_shape 21 = .ok (.iconst 1, 1) := by decide +kernel
theorem dX9_shape_22 : decode cX9_shape 22 = .ok (.sipush 999, 3) := by decide +kernel
theorem dX9_shape_25 : decode cX9_shape 25 = .ok (.invokestatic 103, 3) := by decide +kernel
theorem dX9_shape_28 : decode cX9_shape 28 = .ok (.ifCond .ne 5, 3) := by decide +kernel
theorem dX9_shape_31 : decode cX9_shape 31 = .ok (.iconst 0, 1) := by decide +kernel
theorem dX9_shape_32 : decode cX9_shape 32 = .ok (.ireturn, 1) := by decide +kernel
theorem dX9_shape_33 : decode cX9_shape 33 = .ok (.aload_n 0, 1) := by decide +kernel
theorem dX9_shape_34 : decode cX9_shape 34 = .ok (.getfield 7, 3) := by decide +kernel
theorem dX9_shape_37 : decode cX9_shape 37 = .ok (.bipush 40, 2) := by decide +kernel
theorem dX9_shape_39 : decode cX9_shape 39 = .ok (.iconst 2, 1) := by decide +kernel
theorem dX9_shape_40 : decode cX9_shape 40 = .ok (.iload_n 1, 1) := by decide +kernel
theorem dX9_shape_41 : decode cX9_shape 41 = .ok (.imul, 1) := by decide +kernel
theorem dX9_shape_42 : decode cX9_shape 42 = .ok (.iadd, 1) := by decide +kernel
theorem dX9_shape_43 : decode cX9_shape 43 = .ok (.iload_n 2, 1) := by decide +kernel
theorem dX9_shape_44 : decode cX9_shape 44 = .ok (.iastore, 1) := by decide +kernel
theorem dX9_shape_45 : decode cX9_shape 45 = .ok (.aload_n 0, 1) := by decide +kernel
theorem dX9_shape_46 : decode cX9_shape 46 = .ok (.getfield 7, 3) := by decide +kernel
theorem dX9_shape_49 : decode cX9_shape 49 = .ok (.bipush 40, 2) := by decide +kernel
theorem dX9_shape_51 : decode cX9_shape 51 = .ok (.iconst 2, 1) := by decide +kernel
theorem dX9_shape_52 : decode cX9_shape 52 = .ok (.iload_n 1, 1) := by decide +kernel
theorem dX9_shape_53 : decode cX9_shape 53 = .ok (.imul, 1) := by decide +kernel
theorem dX9_shape_54 : decode cX9_shape 54 = .ok (.iadd, 1) := by decide +kernel
theorem dX9_shape_55 : decode cX9_shape 55 = .ok (.iconst 1, 1) := by decide +kernel
theorem dX9_shape_56 : decode cX9_shape 56 = .ok (.iadd, 1) := by decide +kernel
theorem dX9_shape_57 : decode cX9_shape 57 = .ok (.iload_n 3, 1) := by decide +kernel
theorem dX9_shape_58 : decode cX9_shape 58 = .ok (.iastore, 1) := by decide +kernel
theorem dX9_shape_59 : decode cX9_shape 59 = .ok (.iconst 1, 1) := by decide +kernel
theorem dX9_shape_60 : decode cX9_shape 60 = .ok (.ireturn, 1) := by decide +kernel
theorem dX9_glaze_0 : decode cX9_glaze 0 = .ok (.iload_n 1, 1) := by decide +kernel
theorem dX9_glaze_1 : decode cX9_glaze 1 = .ok (.iconst 0, 1) := by decide +kernel
theorem dX9_glaze_2 : decode cX9_glaze 2 = .ok (.iconst 3, 1) := by decide +kernel
theorem dX9_glaze_3 : decode cX9_glaze 3 = .ok (.invokestatic 103, 3) := by decide +kernel
theorem dX9_glaze_6 : decode cX9_glaze 6 = .ok (.ifCond .eq 13, 3) := by decide +kernel
theorem dX9_glaze_9 : decode cX9_glaze 9 = .ok (.iload_n 2, 1) := by decide +kernel
theorem dX9_glaze_10 : decode cX9_glaze 10 = .ok (.iconst 0, 1) := by decide +kernel
theorem dX9_glaze_11 : decode cX9_glaze 11 = .ok (.bipush 10, 2) := by decide +kernel
theorem dX9_glaze_13 : decode cX9_glaze 13 = .ok (.invokestatic 103, 3) := by decide +kernel
theorem dX9_glaze_16 : decode cX9_glaze 16 = .ok (.ifCond .ne 5, 3) := by decide +kernel
theorem dX9_glaze_19 : decode cX9_glaze 19 = .ok (.iconst 0, 1) := by decide +kernel
theorem dX9_glaze_20 : decode cX9_glaze 20 = .ok (.ireturn, 1) := by decide +kernel
theorem dX9_glaze_21 : decode cX9_glaze 21 = .ok (.aload_n 0, 1) := by decide +kernel
theorem dX9_glaze_22 : decode cX9_glaze 22 = .ok (.getfield 7, 3) := by decide +kernel
theorem dX9_glaze_25 : decode cX9_glaze 25 = .ok (.bipush 50, 2) := by decide +kernel
theorem dX9_glaze_27 : decode cX9_glaze 27 = .ok (.iload_n 1, 1) := by decide +kernel
theorem dX9_glaze_28 : decode cX9_glaze 28 = .ok (.iadd, 1) := by decide +kernel
theorem dX9_glaze_29 : decode cX9_glaze 29 = .ok (.iload_n 2, 1) := by decide +kernel
theorem dX9_glaze_30 : decode cX9_glaze 30 = .ok (.iastore, 1) := by decide +kernel
theorem dX9_glaze_31 : decode cX9_glaze 31 = .ok (.iconst 1, 1) := by decide +kernel
theorem dX9_glaze_32 : decode cX9_glaze 32 = .ok (.ireturn, 1) := by decide +kernel
theorem dX9_its_0 : decode cX9_its 0 = .ok (.aload_n 0, 1) := by decide +kernel
theorem dX9_its_1 : decode cX9_its 1 = .ok (.getfield 7, 3) := by decide +kernel
theorem dX9_its_4 : decode cX9_its 4 = .ok (.sipush 300, 3) := by decide +kernel
theorem dX9_its_7 : decode cX9_its 7 = .ok (.bipush 8, 2) := by decide +kernel
theorem dX9_its_9 : decode cX9_its 9 = .ok (.iload_n 1, 1) := by decide +kernel
theorem dX9_its_10 : decode cX9_its 10 = .ok (.imul, 1) := by decide +kernel
theorem dX9_its_11 : decode cX9_its 11 = .ok (.iadd, 1) := by decide +kernel
theorem dX9_its_12 : decode cX9_its 12 = .ok (.iload_n 2, 1) := by decide +kernel
theorem dX9_its_13 : decode cX9_its 13 = .ok (.iadd, 1) := by decide +kernel
theorem dX9_its_14 : decode cX9_its 14 = .ok (.iaload, 1) := by decide +kernel
theorem dX9_its_15 : decode cX9_its 15 = .ok (.ireturn, 1) := by decide +kernel
theorem dX9_sets_0 : decode cX9_sets 0 = .ok (.aload_n 0, 1) := by decide +kernel
theorem dX9_sets_1 : decode cX9_sets 1 = .ok (.getfield 7, 3) := by decide +kernel
theorem dX9_sets_4 : decode cX9_sets 4 = .ok (.sipush 300, 3) := by decide +kernel
theorem dX9_sets_7 : decode cX9_sets 7 = .ok (.bipush 8, 2) := by decide +kernel
theorem dX9_sets_9 : decode cX9_sets 9 = .ok (.iload_n 1, 1) := by decide +kernel
theorem dX9_sets_10 : decode cX9_sets 10 = .ok (.imul, 1) := by decide +kernel
theorem dX9_sets_11 : decode cX9_sets 11 = .ok (.iadd, 1) := by decide +kernel
theorem dX9_sets_12 : decode cX9_sets 12 = .ok (.iload_n 2, 1) := by decide +kernel
theorem dX9_sets_13 : decode cX9_sets 13 = .ok (.iadd, 1) := by decide +kernel
theorem dX9_sets_14 : decode cX9_sets 14 = .ok (.iload_n 3, 1) := by decide +kernel
theorem dX9_sets_15 : decode cX9_sets 15 = .ok (.iastore, 1) := by decide +kernel
theorem dX9_sets_16 : decode cX9_sets 16 = .ok (.return_, 1) := by decide +kernel
theorem dX9_stands_0 : decode cX9_stands 0 = .ok (.aload_n 0, 1) := by decide +kernel
theorem dX9_stands_1 : decode cX9_stands 1 = .ok (.iload_n 1, 1) := by decide +kernel
theorem dX9_stands_2 : decode cX9_stands 2 = .ok (.iconst 4, 1) := by decide +kernel
theorem dX9_stands_3 : decode cX9_stands 3 = .ok (.invokevirtual 130, 3) := by decide +kernel
theorem dX9_stands_6 : decode cX9_stands 6 = .ok (.ifCond .lt 7, 3) := by decide +kernel
theorem dX9_stands_9 : decode cX9_stands 9 = .ok (.iconst 1, 1) := by decide +kernel
theorem dX9_stands_10 : decode cX9_stands 10 = .ok (.goto 4, 3) := by decide +kernel
theorem dX9_stands_13 : decode cX9_stands 13 = .ok (.iconst 0, 1) := by decide +kernel
theorem dX9_stands_14 : decode cX9_stands 14 = .ok (.ireturn, 1) := by decide +kernel
theorem dX9_standing_0 : decode cX9_standing 0 = .ok (.iconst 0, 1) := by decide +kernel
theorem dX9_standing_1 : decode cX9_standing 1 = .ok (.istore_n 1, 1) := by decide +kernel
theorem dX9_standing_2 : decode cX9_standing 2 = .ok (.iconst 0, 1) := by decide +kernel
theorem dX9_standing_3 : decode cX9_standing 3 = .ok (.istore_n 2, 1) := by decide +kernel
theorem dX9_standing_4 : decode cX9_standing 4 = .ok (.iload_n 2, 1) := by decide +kernel
theorem dX9_standing_5 : decode cX9_standing 5 = .ok (.aload_n 0, 1) := by decide +kernel
theorem dX9_standing_6 : decode cX9_standing 6 = .ok (.getfield 7, 3) := by decide +kernel
theorem dX9_standing_9 : decode cX9_standing 9 = .ok (.iconst 1, 1) := by decide +kernel
theorem dX9_standing_10 : decode cX9_standing 10 = .ok (.iaload, 1) := by decide +kernel
theorem dX9_standing_11 : decode cX9_standing 11 = .ok (.if_icmp .ge 25, 3) := by decide +kernel
theorem dX9_standing_14 : decode cX9_standing 14 = .ok (.iload_n 1, 1) := by decide +kernel
theorem dX9_standing_15 : decode cX9_standing 15 = .ok (.aload_n 0, 1) := by decide +kernel
theorem dX9_standing_16 : decode cX9_standing 16 = .ok (.iload_n 2, 1) := by decide +kernel
theorem dX9_standing_17 : decode cX9_standing 17 = .ok (.invokevirtual 134, 3) := by decide +kernel
theorem dX9_standing_20 : decode cX9_standing 20 = .ok (.ifCond .eq 7, 3) := by decide +kernel
theorem dX9_standing_23 : decode cX9_standing 23 = .ok (.iconst 1, 1) := by decide +kernel
theorem dX9_standing_24 : decode cX9_standing 24 = .ok (.goto 4, 3) := by decide +kernel
theorem dX9_standing_27 : decode cX9_standing 27 = .ok (.iconst 0, 1) := by decide +kernel
theorem dX9_standing_28 : decode cX9_standing 28 = .ok (.iadd, 1) := by decide +kernel
theorem dX9_standing_29 : decode cX9_standing 29 = .ok (.istore_n 1, 1) := by decide +kernel
theorem dX9_standing_30 : decode cX9_standing 30 = .ok (.iinc 2 1, 3) := by decide +kernel
theorem dX9_standing_33 : decode cX9_standing 33 = .ok (.goto (-29), 3) := by decide +kernel
theorem dX9_standing_36 : decode cX9_standing 36 = .ok (.iload_n 1, 1) := by decide +kernel
theorem dX9_standing_37 : decode cX9_standing 37 = .ok (.ireturn, 1) := by decide +kernel
theorem dX9_kiln_0 : decode cX9_kiln 0 = .ok (.iload_n 1, 1) := by decide +kernel
theorem dX9_kiln_1 : decode cX9_kiln 1 = .ok (.iconst 2, 1) := by decide +kernel
theorem dX9_kiln_2 : decode cX9_kiln 2 = .ok (.bipush 6, 2) := by decide +kernel
theorem dX9_kiln_4 : decode cX9_kiln 4 = .ok (.invokestatic 103, 3) := by decide +kernel
theorem dX9_kiln_7 : decode cX9_kiln 7 = .ok (.ifCond .eq 10, 3) := by decide +kernel
theorem dX9_kiln_10 : decode cX9_kiln 10 = .ok (.aload_n 0, 1) := by decide +kernel
theorem dX9_kiln_11 : decode cX9_kiln 11 = .ok (.invokevirtual 137, 3) := by decide +kernel
theorem dX9_kiln_14 : decode cX9_kiln 14 = .ok (.ifCond .le 5, 3) := by decide +kernel
theorem dX9_kiln_17 : decode cX9_kiln 17 = .ok (.iconst 0, 1) := by decide +kernel
theorem dX9_kiln_18 : decode cX9_kiln 18 = .ok (.ireturn, 1) := by decide +kernel
theorem dX9_kiln_19 : decode cX9_kiln 19 = .ok (.aload_n 0, 1) := by decide +kernel
theorem dX9_kiln_20 : decode cX9_kiln 20 = .ok (.iload_n 1, 1) := by decide +kernel
theorem dX9_kiln_21 : decode cX9_kiln 21 = .ok (.invokevirtual 26, 3) := by decide +kernel
theorem dX9_kiln_24 : decode cX9_kiln 24 = .ok (.iconst 1, 1) := by decide +kernel
theorem dX9_kiln_25 : decode cX9_kiln 25 = .ok (.ireturn, 1) := by decide +kernel
theorem dX9_isPlace_0 : decode cX9_isPlace 0 = .ok (.iload_n 1, 1) := by decide +kernel
theorem dX9_isPlace_1 : decode cX9_isPlace 1 = .ok (.iconst 0, 1) := by decide +kernel
theorem dX9_isPlace_2 : decode cX9_isPlace 2 = .ok (.aload_n 0, 1) := by decide +kernel
theorem dX9_isPlace_3 : decode cX9_isPlace 3 = .ok (.getfield 7, 3) := by decide +kernel
theorem dX9_isPlace_6 : decode cX9_isPlace 6 = .ok (.iconst 2, 1) := by decide +kernel
theorem dX9_isPlace_7 : decode cX9_isPlace 7 = .ok (.iaload, 1) := by decide +kernel
theorem dX9_isPlace_8 : decode cX9_isPlace 8 = .ok (.iconst 1, 1) := by decide +kernel
theorem dX9_isPlace_9 : decode cX9_isPlace 9 = .ok (.isub, 1) := by decide +kernel
theorem dX9_isPlace_10 : decode cX9_isPlace 10 = .ok (.invokestatic 103, 3) := by decide +kernel
theorem dX9_isPlace_13 : decode cX9_isPlace 13 = .ok (.ifCond .eq 16, 3) := by decide +kernel
theorem dX9_isPlace_16 : decode cX9_isPlace 16 = .ok (.iload_n 2, 1) := by decide +kernel
theorem dX9_isPlace_17 : decode cX9_isPlace 17 = .ok (.iconst 0, 1) := by decide +kernel
theorem dX9_isPlace_18 : decode cX9_isPlace 18 = .ok (.iconst 3, 1) := by decide +kernel
theorem dX9_isPlace_19 : decode cX9_isPlace 19 = .ok (.invokestatic 103, 3) := by decide +kernel
theorem dX9_isPlace_22 : decode cX9_isPlace 22 = .ok (.ifCond .eq 7, 3) := by decide +kernel
theorem dX9_isPlace_25 : decode cX9_isPlace 25 = .ok (.iconst 1, 1) := by decide +kernel
theorem dX9_isPlace_26 : decode cX9_isPlace 26 = .ok (.goto 4, 3) := by decide +kernel
theorem dX9_isPlace_29 : decode cX9_isPlace 29 = .ok (.iconst 0, 1) := by decide +kernel
theorem dX9_isPlace_30 : decode cX9_isPlace 30 = .ok (.ireturn, 1) := by decide +kernel
theorem dX9_value_0 : decode cX9_value 0 = .ok (.aload_n 0, 1) := by decide +kernel
theorem dX9_value_1 : decode cX9_value 1 = .ok (.iload_n 1, 1) := by decide +kernel
theorem dX9_value_2 : decode cX9_value 2 = .ok (.iload_n 2, 1) := by decide +kernel
theorem dX9_value_3 : decode cX9_value 3 = .ok (.invokevirtual 140, 3) := by decide +kernel
theorem dX9_value_6 : decode cX9_value 6 = .ok (.ifCond .eq 13, 3) := by decide +kernel
theorem dX9_value_9 : decode cX9_value 9 = .ok (.iload_n 3, 1) := by decide +kernel
theorem dX9_value_10 : decode cX9_value 10 = .ok (.iconst 1, 1) := by decide +kernel
theorem dX9_value_11 : decode cX9_value 11 = .ok (.bipush 99, 2) := by decide +kernel
theorem dX9_value_13 : decode cX9_value 13 = .ok (.invokestatic 103, 3) := by decide +kernel
theorem dX9_value_16 : decode cX9_value 16 = .ok (.ifCond .ne 5, 3) := by decide +kernel
theorem dX9_value_19 : decode cX9_value 19 = .ok (.iconst 0, 1) := by decide +kernel
theorem dX9_value_20 : decode cX9_value 20 = .ok (.ireturn, 1) := by decide +kernel
theorem dX9_value_21 : decode cX9_value 21 = .ok (.aload_n 0, 1) := by decide +kernel
theorem dX9_value_22 : decode cX9_value 22 = .ok (.getfield 7, 3) := by decide +kernel
theorem dX9_value_25 : decode cX9_value 25 = .ok (.bipush 16, 2) := by decide +kernel
theorem dX9_value_27 : decode cX9_value 27 = .ok (.iconst 4, 1) := by decide +kernel
theorem dX9_value_28 : decode cX9_value 28 = .ok (.iload_n 1, 1) := by decide +kernel
theorem dX9_value_29 : decode cX9_value 29 = .ok (.imul, 1) := by decide +kernel
theorem dX9_value_30 : decode cX9_value 30 = .ok (.iadd, 1) := by decide +kernel
theorem dX9_value_31 : decode cX9_value 31 = .ok (.iload_n 2, 1) := by decide +kernel
theorem dX9_value_32 : decode cX9_value 32 = .ok (.iadd, 1) := by decide +kernel
theorem dX9_value_33 : decode cX9_value 33 = .ok (.iload_n 3, 1) := by decide +kernel
theorem dX9_value_34 : decode cX9_value 34 = .ok (.iastore, 1) := by decide +kernel
theorem dX9_value_35 : decode cX9_value 35 = .ok (.iconst 1, 1) := by decide +kernel
theorem dX9_value_36 : decode cX9_value 36 = .ok (.ireturn, 1) := by decide +kernel
theorem dX9_pot_0 : decode cX9_pot 0 = .ok (.aload_n 0, 1) := by decide +kernel
theorem dX9_pot_1 : decode cX9_pot 1 = .ok (.getfield 7, 3) := by decide +kernel
theorem dX9_pot_4 : decode cX9_pot 4 = .ok (.iconst 1, 1) := by decide +kernel
theorem dX9_pot_5 : decode cX9_pot 5 = .ok (.iaload, 1) := by decide +kernel
theorem dX9_pot_6 : decode cX9_pot 6 = .ok (.bipush 24, 2) := by decide +kernel
theorem dX9_pot_8 : decode cX9_pot 8 = .ok (.if_icmp .eq 40, 3) := by decide +kernel
theorem dX9_pot_11 : decode cX9_pot 11 = .ok (.aload_n 0, 1) := by decide +kernel
theorem dX9_pot_12 : decode cX9_pot 12 = .ok (.iload_n 1, 1) := by decide +kernel
theorem dX9_pot_13 : decode cX9_pot 13 = .ok (.invokevirtual 144, 3) := by decide +kernel
theorem dX9_pot_16 : decode cX9_pot 16 = .ok (.ifCond .eq 32, 3) := by decide +kernel
theorem dX9_pot_19 : decode cX9_pot 19 = .ok (.iload_n 2, 1) := by decide +kernel
theorem dX9_pot_20 : decode cX9_pot 20 = .ok (.iconst 0, 1) := by decide +kernel
theorem dX9_pot_21 : decode cX9_pot 21 = .ok (.iconst 4, 1) := by decide +kernel
theorem dX9_pot_22 : decode cX9_pot 22 = .ok (.invokestatic 103, 3) := by decide +kernel
theorem dX9_pot_25 : decode cX9_pot 25 = .ok (.ifCond .eq 23, 3) := by decide +kernel
theorem dX9_pot_28 : decode cX9_pot 28 = .ok (.iload_n 3, 1) := by decide +kernel
theorem dX9_pot_29 : decode cX9_pot 29 = .ok (.iconst 0, 1) := by decide +kernel
theorem dX9_pot_30 : decode cX9_pot 30 = .ok (.iconst 3, 1) := by decide +kernel
theorem dX9_pot_31 : decode cX9_pot 31 = .ok (.invokestatic 103, 3) := by decide +kernel
theorem dX9_pot_34 : decode cX9_pot 34 = .ok (.ifCond .eq 14, 3) := by decide +kernel
theorem dX9_pot_37 : decode cX9_pot 37 = .ok (.iload 4, 2) := by decide +kernel
theorem dX9_pot_39 : decode cX9_pot 39 = .ok (.iconst 0, 1) := by decide +kernel
theorem dX9_pot_40 : decode cX9_pot 40 = .ok (.bipush 9, 2) := by decide +kernel
theorem dX9_pot_42 : decode cX9_pot 42 = .ok (.invokestatic 103, 3) := by decide +kernel
theorem dX9_pot_45 : decode cX9_pot 45 = .ok (.ifCond .ne 5, 3) := by decide +kernel
theorem dX9_pot_48 : decode cX9_pot 48 = .ok (.iconst (-1), 1) := by decide +kernel
theorem dX9_pot_49 : decode cX9_pot 49 = .ok (.ireturn, 1) := by decide +kernel
theorem dX9_pot_50 : decode cX9_pot 50 = .ok (.aload_n 0, 1) := by decide +kernel
theorem dX9_pot_51 : decode cX9_pot 51 = .ok (.getfield 7, 3) := by decide +kernel
theorem dX9_pot_54 : decode cX9_pot 54 = .ok (.iconst 1, 1) := by decide +kernel
theorem dX9_pot_55 : decode cX9_pot 55 = .ok (.iaload, 1) := by decide +kernel
theorem dX9_pot_56 : decode cX9_pot 56 = .ok (.istore 5, 2) := by decide +kernel
theorem dX9_pot_58 : decode cX9_pot 58 = .ok (.aload_n 0, 1) := by decide +kernel
theorem dX9_pot_59 : decode cX9_pot 59 = .ok (.getfield 7, 3) := by decide +kernel
theorem dX9_pot_62 : decode cX9_pot 62 = .ok (.iconst 1, 1) := by decide +kernel
theorem dX9_pot_63 : decode cX9_pot 63 = .ok (.dup2, 1) := by decide +kernel
theorem dX9_pot_64 : decode cX9_pot 64 = .ok (.iaload, 1) := by decide +kernel
theorem dX9_pot_65 : decode cX9_pot 65 = .ok (.iconst 1, 1) := by decide +kernel
theorem dX9_pot_66 : decode cX9_pot 66 = .ok (.iadd, 1) := by decide +kernel
theorem dX9_pot_67 : decode cX9_pot 67 = .ok (.iastore, 1) := by decide +kernel
theorem dX9_pot_68 : decode cX9_pot 68 = .ok (.iconst 0, 1) := by decide +kernel
theorem dX9_pot_69 : decode cX9_pot 69 = .ok (.istore 6, 2) := by decide +kernel
theorem dX9_pot_71 : decode cX9_pot 71 = .ok (.iload 6, 2) := by decide +kernel
theorem dX9_pot_73 : decode cX9_pot 73 = .ok (.bipush 8, 2) := by decide +kernel
theorem dX9_pot_75 : decode cX9_pot 75 = .ok (.if_icmp .ge 18, 3) := by decide +kernel
theorem dX9_pot_78 : decode cX9_pot 78 = .ok (.aload_n 0, 1) := by decide +kernel
theorem dX9_pot_79 : decode cX9_pot 79 = .ok (.iload 5, 2) := by decide +kernel
theorem dX9_pot_81 : decode cX9_pot 81 = .ok (.iload 6, 2) := by decide +kernel
theorem dX9_pot_83 : decode cX9_pot 83 = .ok (.iconst 0, 1) := by decide +kernel
theorem dX9_pot_84 : decode cX9_pot 84 = .ok (.invokevirtual 147, 3) := by decide +kernel
theorem dX9_pot_87 : decode cX9_pot 87 = .ok (.iinc 6 1, 3) := by decide +kernel
theorem dX9_pot_90 : decode cX9_pot 90 = .ok (.goto (-19), 3) := by decide +kernel
theorem dX9_pot_93 : decode cX9_pot 93 = .ok (.aload_n 0, 1) := by decide +kernel
theorem dX9_pot_94 : decode cX9_pot 94 = .ok (.iload 5, 2) := by decide +kernel
theorem dX9_pot_96 : decode cX9_pot 96 = .ok (.iconst 0, 1) := by decide +kernel
theorem dX9_pot_97 : decode cX9_pot 97 = .ok (.iload_n 1, 1) := by decide +kernel
theorem dX9_pot_98 : decode cX9_pot 98 = .ok (.invokevirtual 147, 3) := by decide +kernel
theorem dX9_pot_101 : decode cX9_pot 101 = .ok (.aload_n 0, 1) := by decide +kernel
theorem dX9_pot_102 : decode cX9_pot 102 = .ok (.iload 5, 2) := by decide +kernel
theorem dX9_pot_104 : decode cX9_pot 104 = .ok (.iconst 1, 1) := by decide +kernel
theorem dX9_pot_105 : decode cX9_pot 105 = .ok (.iload_n 2, 1) := by decide +kernel
theorem dX9_pot_106 : decode cX9_pot 106 = .ok (.invokevirtual 147, 3) := by decide +kernel
theorem dX9_pot_109 : decode cX9_pot 109 = .ok (.aload_n 0, 1) := by decide +kernel
theorem dX9_pot_110 : decode cX9_pot 110 = .ok (.iload 5, 2) := by decide +kernel
theorem dX9_pot_112 : decode cX9_pot 112 = .ok (.iconst 2, 1) := by decide +kernel
theorem dX9_pot_113 : decode cX9_pot 113 = .ok (.iload_n 3, 1) := by decide +kernel
theorem dX9_pot_114 : decode cX9_pot 114 = .ok (.invokevirtual 147, 3) := by decide +kernel
theorem dX9_pot_117 : decode cX9_pot 117 = .ok (.aload_n 0, 1) := by decide +kernel
theorem dX9_pot_118 : decode cX9_pot 118 = .ok (.iload 5, 2) := by decide +kernel
theorem dX9_pot_120 : decode cX9_pot 120 = .ok (.iconst 3, 1) := by decide +kernel
theorem dX9_pot_121 : decode cX9_pot 121 = .ok (.iload 4, 2) := by decide +kernel
theorem dX9_pot_123 : decode cX9_pot 123 = .ok (.invokevirtual 147, 3) := by decide +kernel
theorem dX9_pot_126 : decode cX9_pot 126 = .ok (.aload_n 0, 1) := by decide +kernel
theorem dX9_pot_127 : decode cX9_pot 127 = .ok (.iload 5, 2) := by decide +kernel
theorem dX9_pot_129 : decode cX9_pot 129 = .ok (.iconst 4, 1) := by decide +kernel
theorem dX9_pot_130 : decode cX9_pot 130 = .ok (.iconst (-1), 1) := by decide +kernel
theorem dX9_pot_131 : decode cX9_pot 131 = .ok (.invokevirtual 147, 3) := by decide +kernel
theorem dX9_pot_134 : decode cX9_pot 134 = .ok (.aload_n 0, 1) := by decide +kernel
theorem dX9_pot_135 : decode cX9_pot 135 = .ok (.getfield 7, 3) := by decide +kernel
theorem dX9_pot_138 : decode cX9_pot 138 = .ok (.bipush 60, 2) := by decide +kernel
theorem dX9_pot_140 : decode cX9_pot 140 = .ok (.bipush 30, 2) := by decide +kernel
theorem dX9_pot_142 : decode cX9_pot 142 = .ok (.iload_n 1, 1) := by decide +kernel
theorem dX9_pot_143 : decode cX9_pot 143 = .ok (.imul, 1) := by decide +kernel
theorem dX9_pot_144 : decode cX9_pot 144 = .ok (.iadd, 1) := by decide +kernel
theorem dX9_pot_145 : decode cX9_pot 145 = .ok (.iconst 2, 1) := by decide +kernel
theorem dX9_pot_146 : decode cX9_pot 146 = .ok (.iadd, 1) := by decide +kernel
theorem dX9_pot_147 : decode cX9_pot 147 = .ok (.iconst 1, 1) := by decide +kernel
theorem dX9_pot_148 : decode cX9_pot 148 = .ok (.iastore, 1) := by decide +kernel
theorem dX9_pot_149 : decode cX9_pot 149 = .ok (.iload 5, 2) := by decide +kernel
theorem dX9_pot_151 : decode cX9_pot 151 = .ok (.ireturn, 1) := by decide +kernel
theorem dX9_dry_0 : decode cX9_dry 0 = .ok (.iload_n 1, 1) := by decide +kernel
theorem dX9_dry_1 : decode cX9_dry 1 = .ok (.iconst 1, 1) := by decide +kernel
theorem dX9_dry_2 : decode cX9_dry 2 = .ok (.bipush 9, 2) := by decide +kernel
theorem dX9_dry_4 : decode cX9_dry 4 = .ok (.invokestatic 103, 3) := by decide +kernel
theorem dX9_dry_7 : decode cX9_dry 7 = .ok (.ifCond .ne 5, 3) := by decide +kernel
theorem dX9_dry_10 : decode cX9_dry 10 = .ok (.iconst 0, 1) := by decide +kernel
theorem dX9_dry_11 : decode cX9_dry 11 = .ok (.ireturn, 1) := by decide +kernel
theorem dX9_dry_12 : decode cX9_dry 12 = .ok (.iconst 0, 1) := by decide +kernel
theorem dX9_dry_13 : decode cX9_dry 13 = .ok (.istore_n 2, 1) := by decide +kernel
theorem dX9_dry_14 : decode cX9_dry 14 = .ok (.iload_n 2, 1) := by decide +kernel
theorem dX9_dry_15 : decode cX9_dry 15 = .ok (.aload_n 0, 1) := by decide +kernel
theorem dX9_dry_16 : decode cX9_dry 16 = .ok (.getfield 7, 3) := by decide +kernel
theorem dX9_dry_19 : decode cX9_dry 19 = .ok (.iconst 1, 1) := by decide +kernel
theorem dX9_dry_20 : decode cX9_dry 20 = .ok (.iaload, 1) := by decide +kernel
theorem dX9_dry_21 : decode cX9_dry 21 = .ok (.if_icmp .ge 45, 3) := by decide +kernel
theorem dX9_dry_24 : decode cX9_dry 24 = .ok (.aload_n 0, 1) := by decide +kernel
theorem dX9_dry_25 : decode cX9_dry 25 = .ok (.iload_n 2, 1) := by decide +kernel
theorem dX9_dry_26 : decode cX9_dry 26 = .ok (.invokevirtual 134, 3) := by decide +kernel
theorem dX9_dry_29 : decode cX9_dry 29 = .ok (.ifCond .ne 31, 3) := by decide +kernel
theorem dX9_dry_32 : decode cX9_dry 32 = .ok (.aload_n 0, 1) := by decide +kernel
theorem dX9_dry_33 : decode cX9_dry 33 = .ok (.iload_n 2, 1) := by decide +kernel
theorem dX9_dry_34 : decode cX9_dry 34 = .ok (.iconst 3, 1) := by decide +kernel
theorem dX9_dry_35 : decode cX9_dry 35 = .ok (.aload_n 0, 1) := by decide +kernel
theorem dX9_dry_36 : decode cX9_dry 36 = .ok (.iload_n 2, 1) := by decide +kernel
theorem dX9_dry_37 : decode cX9_dry 37 = .ok (.iconst 3, 1) := by decide +kernel
theorem dX9_dry_38 : decode cX9_dry 38 = .ok (.invokevirtual 130, 3) := by decide +kernel
theorem dX9_dry_41 : decode cX9_dry 41 = .ok (.iload_n 1, 1) := by decide +kernel
theorem dX9_dry_42 : decode cX9_dry 42 = .ok (.if_icmp .le 14, 3) := by decide +kernel
theorem dX9_dry_45 : decode cX9_dry 45 = .ok (.aload_n 0, 1) := by decide +kernel
theorem dX9_dry_46 : decode cX9_dry 46 = .ok (.iload_n 2, 1) := by decide +kernel
theorem dX9_dry_47 : decode cX9_dry 47 = .ok (.iconst 3, 1) := by decide +kernel
theorem dX9_dry_48 : decode cX9_dry 48 = .ok (.invokevirtual 130, 3) := by decide +kernel
theorem dX9_dry_51 : decode cX9_dry 51 = .ok (.iload_n 1, 1) := by decide +kernel
theorem dX9_dry_52 : decode cX9_dry 52 = .ok (.isub, 1) := by decide +kernel
theorem dX9_dry_53 : decode cX9_dry 53 = .ok (.goto 4, 3) := by decide +kernel
theorem dX9_dry_56 : decode cX9_dry 56 = .ok (.iconst 0, 1) := by decide +kernel
theorem dX9_dry_57 : decode cX9_dry 57 = .ok (.invokevirtual 147, 3) := by decide +kernel
theorem dX9_dry_60 : decode cX9_dry 60 = .ok (.iinc 2 1, 3) := by decide +kernel
theorem dX9_dry_63 : decode cX9_dry 63 = .ok (.goto (-49), 3) := by decide +kernel
theorem dX9_dry_66 : decode cX9_dry 66 = .ok (.iconst 1, 1) := by decide +kernel
