theorem dX0_init_0 : decode cX0_init 0 = .ok (.aload_n 0, 1) := by decide +kernel
theorem dX0_init_1 : decode cX0_init 1 = .ok (.invokespecial 3, 3) := by decide +kernel
theorem dX0_init_4 : decode cX0_init 4 = .ok (.aload_n 0, 1) := by decide +kernel
theorem dX0_init_5 : decode cX0_init 5 = .ok (.iconst 0, 1) := by decide +kernel
theorem dX0_init_6 : decode cX0_init 6 = .ok (.putfield 9, 3) := by decide +kernel
theorem dX0_init_9 : decode cX0_init 9 = .ok (.aload_n 0, 1) := by decide +kernel
theorem dX0_init_10 : decode cX0_init 10 = .ok (.bipush 12, 2) := by decide +kernel
theorem dX0_init_12 : decode cX0_init 12 = .ok (.newarray .int, 2) := by decide +kernel
theorem dX0_init_14 : decode cX0_init 14 = .ok (.putfield 15, 3) := by decide +kernel
theorem dX0_init_17 : decode cX0_init 17 = .ok (.aload_n 0, 1) := by decide +kernel
theorem dX0_init_18 : decode cX0_init 18 = .ok (.bipush 12, 2) := by decide +kernel
theorem dX0_init_20 : decode cX0_init 20 = .ok (.newarray .int, 2) := by decide +kernel
theorem dX0_init_22 : decode cX0_init 22 = .ok (.putfield 19, 3) := by decide +kernel
theorem dX0_init_25 : decode cX0_init 25 = .ok (.aload_n 0, 1) := by decide +kernel
theorem dX0_init_26 : decode cX0_init 26 = .ok (.bipush 48, 2) := by decide +kernel
theorem dX0_init_28 : decode cX0_init 28 = .ok (.newarray .int, 2) := by decide +kernel
theorem dX0_init_30 : decode cX0_init 30 = .ok (.putfield 22, 3) := by decide +kernel
theorem dX0_init_33 : decode cX0_init 33 = .ok (.aload_n 0, 1) := by decide +kernel
theorem dX0_init_34 : decode cX0_init 34 = .ok (.bipush 48, 2) := by decide +kernel
theorem dX0_init_36 : decode cX0_init 36 = .ok (.newarray .int, 2) := by decide +kernel
theorem dX0_init_38 : decode cX0_init 38 = .ok (.putfield 25, 3) := by decide +kernel
theorem dX0_init_41 : decode cX0_init 41 = .ok (.aload_n 0, 1) := by decide +kernel
theorem dX0_init_42 : decode cX0_init 42 = .ok (.bipush 48, 2) := by decide +kernel
theorem dX0_init_44 : decode cX0_init 44 = .ok (.newarray .int, 2) := by decide +kernel
theorem dX0_init_46 : decode cX0_init 46 = .ok (.putfield 28, 3) := by decide +kernel
theorem dX0_init_49 : decode cX0_init 49 = .ok (.return_, 1) := by decide +kernel
theorem dX0_copyFrom_0 : decode cX0_copyFrom 0 = .ok (.aload_n 0, 1) := by decide +kernel
theorem dX0_copyFrom_1 : decode cX0_copyFrom 1 = .ok (.aload_n 1, 1) := by decide +kernel
theorem dX0_copyFrom_2 : decode cX0_copyFrom 2 = .ok (.getfield 9, 3) := by decide +kernel
theorem dX0_copyFrom_5 : decode cX0_copyFrom 5 = .ok (.putfield 9, 3) := by decide +kernel
theorem dX0_copyFrom_8 : decode cX0_copyFrom 8 = .ok (.aload_n 1, 1) := by decide +kernel
theorem dX0_copyFrom_9 : decode cX0_copyFrom 9 = .ok (.getfield 15, 3) := by decide +kernel
theorem dX0_copyFrom_12 : decode cX0_copyFrom 12 = .ok (.iconst 0, 1) := by decide +kernel
theorem dX0_copyFrom_13 : decode cX0_copyFrom 13 = .ok (.aload_n 0, 1) := by decide +kernel
theorem dX0_copyFrom_14 : decode cX0_copyFrom 14 = .ok (.getfield 15, 3) := by decide +kernel
theorem dX0_copyFrom_17 : decode cX0_copyFrom 17 = .ok (.iconst 0, 1) := by decide +kernel
theorem dX0_copyFrom_18 : decode cX0_copyFrom 18 = .ok (.bipush 12, 2) := by decide +kernel
theorem dX0_copyFrom_20 : decode cX0_copyFrom 20 = .ok (.invokestatic 31, 3) := by decide +kernel
theorem dX0_copyFrom_23 : decode cX0_copyFrom 23 = .ok (.aload_n 1, 1) := by decide +kernel
theorem dX0_copyFrom_24 : decode cX0_copyFrom 24 = .ok (.getfield 19, 3) := by decide +kernel
theorem dX0_copyFrom_27 : decode cX0_copyFrom 27 = .ok (.iconst 0, 1) := by decide +kernel
theorem dX0_copyFrom_28 : decode cX0_copyFrom 28 = .ok (.aload_n 0, 1) := by decide +kernel
theorem dX0_copyFrom_29 : decode cX0_copyFrom 29 = .ok (.getfield 19, 3) := by decide +kernel
theorem dX0_copyFrom_32 : decode cX0_copyFrom 32 = .ok (.iconst 0, 1) := by decide +kernel
theorem dX0_copyFrom_33 : decode cX0_copyFrom 33 = .ok (.bipush 12, 2) := by decide +kernel
theorem dX0_copyFrom_35 : decode cX0_copyFrom 35 = .ok (.invokestatic 31, 3) := by decide +kernel
theorem dX0_copyFrom_38 : decode cX0_copyFrom 38 = .ok (.aload_n 1, 1) := by decide +kernel
theorem dX0_copyFrom_39 : decode cX0_copyFrom 39 = .ok (.getfield 22, 3) := by decide +kernel
theorem dX0_copyFrom_42 : decode cX0_copyFrom 42 = .ok (.iconst 0, 1) := by decide +kernel
theorem dX0_copyFrom_43 : decode cX0_copyFrom 43 = .ok (.aload_n 0, 1) := by decide +kernel
theorem dX0_copyFrom_44 : decode cX0_copyFrom 44 = .ok (.getfield 22, 3) := by decide +kernel
theorem dX0_copyFrom_47 : decode cX0_copyFrom 47 = .ok (.iconst 0, 1) := by decide +kernel
theorem dX0_copyFrom_48 : decode cX0_copyFrom 48 = .ok (.bipush 48, 2) := by decide +kernel
theorem dX0_copyFrom_50 : decode cX0_copyFrom 50 = .ok (.invokestatic 31, 3) := by decide +kernel
theorem dX0_copyFrom_53 : decode cX0_copyFrom 53 = .ok (.aload_n 1, 1) := by decide +kernel
theorem dX0_copyFrom_54 : decode cX0_copyFrom 54 = .ok (.getfield 25, 3) := by decide +kernel
theorem dX0_copyFrom_57 : decode cX0_copyFrom 57 = .ok (.iconst 0, 1) := by decide +kernel
theorem dX0_copyFrom_58 : decode cX0_copyFrom 58 = .ok (.aload_n 0, 1) := by decide +kernel
theorem dX0_copyFrom_59 : decode cX0_copyFrom 59 = .ok (.getfield 25, 3) := by decide +kernel
theorem dX0_copyFrom_62 : decode cX0_copyFrom 62 = .ok (.iconst 0, 1) := by decide +kernel
theorem dX0_copyFrom_63 : decode cX0_copyFrom 63 = .ok (.bipush 48, 2) := by decide +kernel
theorem dX0_copyFrom_65 : decode cX0_copyFrom 65 = .ok (.invokestatic 31, 3) := by decide +kernel
theorem dX0_copyFrom_68 : decode cX0_copyFrom 68 = .ok (.aload_n 1, 1) := by decide +kernel
theorem dX0_copyFrom_69 : decode cX0_copyFrom 69 = .ok (.getfield 28, 3) := by decide +kernel
theorem dX0_copyFrom_72 : decode cX0_copyFrom 72 = .ok (.iconst 0, 1) := by decide +kernel
theorem dX0_copyFrom_73 : decode cX0_copyFrom 73 = .ok (.aload_n 0, 1) := by decide +kernel
theorem dX0_copyFrom_74 : decode cX0_copyFrom 74 = .ok (.getfield 28, 3) := by decide +kernel
theorem dX0_copyFrom_77 : decode cX0_copyFrom 77 = .ok (.iconst 0, 1) := by decide +kernel
theorem dX0_copyFrom_78 : decode cX0_copyFrom 78 = .ok (.bipush 48, 2) := by decide +kernel
theorem dX0_copyFrom_80 : decode cX0_copyFrom 80 = .ok (.invokestatic 31, 3) := by decide +kernel
theorem dX0_copyFrom_83 : decode cX0_copyFrom 83 = .ok (.return_, 1) := by decide +kernel
theorem dX0_partFor_0 : decode cX0_partFor 0 = .ok (.iconst 0, 1) := by decide +kernel
theorem dX0_partFor_1 : decode cX0_partFor 1 = .ok (.istore_n 2, 1) := by decide +kernel
theorem dX0_partFor_2 : decode cX0_partFor 2 = .ok (.iload_n 2, 1) := by decide +kernel
theorem dX0_partFor_3 : decode cX0_partFor 3 = .ok (.aload_n 0, 1) := by decide +kernel
theorem dX0_partFor_4 : decode cX0_partFor 4 = .ok (.getfield 9, 3) := by decide +kernel
theorem dX0_partFor_7 : decode cX0_partFor 7 = .ok (.if_icmp .ge 25, 3) := by decide +kernel
theorem dX0_partFor_10 : decode cX0_partFor 10 = .ok (.aload_n 0, 1) := by decide +kernel
theorem dX0_partFor_11 : decode cX0_partFor 11 = .ok (.iload_n 2, 1) := by decide +kernel
theorem dX0_partFor_12 : decode cX0_partFor 12 = .ok (.aload_n 1, 1) := by decide +kernel
theorem dX0_partFor_13 : decode cX0_partFor 13 = .ok (.invokevirtual 37, 3) := by decide +kernel
theorem dX0_partFor_16 : decode cX0_partFor 16 = .ok (.ifCond .eq 10, 3) := by decide +kernel
theorem dX0_partFor_19 : decode cX0_partFor 19 = .ok (.aload_n 0, 1) := by decide +kernel
theorem dX0_partFor_20 : decode cX0_partFor 20 = .ok (.getfield 15, 3) := by decide +kernel
theorem dX0_partFor_23 : decode cX0_partFor 23 = .ok (.iload_n 2, 1) := by decide +kernel
theorem dX0_partFor_24 : decode cX0_partFor 24 = .ok (.iaload, 1) := by decide +kernel
theorem dX0_partFor_25 : decode cX0_partFor 25 = .ok (.ireturn, 1) := by decide +kernel
theorem dX0_partFor_26 : decode cX0_partFor 26 = .ok (.iinc 2 1, 3) := by decide +kernel
theorem dX0_partFor_29 : decode cX0_partFor 29 = .ok (.goto (-27), 3) := by decide +kernel
theorem dX0_partFor_32 : decode cX0_partFor 32 = .ok (.iconst 0, 1) := by decide +kernel
theorem dX0_partFor_33 : decode cX0_partFor 33 = .ok (.ireturn, 1) := by decide +kernel
theorem dX0_allHold_0 : decode cX0_allHold 0 = .ok (.iconst 0, 1) := by decide +kernel
theorem dX0_allHold_1 : decode cX0_allHold 1 = .ok (.istore_n 3, 1) := by decide +kernel
theorem dX0_allHold_2 : decode cX0_allHold 2 = .ok (.iload_n 3, 1) := by decide +kernel
theorem dX0_allHold_3 : decode cX0_allHold 3 = .ok (.aload_n 0, 1) := by decide +kernel
theorem dX0_allHold_4 : decode cX0_allHold 4 = .ok (.getfield 19, 3) := by decide +kernel
theorem dX0_allHold_7 : decode cX0_allHold 7 = .ok (.iload_n 1, 1) := by decide +kernel
theorem dX0_allHold_8 : decode cX0_allHold 8 = .ok (.iaload, 1) := by decide +kernel
theorem dX0_allHold_9 : decode cX0_allHold 9 = .ok (.if_icmp .ge 24, 3) := by decide +kernel
theorem dX0_allHold_12 : decode cX0_allHold 12 = .ok (.aload_n 0, 1) := by decide +kernel
theorem dX0_allHold_13 : decode cX0_allHold 13 = .ok (.iload_n 1, 1) := by decide +kernel
theorem dX0_allHold_14 : decode cX0_allHold 14 = .ok (.iconst 4, 1) := by decide +kernel
theorem dX0_allHold_15 : decode cX0_allHold 15 = .ok (.imul, 1) := by decide +kernel
theorem dX0_allHold_16 : decode cX0_allHold 16 = .ok (.iload_n 3, 1) := by decide +kernel
theorem dX0_allHold_17 : decode cX0_allHold 17 = .ok (.iadd, 1) := by decide +kernel
theorem dX0_allHold_18 : decode cX0_allHold 18 = .ok (.aload_n 2, 1) := by decide +kernel
theorem dX0_allHold_19 : decode cX0_allHold 19 = .ok (.invokevirtual 41, 3) := by decide +kernel
theorem dX0_allHold_22 : decode cX0_allHold 22 = .ok (.ifCond .ne 5, 3) := by decide +kernel
theorem dX0_allHold_25 : decode cX0_allHold 25 = .ok (.iconst 0, 1) := by decide +kernel
theorem dX0_allHold_26 : decode cX0_allHold 26 = .ok (.ireturn, 1) := by decide +kernel
theorem dX0_allHold_27 : decode cX0_allHold 27 = .ok (.iinc 3 1, 3) := by decide +kernel
theorem dX0_allHold_30 : decode cX0_allHold 30 = .ok (.goto (-28), 3) := by decide +kernel
theorem dX0_allHold_33 : decode cX0_allHold 33 = .ok (.iconst 1, 1) := by decide +kernel
theorem dX0_allHold_34 : decode cX0_allHold 34 = .ok (.ireturn, 1) := by decide +kernel
theorem dX0_holds_0 : decode cX0_holds 0 = .ok (.aload_n 2, 1) := by decide +kernel
theorem dX0_holds_1 : decode cX0_holds 1 = .ok (.aload_n 0, 1) := by decide +kernel
theorem dX0_holds_2 : decode cX0_holds 2 = .ok (.getfield 22, 3) := by decide +kernel
theorem dX0_holds_5 : decode cX0_holds 5 = .ok (.iload_n 1, 1) := by decide +kernel
theorem dX0_holds_6 : decode cX0_holds 6 = .ok (.iaload, 1) := by decide +kernel
theorem dX0_holds_7 : decode cX0_holds 7 = .ok (.invokevirtual 44, 3) := by decide +kernel
theorem dX0_holds_10 : decode cX0_holds 10 = .ok (.istore_n 3, 1) := by decide +kernel
theorem dX0_holds_11 : decode cX0_holds 11 = .ok (.aload_n 0, 1) := by decide +kernel
theorem dX0_holds_12 : decode cX0_holds 12 = .ok (.getfield 28, 3) := by decide +kernel
theorem dX0_holds_15 : decode cX0_holds 15 = .ok (.iload_n 1, 1) := by decide +kernel
theorem dX0_holds_16 : decode cX0_holds 16 = .ok (.iaload, 1) := by decide +kernel
theorem dX0_holds_17 : decode cX0_holds 17 = .ok (.istore 4, 2) := by decide +kernel
theorem dX0_holds_19 : decode cX0_holds 19 = .ok (.iload_n 3, 1) := by decide +kernel
theorem dX0_holds_20 : decode cX0_holds 20 = .ok (.iload 4, 2) := by decide +kernel
theorem dX0_holds_22 : decode cX0_holds 22 = .ok (.if_icmp .ge 7, 3) := by decide +kernel
theorem dX0_holds_25 : decode cX0_holds 25 = .ok (.iconst 1, 1) := by decide +kernel
theorem dX0_holds_26 : decode cX0_holds 26 = .ok (.goto 14, 3) := by decide +kernel
theorem dX0_holds_29 : decode cX0_holds 29 = .ok (.iload_n 3, 1) := by decide +kernel
theorem dX0_holds_30 : decode cX0_holds 30 = .ok (.iload 4, 2) := by decide +kernel
theorem dX0_holds_32 : decode cX0_holds 32 = .ok (.if_icmp .le 7, 3) := by decide +kernel
theorem dX0_holds_35 : decode cX0_holds 35 = .ok (.iconst 4, 1) := by decide +kernel
theorem dX0_holds_36 : decode cX0_holds 36 = .ok (.goto 4, 3) := by decide +kernel
theorem dX0_holds_39 : decode cX0_holds 39 = .ok (.iconst 2, 1) := by decide +kernel
theorem dX0_holds_40 : decode cX0_holds 40 = .ok (.istore 5, 2) := by decide +kernel
theorem dX0_holds_42 : decode cX0_holds 42 = .ok (.aload_n 0, 1) := by decide +kernel
theorem dX0_holds_43 : decode cX0_holds 43 = .ok (.getfield 25, 3) := by decide +kernel
theorem dX0_holds_46 : decode cX0_holds 46 = .ok (.iload_n 1, 1) := by decide +kernel
theorem dX0_holds_47 : decode cX0_holds 47 = .ok (.iaload, 1) := by decide +kernel
theorem dX0_holds_48 : decode cX0_holds 48 = .ok (.iload 5, 2) := by decide +kernel
theorem dX0_holds_50 : decode cX0_holds 50 = .ok (.iand, 1) := by decide +kernel
theorem dX0_holds_51 : decode cX0_holds 51 = .ok (.ifCond .eq 7, 3) := by decide +kernel
theorem dX0_holds_54 : decode cX0_holds 54 = .ok (.iconst 1, 1) := by decide +kernel
theorem dX0_holds_55 : decode cX0_holds 55 = .ok (.goto 4, 3) := by decide +kernel
theorem dX0_holds_58 : decode cX0_holds 58 = .ok (.iconst 0, 1) := by decide +kernel
theorem dX0_holds_59 : decode cX0_holds 59 = .ok (.ireturn, 1) := by decide +kernel
theorem dX1_init_0 : decode cX1_init 0 = .ok (.aload_n 0, 1) := by decide +kernel
theorem dX1_init_1 : decode cX1_init 1 = .ok (.invokespecial 3, 3) := by decide +kernel
theorem dX1_init_4 : decode cX1_init 4 = .ok (.aload_n 0, 1) := by decide +kernel
theorem dX1_init_5 : decode cX1_init 5 = .ok (.iconst 0, 1) := by decide +kernel
theorem dX1_init_6 : decode cX1_init 6 = .ok (.putfield 9, 3) := by decide +kernel
theorem dX1_init_9 : decode cX1_init 9 = .ok (.aload_n 0, 1) := by decide +kernel
theorem dX1_init_10 : decode cX1_init 10 = .ok (.iconst 0, 1) := by decide +kernel
theorem dX1_init_11 : decode cX1_init 11 = .ok (.putfield 15, 3) := by decide +kernel
theorem dX1_init_14 : decode cX1_init 14 = .ok (.aload_n 0, 1) := by decide +kernel
theorem dX1_init_15 : decode cX1_init 15 = .ok (.iconst 0, 1) := by decide +kernel
theorem dX1_init_16 : decode cX1_init 16 = .ok (.putfield 18, 3) := by decide +kernel
theorem dX1_init_19 : decode cX1_init 19 = .ok (.aload_n 0, 1) := by decide +kernel
theorem dX1_init_20 : decode cX1_init 20 = .ok (.iconst 0, 1) := by decide +kernel
theorem dX1_init_21 : decode cX1_init 21 = .ok (.putfield 22, 3) := by decide +kernel
theorem dX1_init_24 : decode cX1_init 24 = .ok (.aload_n 0, 1) := by decide +kernel
theorem dX1_init_25 : decode cX1_init 25 = .ok (.iconst 0, 1) := by decide +kernel
theorem dX1_init_26 : decode cX1_init 26 = .ok (.putfield 25, 3) := by decide +kernel
theorem dX1_init_29 : decode cX1_init 29 = .ok (.aload_n 0, 1) := by decide +kernel
theorem dX1_init_30 : decode cX1_init 30 = .ok (.bipush 8, 2) := by decide +kernel
theorem dX1_init_32 : decode cX1_init 32 = .ok (.newarray .int, 2) := by decide +kernel
theorem dX1_init_34 : decode cX1_init 34 = .ok (.putfield 28, 3) := by decide +kernel
theorem dX1_init_37 : decode cX1_init 37 = .ok (.aload_n 0, 1) := by decide +kernel
theorem dX1_init_38 : decode cX1_init 38 = .ok (.bipush 8, 2) := by decide +kernel
theorem dX1_init_40 : decode cX1_init 40 = .ok (.newarray .int, 2) := by decide +kernel
theorem dX1_init_42 : decode cX1_init 42 = .ok (.putfield 32, 3) := by decide +kernel
theorem dX1_init_45 : decode cX1_init 45 = .ok (.aload_n 0, 1) := by decide +kernel
theorem dX1_init_46 : decode cX1_init 46 = .ok (.bipush 8, 2) := by decide +kernel
theorem dX1_init_48 : decode cX1_init 48 = .ok (.newarray .int, 2) := by decide +kernel
theorem dX1_init_50 : decode cX1_init 50 = .ok (.putfield 35, 3) := by decide +kernel
theorem dX1_init_53 : decode cX1_init 53 = .ok (.aload_n 0, 1) := by decide +kernel
theorem dX1_init_54 : decode cX1_init 54 = .ok (.bipush 8, 2) := by decide +kernel
theorem dX1_init_56 : decode cX1_init 56 = .ok (.newarray .int, 2) := by decide +kernel
theorem dX1_init_58 : decode cX1_init 58 = .ok (.putfield 38, 3) := by decide +kernel
theorem dX1_init_61 : decode cX1_init 61 = .ok (.return_, 1) := by decide +kernel
theorem dX1_copyFrom_0 : decode cX1_copyFrom 0 = .ok (.aload_n 0, 1) := by decide +kernel
theorem dX1_copyFrom_1 : decode cX1_copyFrom 1 = .ok (.aload_n 1, 1) := by decide +kernel
theorem dX1_copyFrom_2 : decode cX1_copyFrom 2 = .ok (.getfield 9, 3) := by decide +kernel
theorem dX1_copyFrom_5 : decode cX1_copyFrom 5 = .ok (.putfield 9, 3) := by decide +kernel
theorem dX1_copyFrom_8 : decode cX1_copyFrom 8 = .ok (.aload_n 0, 1) := by decide +kernel
theorem dX1_copyFrom_9 : decode cX1_copyFrom 9 = .ok (.aload_n 1, 1) := by decide +kernel
theorem dX1_copyFrom_10 : decode cX1_copyFrom 10 = .ok (.getfield 15, 3) := by decide +kernel
theorem dX1_copyFrom_13 : decode cX1_copyFrom 13 = .ok (.putfield 15, 3) := by decide +kernel
theorem dX1_copyFrom_16 : decode cX1_copyFrom 16 = .ok (.aload_n 0, 1) := by decide +kernel
theorem dX1_copyFrom_17 : decode cX1_copyFrom 17 = .ok (.aload_n 1, 1) := by decide +kernel
theorem dX1_copyFrom_18 : decode cX1_copyFrom 18 = .ok (.getfield 18, 3) := by decide +kernel
theorem dX1_copyFrom_21 : decode cX1_copyFrom 21 = .ok (.putfield 18, 3) := by decide +kernel
theorem dX1_copyFrom_24 : decode cX1_copyFrom 24 = .ok (.aload_n 0, 1) := by decide +kernel
theorem dX1_copyFrom_25 : decode cX1_copyFrom 25 = .ok (.aload_n 1, 1) := by decide +kernel
theorem dX1_copyFrom_26 : decode cX1_copyFrom 26 = .ok (.getfield 22, 3) := by decide +kernel
theorem dX1_copyFrom_29 : decode cX1_copyFrom 29 = .ok (.putfield 22, 3) := by decide +kernel
theorem dX1_copyFrom_32 : decode cX1_copyFrom 32 = .ok (.aload_n 0, 1) := by decide +kernel
theorem dX1_copyFrom_33 : decode cX1_copyFrom 33 = .ok (.aload_n 1, 1) := by decide +kernel
theorem dX1_copyFrom_34 : decode cX1_copyFrom 34 = .ok (.getfield 25, 3) := by decide +kernel
theorem dX1_copyFrom_37 : decode cX1_copyFrom 37 = .ok (.putfield 25, 3) := by decide +kernel
theorem dX1_copyFrom_40 : decode cX1_copyFrom 40 = .ok (.aload_n 1, 1) := by decide +kernel
theorem dX1_copyFrom_41 : decode cX1_copyFrom 41 = .ok (.getfield 28, 3) := by decide +kernel
theorem dX1_copyFrom_44 : decode cX1_copyFrom 44 = .ok (.iconst 0, 1) := by decide +kernel
theorem dX1_copyFrom_45 : decode cX1_copyFrom 45 = .ok (.aload_n 0, 1) := by decide +kernel
theorem dX1_copyFrom_46 : decode cX1_copyFrom 46 = .ok (.getfield 28, 3) := by decide +kernel
theorem dX1_copyFrom_49 : decode cX1_copyFrom 49 = .ok (.iconst 0, 1) := by decide +kernel
theorem dX1_copyFrom_50 : decode cX1_copyFrom 50 = .ok (.bipush 8, 2) := by decide +kernel
theorem dX1_copyFrom_52 : decode cX1_copyFrom 52 = .ok (.invokestatic 41, 3) := by decide +kernel
theorem dX1_copyFrom_55 : decode cX1_copyFrom 55 = .ok (.aload_n 1, 1) := by decide +kernel
theorem dX1_copyFrom_56 : decode cX1_copyFrom 56 = .ok (.getfield 32, 3) := by decide +kernel
theorem dX1_copyFrom_59 : decode cX1_copyFrom 59 = .ok (.iconst 0, 1) := by decide +kernel
theorem dX1_copyFrom_60 : decode cX1_copyFrom 60 = .ok (.aload_n 0, 1) := by decide +kernel
theorem dX1_copyFrom_61 : decode cX1_copyFrom 61 = .ok (.getfield 32, 3) := by decide +kernel
theorem dX1_copyFrom_64 : decode cX1_copyFrom 64 = .ok (.iconst 0, 1) := by decide +kernel
theorem dX1_copyFrom_65 : decode cX1_copyFrom 65 = .ok (.bipush 8, 2) := by decide +kernel
theorem dX1_copyFrom_67 : decode cX1_copyFrom 67 = .ok (.invokestatic 41, 3) := by decide +kernel
theorem dX1_copyFrom_70 : decode cX1_copyFrom 70 = .ok (.aload_n 1, 1) := by decide +kernel
theorem dX1_copyFrom_71 : decode cX1_copyFrom 71 = .ok (.getfield 35, 3) := by decide +kernel
theorem dX1_copyFrom_74 : decode cX1_copyFrom 74 = .ok (.iconst 0, 1) := by decide +kernel
theorem dX1_copyFrom_75 : decode cX1_copyFrom 75 = .ok (.aload_n 0, 1) := by decide +kernel
theorem dX1_copyFrom_76 : decode cX1_copyFrom 76 = .ok (.getfield 35, 3) := by decide +kernel
theorem dX1_copyFrom_79 : decode cX1_copyFrom 79 = .ok (.iconst 0, 1) := by decide +kernel
theorem dX1_copyFrom_80 : decode cX1_copyFrom 80 = .ok (.bipush 8, 2) := by decide +kernel
theorem dX1_copyFrom_82 : decode cX1_copyFrom 82 = .ok (.invokestatic 41, 3) := by decide +kernel
theorem dX1_copyFrom_85 : decode cX1_copyFrom 85 = .ok (.aload_n 1, 1) := by decide +kernel
theorem dX1_copyFrom_86 : decode cX1_copyFrom 86 = .ok (.getfield 38, 3) := by decide +kernel
theorem dX1_copyFrom_89 : decode cX1_copyFrom 89 = .ok (.iconst 0, 1) := by decide +kernel
theorem dX1_copyFrom_90 : decode cX1_copyFrom 90 = .ok (.aload_n 0, 1) := by decide +kernel
theorem dX1_copyFrom_91 : decode cX1_copyFrom 91 = .ok (.getfield 38, 3) := by decide +kernel
theorem dX1_copyFrom_94 : decode cX1_copyFrom 94 = .ok (.iconst 0, 1) := by decide +kernel
theorem dX1_copyFrom_95 : decode cX1_copyFrom 95 = .ok (.bipush 8, 2) := by decide +kernel
theorem dX1_copyFrom_97 : decode cX1_copyFrom 97 = .ok (.invokestatic 41, 3) := by decide +kernel
theorem dX1_copyFrom_100 : decode cX1_copyFrom 100 = .ok (.return_, 1) := by decide +kernel
theorem dX1_takeOrder_0 : decode cX1_takeOrder 0 = .ok (.aload_n 0, 1) := by decide +kernel
theorem dX1_takeOrder_1 : decode cX1_takeOrder 1 = .ok (.getfield 25, 3) := by decide +kernel
theorem dX1_takeOrder_4 : decode cX1_takeOrder 4 = .ok (.bipush 8, 2) := by decide +kernel
theorem dX1_takeOrder_6 : decode cX1_takeOrder 6 = .ok (.if_icmp .lt 4, 3) := by decide +kernel
theorem dX1_takeOrder_9 : decode cX1_takeOrder 9 = .ok (.return_, 1) := by decide +kernel
theorem dX1_takeOrder_10 : decode cX1_takeOrder 10 = .ok (.aload_n 0, 1) := by decide +kernel
theorem dX1_takeOrder_11 : decode cX1_takeOrder 11 = .ok (.getfield 28, 3) := by decide +kernel
theorem dX1_takeOrder_14 : decode cX1_takeOrder 14 = .ok (.aload_n 0, 1) := by decide +kernel
theorem dX1_takeOrder_15 : decode cX1_takeOrder 15 = .ok (.getfield 25, 3) := by decide +kernel
theorem dX1_takeOrder_18 : decode cX1_takeOrder 18 = .ok (.iload_n 1, 1) := by decide +kernel
theorem dX1_takeOrder_19 : decode cX1_takeOrder 19 = .ok (.iastore, 1) := by decide +kernel
theorem dX1_takeOrder_20 : decode cX1_takeOrder 20 = .ok (.aload_n 0, 1) := by decide +kernel
theorem dX1_takeOrder_21 : decode cX1_takeOrder 21 = .ok (.getfield 32, 3) := by decide +kernel
theorem dX1_takeOrder_24 : decode cX1_takeOrder 24 = .ok (.aload_n 0, 1) := by decide +kernel
theorem dX1_takeOrder_25 : decode cX1_takeOrder 25 = .ok (.getfield 25, 3) := by decide +kernel
theorem dX1_takeOrder_28 : decode cX1_takeOrder 28 = .ok (.iload_n 2, 1) := by decide +kernel
theorem dX1_takeOrder_29 : decode cX1_takeOrder 29 = .ok (.iastore, 1) := by decide +kernel
theorem dX1_takeOrder_30 : decode cX1_takeOrder 30 = .ok (.aload_n 0, 1) := by decide +kernel
theorem dX1_takeOrder_31 : decode cX1_takeOrder 31 = .ok (.getfield 35, 3) := by decide +kernel
theorem dX1_takeOrder_34 : decode cX1_takeOrder 34 = .ok (.aload_n 0, 1) := by decide +kernel
theorem dX1_takeOrder_35 : decode cX1_takeOrder 35 = .ok (.getfield 25, 3) := by decide +kernel
theorem dX1_takeOrder_38 : decode cX1_takeOrder 38 = .ok (.iload_n 3, 1) := by decide +kernel
theorem dX1_takeOrder_39 : decode cX1_takeOrder 39 = .ok (.iastore, 1) := by decide +kernel
theorem dX1_takeOrder_40 : decode cX1_takeOrder 40 = .ok (.aload_n 0, 1) := by decide +kernel
theorem dX1_takeOrder_41 : decode cX1_takeOrder 41 = .ok (.getfield 25, 3) := by decide +kernel
theorem dX1_takeOrder_44 : decode cX1_takeOrder 44 = .ok (.istore 4, 2) := by decide +kernel
theorem dX1_takeOrder_46 : decode cX1_takeOrder 46 = .ok (.iload 4, 2) := by decide +kernel
theorem dX1_takeOrder_48 : decode cX1_takeOrder 48 = .ok (.ifCond .le 43, 3) := by decide +kernel
theorem dX1_takeOrder_51 : decode cX1_takeOrder 51 = .ok (.aload_n 0, 1) := by decide +kernel
theorem dX1_takeOrder_52 : decode cX1_takeOrder 52 = .ok (.getfield 32, 3) := by decide +kernel
theorem dX1_takeOrder_55 : decode cX1_takeOrder 55 = .ok (.aload_n 0, 1) := by decide +kernel
theorem dX1_takeOrder_56 : decode cX1_takeOrder 56 = .ok (.getfield 38, 3) := by decide +kernel
theorem dX1_takeOrder_59 : decode cX1_takeOrder 59 = .ok (.iload 4, 2) := by decide +kernel
theorem dX1_takeOrder_61 : decode cX1_takeOrder 61 = .ok (.iconst 1, 1) := by decide +kernel
theorem dX1_takeOrder_62 : decode cX1_takeOrder 62 = .ok (.isub, 1) := by decide +kernel
theorem dX1_takeOrder_63 : decode cX1_takeOrder 63 = .ok (.iaload, 1) := by decide +kernel
theorem dX1_takeOrder_64 : decode cX1_takeOrder 64 = .ok (.iaload, 1) := by decide +kernel
theorem dX1_takeOrder_65 : decode cX1_takeOrder 65 = .ok (.iload_n 2, 1) := by decide +kernel
theorem dX1_takeOrder_66 : decode cX1_takeOrder 66 = .ok (.if_icmp .le 25, 3) := by decide +kernel
theorem dX1_takeOrder_69 : decode cX1_takeOrder 69 = .ok (.aload_n 0, 1) := by decide +kernel
theorem dX1_takeOrder_70 : decode cX1_takeOrder 70 = .ok (.getfield 38, 3) := by decide +kernel
theorem dX1_takeOrder_73 : decode cX1_takeOrder 73 = .ok (.iload 4, 2) := by decide +kernel
theorem dX1_takeOrder_75 : decode cX1_takeOrder 75 = .ok (.aload_n 0, 1) := by decide +kernel
theorem dX1_takeOrder_76 : decode cX1_takeOrder 76 = .ok (.getfield 38, 3) := by decide +kernel
theorem dX1_takeOrder_79 : decode cX1_takeOrder 79 = .ok (.iload 4, 2) := by decide +kernel
theorem dX1_takeOrder_81 : decode cX1_takeOrder 81 = .ok (.iconst 1, 1) := by decide +kernel
theorem dX1_takeOrder_82 : decode cX1_takeOrder 82 = .ok (.isub, 1) := by decide +kernel
theorem dX1_takeOrder_83 : decode cX1_takeOrder 83 = .ok (.iaload, 1) := by decide +kernel
theorem dX1_takeOrder_84 : decode cX1_takeOrder 84 = .ok (.iastore, 1) := by decide +kernel
theorem dX1_takeOrder_85 : decode cX1_takeOrder 85 = .ok (.iinc 4 (-1), 3) := by decide +kernel
theorem dX1_takeOrder_88 : decode cX1_takeOrder 88 = .ok (.goto (-42), 3) := by decide +kernel
theorem dX1_takeOrder_91 : decode cX1_takeOrder 91 = .ok (.aload_n 0, 1) := by decide +kernel
theorem dX1_takeOrder_92 : decode cX1_takeOrder 92 = .ok (.getfield 38, 3) := by decide +kernel
theorem dX1_takeOrder_95 : decode cX1_takeOrder 95 = .ok (.iload 4, 2) := by decide +kernel
theorem dX1_takeOrder_97 : decode cX1_takeOrder 97 = .ok (.aload_n 0, 1) := by decide +kernel
theorem dX1_takeOrder_98 : decode cX1_takeOrder 98 = .ok (.getfield 25, 3) := by decide +kernel
theorem dX1_takeOrder_101 : decode cX1_takeOrder 101 = .ok (.iastore, 1) := by decide +kernel
theorem dX1_takeOrder_102 : decode cX1_takeOrder 102 = .ok (.aload_n 0, 1) := by decide +kernel
theorem dX1_takeOrder_103 : decode cX1_takeOrder 103 = .ok (.dup, 1) := by decide +kernel
theorem dX1_takeOrder_104 : decode cX1_takeOrder 104 = .ok (.getfield 25, 3) := by decide +kernel
theorem dX1_takeOrder_107 : decode cX1_takeOrder 107 = .ok (.iconst 1, 1) := by decide +kernel
theorem dX1_takeOrder_108 : decode cX1_takeOrder 108 = .ok (.iadd, 1) := by decide +kernel
theorem dX1_takeOrder_109 : decode cX1_takeOrder 109 = .ok (.putfield 25, 3) := by decide +kernel
theorem dX1_takeOrder_112 : decode cX1_takeOrder 112 = .ok (.return_, 1) := by decide +kernel
theorem dX1_hasOrders_0 : decode cX1_hasOrders 0 = .ok (.iload_n 1, 1) := by decide +kernel
theorem dX1_hasOrders_1 : decode cX1_hasOrders 1 = .ok (.aload_n 0, 1) := by decide +kernel
theorem dX1_hasOrders_2 : decode cX1_hasOrders 2 = .ok (.getfield 25, 3) := by decide +kernel
theorem dX1_hasOrders_5 : decode cX1_hasOrders 5 = .ok (.iushr, 1) := by decide +kernel
theorem dX1_hasOrders_6 : decode cX1_hasOrders 6 = .ok (.ifCond .ne 7, 3) := by decide +kernel
theorem dX1_hasOrders_9 : decode cX1_hasOrders 9 = .ok (.iconst 1, 1) := by decide +kernel
theorem dX1_hasOrders_10 : decode cX1_hasOrders 10 = .ok (.goto 4, 3) := by decide +kernel
theorem dX1_hasOrders_13 : decode cX1_hasOrders 13 = .ok (.iconst 0, 1) := by decide +kernel
theorem dX1_hasOrders_14 : decode cX1_hasOrders 14 = .ok (.ireturn, 1) := by decide +kernel
theorem dX1_canDo_0 : decode cX1_canDo 0 = .ok (.iconst 0, 1) := by decide +kernel
theorem dX1_canDo_1 : decode cX1_canDo 1 = .ok (.istore_n 2, 1) := by decide +kernel
theorem dX1_canDo_2 : decode cX1_canDo 2 = .ok (.iconst 0, 1) := by decide +kernel
theorem dX1_canDo_3 : decode cX1_canDo 3 = .ok (.istore_n 3, 1) := by decide +kernel
theorem dX1_canDo_4 : decode cX1_canDo 4 = .ok (.iload_n 3, 1) := by decide +kernel
theorem dX1_canDo_5 : decode cX1_canDo 5 = .ok (.aload_n 0, 1) := by decide +kernel
theorem dX1_canDo_6 : decode cX1_canDo 6 = .ok (.getfield 25, 3) := by decide +kernel
theorem dX1_canDo_9 : decode cX1_canDo 9 = .ok (.if_icmp .ge 49, 3) := by decide +kernel
theorem dX1_canDo_12 : decode cX1_canDo 12 = .ok (.aload_n 0, 1) := by decide +kernel
theorem dX1_canDo_13 : decode cX1_canDo 13 = .ok (.getfield 38, 3) := by decide +kernel
theorem dX1_canDo_16 : decode cX1_canDo 16 = .ok (.iload_n 3, 1) := by decide +kernel
theorem dX1_canDo_17 : decode cX1_canDo 17 = .ok (.iaload, 1) := by decide +kernel
theorem dX1_canDo_18 : decode cX1_canDo 18 = .ok (.istore 4, 2) := by decide +kernel
theorem dX1_canDo_20 : decode cX1_canDo 20 = .ok (.iload_n 1, 1) := by decide +kernel
theorem dX1_canDo_21 : decode cX1_canDo 21 = .ok (.iload 4, 2) := by decide +kernel
theorem dX1_canDo_23 : decode cX1_canDo 23 = .ok (.ishr, 1) := by decide +kernel
theorem dX1_canDo_24 : decode cX1_canDo 24 = .ok (.iconst 1, 1) := by decide +kernel
theorem dX1_canDo_25 : decode cX1_canDo 25 = .ok (.iand, 1) := by decide +kernel
theorem dX1_canDo_26 : decode cX1_canDo 26 = .ok (.ifCond .eq 26, 3) := by decide +kernel
theorem dX1_canDo_29 : decode cX1_canDo 29 = .ok (.iload_n 2, 1) := by decide +kernel
theorem dX1_canDo_30 : decode cX1_canDo 30 = .ok (.aload_n 0, 1) := by decide +kernel
theorem dX1_canDo_31 : decode cX1_canDo 31 = .ok (.getfield 28, 3) := by decide +kernel
theorem dX1_canDo_34 : decode cX1_canDo 34 = .ok (.iload 4, 2) := by decide +kernel
theorem dX1_canDo_36 : decode cX1_canDo 36 = .ok (.iaload, 1) := by decide +kernel
theorem dX1_canDo_37 : decode cX1_canDo 37 = .ok (.iadd, 1) := by decide +kernel
theorem dX1_canDo_38 : decode cX1_canDo 38 = .ok (.istore_n 2, 1) := by decide +kernel
theorem dX1_canDo_39 : decode cX1_canDo 39 = .ok (.iload_n 2, 1) := by decide +kernel
theorem dX1_canDo_40 : decode cX1_canDo 40 = .ok (.aload_n 0, 1) := by decide +kernel
theorem dX1_canDo_41 : decode cX1_canDo 41 = .ok (.getfield 32, 3) := by decide +kernel
theorem dX1_canDo_44 : decode cX1_canDo 44 = .ok (.iload 4, 2) := by decide +kernel
theorem dX1_canDo_46 : decode cX1_canDo 46 = .ok (.iaload, 1) := by decide +kernel
theorem dX1_canDo_47 : decode cX1_canDo 47 = .ok (.if_icmp .le 5, 3) := by decide +kernel
theorem dX1_canDo_50 : decode cX1_canDo 50 = .ok (.iconst 0, 1) := by decide +kernel
theorem dX1_canDo_51 : decode cX1_canDo 51 = .ok (.ireturn, 1) := by decide +kernel
theorem dX1_canDo_52 : decode cX1_canDo 52 = .ok (.iinc 3 1, 3) := by decide +kernel
theorem dX1_canDo_55 : decode cX1_canDo 55 = .ok (.goto (-51), 3) := by decide +kernel
theorem dX1_canDo_58 : decode cX1_canDo 58 = .ok (.iconst 1, 1) := by decide +kernel
theorem dX1_canDo_59 : decode cX1_canDo 59 = .ok (.ireturn, 1) := by decide +kernel
theorem dX1_worthOf_0 : decode cX1_worthOf 0 = .ok (.iconst 0, 1) := by decide +kernel
theorem dX1_worthOf_1 : decode cX1_worthOf 1 = .ok (.istore_n 2, 1) := by decide +kernel
theorem dX1_worthOf_2 : decode cX1_worthOf 2 = .ok (.iconst 0, 1) := by decide +kernel
theorem dX1_worthOf_3 : decode cX1_worthOf 3 = .ok (.istore_n 3, 1) := by decide +kernel
theorem dX1_worthOf_4 : decode cX1_worthOf 4 = .ok (.iload_n 3, 1) := by decide +kernel
theorem dX1_worthOf_5 : decode cX1_worthOf 5 = .ok (.aload_n 0, 1) := by decide +kernel
theorem dX1_worthOf_6 : decode cX1_worthOf 6 = .ok (.getfield 25, 3) := by decide +kernel
theorem dX1_worthOf_9 : decode cX1_worthOf 9 = .ok (.if_icmp .ge 26, 3) := by decide +kernel
theorem dX1_worthOf_12 : decode cX1_worthOf 12 = .ok (.iload_n 1, 1) := by decide +kernel
theorem dX1_worthOf_13 : decode cX1_worthOf 13 = .ok (.iload_n 3, 1) := by decide +kernel
theorem dX1_worthOf_14 : decode cX1_worthOf 14 = .ok (.ishr, 1) := by decide +kernel
theorem dX1_worthOf_15 : decode cX1_worthOf 15 = .ok (.iconst 1, 1) := by decide +kernel
theorem dX1_worthOf_16 : decode cX1_worthOf 16 = .ok (.iand, 1) := by decide +kernel
theorem dX1_worthOf_17 : decode cX1_worthOf 17 = .ok (.ifCond .eq 12, 3) := by decide +kernel
theorem dX1_worthOf_20 : decode cX1_worthOf 20 = .ok (.iload_n 2, 1) := by decide +kernel
theorem dX1_worthOf_21 : decode cX1_worthOf 21 = .ok (.aload_n 0, 1) := by decide +kernel
theorem dX1_worthOf_22 : decode cX1_worthOf 22 = .ok (.getfield 35, 3) := by decide +kernel
theorem dX1_worthOf_25 : decode cX1_worthOf 25 = .ok (.iload_n 3, 1) := by decide +kernel
theorem dX1_worthOf_26 : decode cX1_worthOf 26 = .ok (.iaload, 1) := by decide +kernel
theorem dX1_worthOf_27 : decode cX1_worthOf 27 = .ok (.iadd, 1) := by decide +kernel
theorem dX1_worthOf_28 : decode cX1_worthOf 28 = .ok (.istore_n 2, 1) := by decide +kernel
theorem dX1_worthOf_29 : decode cX1_worthOf 29 = .ok (.iinc 3 1, 3) := by decide +kernel
theorem dX1_worthOf_32 : decode cX1_worthOf 32 = .ok (.goto (-28), 3) := by decide +kernel
theorem dX1_worthOf_35 : decode cX1_worthOf 35 = .ok (.iload_n 2, 1) := by decide +kernel
theorem dX1_worthOf_36 : decode cX1_worthOf 36 = .ok (.ireturn, 1) := by decide +kernel
theorem dX1_bestOrders_0 : decode cX1_bestOrders 0 = .ok (.iconst 0, 1) := by decide +kernel
theorem dX1_bestOrders_1 : decode cX1_bestOrders 1 = .ok (.istore_n 1, 1) := by decide +kernel
theorem dX1_bestOrders_2 : decode cX1_bestOrders 2 = .ok (.iconst 0, 1) := by decide +kernel
theorem dX1_bestOrders_3 : decode cX1_bestOrders 3 = .ok (.istore_n 2, 1) := by decide +kernel
theorem dX1_bestOrders_4 : decode cX1_bestOrders 4 = .ok (.iconst 1, 1) := by decide +kernel
theorem dX1_bestOrders_5 : decode cX1_bestOrders 5 = .ok (.istore_n 3, 1) := by decide +kernel
theorem dX1_bestOrders_6 : decode cX1_bestOrders 6 = .ok (.iload_n 3, 1) := by decide +kernel
theorem dX1_bestOrders_7 : decode cX1_bestOrders 7 = .ok (.iconst 1, 1) := by decide +kernel
theorem dX1_bestOrders_8 : decode cX1_bestOrders 8 = .ok (.aload_n 0, 1) := by decide +kernel
theorem dX1_bestOrders_9 : decode cX1_bestOrders 9 = .ok (.getfield 25, 3) := by decide +kernel
theorem dX1_bestOrders_12 : decode cX1_bestOrders 12 = .ok (.ishl, 1) := by decide +kernel
theorem dX1_bestOrders_13 : decode cX1_bestOrders 13 = .ok (.if_icmp .ge 35, 3) := by decide +kernel
theorem dX1_bestOrders_16 : decode cX1_bestOrders 16 = .ok (.aload_n 0, 1) := by decide +kernel
theorem dX1_bestOrders_17 : decode cX1_bestOrders 17 = .ok (.iload_n 3, 1) := by decide +kernel
theorem dX1_bestOrders_18 : decode cX1_bestOrders 18 = .ok (.invokevirtual 47, 3) := by decide +kernel
theorem dX1_bestOrders_21 : decode cX1_bestOrders 21 = .ok (.istore 4, 2) := by decide +kernel
theorem dX1_bestOrders_23 : decode cX1_bestOrders 23 = .ok (.iload 4, 2) := by decide +kernel
theorem dX1_bestOrders_25 : decode cX1_bestOrders 25 = .ok (.iload_n 2, 1) := by decide +kernel
theorem dX1_bestOrders_26 : decode cX1_bestOrders 26 = .ok (.if_icmp .le 16, 3) := by decide +kernel
theorem dX1_bestOrders_29 : decode cX1_bestOrders 29 = .ok (.aload_n 0, 1) := by decide +kernel
theorem dX1_bestOrders_30 : decode cX1_bestOrders 30 = .ok (.iload_n 3, 1) := by decide +kernel
theorem dX1_bestOrders_31 : decode cX1_bestOrders 31 = .ok (.invokevirtual 51, 3) := by decide +kernel
theorem dX1_bestOrders_34 : decode cX1_bestOrders 34 = .ok (.ifCond .eq 8, 3) := by decide +kernel
theorem dX1_bestOrders_37 : decode cX1_bestOrders 37 = .ok (.iload_n 3, 1) := by decide +kernel
theorem dX1_bestOrders_38 : decode cX1_bestOrders 38 = .ok (.istore_n 1, 1) := by decide +kernel
theorem dX1_bestOrders_39 : decode cX1_bestOrders 39 = .ok (.iload 4, 2) := by decide +kernel
theorem dX1_bestOrders_41 : decode cX1_bestOrders 41 = .ok (.istore_n 2, 1) := by decide +kernel
theorem dX1_bestOrders_42 : decode cX1_bestOrders 42 = .ok (.iinc 3 1, 3) := by decide +kernel
theorem dX1_bestOrders_45 : decode cX1_bestOrders 45 = .ok (.goto (-39), 3) := by decide +kernel
theorem dX1_bestOrders_48 : decode cX1_bestOrders 48 = .ok (.iload_n 1, 1) := by decide +kernel
theorem dX1_bestOrders_49 : decode cX1_bestOrders 49 = .ok (.ireturn, 1) := by decide +kernel
theorem dX2_init_0 : decode cX2_init 0 = .ok (.aload_n 0, 1) := by decide +kernel
theorem dX2_init_1 : decode cX2_init 1 = .ok (.invokespecial 3, 3) := by decide +kernel
theorem dX2_init_4 : decode cX2_init 4 = .ok (.aload_n 0, 1) := by decide +kernel
theorem dX2_init_5 : decode cX2_init 5 = .ok (.iconst 0, 1) := by decide +kernel
theorem dX2_init_6 : decode cX2_init 6 = .ok (.putfield 9, 3) := by decide +kernel
theorem dX2_init_9 : decode cX2_init 9 = .ok (.aload_n 0, 1) := by decide +kernel
theorem dX2_init_10 : decode cX2_init 10 = .ok (.iconst 0, 1) := by decide +kernel
theorem dX2_init_11 : decode cX2_init 11 = .ok (.putfield 15, 3) := by decide +kernel
theorem dX2_init_14 : decode cX2_init 14 = .ok (.aload_n 0, 1) := by decide +kernel
theorem dX2_init_15 : decode cX2_init 15 = .ok (.iconst 0, 1) := by decide +kernel
theorem dX2_init_16 : decode cX2_init 16 = .ok (.putfield 18, 3) := by decide +kernel
theorem dX2_init_19 : decode cX2_init 19 = .ok (.aload_n 0, 1) := by decide +kernel
theorem dX2_init_20 : decode cX2_init 20 = .ok (.bipush 6, 2) := by decide +kernel
theorem dX2_init_22 : decode cX2_init 22 = .ok (.newarray .int, 2) := by decide +kernel
theorem dX2_init_24 : decode cX2_init 24 = .ok (.putfield 21, 3) := by decide +kernel
theorem dX2_init_27 : decode cX2_init 27 = .ok (.aload_n 0, 1) := by decide +kernel
theorem dX2_init_28 : decode cX2_init 28 = .ok (.bipush 6, 2) := by decide +kernel
theorem dX2_init_30 : decode cX2_init 30 = .ok (.newarray .int, 2) := by decide +kernel
theorem dX2_init_32 : decode cX2_init 32 = .ok (.putfield 25, 3) := by decide +kernel
theorem dX2_init_35 : decode cX2_init 35 = .ok (.aload_n 0, 1) := by decide +kernel
theorem dX2_init_36 : decode cX2_init 36 = .ok (.bipush 24, 2) := by decide +kernel
theorem dX2_init_38 : decode cX2_init 38 = .ok (.newarray .int, 2) := by decide +kernel
theorem dX2_init_40 : decode cX2_init 40 = .ok (.putfield 28, 3) := by decide +kernel
theorem dX2_init_43 : decode cX2_init 43 = .ok (.aload_n 0, 1) := by decide +kernel
theorem dX2_init_44 : decode cX2_init 44 = .ok (.bipush 24, 2) := by decide +kernel
theorem dX2_init_46 : decode cX2_init 46 = .ok (.newarray .int, 2) := by decide +kernel
theorem dX2_init_48 : decode cX2_init 48 = .ok (.putfield 31, 3) := by decide +kernel
theorem dX2_init_51 : decode cX2_init 51 = .ok (.aload_n 0, 1) := by decide +kernel
theorem dX2_init_52 : decode cX2_init 52 = .ok (.iconst 3, 1) := by decide +kernel
theorem dX2_init_53 : decode cX2_init 53 = .ok (.invokevirtual 34, 3) := by decide +kernel
theorem dX2_init_56 : decode cX2_init 56 = .ok (.aload_n 0, 1) := by decide +kernel
theorem dX2_init_57 : decode cX2_init 57 = .ok (.invokevirtual 38, 3) := by decide +kernel
theorem dX2_init_60 : decode cX2_init 60 = .ok (.return_, 1) := by decide +kernel
theorem dX2_build_0 : decode cX2_build 0 = .ok (.aload_n 0, 1) := by decide +kernel
theorem dX2_build_1 : decode cX2_build 1 = .ok (.iload_n 1, 1) := by decide +kernel
theorem dX2_build_2 : decode cX2_build 2 = .ok (.putfield 9, 3) := by decide +kernel
theorem dX2_build_5 : decode cX2_build 5 = .ok (.iconst 0, 1) := by decide +kernel
theorem dX2_build_6 : decode cX2_build 6 = .ok (.istore_n 2, 1) := by decide +kernel
theorem dX2_build_7 : decode cX2_build 7 = .ok (.iload_n 2, 1) := by decide +kernel
theorem dX2_build_8 : decode cX2_build 8 = .ok (.bipush 6, 2) := by decide +kernel
theorem dX2_build_10 : decode cX2_build 10 = .ok (.if_icmp .ge 17, 3) := by decide +kernel
theorem dX2_build_13 : decode cX2_build 13 = .ok (.aload_n 0, 1) := by decide +kernel
theorem dX2_build_14 : decode cX2_build 14 = .ok (.getfield 21, 3) := by decide +kernel
theorem dX2_build_17 : decode cX2_build 17 = .ok (.iload_n 2, 1) := by decide +kernel
theorem dX2_build_18 : decode cX2_build 18 = .ok (.bipush 20, 2) := by decide +kernel
theorem dX2_build_20 : decode cX2_build 20 = .ok (.iastore, 1) := by decide +kernel
theorem dX2_build_21 : decode cX2_build 21 = .ok (.iinc 2 1, 3) := by decide +kernel
theorem dX2_build_24 : decode cX2_build 24 = .ok (.goto (-17), 3) := by decide +kernel
theorem dX2_build_27 : decode cX2_build 27 = .ok (.iconst 0, 1) := by decide +kernel
theorem dX2_build_28 : decode cX2_build 28 = .ok (.istore_n 2, 1) := by decide +kernel
theorem dX2_build_29 : decode cX2_build 29 = .ok (.iload_n 2, 1) := by decide +kernel
theorem dX2_build_30 : decode cX2_build 30 = .ok (.bipush 24, 2) := by decide +kernel
theorem dX2_build_32 : decode cX2_build 32 = .ok (.if_icmp .ge 25, 3) := by decide +kernel
theorem dX2_build_35 : decode cX2_build 35 = .ok (.aload_n 0, 1) := by decide +kernel
theorem dX2_build_36 : decode cX2_build 36 = .ok (.getfield 28, 3) := by decide +kernel
theorem dX2_build_39 : decode cX2_build 39 = .ok (.iload_n 2, 1) := by decide +kernel
theorem dX2_build_40 : decode cX2_build 40 = .ok (.bipush 10, 2) := by decide +kernel
theorem dX2_build_42 : decode cX2_build 42 = .ok (.iload_n 2, 1) := by decide +kernel
theorem dX2_build_43 : decode cX2_build 43 = .ok (.iconst 4, 1) := by decide +kernel
theorem dX2_build_44 : decode cX2_build 44 = .ok (.idiv, 1) := by decide +kernel
theorem dX2_build_45 : decode cX2_build 45 = .ok (.isub, 1) := by decide +kernel
theorem dX2_build_46 : decode cX2_build 46 = .ok (.iload_n 2, 1) := by decide +kernel
theorem dX2_build_47 : decode cX2_build 47 = .ok (.iconst 4, 1) := by decide +kernel
theorem dX2_build_48 : decode cX2_build 48 = .ok (.irem, 1) := by decide +kernel
theorem dX2_build_49 : decode cX2_build 49 = .ok (.iadd, 1) := by decide +kernel
theorem dX2_build_50 : decode cX2_build 50 = .ok (.iastore, 1) := by decide +kernel
theorem dX2_build_51 : decode cX2_build 51 = .ok (.iinc 2 1, 3) := by decide +kernel
theorem dX2_build_54 : decode cX2_build 54 = .ok (.goto (-25), 3) := by decide +kernel
theorem dX2_build_57 : decode cX2_build 57 = .ok (.return_, 1) := by decide +kernel
theorem dX2_clear_0 : decode cX2_clear 0 = .ok (.iconst 0, 1) := by decide +kernel
theorem dX2_clear_1 : decode cX2_clear 1 = .ok (.istore_n 1, 1) := by decide +kernel
theorem dX2_clear_2 : decode cX2_clear 2 = .ok (.iload_n 1, 1) := by decide +kernel
theorem dX2_clear_3 : decode cX2_clear 3 = .ok (.bipush 24, 2) := by decide +kernel
theorem dX2_clear_5 : decode cX2_clear 5 = .ok (.if_icmp .ge 16, 3) := by decide +kernel
theorem dX2_clear_8 : decode cX2_clear 8 = .ok (.aload_n 0, 1) := by decide +kernel
theorem dX2_clear_9 : decode cX2_clear 9 = .ok (.getfield 31, 3) := by decide +kernel
theorem dX2_clear_12 : decode cX2_clear 12 = .ok (.iload_n 1, 1) := by decide +kernel
theorem dX2_clear_13 : decode cX2_clear 13 = .ok (.iconst (-1), 1) := by decide +kernel
theorem dX2_clear_14 : decode cX2_clear 14 = .ok (.iastore, 1) := by decide +kernel
theorem dX2_clear_15 : decode cX2_clear 15 = .ok (.iinc 1 1, 3) := by decide +kernel
theorem dX2_clear_18 : decode cX2_clear 18 = .ok (.goto (-16), 3) := by decide +kernel
theorem dX2_clear_21 : decode cX2_clear 21 = .ok (.return_, 1) := by decide +kernel
theorem dX2_copyFrom_0 : decode cX2_copyFrom 0 = .ok (.aload_n 0, 1) := by decide +kernel
theorem dX2_copyFrom_1 : decode cX2_copyFrom 1 = .ok (.aload_n 1, 1) := by decide +kernel
theorem dX2_copyFrom_2 : decode cX2_copyFrom 2 = .ok (.getfield 9, 3) := by decide +kernel
theorem dX2_copyFrom_5 : decode cX2_copyFrom 5 = .ok (.putfield 9, 3) := by decide +kernel
theorem dX2_copyFrom_8 : decode cX2_copyFrom 8 = .ok (.aload_n 0, 1) := by decide +kernel
theorem dX2_copyFrom_9 : decode cX2_copyFrom 9 = .ok (.aload_n 1, 1) := by decide +kernel
theorem dX2_copyFrom_10 : decode cX2_copyFrom 10 = .ok (.getfield 15, 3) := by decide +kernel
theorem dX2_copyFrom_13 : decode cX2_copyFrom 13 = .ok (.putfield 15, 3) := by decide +kernel
theorem dX2_copyFrom_16 : decode cX2_copyFrom 16 = .ok (.aload_n 0, 1) := by decide +kernel
theorem dX2_copyFrom_17 : decode cX2_copyFrom 17 = .ok (.aload_n 1, 1) := by decide +kernel
theorem dX2_copyFrom_18 : decode cX2_copyFrom 18 = .ok (.getfield 18, 3) := by decide +kernel
theorem dX2_copyFrom_21 : decode cX2_copyFrom 21 = .ok (.putfield 18, 3) := by decide +kernel
theorem dX2_copyFrom_24 : decode cX2_copyFrom 24 = .ok (.aload_n 1, 1) := by decide +kernel
theorem dX2_copyFrom_25 : decode cX2_copyFrom 25 = .ok (.getfield 21, 3) := by decide +kernel
theorem dX2_copyFrom_28 : decode cX2_copyFrom 28 = .ok (.iconst 0, 1) := by decide +kernel
theorem dX2_copyFrom_29 : decode cX2_copyFrom 29 = .ok (.aload_n 0, 1) := by decide +kernel
theorem dX2_copyFrom_30 : decode cX2_copyFrom 30 = .ok (.getfield 21, 3) := by decide +kernel
theorem dX2_copyFrom_33 : decode cX2_copyFrom 33 = .ok (.iconst 0, 1) := by decide +kernel
theorem dX2_copyFrom_34 : decode cX2_copyFrom 34 = .ok (.bipush 6, 2) := by decide +kernel
theorem dX2_copyFrom_36 : decode cX2_copyFrom 36 = .ok (.invokestatic 41, 3) := by decide +kernel
theorem dX2_copyFrom_39 : decode cX2_copyFrom 39 = .ok (.aload_n 1, 1) := by decide +kernel
theorem dX2_copyFrom_40 : decode cX2_copyFrom 40 = .ok (.getfield 28, 3) := by decide +kernel
theorem dX2_copyFrom_43 : decode cX2_copyFrom 43 = .ok (.iconst 0, 1) := by decide +kernel
theorem dX2_copyFrom_44 : decode cX2_copyFrom 44 = .ok (.aload_n 0, 1) := by decide +kernel
theorem dX2_copyFrom_45 : decode cX2_copyFrom 45 = .ok (.getfield 28, 3) := by decide +kernel
theorem dX2_copyFrom_48 : decode cX2_copyFrom 48 = .ok (.iconst 0, 1) := by decide +kernel
theorem dX2_copyFrom_49 : decode cX2_copyFrom 49 = .ok (.bipush 24, 2) := by decide +kernel
theorem dX2_copyFrom_51 : decode cX2_copyFrom 51 = .ok (.invokestatic 41, 3) := by decide +kernel
theorem dX2_copyFrom_54 : decode cX2_copyFrom 54 = .ok (.aload_n 1, 1) := by decide +kernel
theorem dX2_copyFrom_55 : decode cX2_copyFrom 55 = .ok (.getfield 31, 3) := by decide +kernel
theorem dX2_copyFrom_58 : decode cX2_copyFrom 58 = .ok (.iconst 0, 1) := by decide +kernel
theorem dX2_copyFrom_59 : decode cX2_copyFrom 59 = .ok (.aload_n 0, 1) := by decide +kernel
theorem dX2_copyFrom_60 : decode cX2_copyFrom 60 = .ok (.getfield 31, 3) := by decide +kernel
theorem dX2_copyFrom_63 : decode cX2_copyFrom 63 = .ok (.iconst 0, 1) := by decide +kernel
theorem dX2_copyFrom_64 : decode cX2_copyFrom 64 = .ok (.bipush 24, 2) := by decide +kernel
theorem dX2_copyFrom_66 : decode cX2_copyFrom 66 = .ok (.invokestatic 41, 3) := by decide +kernel
theorem dX2_copyFrom_69 : decode cX2_copyFrom 69 = .ok (.return_, 1) := by decide +kernel
theorem dX2_hasChamber_0 : decode cX2_hasChamber 0 = .ok (.iload_n 1, 1) := by decide +kernel
theorem dX2_hasChamber_1 : decode cX2_hasChamber 1 = .ok (.iconst 0, 1) := by decide +kernel
theorem dX2_hasChamber_2 : decode cX2_hasChamber 2 = .ok (.aload_n 0, 1) := by decide +kernel
theorem dX2_hasChamber_3 : decode cX2_hasChamber 3 = .ok (.getfield 9, 3) := by decide +kernel
theorem dX2_hasChamber_6 : decode cX2_hasChamber 6 = .ok (.iconst 1, 1) := by decide +kernel
theorem dX2_hasChamber_7 : decode cX2_hasChamber 7 = .ok (.isub, 1) := by decide +kernel
theorem dX2_hasChamber_8 : decode cX2_hasChamber 8 = .ok (.invokestatic 47, 3) := by decide +kernel
theorem dX2_hasChamber_11 : decode cX2_hasChamber 11 = .ok (.ireturn, 1) := by decide +kernel
theorem dX2_hasPlace_0 : decode cX2_hasPlace 0 = .ok (.aload_n 0, 1) := by decide +kernel
theorem dX2_hasPlace_1 : decode cX2_hasPlace 1 = .ok (.iload_n 1, 1) := by decide +kernel
theorem dX2_hasPlace_2 : decode cX2_hasPlace 2 = .ok (.invokevirtual 51, 3) := by decide +kernel
theorem dX2_hasPlace_5 : decode cX2_hasPlace 5 = .ok (.ifCond .eq 16, 3) := by decide +kernel
theorem dX2_hasPlace_8 : decode cX2_hasPlace 8 = .ok (.iload_n 2, 1) := by decide +kernel
theorem dX2_hasPlace_9 : decode cX2_hasPlace 9 = .ok (.iconst 0, 1) := by decide +kernel
theorem dX2_hasPlace_10 : decode cX2_hasPlace 10 = .ok (.iconst 3, 1) := by decide +kernel
theorem dX2_hasPlace_11 : decode cX2_hasPlace 11 = .ok (.invokestatic 47, 3) := by decide +kernel
theorem dX2_hasPlace_14 : decode cX2_hasPlace 14 = .ok (.ifCond .eq 7, 3) := by decide +kernel
theorem dX2_hasPlace_17 : decode cX2_hasPlace 17 = .ok (.iconst 1, 1) := by decide +kernel
theorem dX2_hasPlace_18 : decode cX2_hasPlace 18 = .ok (.goto 4, 3) := by decide +kernel
theorem dX2_hasPlace_21 : decode cX2_hasPlace 21 = .ok (.iconst 0, 1) := by decide +kernel
theorem dX2_hasPlace_22 : decode cX2_hasPlace 22 = .ok (.ireturn, 1) := by decide +kernel
theorem dX2_burn_0 : decode cX2_burn 0 = .ok (.aload_n 0, 1) := by decide +kernel
theorem dX2_burn_1 : decode cX2_burn 1 = .ok (.getfield 21, 3) := by decide +kernel
theorem dX2_burn_4 : decode cX2_burn 4 = .ok (.iconst 0, 1) := by decide +kernel
theorem dX2_burn_5 : decode cX2_burn 5 = .ok (.aload_n 0, 1) := by decide +kernel
theorem dX2_burn_6 : decode cX2_burn 6 = .ok (.getfield 25, 3) := by decide +kernel
theorem dX2_burn_9 : decode cX2_burn 9 = .ok (.iconst 0, 1) := by decide +kernel
theorem dX2_burn_10 : decode cX2_burn 10 = .ok (.bipush 6, 2) := by decide +kernel
theorem dX2_burn_12 : decode cX2_burn 12 = .ok (.invokestatic 41, 3) := by decide +kernel
theorem dX2_burn_15 : decode cX2_burn 15 = .ok (.iconst 0, 1) := by decide +kernel
theorem dX2_burn_16 : decode cX2_burn 16 = .ok (.istore_n 3, 1) := by decide +kernel
theorem dX2_burn_17 : decode cX2_burn 17 = .ok (.iload_n 3, 1) := by decide +kernel
theorem dX2_burn_18 : decode cX2_burn 18 = .ok (.aload_n 0, 1) := by decide +kernel
theorem dX2_burn_19 : decode cX2_burn 19 = .ok (.getfield 9, 3) := by decide +kernel
theorem dX2_burn_22 : decode cX2_burn 22 = .ok (.if_icmp .ge 30, 3) := by decide +kernel
theorem dX2_burn_25 : decode cX2_burn 25 = .ok (.aload_n 0, 1) := by decide +kernel
theorem dX2_burn_26 : decode cX2_burn 26 = .ok (.getfield 21, 3) := by decide +kernel
theorem dX2_burn_29 : decode cX2_burn 29 = .ok (.iload_n 3, 1) := by decide +kernel
theorem dX2_burn_30 : decode cX2_burn 30 = .ok (.dup2, 1) := by decide +kernel
theorem dX2_burn_31 : decode cX2_burn 31 = .ok (.iaload, 1) := by decide +kernel
theorem dX2_burn_32 : decode cX2_burn 32 = .ok (.aload_n 0, 1) := by decide +kernel
theorem dX2_burn_33 : decode cX2_burn 33 = .ok (.getfield 25, 3) := by decide +kernel
theorem dX2_burn_36 : decode cX2_burn 36 = .ok (.iload_n 3, 1) := by decide +kernel
theorem dX2_burn_37 : decode cX2_burn 37 = .ok (.iaload, 1) := by decide +kernel
theorem dX2_burn_38 : decode cX2_burn 38 = .ok (.bipush 20, 2) := by decide +kernel
theorem dX2_burn_40 : decode cX2_burn 40 = .ok (.isub, 1) := by decide +kernel
theorem dX2_burn_41 : decode cX2_burn 41 = .ok (.bipush 16, 2) := by decide +kernel
theorem dX2_burn_43 : decode cX2_burn 43 = .ok (.idiv, 1) := by decide +kernel
theorem dX2_burn_44 : decode cX2_burn 44 = .ok (.isub, 1) := by decide +kernel
theorem dX2_burn_45 : decode cX2_burn 45 = .ok (.iastore, 1) := by decide +kernel
theorem dX2_burn_46 : decode cX2_burn 46 = .ok (.iinc 3 1, 3) := by decide +kernel
theorem dX2_burn_49 : decode cX2_burn 49 = .ok (.goto (-32), 3) := by decide +kernel
theorem dX2_burn_52 : decode cX2_burn 52 = .ok (.iconst 0, 1) := by decide +kernel
theorem dX2_burn_53 : decode cX2_burn 53 = .ok (.istore_n 3, 1) := by decide +kernel
theorem dX2_burn_54 : decode cX2_burn 54 = .ok (.iload_n 3, 1) := by decide +kernel
theorem dX2_burn_55 : decode cX2_burn 55 = .ok (.iconst 1, 1) := by decide +kernel
theorem dX2_burn_56 : decode cX2_burn 56 = .ok (.iadd, 1) := by decide +kernel
theorem dX2_burn_57 : decode cX2_burn 57 = .ok (.aload_n 0, 1) := by decide +kernel
theorem dX2_burn_58 : decode cX2_burn 58 = .ok (.getfield 9, 3) := by decide +kernel
theorem dX2_burn_61 : decode cX2_burn 61 = .ok (.if_icmp .ge 52, 3) := by decide +kernel
theorem dX2_burn_64 : decode cX2_burn 64 = .ok (.aload_n 0, 1) := by decide +kernel
theorem dX2_burn_65 : decode cX2_burn 65 = .ok (.getfield 25, 3) := by decide +kernel
theorem dX2_burn_68 : decode cX2_burn 68 = .ok (.iload_n 3, 1) := by decide +kernel
theorem dX2_burn_69 : decode cX2_burn 69 = .ok (.iaload, 1) := by decide +kernel
theorem dX2_burn_70 : decode cX2_burn 70 = .ok (.aload_n 0, 1) := by decide +kernel
theorem dX2_burn_71 : decode cX2_burn 71 = .ok (.getfield 25, 3) := by decide +kernel
theorem dX2_burn_74 : decode cX2_burn 74 = .ok (.iload_n 3, 1) := by decide +kernel
theorem dX2_burn_75 : decode cX2_burn 75 = .ok (.iconst 1, 1) := by decide +kernel
theorem dX2_burn_76 : decode cX2_burn 76 = .ok (.iadd, 1) := by decide +kernel
theorem dX2_burn_77 : decode cX2_burn 77 = .ok (.iaload, 1) := by decide +kernel
theorem dX2_burn_78 : decode cX2_burn 78 = .ok (.isub, 1) := by decide +kernel
theorem dX2_burn_79 : decode cX2_burn 79 = .ok (.iconst 4, 1) := by decide +kernel
theorem dX2_burn_80 : decode cX2_burn 80 = .ok (.idiv, 1) := by decide +kernel
theorem dX2_burn_81 : decode cX2_burn 81 = .ok (.istore 4, 2) := by decide +kernel
theorem dX2_burn_83 : decode cX2_burn 83 = .ok (.aload_n 0, 1) := by decide +kernel
theorem dX2_burn_84 : decode cX2_burn 84 = .ok (.getfield 21, 3) := by decide +kernel
theorem dX2_burn_87 : decode cX2_burn 87 = .ok (.iload_n 3, 1) := by decide +kernel
theorem dX2_burn_88 : decode cX2_burn 88 = .ok (.dup2, 1) := by decide +kernel
theorem dX2_burn_89 : decode cX2_burn 89 = .ok (.iaload, 1) := by decide +kernel
theorem dX2_burn_90 : decode cX2_burn 90 = .ok (.iload 4, 2) := by decide +kernel
theorem dX2_burn_92 : decode cX2_burn 92 = .ok (.isub, 1) := by decide +kernel
theorem dX2_burn_93 : decode cX2_burn 93 = .ok (.iastore, 1) := by decide +kernel
theorem dX2_burn_94 : decode cX2_burn 94 = .ok (.aload_n 0, 1) := by decide +kernel
theorem dX2_burn_95 : decode cX2_burn 95 = .ok (.getfield 21, 3) := by decide +kernel
theorem dX2_burn_98 : decode cX2_burn 98 = .ok (.iload_n 3, 1) := by decide +kernel
theorem dX2_burn_99 : decode cX2_burn 99 = .ok (.iconst 1, 1) := by decide +kernel
theorem dX2_burn_100 : decode cX2_burn 100 = .ok (.iadd, 1) := by decide +kernel
theorem dX2_burn_101 : decode cX2_burn 101 = .ok (.dup2, 1) := by decide +kernel
theorem dX2_burn_102 : decode cX2_burn 102 = .ok (.iaload, 1) := by decide +kernel
theorem dX2_burn_103 : decode cX2_burn 103 = .ok (.iload 4, 2) := by decide +kernel
theorem dX2_burn_105 : decode cX2_burn 105 = .ok (.iadd, 1) := by decide +kernel
theorem dX2_burn_106 : decode cX2_burn 106 = .ok (.iastore, 1) := by decide +kernel
theorem dX2_burn_107 : decode cX2_burn 107 = .ok (.iinc 3 1, 3) := by decide +kernel
theorem dX2_burn_110 : decode cX2_burn 110 = .ok (.goto (-56), 3) := by decide +kernel
theorem dX2_burn_113 : decode cX2_burn 113 = .ok (.aload_n 0, 1) := by decide +kernel
theorem dX2_burn_114 : decode cX2_burn 114 = .ok (.getfield 21, 3) := by decide +kernel
theorem dX2_burn_117 : decode cX2_burn 117 = .ok (.iload_n 1, 1) := by decide +kernel
theorem dX2_burn_118 : decode cX2_burn 118 = .ok (.dup2, 1) := by decide +kernel
theorem dX2_burn_119 : decode cX2_burn 119 = .ok (.iaload, 1) := by decide +kernel
theorem dX2_burn_120 : decode cX2_burn 120 = .ok (.bipush 60, 2) := by decide +kernel
theorem dX2_burn_122 : decode cX2_burn 122 = .ok (.iload_n 2, 1) := by decide +kernel
theorem dX2_burn_123 : decode cX2_burn 123 = .ok (.imul, 1) := by decide +kernel
theorem dX2_burn_124 : decode cX2_burn 124 = .ok (.iadd, 1) := by decide +kernel
theorem dX2_burn_125 : decode cX2_burn 125 = .ok (.iastore, 1) := by decide +kernel
theorem dX2_burn_126 : decode cX2_burn 126 = .ok (.aload_n 0, 1) := by decide +kernel
theorem dX2_burn_127 : decode cX2_burn 127 = .ok (.dup, 1) := by decide +kernel
theorem dX2_burn_128 : decode cX2_burn 128 = .ok (.getfield 15, 3) := by decide +kernel
theorem dX2_burn_131 : decode cX2_burn 131 = .ok (.iconst 1, 1) := by decide +kernel
theorem dX2_burn_132 : decode cX2_burn 132 = .ok (.iadd, 1) := by decide +kernel
theorem dX2_burn_133 : decode cX2_burn 133 = .ok (.putfield 15, 3) := by decide +kernel
theorem dX2_burn_136 : decode cX2_burn 136 = .ok (.aload_n 0, 1) := by decide +kernel
theorem dX2_burn_137 : decode cX2_burn 137 = .ok (.dup, 1) := by decide +kernel
theorem dX2_burn_138 : decode cX2_burn 138 = .ok (.getfield 18, 3) := by decide +kernel
theorem dX2_burn_141 : decode cX2_burn 141 = .ok (.iload_n 2, 1) := by decide +kernel
theorem dX2_burn_142 : decode cX2_burn 142 = .ok (.iadd, 1) := by decide +kernel
theorem dX2_burn_143 : decode cX2_burn 143 = .ok (.putfield 18, 3) := by decide +kernel
theorem dX2_burn_146 : decode cX2_burn 146 = .ok (.return_, 1) := by decide +kernel
theorem dX2_changeOf_0 : decode cX2_changeOf 0 = .ok (.aload_n 0, 1) := by decide +kernel
theorem dX2_changeOf_1 : decode cX2_changeOf 1 = .ok (.getfield 21, 3) := by decide +kernel
theorem dX2_changeOf_4 : decode cX2_changeOf 4 = .ok (.iload_n 1, 1) := by decide +kernel
theorem dX2_changeOf_5 : decode cX2_changeOf 5 = .ok (.iaload, 1) := by decide +kernel
theorem dX2_changeOf_6 : decode cX2_changeOf 6 = .ok (.aload_n 0, 1) := by decide +kernel
theorem dX2_changeOf_7 : decode cX2_changeOf 7 = .ok (.getfield 25, 3) := by decide +kernel
theorem dX2_changeOf_10 : decode cX2_changeOf 10 = .ok (.iload_n 1, 1) := by decide +kernel
theorem dX2_changeOf_11 : decode cX2_changeOf 11 = .ok (.iaload, 1) := by decide +kernel
theorem dX2_changeOf_12 : decode cX2_changeOf 12 = .ok (.isub, 1) := by decide +kernel
theorem dX2_changeOf_13 : decode cX2_changeOf 13 = .ok (.invokestatic 55, 3) := by decide +kernel
theorem dX2_changeOf_16 : decode cX2_changeOf 16 = .ok (.ireturn, 1) := by decide +kernel
theorem dX2_greatestHeat_0 : decode cX2_greatestHeat 0 = .ok (.aload_n 0, 1) := by decide +kernel
theorem dX2_greatestHeat_1 : decode cX2_greatestHeat 1 = .ok (.getfield 21, 3) := by decide +kernel
theorem dX2_greatestHeat_4 : decode cX2_greatestHeat 4 = .ok (.iconst 0, 1) := by decide +kernel
theorem dX2_greatestHeat_5 : decode cX2_greatestHeat 5 = .ok (.iaload, 1) := by decide +kernel
theorem dX2_greatestHeat_6 : decode cX2_greatestHeat 6 = .ok (.istore_n 1, 1) := by decide +kernel
theorem dX2_greatestHeat_7 : decode cX2_greatestHeat 7 = .ok (.iconst 1, 1) := by decide +kernel
theorem dX2_greatestHeat_8 : decode cX2_greatestHeat 8 = .ok (.istore_n 2, 1) := by decide +kernel
theorem dX2_greatestHeat_9 : decode cX2_greatestHeat 9 = .ok (.iload_n 2, 1) := by decide +kernel
theorem dX2_greatestHeat_10 : decode cX2_greatestHeat 10 = .ok (.aload_n 0, 1) := by decide +kernel
theorem dX2_greatestHeat_11 : decode cX2_greatestHeat 11 = .ok (.getfield 9, 3) := by decide +kernel
theorem dX2_greatestHeat_14 : decode cX2_greatestHeat 14 = .ok (.if_icmp .ge 20, 3) := by decide +kernel
theorem dX2_greatestHeat_17 : decode cX2_greatestHeat 17 = .ok (.iload_n 1, 1) := by decide +kernel
theorem dX2_greatestHeat_18 : decode cX2_greatestHeat 18 = .ok (.aload_n 0, 1) := by decide +kernel
theorem dX2_greatestHeat_19 : decode cX2_greatestHeat 19 = .ok (.getfield 21, 3) := by decide +kernel
theorem dX2_greatestHeat_22 : decode cX2_greatestHeat 22 = .ok (.iload_n 2, 1) := by decide +kernel
theorem dX2_greatestHeat_23 : decode cX2_greatestHeat 23 = .ok (.iaload, 1) := by decide +kernel
theorem dX2_greatestHeat_24 : decode cX2_greatestHeat 24 = .ok (.invokestatic 61, 3) := by decide +kernel
theorem dX2_greatestHeat_27 : decode cX2_greatestHeat 27 = .ok (.istore_n 1, 1) := by decide +kernel
theorem dX2_greatestHeat_28 : decode cX2_greatestHeat 28 = .ok (.iinc 2 1, 3) := by decide +kernel
theorem dX2_greatestHeat_31 : decode cX2_greatestHeat 31 = .ok (.goto (-22), 3) := by decide +kernel
theorem dX2_greatestHeat_34 : decode cX2_greatestHeat 34 = .ok (.iload_n 1, 1) := by decide +kernel
theorem dX2_greatestHeat_35 : decode cX2_greatestHeat 35 = .ok (.ireturn, 1) := by decide +kernel
theorem dX2_heatsTogether_0 : decode cX2_heatsTogether 0 = .ok (.iconst 0, 1) := by decide +kernel
theorem dX2_heatsTogether_1 : decode cX2_heatsTogether 1 = .ok (.istore_n 1, 1) := by decide +kernel
theorem dX2_heatsTogether_2 : decode cX2_heatsTogether 2 = .ok (.iconst 0, 1) := by decide +kernel
theorem dX2_heatsTogether_3 : decode cX2_heatsTogether 3 = .ok (.istore_n 2, 1) := by decide +kernel
theorem dX2_heatsTogether_4 : decode cX2_heatsTogether 4 = .ok (.iload_n 2, 1) := by decide +kernel
theorem dX2_heatsTogether_5 : decode cX2_heatsTogether 5 = .ok (.aload_n 0, 1) := by decide +kernel
theorem dX2_heatsTogether_6 : decode cX2_heatsTogether 6 = .ok (.getfield 9, 3) := by decide +kernel
theorem dX2_heatsTogether_9 : decode cX2_heatsTogether 9 = .ok (.if_icmp .ge 18, 3) := by decide +kernel
theorem dX2_heatsTogether_12 : decode cX2_heatsTogether 12 = .ok (.iload_n 1, 1) := by decide +kernel
theorem dX2_heatsTogether_13 : decode cX2_heatsTogether 13 = .ok (.aload_n 0, 1) := by decide +kernel
theorem dX2_heatsTogether_14 : decode cX2_heatsTogether 14 = .ok (.getfield 21, 3) := by decide +kernel
theorem dX2_heatsTogether_17 : decode cX2_heatsTogether 17 = .ok (.iload_n 2, 1) := by decide +kernel
theorem dX2_heatsTogether_18 : decode cX2_heatsTogether 18 = .ok (.iaload, 1) := by decide +kernel
theorem dX2_heatsTogether_19 : decode cX2_heatsTogether 19 = .ok (.iadd, 1) := by decide +kernel
theorem dX2_heatsTogether_20 : decode cX2_heatsTogether 20 = .ok (.istore_n 1, 1) := by decide +kernel
theorem dX2_heatsTogether_21 : decode cX2_heatsTogether 21 = .ok (.iinc 2 1, 3) := by decide +kernel
theorem dX2_heatsTogether_24 : decode cX2_heatsTogether 24 = .ok (.goto (-20), 3) := by decide +kernel
theorem dX2_heatsTogether_27 : decode cX2_heatsTogether 27 = .ok (.iload_n 1, 1) := by decide +kernel
theorem dX2_heatsTogether_28 : decode cX2_heatsTogether 28 = .ok (.ireturn, 1) := by decide +kernel
theorem dX2_bestFreePlace_0 : decode cX2_bestFreePlace 0 = .ok (.iconst (-1), 1) := by decide +kernel
theorem dX2_bestFreePlace_1 : decode cX2_bestFreePlace 1 = .ok (.istore_n 1, 1) := by decide +kernel
theorem dX2_bestFreePlace_2 : decode cX2_bestFreePlace 2 = .ok (.iconst 0, 1) := by decide +kernel
theorem dX2_bestFreePlace_3 : decode cX2_bestFreePlace 3 = .ok (.istore_n 2, 1) := by decide +kernel
theorem dX2_bestFreePlace_4 : decode cX2_bestFreePlace 4 = .ok (.iload_n 2, 1) := by decide +kernel
theorem dX2_bestFreePlace_5 : decode cX2_bestFreePlace 5 = .ok (.aload_n 0, 1) := by decide +kernel
theorem dX2_bestFreePlace_6 : decode cX2_bestFreePlace 6 = .ok (.getfield 9, 3) := by decide +kernel
theorem dX2_bestFreePlace_9 : decode cX2_bestFreePlace 9 = .ok (.iconst 4, 1) := by decide +kernel
theorem dX2_bestFreePlace_10 : decode cX2_bestFreePlace 10 = .ok (.imul, 1) := by decide +kernel
theorem dX2_bestFreePlace_11 : decode cX2_bestFreePlace 11 = .ok (.if_icmp .ge 51, 3) := by decide +kernel
theorem dX2_bestFreePlace_14 : decode cX2_bestFreePlace 14 = .ok (.iload_n 1, 1) := by decide +kernel
theorem dX2_bestFreePlace_15 : decode cX2_bestFreePlace 15 = .ok (.iconst (-1), 1) := by decide +kernel
theorem dX2_bestFreePlace_16 : decode cX2_bestFreePlace 16 = .ok (.if_icmp .eq 18, 3) := by decide +kernel
theorem dX2_bestFreePlace_19 : decode cX2_bestFreePlace 19 = .ok (.aload_n 0, 1) := by decide +kernel
theorem dX2_bestFreePlace_20 : decode cX2_bestFreePlace 20 = .ok (.getfield 28, 3) := by decide +kernel
theorem dX2_bestFreePlace_23 : decode cX2_bestFreePlace 23 = .ok (.iload_n 2, 1) := by decide +kernel
theorem dX2_bestFreePlace_24 : decode cX2_bestFreePlace 24 = .ok (.iaload, 1) := by decide +kernel
theorem dX2_bestFreePlace_25 : decode cX2_bestFreePlace 25 = .ok (.aload_n 0, 1) := by decide +kernel
theorem dX2_bestFreePlace_26 : decode cX2_bestFreePlace 26 = .ok (.getfield 28, 3) := by decide +kernel
theorem dX2_bestFreePlace_29 : decode cX2_bestFreePlace 29 = .ok (.iload_n 1, 1) := by decide +kernel
theorem dX2_bestFreePlace_30 : decode cX2_bestFreePlace 30 = .ok (.iaload, 1) := by decide +kernel
theorem dX2_bestFreePlace_31 : decode cX2_bestFreePlace 31 = .ok (.if_icmp .le 7, 3) := by decide +kernel
theorem dX2_bestFreePlace_34 : decode cX2_bestFreePlace 34 = .ok (.iconst 1, 1) := by decide +kernel
theorem dX2_bestFreePlace_35 : decode cX2_bestFreePlace 35 = .ok (.goto 4, 3) := by decide +kernel
theorem dX2_bestFreePlace_38 : decode cX2_bestFreePlace 38 = .ok (.iconst 0, 1) := by decide +kernel
theorem dX2_bestFreePlace_39 : decode cX2_bestFreePlace 39 = .ok (.istore_n 3, 1) := by decide +kernel
theorem dX2_bestFreePlace_40 : decode cX2_bestFreePlace 40 = .ok (.iload_n 3, 1) := by decide +kernel
theorem dX2_bestFreePlace_41 : decode cX2_bestFreePlace 41 = .ok (.ifCond .eq 15, 3) := by decide +kernel
theorem dX2_bestFreePlace_44 : decode cX2_bestFreePlace 44 = .ok (.aload_n 0, 1) := by decide +kernel
theorem dX2_bestFreePlace_45 : decode cX2_bestFreePlace 45 = .ok (.getfield 31, 3) := by decide +kernel
theorem dX2_bestFreePlace_48 : decode cX2_bestFreePlace 48 = .ok (.iload_n 2, 1) := by decide +kernel
theorem dX2_bestFreePlace_49 : decode cX2_bestFreePlace 49 = .ok (.iaload, 1) := by decide +kernel
theorem dX2_bestFreePlace_50 : decode cX2_bestFreePlace 50 = .ok (.iconst (-1), 1) := by decide +kernel
theorem dX2_bestFreePlace_51 : decode cX2_bestFreePlace 51 = .ok (.if_icmp .ne 5, 3) := by decide +kernel
theorem dX2_bestFreePlace_54 : decode cX2_bestFreePlace 54 = .ok (.iload_n 2, 1) := by decide +kernel
theorem dX2_bestFreePlace_55 : decode cX2_bestFreePlace 55 = .ok (.istore_n 1, 1) := by decide +kernel
theorem dX2_bestFreePlace_56 : decode cX2_bestFreePlace 56 = .ok (.iinc 2 1, 3) := by decide +kernel
theorem dX2_bestFreePlace_59 : decode cX2_bestFreePlace 59 = .ok (.goto (-55), 3) := by decide +kernel
theorem dX2_bestFreePlace_62 : decode cX2_bestFreePlace 62 = .ok (.iload_n 1, 1) := by decide +kernel
theorem dX2_bestFreePlace_63 : decode cX2_bestFreePlace 63 = .ok (.ireturn, 1) := by decide +kernel
theorem dX3_init_0 : decode cX3_init 0 = .ok (.aload_n 0, 1) := by decide +kernel
theorem dX3_init_1 : decode cX3_init 1 = .ok (.invokespecial 3, 3) := by decide +kernel
theorem dX3_init_4 : decode cX3_init 4 = .ok (.aload_n 0, 1) := by decide +kernel
theorem dX3_init_5 : decode cX3_init 5 = .ok (.iconst 0, 1) := by decide +kernel
theorem dX3_init_6 : decode cX3_init 6 = .ok (.putfield 9, 3) := by decide +kernel
theorem dX3_init_9 : decode cX3_init 9 = .ok (.aload_n 0, 1) := by decide +kernel
theorem dX3_init_10 : decode cX3_init 10 = .ok (.iconst 0, 1) := by decide +kernel
theorem dX3_init_11 : decode cX3_init 11 = .ok (.putfield 15, 3) := by decide +kernel
theorem dX3_init_14 : decode cX3_init 14 = .ok (.aload_n 0, 1) := by decide +kernel
theorem dX3_init_15 : decode cX3_init 15 = .ok (.iconst 0, 1) := by decide +kernel
theorem dX3_init_16 : decode cX3_init 16 = .ok (.putfield 18, 3) := by decide +kernel
theorem dX3_init_19 : decode cX3_init 19 = .ok (.aload_n 0, 1) := by decide +kernel
theorem dX3_init_20 : decode cX3_init 20 = .ok (.iconst 0, 1) := by decide +kernel
theorem dX3_init_21 : decode cX3_init 21 = .ok (.putfield 21, 3) := by decide +kernel
theorem dX3_init_24 : decode cX3_init 24 = .ok (.aload_n 0, 1) := by decide +kernel
theorem dX3_init_25 : decode cX3_init 25 = .ok (.iconst (-1), 1) := by decide +kernel
theorem dX3_init_26 : decode cX3_init 26 = .ok (.putfield 24, 3) := by decide +kernel
theorem dX3_init_29 : decode cX3_init 29 = .ok (.aload_n 0, 1) := by decide +kernel
theorem dX3_init_30 : decode cX3_init 30 = .ok (.iconst (-1), 1) := by decide +kernel
theorem dX3_init_31 : decode cX3_init 31 = .ok (.putfield 27, 3) := by decide +kernel
theorem dX3_init_34 : decode cX3_init 34 = .ok (.aload_n 0, 1) := by decide +kernel
theorem dX3_init_35 : decode cX3_init 35 = .ok (.iconst 0, 1) := by decide +kernel
theorem dX3_init_36 : decode cX3_init 36 = .ok (.putfield 30, 3) := by decide +kernel
theorem dX3_init_39 : decode cX3_init 39 = .ok (.aload_n 0, 1) := by decide +kernel
theorem dX3_init_40 : decode cX3_init 40 = .ok (.iconst 0, 1) := by decide +kernel
theorem dX3_init_41 : decode cX3_init 41 = .ok (.putfield 34, 3) := by decide +kernel
theorem dX3_init_44 : decode cX3_init 44 = .ok (.return_, 1) := by decide +kernel
theorem dX3_turn_0 : decode cX3_turn 0 = .ok (.aload_n 0, 1) := by decide +kernel
theorem dX3_turn_1 : decode cX3_turn 1 = .ok (.iload_n 1, 1) := by decide +kernel
theorem dX3_turn_2 : decode cX3_turn 2 = .ok (.putfield 9, 3) := by decide +kernel
theorem dX3_turn_5 : decode cX3_turn 5 = .ok (.aload_n 0, 1) := by decide +kernel
theorem dX3_turn_6 : decode cX3_turn 6 = .ok (.iload_n 2, 1) := by decide +kernel
theorem dX3_turn_7 : decode cX3_turn 7 = .ok (.putfield 15, 3) := by decide +kernel
theorem dX3_turn_10 : decode cX3_turn 10 = .ok (.aload_n 0, 1) := by decide +kernel
theorem dX3_turn_11 : decode cX3_turn 11 = .ok (.iload_n 3, 1) := by decide +kernel
theorem dX3_turn_12 : decode cX3_turn 12 = .ok (.putfield 18, 3) := by decide +kernel
theorem dX3_turn_15 : decode cX3_turn 15 = .ok (.aload_n 0, 1) := by decide +kernel
theorem dX3_turn_16 : decode cX3_turn 16 = .ok (.iload 4, 2) := by decide +kernel
theorem dX3_turn_18 : decode cX3_turn 18 = .ok (.putfield 21, 3) := by decide +kernel
theorem dX3_turn_21 : decode cX3_turn 21 = .ok (.aload_n 0, 1) := by decide +kernel
theorem dX3_turn_22 : decode cX3_turn 22 = .ok (.iconst (-1), 1) := by decide +kernel
theorem dX3_turn_23 : decode cX3_turn 23 = .ok (.putfield 24, 3) := by decide +kernel
theorem dX3_turn_26 : decode cX3_turn 26 = .ok (.aload_n 0, 1) := by decide +kernel
theorem dX3_turn_27 : decode cX3_turn 27 = .ok (.iconst (-1), 1) := by decide +kernel
theorem dX3_turn_28 : decode cX3_turn 28 = .ok (.putfield 27, 3) := by decide +kernel
theorem dX3_turn_31 : decode cX3_turn 31 = .ok (.aload_n 0, 1) := by decide +kernel
theorem dX3_turn_32 : decode cX3_turn 32 = .ok (.iconst 0, 1) := by decide +kernel
theorem dX3_turn_33 : decode cX3_turn 33 = .ok (.putfield 30, 3) := by decide +kernel
theorem dX3_turn_36 : decode cX3_turn 36 = .ok (.aload_n 0, 1) := by decide +kernel
theorem dX3_turn_37 : decode cX3_turn 37 = .ok (.iconst 0, 1) := by decide +kernel
theorem dX3_turn_38 : decode cX3_turn 38 = .ok (.putfield 34, 3) := by decide +kernel
theorem dX3_turn_41 : decode cX3_turn 41 = .ok (.return_, 1) := by decide +kernel
theorem dX3_copyFrom_0 : decode cX3_copyFrom 0 = .ok (.aload_n 0, 1) := by decide +kernel
theorem dX3_copyFrom_1 : decode cX3_copyFrom 1 = .ok (.aload_n 1, 1) := by decide +kernel
theorem dX3_copyFrom_2 : decode cX3_copyFrom 2 = .ok (.getfield 9, 3) := by decide +kernel
theorem dX3_copyFrom_5 : decode cX3_copyFrom 5 = .ok (.putfield 9, 3) := by decide +kernel
theorem dX3_copyFrom_8 : decode cX3_copyFrom 8 = .ok (.aload_n 0, 1) := by decide +kernel
theorem dX3_copyFrom_9 : decode cX3_copyFrom 9 = .ok (.aload_n 1, 1) := by decide +kernel
theorem dX3_copyFrom_10 : decode cX3_copyFrom 10 = .ok (.getfield 15, 3) := by decide +kernel
theorem dX3_copyFrom_13 : decode cX3_copyFrom 13 = .ok (.putfield 15, 3) := by decide +kernel
theorem dX3_copyFrom_16 : decode cX3_copyFrom 16 = .ok (.aload_n 0, 1) := by decide +kernel
theorem dX3_copyFrom_17 : decode cX3_copyFrom 17 = .ok (.aload_n 1, 1) := by decide +kernel
theorem dX3_copyFrom_18 : decode cX3_copyFrom 18 = .ok (.getfield 18, 3) := by decide +kernel
theorem dX3_copyFrom_21 : decode cX3_copyFrom 21 = .ok (.putfield 18, 3) := by decide +kernel
theorem dX3_copyFrom_24 : decode cX3_copyFrom 24 = .ok (.aload_n 0, 1) := by decide +kernel
theorem dX3_copyFrom_25 : decode cX3_copyFrom 25 = .ok (.aload_n 1, 1) := by decide +kernel
theorem dX3_copyFrom_26 : decode cX3_copyFrom 26 = .ok (.getfield 21, 3) := by decide +kernel
theorem dX3_copyFrom_29 : decode cX3_copyFrom 29 = .ok (.putfield 21, 3) := by decide +kernel
theorem dX3_copyFrom_32 : decode cX3_copyFrom 32 = .ok (.aload_n 0, 1) := by decide +kernel
theorem dX3_copyFrom_33 : decode cX3_copyFrom 33 = .ok (.aload_n 1, 1) := by decide +kernel
theorem dX3_copyFrom_34 : decode cX3_copyFrom 34 = .ok (.getfield 24, 3) := by decide +kernel
theorem dX3_copyFrom_37 : decode cX3_copyFrom 37 = .ok (.putfield 24, 3) := by decide +kernel
theorem dX3_copyFrom_40 : decode cX3_copyFrom 40 = .ok (.aload_n 0, 1) := by decide +kernel
theorem dX3_copyFrom_41 : decode cX3_copyFrom 41 = .ok (.aload_n 1, 1) := by decide +kernel
theorem dX3_copyFrom_42 : decode cX3_copyFrom 42 = .ok (.getfield 27, 3) := by decide +kernel
theorem dX3_copyFrom_45 : decode cX3_copyFrom 45 = .ok (.putfield 27, 3) := by decide +kernel
theorem dX3_copyFrom_48 : decode cX3_copyFrom 48 = .ok (.aload_n 0, 1) := by decide +kernel
theorem dX3_copyFrom_49 : decode cX3_copyFrom 49 = .ok (.aload_n 1, 1) := by decide +kernel
theorem dX3_copyFrom_50 : decode cX3_copyFrom 50 = .ok (.getfield 30, 3) := by decide +kernel
theorem dX3_copyFrom_53 : decode cX3_copyFrom 53 = .ok (.putfield 30, 3) := by decide +kernel
theorem dX3_copyFrom_56 : decode cX3_copyFrom 56 = .ok (.aload_n 0, 1) := by decide +kernel
theorem dX3_copyFrom_57 : decode cX3_copyFrom 57 = .ok (.aload_n 1, 1) := by decide +kernel
theorem dX3_copyFrom_58 : decode cX3_copyFrom 58 = .ok (.getfield 34, 3) := by decide +kernel
theorem dX3_copyFrom_61 : decode cX3_copyFrom 61 = .ok (.putfield 34, 3) := by decide +kernel
theorem dX3_copyFrom_64 : decode cX3_copyFrom 64 = .ok (.return_, 1) := by decide +kernel
theorem dX3_stands_0 : decode cX3_stands 0 = .ok (.aload_n 0, 1) := by decide +kernel
theorem dX3_stands_1 : decode cX3_stands 1 = .ok (.getfield 24, 3) := by decide +kernel
theorem dX3_stands_4 : decode cX3_stands 4 = .ok (.iconst (-1), 1) := by decide +kernel
theorem dX3_stands_5 : decode cX3_stands 5 = .ok (.if_icmp .eq 7, 3) := by decide +kernel
theorem dX3_stands_8 : decode cX3_stands 8 = .ok (.iconst 1, 1) := by decide +kernel
theorem dX3_stands_9 : decode cX3_stands 9 = .ok (.goto 4, 3) := by decide +kernel
theorem dX3_stands_12 : decode cX3_stands 12 = .ok (.iconst 0, 1) := by decide +kernel
theorem dX3_stands_13 : decode cX3_stands 13 = .ok (.ireturn, 1) := by decide +kernel
theorem dX3_bear_0 : decode cX3_bear 0 = .ok (.iload_n 2, 1) := by decide +kernel
theorem dX3_bear_1 : decode cX3_bear 1 = .ok (.iload_n 3, 1) := by decide +kernel
theorem dX3_bear_2 : decode cX3_bear 2 = .ok (.bipush 10, 2) := by decide +kernel
theorem dX3_bear_4 : decode cX3_bear 4 = .ok (.aload_n 0, 1) := by decide +kernel
theorem dX3_bear_5 : decode cX3_bear 5 = .ok (.getfield 21, 3) := by decide +kernel
theorem dX3_bear_8 : decode cX3_bear 8 = .ok (.imul, 1) := by decide +kernel
theorem dX3_bear_9 : decode cX3_bear 9 = .ok (.isub, 1) := by decide +kernel
theorem dX3_bear_10 : decode cX3_bear 10 = .ok (.if_icmp .le 9, 3) := by decide +kernel
theorem dX3_bear_13 : decode cX3_bear 13 = .ok (.aload_n 0, 1) := by decide +kernel
theorem dX3_bear_14 : decode cX3_bear 14 = .ok (.iconst 1, 1) := by decide +kernel
theorem dX3_bear_15 : decode cX3_bear 15 = .ok (.putfield 30, 3) := by decide +kernel
theorem dX3_bear_18 : decode cX3_bear 18 = .ok (.return_, 1) := by decide +kernel
theorem dX3_bear_19 : decode cX3_bear 19 = .ok (.iload_n 1, 1) := by decide +kernel
theorem dX3_bear_20 : decode cX3_bear 20 = .ok (.sipush 600, 3) := by decide +kernel
theorem dX3_bear_23 : decode cX3_bear 23 = .ok (.if_icmp .lt 20, 3) := by decide +kernel
theorem dX3_bear_26 : decode cX3_bear 26 = .ok (.aload_n 0, 1) := by decide +kernel
theorem dX3_bear_27 : decode cX3_bear 27 = .ok (.dup, 1) := by decide +kernel
theorem dX3_bear_28 : decode cX3_bear 28 = .ok (.getfield 34, 3) := by decide +kernel
theorem dX3_bear_31 : decode cX3_bear 31 = .ok (.iload_n 1, 1) := by decide +kernel
theorem dX3_bear_32 : decode cX3_bear 32 = .ok (.sipush 600, 3) := by decide +kernel
theorem dX3_bear_35 : decode cX3_bear 35 = .ok (.isub, 1) := by decide +kernel
theorem dX3_bear_36 : decode cX3_bear 36 = .ok (.bipush 50, 2) := by decide +kernel
theorem dX3_bear_38 : decode cX3_bear 38 = .ok (.idiv, 1) := by decide +kernel
theorem dX3_bear_39 : decode cX3_bear 39 = .ok (.iadd, 1) := by decide +kernel
theorem dX3_bear_40 : decode cX3_bear 40 = .ok (.putfield 34, 3) := by decide +kernel
theorem dX3_bear_43 : decode cX3_bear 43 = .ok (.iload_n 1, 1) := by decide +kernel
theorem dX3_bear_44 : decode cX3_bear 44 = .ok (.bipush 100, 2) := by decide +kernel
theorem dX3_bear_46 : decode cX3_bear 46 = .ok (.if_icmp .lt 20, 3) := by decide +kernel
theorem dX3_bear_49 : decode cX3_bear 49 = .ok (.aload_n 0, 1) := by decide +kernel
theorem dX3_bear_50 : decode cX3_bear 50 = .ok (.getfield 21, 3) := by decide +kernel
theorem dX3_bear_53 : decode cX3_bear 53 = .ok (.ifCond .le 13, 3) := by decide +kernel
theorem dX3_bear_56 : decode cX3_bear 56 = .ok (.aload_n 0, 1) := by decide +kernel
theorem dX3_bear_57 : decode cX3_bear 57 = .ok (.dup, 1) := by decide +kernel
theorem dX3_bear_58 : decode cX3_bear 58 = .ok (.getfield 21, 3) := by decide +kernel
theorem dX3_bear_61 : decode cX3_bear 61 = .ok (.iconst 1, 1) := by decide +kernel
theorem dX3_bear_62 : decode cX3_bear 62 = .ok (.isub, 1) := by decide +kernel
theorem dX3_bear_63 : decode cX3_bear 63 = .ok (.putfield 21, 3) := by decide +kernel
theorem dX3_bear_66 : decode cX3_bear 66 = .ok (.return_, 1) := by decide +kernel
theorem dX3_subject_0 : decode cX3_subject 0 = .ok (.iload_n 1, 1) := by decide +kernel
theorem dX3_subject_1 : decode cX3_subject 1 = .ok (.tableswitch 102 0 6 #[43, 60, 77, 82, 87, 92, 97], 43) := by decide +kernel
theorem dX3_subject_44 : decode cX3_subject 44 = .ok (.aload_n 0, 1) := by decide +kernel
theorem dX3_subject_45 : decode cX3_subject 45 = .ok (.getfield 24, 3) := by decide +kernel
theorem dX3_subject_48 : decode cX3_subject 48 = .ok (.iconst (-1), 1) := by decide +kernel
theorem dX3_subject_49 : decode cX3_subject 49 = .ok (.if_icmp .ne 7, 3) := by decide +kernel
theorem dX3_subject_52 : decode cX3_subject 52 = .ok (.iconst 0, 1) := by decide +kernel
theorem dX3_subject_53 : decode cX3_subject 53 = .ok (.goto 7, 3) := by decide +kernel
theorem dX3_subject_56 : decode cX3_subject 56 = .ok (.aload_n 0, 1) := by decide +kernel
theorem dX3_subject_57 : decode cX3_subject 57 = .ok (.getfield 24, 3) := by decide +kernel
theorem dX3_subject_60 : decode cX3_subject 60 = .ok (.ireturn, 1) := by decide +kernel
theorem dX3_subject_61 : decode cX3_subject 61 = .ok (.aload_n 0, 1) := by decide +kernel
theorem dX3_subject_62 : decode cX3_subject 62 = .ok (.getfield 27, 3) := by decide +kernel
theorem dX3_subject_65 : decode cX3_subject 65 = .ok (.iconst (-1), 1) := by decide +kernel
theorem dX3_subject_66 : decode cX3_subject 66 = .ok (.if_icmp .ne 7, 3) := by decide +kernel
theorem dX3_subject_69 : decode cX3_subject 69 = .ok (.iconst 0, 1) := by decide +kernel
theorem dX3_subject_70 : decode cX3_subject 70 = .ok (.goto 7, 3) := by decide +kernel
theorem dX3_subject_73 : decode cX3_subject 73 = .ok (.aload_n 0, 1) := by decide +kernel
theorem dX3_subject_74 : decode cX3_subject 74 = .ok (.getfield 27, 3) := by decide +kernel
theorem dX3_subject_77 : decode cX3_subject 77 = .ok (.ireturn, 1) := by decide +kernel
theorem dX3_subject_78 : decode cX3_subject 78 = .ok (.aload_n 0, 1) := by decide +kernel
theorem dX3_subject_79 : decode cX3_subject 79 = .ok (.getfield 15, 3) := by decide +kernel
theorem dX3_subject_82 : decode cX3_subject 82 = .ok (.ireturn, 1) := by decide +kernel
theorem dX3_subject_83 : decode cX3_subject 83 = .ok (.aload_n 0, 1) := by decide +kernel
theorem dX3_subject_84 : decode cX3_subject 84 = .ok (.getfield 18, 3) := by decide +kernel
theorem dX3_subject_87 : decode cX3_subject 87 = .ok (.ireturn, 1) := by decide +kernel
theorem dX3_subject_88 : decode cX3_subject 88 = .ok (.aload_n 0, 1) := by decide +kernel
theorem dX3_subject_89 : decode cX3_subject 89 = .ok (.getfield 9, 3) := by decide +kernel
theorem dX3_subject_92 : decode cX3_subject 92 = .ok (.ireturn, 1) := by decide +kernel
theorem dX3_subject_93 : decode cX3_subject 93 = .ok (.aload_n 0, 1) := by decide +kernel
theorem dX3_subject_94 : decode cX3_subject 94 = .ok (.getfield 21, 3) := by decide +kernel
theorem dX3_subject_97 : decode cX3_subject 97 = .ok (.ireturn, 1) := by decide +kernel
theorem dX3_subject_98 : decode cX3_subject 98 = .ok (.aload_n 0, 1) := by decide +kernel
theorem dX3_subject_99 : decode cX3_subject 99 = .ok (.getfield 34, 3) := by decide +kernel
theorem dX3_subject_102 : decode cX3_subject 102 = .ok (.ireturn, 1) := by decide +kernel
theorem dX3_subject_103 : decode cX3_subject 103 = .ok (.iconst 0, 1) := by decide +kernel
theorem dX3_subject_104 : decode cX3_subject 104 = .ok (.ireturn, 1) := by decide +kernel
theorem dX4_init_0 : decode cX4_init 0 = .ok (.aload_n 0, 1) := by decide +kernel
theorem dX4_init_1 : decode cX4_init 1 = .ok (.invokespecial 3, 3) := by decide +kernel
theorem dX4_init_4 : decode cX4_init 4 = .ok (.aload_n 0, 1) := by decide +kernel
theorem dX4_init_5 : decode cX4_init 5 = .ok (.new 9, 3) := by decide +kernel
theorem dX4_init_8 : decode cX4_init 8 = .ok (.dup, 1) := by decide +kernel
theorem dX4_init_9 : decode cX4_init 9 = .ok (.invokespecial 11, 3) := by decide +kernel
theorem dX4_init_12 : decode cX4_init 12 = .ok (.putfield 12, 3) := by decide +kernel
theorem dX4_init_15 : decode cX4_init 15 = .ok (.aload_n 0, 1) := by decide +kernel
theorem dX4_init_16 : decode cX4_init 16 = .ok (.iconst 0, 1) := by decide +kernel
theorem dX4_init_17 : decode cX4_init 17 = .ok (.putfield 18, 3) := by decide +kernel
theorem dX4_init_20 : decode cX4_init 20 = .ok (.aload_n 0, 1) := by decide +kernel
theorem dX4_init_21 : decode cX4_init 21 = .ok (.iconst (-1), 1) := by decide +kernel
theorem dX4_init_22 : decode cX4_init 22 = .ok (.putfield 22, 3) := by decide +kernel
theorem dX4_init_25 : decode cX4_init 25 = .ok (.aload_n 0, 1) := by decide +kernel
theorem dX4_init_26 : decode cX4_init 26 = .ok (.iconst 0, 1) := by decide +kernel
theorem dX4_init_27 : decode cX4_init 27 = .ok (.putfield 25, 3) := by decide +kernel
theorem dX4_init_30 : decode cX4_init 30 = .ok (.aload_n 0, 1) := by decide +kernel
theorem dX4_init_31 : decode cX4_init 31 = .ok (.new 28, 3) := by decide +kernel
theorem dX4_init_34 : decode cX4_init 34 = .ok (.dup, 1) := by decide +kernel
theorem dX4_init_35 : decode cX4_init 35 = .ok (.aload_n 1, 1) := by decide +kernel
theorem dX4_init_36 : decode cX4_init 36 = .ok (.invokespecial 30, 3) := by decide +kernel
theorem dX4_init_39 : decode cX4_init 39 = .ok (.putfield 33, 3) := by decide +kernel
theorem dX4_init_42 : decode cX4_init 42 = .ok (.return_, 1) := by decide +kernel
theorem dX4_read_0 : decode cX4_read 0 = .ok (.aload_n 0, 1) := by decide +kernel
theorem dX4_read_1 : decode cX4_read 1 = .ok (.getfield 33, 3) := by decide +kernel
theorem dX4_read_4 : decode cX4_read 4 = .ok (.invokevirtual 37, 3) := by decide +kernel
theorem dX4_read_7 : decode cX4_read 7 = .ok (.aload_n 0, 1) := by decide +kernel
theorem dX4_read_8 : decode cX4_read 8 = .ok (.iconst 0, 1) := by decide +kernel
theorem dX4_read_9 : decode cX4_read 9 = .ok (.putfield 25, 3) := by decide +kernel
theorem dX4_read_12 : decode cX4_read 12 = .ok (.aload_n 0, 1) := by decide +kernel
theorem dX4_read_13 : decode cX4_read 13 = .ok (.iconst 0, 1) := by decide +kernel
theorem dX4_read_14 : decode cX4_read 14 = .ok (.putfield 18, 3) := by decide +kernel
theorem dX4_read_17 : decode cX4_read 17 = .ok (.aload_n 0, 1) := by decide +kernel
theorem dX4_read_18 : decode cX4_read 18 = .ok (.iconst (-1), 1) := by decide +kernel
theorem dX4_read_19 : decode cX4_read 19 = .ok (.putfield 22, 3) := by decide +kernel
theorem dX4_read_22 : decode cX4_read 22 = .ok (.aload_n 0, 1) := by decide +kernel
theorem dX4_read_23 : decode cX4_read 23 = .ok (.getfield 12, 3) := by decide +kernel
theorem dX4_read_26 : decode cX4_read 26 = .ok (.iconst 0, 1) := by decide +kernel
theorem dX4_read_27 : decode cX4_read 27 = .ok (.putfield 40, 3) := by decide +kernel
theorem dX4_read_30 : decode cX4_read 30 = .ok (.iconst 1, 1) := by decide +kernel
theorem dX4_read_31 : decode cX4_read 31 = .ok (.istore_n 1, 1) := by decide +kernel
theorem dX4_read_32 : decode cX4_read 32 = .ok (.iconst 0, 1) := by decide +kernel
theorem dX4_read_33 : decode cX4_read 33 = .ok (.istore_n 2, 1) := by decide +kernel
theorem dX4_read_34 : decode cX4_read 34 = .ok (.iload_n 2, 1) := by decide +kernel
theorem dX4_read_35 : decode cX4_read 35 = .ok (.sipush 300, 3) := by decide +kernel
theorem dX4_read_38 : decode cX4_read 38 = .ok (.if_icmp .ge 27, 3) := by decide +kernel
theorem dX4_read_41 : decode cX4_read 41 = .ok (.iload_n 1, 1) := by decide +kernel
theorem dX4_read_42 : decode cX4_read 42 = .ok (.ifCond .eq 23, 3) := by decide +kernel
theorem dX4_read_45 : decode cX4_read 45 = .ok (.aload_n 0, 1) := by decide +kernel
theorem dX4_read_46 : decode cX4_read 46 = .ok (.iconst 0, 1) := by decide +kernel
theorem dX4_read_47 : decode cX4_read 47 = .ok (.invokevirtual 43, 3) := by decide +kernel
theorem dX4_read_50 : decode cX4_read 50 = .ok (.ifCond .ne 15, 3) := by decide +kernel
theorem dX4_read_53 : decode cX4_read 53 = .ok (.aload_n 0, 1) := by decide +kernel
theorem dX4_read_54 : decode cX4_read 54 = .ok (.iload_n 2, 1) := by decide +kernel
theorem dX4_read_55 : decode cX4_read 55 = .ok (.invokevirtual 47, 3) := by decide +kernel
theorem dX4_read_58 : decode cX4_read 58 = .ok (.istore_n 1, 1) := by decide +kernel
theorem dX4_read_59 : decode cX4_read 59 = .ok (.iinc 2 1, 3) := by decide +kernel
theorem dX4_read_62 : decode cX4_read 62 = .ok (.goto (-28), 3) := by decide +kernel
theorem dX4_read_65 : decode cX4_read 65 = .ok (.iload_n 1, 1) := by decide +kernel
theorem dX4_read_66 : decode cX4_read 66 = .ok (.ifCond .ne 24, 3) := by decide +kernel
theorem dX4_read_69 : decode cX4_read 69 = .ok (.aload_n 0, 1) := by decide +kernel
theorem dX4_read_70 : decode cX4_read 70 = .ok (.iconst 1, 1) := by decide +kernel
theorem dX4_read_71 : decode cX4_read 71 = .ok (.putfield 18, 3) := by decide +kernel
theorem dX4_read_74 : decode cX4_read 74 = .ok (.aload_n 0, 1) := by decide +kernel
theorem dX4_read_75 : decode cX4_read 75 = .ok (.aload_n 0, 1) := by decide +kernel
theorem dX4_read_76 : decode cX4_read 76 = .ok (.getfield 33, 3) := by decide +kernel
theorem dX4_read_79 : decode cX4_read 79 = .ok (.getfield 50, 3) := by decide +kernel
theorem dX4_read_82 : decode cX4_read 82 = .ok (.aload_n 0, 1) := by decide +kernel
theorem dX4_read_83 : decode cX4_read 83 = .ok (.getfield 25, 3) := by decide +kernel
theorem dX4_read_86 : decode cX4_read 86 = .ok (.iaload, 1) := by decide +kernel
theorem dX4_read_87 : decode cX4_read 87 = .ok (.putfield 22, 3) := by decide +kernel
theorem dX4_read_90 : decode cX4_read 90 = .ok (.return_, 1) := by decide +kernel
theorem dX4_readLine_0 : decode cX4_readLine 0 = .ok (.iload_n 1, 1) := by decide +kernel
theorem dX4_readLine_1 : decode cX4_readLine 1 = .ok (.bipush 12, 2) := by decide +kernel
theorem dX4_readLine_3 : decode cX4_readLine 3 = .ok (.if_icmp .ge 36, 3) := by decide +kernel
theorem dX4_readLine_6 : decode cX4_readLine 6 = .ok (.aload_n 0, 1) := by decide +kernel
theorem dX4_readLine_7 : decode cX4_readLine 7 = .ok (.getfield 12, 3) := by decide +kernel
theorem dX4_readLine_10 : decode cX4_readLine 10 = .ok (.iload_n 1, 1) := by decide +kernel
theorem dX4_readLine_11 : decode cX4_readLine 11 = .ok (.iconst 1, 1) := by decide +kernel
theorem dX4_readLine_12 : decode cX4_readLine 12 = .ok (.iadd, 1) := by decide +kernel
theorem dX4_readLine_13 : decode cX4_readLine 13 = .ok (.putfield 40, 3) := by decide +kernel
theorem dX4_readLine_16 : decode cX4_readLine 16 = .ok (.aload_n 0, 1) := by decide +kernel
theorem dX4_readLine_17 : decode cX4_readLine 17 = .ok (.getfield 12, 3) := by decide +kernel
theorem dX4_readLine_20 : decode cX4_readLine 20 = .ok (.getfield 54, 3) := by decide +kernel
theorem dX4_readLine_23 : decode cX4_readLine 23 = .ok (.iload_n 1, 1) := by decide +kernel
theorem dX4_readLine_24 : decode cX4_readLine 24 = .ok (.iconst 0, 1) := by decide +kernel
theorem dX4_readLine_25 : decode cX4_readLine 25 = .ok (.iastore, 1) := by decide +kernel
theorem dX4_readLine_26 : decode cX4_readLine 26 = .ok (.aload_n 0, 1) := by decide +kernel
theorem dX4_readLine_27 : decode cX4_readLine 27 = .ok (.getfield 12, 3) := by decide +kernel
theorem dX4_readLine_30 : decode cX4_readLine 30 = .ok (.getfield 57, 3) := by decide +kernel
theorem dX4_readLine_33 : decode cX4_readLine 33 = .ok (.iload_n 1, 1) := by decide +kernel
theorem dX4_readLine_34 : decode cX4_readLine 34 = .ok (.iconst 0, 1) := by decide +kernel
theorem dX4_readLine_35 : decode cX4_readLine 35 = .ok (.iastore, 1) := by decide +kernel
theorem dX4_readLine_36 : decode cX4_readLine 36 = .ok (.goto 8, 3) := by decide +kernel
theorem dX4_readLine_39 : decode cX4_readLine 39 = .ok (.aload_n 0, 1) := by decide +kernel
theorem dX4_readLine_40 : decode cX4_readLine 40 = .ok (.iconst 3, 1) := by decide +kernel
theorem dX4_readLine_41 : decode cX4_readLine 41 = .ok (.invokevirtual 60, 3) := by decide +kernel
theorem dX4_readLine_44 : decode cX4_readLine 44 = .ok (.aload_n 0, 1) := by decide +kernel
theorem dX4_readLine_45 : decode cX4_readLine 45 = .ok (.bipush 7, 2) := by decide +kernel
theorem dX4_readLine_47 : decode cX4_readLine 47 = .ok (.invokevirtual 43, 3) := by decide +kernel
theorem dX4_readLine_50 : decode cX4_readLine 50 = .ok (.ifCond .eq 13, 3) := by decide +kernel
theorem dX4_readLine_53 : decode cX4_readLine 53 = .ok (.aload_n 0, 1) := by decide +kernel
theorem dX4_readLine_54 : decode cX4_readLine 54 = .ok (.iload_n 1, 1) := by decide +kernel
theorem dX4_readLine_55 : decode cX4_readLine 55 = .ok (.invokevirtual 64, 3) := by decide +kernel
theorem dX4_readLine_58 : decode cX4_readLine 58 = .ok (.ifCond .ne 5, 3) := by decide +kernel
theorem dX4_readLine_61 : decode cX4_readLine 61 = .ok (.iconst 0, 1) := by decide +kernel
theorem dX4_readLine_62 : decode cX4_readLine 62 = .ok (.ireturn, 1) := by decide +kernel
theorem dX4_readLine_63 : decode cX4_readLine 63 = .ok (.aload_n 0, 1) := by decide +kernel
theorem dX4_readLine_64 : decode cX4_readLine 64 = .ok (.iload_n 1, 1) := by decide +kernel
theorem dX4_readLine_65 : decode cX4_readLine 65 = .ok (.invokevirtual 67, 3) := by decide +kernel
theorem dX4_readLine_68 : decode cX4_readLine 68 = .ok (.ifCond .eq 16, 3) := by decide +kernel
theorem dX4_readLine_71 : decode cX4_readLine 71 = .ok (.aload_n 0, 1) := by decide +kernel
theorem dX4_readLine_72 : decode cX4_readLine 72 = .ok (.bipush 6, 2) := by decide +kernel
theorem dX4_readLine_74 : decode cX4_readLine 74 = .ok (.invokevirtual 70, 3) := by decide +kernel
theorem dX4_readLine_77 : decode cX4_readLine 77 = .ok (.ifCond .eq 7, 3) := by decide +kernel
theorem dX4_readLine_80 : decode cX4_readLine 80 = .ok (.iconst 1, 1) := by decide +kernel
theorem dX4_readLine_81 : decode cX4_readLine 81 = .ok (.goto 4, 3) := by decide +kernel
theorem dX4_readLine_84 : decode cX4_readLine 84 = .ok (.iconst 0, 1) := by decide +kernel
theorem dX4_readLine_85 : decode cX4_readLine 85 = .ok (.ireturn, 1) := by decide +kernel
theorem dX4_readCondition_0 : decode cX4_readCondition 0 = .ok (.aload_n 0, 1) := by decide +kernel
theorem dX4_readCondition_1 : decode cX4_readCondition 1 = .ok (.bipush 7, 2) := by decide +kernel
theorem dX4_readCondition_3 : decode cX4_readCondition 3 = .ok (.invokevirtual 70, 3) := by decide +kernel
theorem dX4_readCondition_6 : decode cX4_readCondition 6 = .ok (.istore_n 2, 1) := by decide +kernel
theorem dX4_readCondition_7 : decode cX4_readCondition 7 = .ok (.iconst 0, 1) := by decide +kernel
theorem dX4_readCondition_8 : decode cX4_readCondition 8 = .ok (.istore_n 3, 1) := by decide +kernel
theorem dX4_readCondition_9 : decode cX4_readCondition 9 = .ok (.iload_n 3, 1) := by decide +kernel
theorem dX4_readCondition_10 : decode cX4_readCondition 10 = .ok (.sipush 300, 3) := by decide +kernel
theorem dX4_readCondition_13 : decode cX4_readCondition 13 = .ok (.if_icmp .ge 31, 3) := by decide +kernel
theorem dX4_readCondition_16 : decode cX4_readCondition 16 = .ok (.iload_n 2, 1) := by decide +kernel
theorem dX4_readCondition_17 : decode cX4_readCondition 17 = .ok (.ifCond .eq 27, 3) := by decide +kernel
theorem dX4_readCondition_20 : decode cX4_readCondition 20 = .ok (.aload_n 0, 1) := by decide +kernel
theorem dX4_readCondition_21 : decode cX4_readCondition 21 = .ok (.iload_n 1, 1) := by decide +kernel
theorem dX4_readCondition_22 : decode cX4_readCondition 22 = .ok (.iload_n 3, 1) := by decide +kernel
theorem dX4_readCondition_23 : decode cX4_readCondition 23 = .ok (.invokevirtual 73, 3) := by decide +kernel
theorem dX4_readCondition_26 : decode cX4_readCondition 26 = .ok (.ifCond .ne 5, 3) := by decide +kernel
theorem dX4_readCondition_29 : decode cX4_readCondition 29 = .ok (.iconst 0, 1) := by decide +kernel
theorem dX4_readCondition_30 : decode cX4_readCondition 30 = .ok (.ireturn, 1) := by decide +kernel
theorem dX4_readCondition_31 : decode cX4_readCondition 31 = .ok (.aload_n 0, 1) := by decide +kernel
theorem dX4_readCondition_32 : decode cX4_readCondition 32 = .ok (.bipush 8, 2) := by decide +kernel
theorem dX4_readCondition_34 : decode cX4_readCondition 34 = .ok (.invokevirtual 70, 3) := by decide +kernel
theorem dX4_readCondition_37 : decode cX4_readCondition 37 = .ok (.istore_n 2, 1) := by decide +kernel
theorem dX4_readCondition_38 : decode cX4_readCondition 38 = .ok (.iinc 3 1, 3) := by decide +kernel
theorem dX4_readCondition_41 : decode cX4_readCondition 41 = .ok (.goto (-32), 3) := by decide +kernel
theorem dX4_readCondition_44 : decode cX4_readCondition 44 = .ok (.aload_n 0, 1) := by decide +kernel
theorem dX4_readCondition_45 : decode cX4_readCondition 45 = .ok (.iconst 5, 1) := by decide +kernel
theorem dX4_readCondition_46 : decode cX4_readCondition 46 = .ok (.invokevirtual 70, 3) := by decide +kernel
theorem dX4_readCondition_49 : decode cX4_readCondition 49 = .ok (.ireturn, 1) := by decide +kernel
theorem dX4_readTest_0 : decode cX4_readTest 0 = .ok (.iload_n 2, 1) := by decide +kernel
theorem dX4_readTest_1 : decode cX4_readTest 1 = .ok (.iconst 4, 1) := by decide +kernel
theorem dX4_readTest_2 : decode cX4_readTest 2 = .ok (.if_icmp .lt 8, 3) := by decide +kernel
theorem dX4_readTest_5 : decode cX4_readTest 5 = .ok (.aload_n 0, 1) := by decide +kernel
theorem dX4_readTest_6 : decode cX4_readTest 6 = .ok (.iconst 3, 1) := by decide +kernel
theorem dX4_readTest_7 : decode cX4_readTest 7 = .ok (.invokevirtual 60, 3) := by decide +kernel
theorem dX4_readTest_10 : decode cX4_readTest 10 = .ok (.aload_n 0, 1) := by decide +kernel
theorem dX4_readTest_11 : decode cX4_readTest 11 = .ok (.bipush 9, 2) := by decide +kernel
theorem dX4_readTest_13 : decode cX4_readTest 13 = .ok (.invokevirtual 70, 3) := by decide +kernel
theorem dX4_readTest_16 : decode cX4_readTest 16 = .ok (.istore_n 3, 1) := by decide +kernel
theorem dX4_readTest_17 : decode cX4_readTest 17 = .ok (.aload_n 0, 1) := by decide +kernel
theorem dX4_readTest_18 : decode cX4_readTest 18 = .ok (.getfield 25, 3) := by decide +kernel
theorem dX4_readTest_21 : decode cX4_readTest 21 = .ok (.istore 4, 2) := by decide +kernel
theorem dX4_readTest_23 : decode cX4_readTest 23 = .ok (.aload_n 0, 1) := by decide +kernel
theorem dX4_readTest_24 : decode cX4_readTest 24 = .ok (.iconst 3, 1) := by decide +kernel
theorem dX4_readTest_25 : decode cX4_readTest 25 = .ok (.invokevirtual 70, 3) := by decide +kernel
theorem dX4_readTest_28 : decode cX4_readTest 28 = .ok (.ifCond .eq 23, 3) := by decide +kernel
theorem dX4_readTest_31 : decode cX4_readTest 31 = .ok (.aload_n 0, 1) := by decide +kernel
theorem dX4_readTest_32 : decode cX4_readTest 32 = .ok (.iconst 4, 1) := by decide +kernel
theorem dX4_readTest_33 : decode cX4_readTest 33 = .ok (.invokevirtual 70, 3) := by decide +kernel
theorem dX4_readTest_36 : decode cX4_readTest 36 = .ok (.ifCond .eq 15, 3) := by decide +kernel
theorem dX4_readTest_39 : decode cX4_readTest 39 = .ok (.aload_n 0, 1) := by decide +kernel
theorem dX4_readTest_40 : decode cX4_readTest 40 = .ok (.iconst 2, 1) := by decide +kernel
theorem dX4_readTest_41 : decode cX4_readTest 41 = .ok (.invokevirtual 70, 3) := by decide +kernel
theorem dX4_readTest_44 : decode cX4_readTest 44 = .ok (.ifCond .eq 7, 3) := by decide +kernel
theorem dX4_readTest_47 : decode cX4_readTest 47 = .ok (.iconst 1, 1) := by decide +kernel
theorem dX4_readTest_48 : decode cX4_readTest 48 = .ok (.goto 4, 3) := by decide +kernel
theorem dX4_readTest_51 : decode cX4_readTest 51 = .ok (.iconst 0, 1) := by decide +kernel
theorem dX4_readTest_52 : decode cX4_readTest 52 = .ok (.istore 5, 2) := by decide +kernel
theorem dX4_readTest_54 : decode cX4_readTest 54 = .ok (.iload 5, 2) := by decide +kernel
theorem dX4_readTest_56 : decode cX4_readTest 56 = .ok (.ifCond .eq 23, 3) := by decide +kernel
theorem dX4_readTest_59 : decode cX4_readTest 59 = .ok (.iload_n 1, 1) := by decide +kernel
theorem dX4_readTest_60 : decode cX4_readTest 60 = .ok (.bipush 12, 2) := by decide +kernel
theorem dX4_readTest_62 : decode cX4_readTest 62 = .ok (.if_icmp .ge 17, 3) := by decide +kernel
theorem dX4_readTest_65 : decode cX4_readTest 65 = .ok (.iload_n 2, 1) := by decide +kernel
theorem dX4_readTest_66 : decode cX4_readTest 66 = .ok (.iconst 4, 1) := by decide +kernel
theorem dX4_readTest_67 : decode cX4_readTest 67 = .ok (.if_icmp .ge 12, 3) := by decide +kernel
theorem dX4_readTest_70 : decode cX4_readTest 70 = .ok (.aload_n 0, 1) := by decide +kernel
theorem dX4_readTest_71 : decode cX4_readTest 71 = .ok (.iload_n 1, 1) := by decide +kernel
theorem dX4_readTest_72 : decode cX4_readTest 72 = .ok (.iload_n 2, 1) := by decide +kernel
theorem dX4_readTest_73 : decode cX4_readTest 73 = .ok (.iload 4, 2) := by decide +kernel
theorem dX4_readTest_75 : decode cX4_readTest 75 = .ok (.iload_n 3, 1) := by decide +kernel
theorem dX4_readTest_76 : decode cX4_readTest 76 = .ok (.invokevirtual 77, 3) := by decide +kernel
theorem dX4_readTest_79 : decode cX4_readTest 79 = .ok (.iload 5, 2) := by decide +kernel
theorem dX4_readTest_81 : decode cX4_readTest 81 = .ok (.ireturn, 1) := by decide +kernel
theorem dX4_keepTest_0 : decode cX4_keepTest 0 = .ok (.iload_n 1, 1) := by decide +kernel
theorem dX4_keepTest_1 : decode cX4_keepTest 1 = .ok (.iconst 4, 1) := by decide +kernel
theorem dX4_keepTest_2 : decode cX4_keepTest 2 = .ok (.imul, 1) := by decide +kernel
theorem dX4_keepTest_3 : decode cX4_keepTest 3 = .ok (.iload_n 2, 1) := by decide +kernel
theorem dX4_keepTest_4 : decode cX4_keepTest 4 = .ok (.iadd, 1) := by decide +kernel
theorem dX4_keepTest_5 : decode cX4_keepTest 5 = .ok (.istore 5, 2) := by decide +kernel
theorem dX4_keepTest_7 : decode cX4_keepTest 7 = .ok (.aload_n 0, 1) := by decide +kernel
theorem dX4_keepTest_8 : decode cX4_keepTest 8 = .ok (.getfield 33, 3) := by decide +kernel
theorem dX4_keepTest_11 : decode cX4_keepTest 11 = .ok (.getfield 81, 3) := by decide +kernel
theorem dX4_keepTest_14 : decode cX4_keepTest 14 = .ok (.iload_n 3, 1) := by decide +kernel
theorem dX4_keepTest_15 : decode cX4_keepTest 15 = .ok (.iconst 1, 1) := by decide +kernel
theorem dX4_keepTest_16 : decode cX4_keepTest 16 = .ok (.iadd, 1) := by decide +kernel
theorem dX4_keepTest_17 : decode cX4_keepTest 17 = .ok (.iaload, 1) := by decide +kernel
theorem dX4_keepTest_18 : decode cX4_keepTest 18 = .ok (.istore 6, 2) := by decide +kernel
theorem dX4_keepTest_20 : decode cX4_keepTest 20 = .ok (.aload_n 0, 1) := by decide +kernel
theorem dX4_keepTest_21 : decode cX4_keepTest 21 = .ok (.getfield 12, 3) := by decide +kernel
theorem dX4_keepTest_24 : decode cX4_keepTest 24 = .ok (.getfield 84, 3) := by decide +kernel
theorem dX4_keepTest_27 : decode cX4_keepTest 27 = .ok (.iload 5, 2) := by decide +kernel
theorem dX4_keepTest_29 : decode cX4_keepTest 29 = .ok (.aload_n 0, 1) := by decide +kernel
theorem dX4_keepTest_30 : decode cX4_keepTest 30 = .ok (.getfield 33, 3) := by decide +kernel
theorem dX4_keepTest_33 : decode cX4_keepTest 33 = .ok (.getfield 81, 3) := by decide +kernel
theorem dX4_keepTest_36 : decode cX4_keepTest 36 = .ok (.iload_n 3, 1) := by decide +kernel
theorem dX4_keepTest_37 : decode cX4_keepTest 37 = .ok (.iaload, 1) := by decide +kernel
theorem dX4_keepTest_38 : decode cX4_keepTest 38 = .ok (.iastore, 1) := by decide +kernel
theorem dX4_keepTest_39 : decode cX4_keepTest 39 = .ok (.aload_n 0, 1) := by decide +kernel
theorem dX4_keepTest_40 : decode cX4_keepTest 40 = .ok (.getfield 12, 3) := by decide +kernel
theorem dX4_keepTest_43 : decode cX4_keepTest 43 = .ok (.getfield 87, 3) := by decide +kernel
theorem dX4_keepTest_46 : decode cX4_keepTest 46 = .ok (.iload 5, 2) := by decide +kernel
theorem dX4_keepTest_48 : decode cX4_keepTest 48 = .ok (.iload 4, 2) := by decide +kernel
theorem dX4_keepTest_50 : decode cX4_keepTest 50 = .ok (.ifCond .eq 11, 3) := by decide +kernel
theorem dX4_keepTest_53 : decode cX4_keepTest 53 = .ok (.bipush 7, 2) := by decide +kernel
theorem dX4_keepTest_55 : decode cX4_keepTest 55 = .ok (.iload 6, 2) := by decide +kernel
theorem dX4_keepTest_57 : decode cX4_keepTest 57 = .ok (.isub, 1) := by decide +kernel
theorem dX4_keepTest_58 : decode cX4_keepTest 58 = .ok (.goto 5, 3) := by decide +kernel
theorem dX4_keepTest_61 : decode cX4_keepTest 61 = .ok (.iload 6, 2) := by decide +kernel
theorem dX4_keepTest_63 : decode cX4_keepTest 63 = .ok (.iastore, 1) := by decide +kernel
theorem dX4_keepTest_64 : decode cX4_keepTest 64 = .ok (.aload_n 0, 1) := by decide +kernel
theorem dX4_keepTest_65 : decode cX4_keepTest 65 = .ok (.getfield 12, 3) := by decide +kernel
theorem dX4_keepTest_68 : decode cX4_keepTest 68 = .ok (.getfield 90, 3) := by decide +kernel
theorem dX4_keepTest_71 : decode cX4_keepTest 71 = .ok (.iload 5, 2) := by decide +kernel
theorem dX4_keepTest_73 : decode cX4_keepTest 73 = .ok (.aload_n 0, 1) := by decide +kernel
theorem dX4_keepTest_74 : decode cX4_keepTest 74 = .ok (.getfield 33, 3) := by decide +kernel
theorem dX4_keepTest_77 : decode cX4_keepTest 77 = .ok (.getfield 81, 3) := by decide +kernel
theorem dX4_keepTest_80 : decode cX4_keepTest 80 = .ok (.iload_n 3, 1) := by decide +kernel
theorem dX4_keepTest_81 : decode cX4_keepTest 81 = .ok (.iconst 2, 1) := by decide +kernel
theorem dX4_keepTest_82 : decode cX4_keepTest 82 = .ok (.iadd, 1) := by decide +kernel
theorem dX4_keepTest_83 : decode cX4_keepTest 83 = .ok (.iaload, 1) := by decide +kernel
theorem dX4_keepTest_84 : decode cX4_keepTest 84 = .ok (.iastore, 1) := by decide +kernel
theorem dX4_keepTest_85 : decode cX4_keepTest 85 = .ok (.aload_n 0, 1) := by decide +kernel
theorem dX4_keepTest_86 : decode cX4_keepTest 86 = .ok (.getfield 12, 3) := by decide +kernel
theorem dX4_keepTest_89 : decode cX4_keepTest 89 = .ok (.getfield 54, 3) := by decide +kernel
theorem dX4_keepTest_92 : decode cX4_keepTest 92 = .ok (.iload_n 1, 1) := by decide +kernel
theorem dX4_keepTest_93 : decode cX4_keepTest 93 = .ok (.iload_n 2, 1) := by decide +kernel
theorem dX4_keepTest_94 : decode cX4_keepTest 94 = .ok (.iconst 1, 1) := by decide +kernel
theorem dX4_keepTest_95 : decode cX4_keepTest 95 = .ok (.iadd, 1) := by decide +kernel
theorem dX4_keepTest_96 : decode cX4_keepTest 96 = .ok (.iastore, 1) := by decide +kernel
theorem dX4_keepTest_97 : decode cX4_keepTest 97 = .ok (.return_, 1) := by decide +kernel
theorem dX4_readDuty_0 : decode cX4_readDuty 0 = .ok (.aload_n 0, 1) := by decide +kernel
theorem dX4_readDuty_1 : decode cX4_readDuty 1 = .ok (.bipush 11, 2) := by decide +kernel
theorem dX4_readDuty_3 : decode cX4_readDuty 3 = .ok (.invokevirtual 70, 3) := by decide +kernel
theorem dX4_readDuty_6 : decode cX4_readDuty 6 = .ok (.ifCond .ne 10, 3) := by decide +kernel
theorem dX4_readDuty_9 : decode cX4_readDuty 9 = .ok (.aload_n 0, 1) := by decide +kernel
theorem dX4_readDuty_10 : decode cX4_readDuty 10 = .ok (.bipush 10, 2) := by decide +kernel
theorem dX4_readDuty_12 : decode cX4_readDuty 12 = .ok (.invokevirtual 70, 3) := by decide +kernel
theorem dX4_readDuty_15 : decode cX4_readDuty 15 = .ok (.ireturn, 1) := by decide +kernel
theorem dX4_readDuty_16 : decode cX4_readDuty 16 = .ok (.aload_n 0, 1) := by decide +kernel
theorem dX4_readDuty_17 : decode cX4_readDuty 17 = .ok (.getfield 33, 3) := by decide +kernel
theorem dX4_readDuty_20 : decode cX4_readDuty 20 = .ok (.getfield 81, 3) := by decide +kernel
theorem dX4_readDuty_23 : decode cX4_readDuty 23 = .ok (.aload_n 0, 1) := by decide +kernel
theorem dX4_readDuty_24 : decode cX4_readDuty 24 = .ok (.getfield 25, 3) := by decide +kernel
theorem dX4_readDuty_27 : decode cX4_readDuty 27 = .ok (.iaload, 1) := by decide +kernel
theorem dX4_readDuty_28 : decode cX4_readDuty 28 = .ok (.istore_n 2, 1) := by decide +kernel
theorem dX4_readDuty_29 : decode cX4_readDuty 29 = .ok (.aload_n 0, 1) := by decide +kernel
theorem dX4_readDuty_30 : decode cX4_readDuty 30 = .ok (.iconst 2, 1) := by decide +kernel
theorem dX4_readDuty_31 : decode cX4_readDuty 31 = .ok (.invokevirtual 43, 3) := by decide +kernel
theorem dX4_readDuty_34 : decode cX4_readDuty 34 = .ok (.ifCond .eq 14, 3) := by decide +kernel
theorem dX4_readDuty_37 : decode cX4_readDuty 37 = .ok (.iload_n 2, 1) := by decide +kernel
theorem dX4_readDuty_38 : decode cX4_readDuty 38 = .ok (.bipush 100, 2) := by decide +kernel
theorem dX4_readDuty_40 : decode cX4_readDuty 40 = .ok (.if_icmp .le 8, 3) := by decide +kernel
theorem dX4_readDuty_43 : decode cX4_readDuty 43 = .ok (.aload_n 0, 1) := by decide +kernel
theorem dX4_readDuty_44 : decode cX4_readDuty 44 = .ok (.iconst 2, 1) := by decide +kernel
theorem dX4_readDuty_45 : decode cX4_readDuty 45 = .ok (.invokevirtual 60, 3) := by decide +kernel
theorem dX4_readDuty_48 : decode cX4_readDuty 48 = .ok (.iload_n 1, 1) := by decide +kernel
theorem dX4_readDuty_49 : decode cX4_readDuty 49 = .ok (.bipush 12, 2) := by decide +kernel
theorem dX4_readDuty_51 : decode cX4_readDuty 51 = .ok (.if_icmp .ge 13, 3) := by decide +kernel
theorem dX4_readDuty_54 : decode cX4_readDuty 54 = .ok (.aload_n 0, 1) := by decide +kernel
theorem dX4_readDuty_55 : decode cX4_readDuty 55 = .ok (.getfield 12, 3) := by decide +kernel
theorem dX4_readDuty_58 : decode cX4_readDuty 58 = .ok (.getfield 57, 3) := by decide +kernel
theorem dX4_readDuty_61 : decode cX4_readDuty 61 = .ok (.iload_n 1, 1) := by decide +kernel
theorem dX4_readDuty_62 : decode cX4_readDuty 62 = .ok (.iload_n 2, 1) := by decide +kernel
theorem dX4_readDuty_63 : decode cX4_readDuty 63 = .ok (.iastore, 1) := by decide +kernel
theorem dX4_readDuty_64 : decode cX4_readDuty 64 = .ok (.aload_n 0, 1) := by decide +kernel
theorem dX4_readDuty_65 : decode cX4_readDuty 65 = .ok (.iconst 2, 1) := by decide +kernel
theorem dX4_readDuty_66 : decode cX4_readDuty 66 = .ok (.invokevirtual 70, 3) := by decide +kernel
theorem dX4_readDuty_69 : decode cX4_readDuty 69 = .ok (.ireturn, 1) := by decide +kernel
theorem dX4_note_0 : decode cX4_note 0 = .ok (.aload_n 0, 1) := by decide +kernel
theorem dX4_note_1 : decode cX4_note 1 = .ok (.getfield 18, 3) := by decide +kernel
theorem dX4_note_4 : decode cX4_note 4 = .ok (.ifCond .ne 24, 3) := by decide +kernel
theorem dX4_note_7 : decode cX4_note 7 = .ok (.aload_n 0, 1) := by decide +kernel
theorem dX4_note_8 : decode cX4_note 8 = .ok (.iload_n 1, 1) := by decide +kernel
theorem dX4_note_9 : decode cX4_note 9 = .ok (.putfield 18, 3) := by decide +kernel
theorem dX4_note_12 : decode cX4_note 12 = .ok (.aload_n 0, 1) := by decide +kernel
theorem dX4_note_13 : decode cX4_note 13 = .ok (.aload_n 0, 1) := by decide +kernel
theorem dX4_note_14 : decode cX4_note 14 = .ok (.getfield 33, 3) := by decide +kernel
theorem dX4_note_17 : decode cX4_note 17 = .ok (.getfield 50, 3) := by decide +kernel
theorem dX4_note_20 : decode cX4_note 20 = .ok (.aload_n 0, 1) := by decide +kernel
theorem dX4_note_21 : decode cX4_note 21 = .ok (.getfield 25, 3) := by decide +kernel
theorem dX4_note_24 : decode cX4_note 24 = .ok (.iaload, 1) := by decide +kernel
theorem dX4_note_25 : decode cX4_note 25 = .ok (.putfield 22, 3) := by decide +kernel
theorem dX4_note_28 : decode cX4_note 28 = .ok (.return_, 1) := by decide +kernel
theorem dX4_isAt_0 : decode cX4_isAt 0 = .ok (.aload_n 0, 1) := by decide +kernel
theorem dX4_isAt_1 : decode cX4_isAt 1 = .ok (.getfield 33, 3) := by decide +kernel
theorem dX4_isAt_4 : decode cX4_isAt 4 = .ok (.getfield 93, 3) := by decide +kernel
theorem dX4_isAt_7 : decode cX4_isAt 7 = .ok (.aload_n 0, 1) := by decide +kernel
theorem dX4_isAt_8 : decode cX4_isAt 8 = .ok (.getfield 25, 3) := by decide +kernel
theorem dX4_isAt_11 : decode cX4_isAt 11 = .ok (.iaload, 1) := by decide +kernel
theorem dX4_isAt_12 : decode cX4_isAt 12 = .ok (.iload_n 1, 1) := by decide +kernel
theorem dX4_isAt_13 : decode cX4_isAt 13 = .ok (.if_icmp .ne 7, 3) := by decide +kernel
theorem dX4_isAt_16 : decode cX4_isAt 16 = .ok (.iconst 1, 1) := by decide +kernel
theorem dX4_isAt_17 : decode cX4_isAt 17 = .ok (.goto 4, 3) := by decide +kernel
theorem dX4_isAt_20 : decode cX4_isAt 20 = .ok (.iconst 0, 1) := by decide +kernel
theorem dX4_isAt_21 : decode cX4_isAt 21 = .ok (.ireturn, 1) := by decide +kernel
theorem dX4_take_0 : decode cX4_take 0 = .ok (.aload_n 0, 1) := by decide +kernel
theorem dX4_take_1 : decode cX4_take 1 = .ok (.iload_n 1, 1) := by decide +kernel
theorem dX4_take_2 : decode cX4_take 2 = .ok (.invokevirtual 43, 3) := by decide +kernel
theorem dX4_take_5 : decode cX4_take 5 = .ok (.ifCond .eq 13, 3) := by decide +kernel
theorem dX4_take_8 : decode cX4_take 8 = .ok (.aload_n 0, 1) := by decide +kernel
theorem dX4_take_9 : decode cX4_take 9 = .ok (.getfield 25, 3) := by decide +kernel
theorem dX4_take_12 : decode cX4_take 12 = .ok (.sipush 300, 3) := by decide +kernel
theorem dX4_take_15 : decode cX4_take 15 = .ok (.if_icmp .lt 5, 3) := by decide +kernel
theorem dX4_take_18 : decode cX4_take 18 = .ok (.iconst 0, 1) := by decide +kernel
theorem dX4_take_19 : decode cX4_take 19 = .ok (.ireturn, 1) := by decide +kernel
theorem dX4_take_20 : decode cX4_take 20 = .ok (.aload_n 0, 1) := by decide +kernel
theorem dX4_take_21 : decode cX4_take 21 = .ok (.dup, 1) := by decide +kernel
theorem dX4_take_22 : decode cX4_take 22 = .ok (.getfield 25, 3) := by decide +kernel
theorem dX4_take_25 : decode cX4_take 25 = .ok (.iconst 1, 1) := by decide +kernel
theorem dX4_take_26 : decode cX4_take 26 = .ok (.iadd, 1) := by decide +kernel
theorem dX4_take_27 : decode cX4_take 27 = .ok (.putfield 25, 3) := by decide +kernel
theorem dX4_take_30 : decode cX4_take 30 = .ok (.iconst 1, 1) := by decide +kernel
theorem dX4_take_31 : decode cX4_take 31 = .ok (.ireturn, 1) := by decide +kernel
theorem dX5_init_0 : decode cX5_init 0 = .ok (.aload_n 0, 1) := by decide +kernel
theorem dX5_init_1 : decode cX5_init 1 = .ok (.invokespecial 3, 3) := by decide +kernel
theorem dX5_init_4 : decode cX5_init 4 = .ok (.aload_n 0, 1) := by decide +kernel
theorem dX5_init_5 : decode cX5_init 5 = .ok (.sipush 300, 3) := by decide +kernel
theorem dX5_init_8 : decode cX5_init 8 = .ok (.newarray .byte, 2) := by decide +kernel
theorem dX5_init_10 : decode cX5_init 10 = .ok (.putfield 9, 3) := by decide +kernel
theorem dX5_init_13 : decode cX5_init 13 = .ok (.aload_n 0, 1) := by decide +kernel
theorem dX5_init_14 : decode cX5_init 14 = .ok (.iconst 0, 1) := by decide +kernel
theorem dX5_init_15 : decode cX5_init 15 = .ok (.putfield 15, 3) := by decide +kernel
theorem dX5_init_18 : decode cX5_init 18 = .ok (.return_, 1) := by decide +kernel
theorem dX5_copyFrom_0 : decode cX5_copyFrom 0 = .ok (.aload_n 1, 1) := by decide +kernel
theorem dX5_copyFrom_1 : decode cX5_copyFrom 1 = .ok (.getfield 9, 3) := by decide +kernel
theorem dX5_copyFrom_4 : decode cX5_copyFrom 4 = .ok (.iconst 0, 1) := by decide +kernel
theorem dX5_copyFrom_5 : decode cX5_copyFrom 5 = .ok (.aload_n 0, 1) := by decide +kernel
theorem dX5_copyFrom_6 : decode cX5_copyFrom 6 = .ok (.getfield 9, 3) := by decide +kernel
theorem dX5_copyFrom_9 : decode cX5_copyFrom 9 = .ok (.iconst 0, 1) := by decide +kernel
theorem dX5_copyFrom_10 : decode cX5_copyFrom 10 = .ok (.sipush 300, 3) := by decide +kernel
theorem dX5_copyFrom_13 : decode cX5_copyFrom 13 = .ok (.invokestatic 19, 3) := by decide +kernel
theorem dX5_copyFrom_16 : decode cX5_copyFrom 16 = .ok (.aload_n 0, 1) := by decide +kernel
theorem dX5_copyFrom_17 : decode cX5_copyFrom 17 = .ok (.aload_n 1, 1) := by decide +kernel
theorem dX5_copyFrom_18 : decode cX5_copyFrom 18 = .ok (.getfield 15, 3) := by decide +kernel
theorem dX5_copyFrom_21 : decode cX5_copyFrom 21 = .ok (.putfield 15, 3) := by decide +kernel
theorem dX5_copyFrom_24 : decode cX5_copyFrom 24 = .ok (.return_, 1) := by decide +kernel
theorem dX5_append_0 : decode cX5_append 0 = .ok (.bipush 24, 2) := by decide +kernel
theorem dX5_append_2 : decode cX5_append 2 = .ok (.istore_n 2, 1) := by decide +kernel
theorem dX5_append_3 : decode cX5_append 3 = .ok (.iload_n 2, 1) := by decide +kernel
theorem dX5_append_4 : decode cX5_append 4 = .ok (.ifCond .lt 42, 3) := by decide +kernel
theorem dX5_append_7 : decode cX5_append 7 = .ok (.aload_n 0, 1) := by decide +kernel
theorem dX5_append_8 : decode cX5_append 8 = .ok (.getfield 15, 3) := by decide +kernel
theorem dX5_append_11 : decode cX5_append 11 = .ok (.sipush 300, 3) := by decide +kernel
theorem dX5_append_14 : decode cX5_append 14 = .ok (.if_icmp .ge 32, 3) := by decide +kernel
theorem dX5_append_17 : decode cX5_append 17 = .ok (.aload_n 0, 1) := by decide +kernel
theorem dX5_append_18 : decode cX5_append 18 = .ok (.getfield 9, 3) := by decide +kernel
theorem dX5_append_21 : decode cX5_append 21 = .ok (.aload_n 0, 1) := by decide +kernel
theorem dX5_append_22 : decode cX5_append 22 = .ok (.getfield 15, 3) := by decide +kernel
theorem dX5_append_25 : decode cX5_append 25 = .ok (.iload_n 1, 1) := by decide +kernel
theorem dX5_append_26 : decode cX5_append 26 = .ok (.iload_n 2, 1) := by decide +kernel
theorem dX5_append_27 : decode cX5_append 27 = .ok (.ishr, 1) := by decide +kernel
theorem dX5_append_28 : decode cX5_append 28 = .ok (.i2b, 1) := by decide +kernel
theorem dX5_append_29 : decode cX5_append 29 = .ok (.bastore, 1) := by decide +kernel
theorem dX5_append_30 : decode cX5_append 30 = .ok (.aload_n 0, 1) := by decide +kernel
theorem dX5_append_31 : decode cX5_append 31 = .ok (.dup, 1) := by decide +kernel
theorem dX5_append_32 : decode cX5_append 32 = .ok (.getfield 15, 3) := by decide +kernel
theorem dX5_append_35 : decode cX5_append 35 = .ok (.iconst 1, 1) := by decide +kernel
theorem dX5_append_36 : decode cX5_append 36 = .ok (.iadd, 1) := by decide +kernel
theorem dX5_append_37 : decode cX5_append 37 = .ok (.putfield 15, 3) := by decide +kernel
theorem dX5_append_40 : decode cX5_append 40 = .ok (.iinc 2 (-8), 3) := by decide +kernel
theorem dX5_append_43 : decode cX5_append 43 = .ok (.goto (-40), 3) := by decide +kernel
theorem dX5_append_46 : decode cX5_append 46 = .ok (.return_, 1) := by decide +kernel
theorem dX6_init_0 : decode cX6_init 0 = .ok (.aload_n 0, 1) := by decide +kernel
theorem dX6_init_1 : decode cX6_init 1 = .ok (.invokespecial 3, 3) := by decide +kernel
theorem dX6_init_4 : decode cX6_init 4 = .ok (.aload_n 0, 1) := by decide +kernel
theorem dX6_init_5 : decode cX6_init 5 = .ok (.sipush 301, 3) := by decide +kernel
theorem dX6_init_8 : decode cX6_init 8 = .ok (.newarray .int, 2) := by decide +kernel
theorem dX6_init_10 : decode cX6_init 10 = .ok (.putfield 9, 3) := by decide +kernel
theorem dX6_init_13 : decode cX6_init 13 = .ok (.aload_n 0, 1) := by decide +kernel
theorem dX6_init_14 : decode cX6_init 14 = .ok (.sipush 301, 3) := by decide +kernel
theorem dX6_init_17 : decode cX6_init 17 = .ok (.newarray .int, 2) := by decide +kernel
theorem dX6_init_19 : decode cX6_init 19 = .ok (.putfield 15, 3) := by decide +kernel
theorem dX6_init_22 : decode cX6_init 22 = .ok (.aload_n 0, 1) := by decide +kernel
theorem dX6_init_23 : decode cX6_init 23 = .ok (.sipush 301, 3) := by decide +kernel
theorem dX6_init_26 : decode cX6_init 26 = .ok (.newarray .int, 2) := by decide +kernel
theorem dX6_init_28 : decode cX6_init 28 = .ok (.putfield 18, 3) := by decide +kernel
theorem dX6_init_31 : decode cX6_init 31 = .ok (.aload_n 0, 1) := by decide +kernel
theorem dX6_init_32 : decode cX6_init 32 = .ok (.iconst 0, 1) := by decide +kernel
theorem dX6_init_33 : decode cX6_init 33 = .ok (.putfield 21, 3) := by decide +kernel
theorem dX6_init_36 : decode cX6_init 36 = .ok (.aload_n 0, 1) := by decide +kernel
theorem dX6_init_37 : decode cX6_init 37 = .ok (.iconst 0, 1) := by decide +kernel
theorem dX6_init_38 : decode cX6_init 38 = .ok (.putfield 25, 3) := by decide +kernel
theorem dX6_init_41 : decode cX6_init 41 = .ok (.aload_n 0, 1) := by decide +kernel
theorem dX6_init_42 : decode cX6_init 42 = .ok (.iconst 0, 1) := by decide +kernel
theorem dX6_init_43 : decode cX6_init 43 = .ok (.putfield 28, 3) := by decide +kernel
theorem dX6_init_46 : decode cX6_init 46 = .ok (.aload_n 0, 1) := by decide +kernel
theorem dX6_init_47 : decode cX6_init 47 = .ok (.aload_n 1, 1) := by decide +kernel
theorem dX6_init_48 : decode cX6_init 48 = .ok (.putfield 31, 3) := by decide +kernel
theorem dX6_init_51 : decode cX6_init 51 = .ok (.return_, 1) := by decide +kernel
theorem dX6_scan_0 : decode cX6_scan 0 = .ok (.aload_n 0, 1) := by decide +kernel
theorem dX6_scan_1 : decode cX6_scan 1 = .ok (.iconst 0, 1) := by decide +kernel
theorem dX6_scan_2 : decode cX6_scan 2 = .ok (.putfield 25, 3) := by decide +kernel
theorem dX6_scan_5 : decode cX6_scan 5 = .ok (.iconst 2, 1) := by decide +kernel
theorem dX6_scan_6 : decode cX6_scan 6 = .ok (.istore_n 1, 1) := by decide +kernel
theorem dX6_scan_7 : decode cX6_scan 7 = .ok (.iconst 0, 1) := by decide +kernel
theorem dX6_scan_8 : decode cX6_scan 8 = .ok (.istore_n 2, 1) := by decide +kernel
theorem dX6_scan_9 : decode cX6_scan 9 = .ok (.iload_n 2, 1) := by decide +kernel
theorem dX6_scan_10 : decode cX6_scan 10 = .ok (.sipush 300, 3) := by decide +kernel
theorem dX6_scan_13 : decode cX6_scan 13 = .ok (.if_icmp .gt 55, 3) := by decide +kernel
theorem dX6_scan_16 : decode cX6_scan 16 = .ok (.iload_n 1, 1) := by decide +kernel
theorem dX6_scan_17 : decode cX6_scan 17 = .ok (.ifCond .eq 51, 3) := by decide +kernel
theorem dX6_scan_20 : decode cX6_scan 20 = .ok (.iload_n 1, 1) := by decide +kernel
theorem dX6_scan_21 : decode cX6_scan 21 = .ok (.iconst 1, 1) := by decide +kernel
theorem dX6_scan_22 : decode cX6_scan 22 = .ok (.if_icmp .eq 46, 3) := by decide +kernel
theorem dX6_scan_25 : decode cX6_scan 25 = .ok (.aload_n 0, 1) := by decide +kernel
theorem dX6_scan_26 : decode cX6_scan 26 = .ok (.iconst 0, 1) := by decide +kernel
theorem dX6_scan_27 : decode cX6_scan 27 = .ok (.putfield 28, 3) := by decide +kernel
theorem dX6_scan_30 : decode cX6_scan 30 = .ok (.aload_n 0, 1) := by decide +kernel
theorem dX6_scan_31 : decode cX6_scan 31 = .ok (.invokevirtual 35, 3) := by decide +kernel
theorem dX6_scan_34 : decode cX6_scan 34 = .ok (.istore_n 1, 1) := by decide +kernel
theorem dX6_scan_35 : decode cX6_scan 35 = .ok (.aload_n 0, 1) := by decide +kernel
theorem dX6_scan_36 : decode cX6_scan 36 = .ok (.getfield 9, 3) := by decide +kernel
theorem dX6_scan_39 : decode cX6_scan 39 = .ok (.iload_n 2, 1) := by decide +kernel
theorem dX6_scan_40 : decode cX6_scan 40 = .ok (.iload_n 1, 1) := by decide +kernel
theorem dX6_scan_41 : decode cX6_scan 41 = .ok (.iastore, 1) := by decide +kernel
theorem dX6_scan_42 : decode cX6_scan 42 = .ok (.aload_n 0, 1) := by decide +kernel
theorem dX6_scan_43 : decode cX6_scan 43 = .ok (.getfield 15, 3) := by decide +kernel
theorem dX6_scan_46 : decode cX6_scan 46 = .ok (.iload_n 2, 1) := by decide +kernel
theorem dX6_scan_47 : decode cX6_scan 47 = .ok (.aload_n 0, 1) := by decide +kernel
theorem dX6_scan_48 : decode cX6_scan 48 = .ok (.getfield 28, 3) := by decide +kernel
theorem dX6_scan_51 : decode cX6_scan 51 = .ok (.iastore, 1) := by decide +kernel
theorem dX6_scan_52 : decode cX6_scan 52 = .ok (.aload_n 0, 1) := by decide +kernel
theorem dX6_scan_53 : decode cX6_scan 53 = .ok (.getfield 18, 3) := by decide +kernel
theorem dX6_scan_56 : decode cX6_scan 56 = .ok (.iload_n 2, 1) := by decide +kernel
theorem dX6_scan_57 : decode cX6_scan 57 = .ok (.aload_n 0, 1) := by decide +kernel
theorem dX6_scan_58 : decode cX6_scan 58 = .ok (.getfield 21, 3) := by decide +kernel
theorem dX6_scan_61 : decode cX6_scan 61 = .ok (.iastore, 1) := by decide +kernel
theorem dX6_scan_62 : decode cX6_scan 62 = .ok (.iinc 2 1, 3) := by decide +kernel
theorem dX6_scan_65 : decode cX6_scan 65 = .ok (.goto (-56), 3) := by decide +kernel
theorem dX6_scan_68 : decode cX6_scan 68 = .ok (.return_, 1) := by decide +kernel
theorem dX6_scanOne_0 : decode cX6_scanOne 0 = .ok (.aload_n 0, 1) := by decide +kernel
theorem dX6_scanOne_1 : decode cX6_scanOne 1 = .ok (.getfield 25, 3) := by decide +kernel
theorem dX6_scanOne_4 : decode cX6_scanOne 4 = .ok (.aload_n 0, 1) := by decide +kernel
theorem dX6_scanOne_5 : decode cX6_scanOne 5 = .ok (.getfield 31, 3) := by decide +kernel
theorem dX6_scanOne_8 : decode cX6_scanOne 8 = .ok (.getfield 39, 3) := by decide +kernel
theorem dX6_scanOne_11 : decode cX6_scanOne 11 = .ok (.if_icmp .ge 34, 3) := by decide +kernel
theorem dX6_scanOne_14 : decode cX6_scanOne 14 = .ok (.aload_n 0, 1) := by decide +kernel
theorem dX6_scanOne_15 : decode cX6_scanOne 15 = .ok (.getfield 31, 3) := by decide +kernel
theorem dX6_scanOne_18 : decode cX6_scanOne 18 = .ok (.getfield 44, 3) := by decide +kernel
theorem dX6_scanOne_21 : decode cX6_scanOne 21 = .ok (.aload_n 0, 1) := by decide +kernel
theorem dX6_scanOne_22 : decode cX6_scanOne 22 = .ok (.getfield 25, 3) := by decide +kernel
theorem dX6_scanOne_25 : decode cX6_scanOne 25 = .ok (.baload, 1) := by decide +kernel
theorem dX6_scanOne_26 : decode cX6_scanOne 26 = .ok (.invokestatic 48, 3) := by decide +kernel
theorem dX6_scanOne_29 : decode cX6_scanOne 29 = .ok (.ifCond .eq 16, 3) := by decide +kernel
theorem dX6_scanOne_32 : decode cX6_scanOne 32 = .ok (.aload_n 0, 1) := by decide +kernel
theorem dX6_scanOne_33 : decode cX6_scanOne 33 = .ok (.dup, 1) := by decide +kernel
theorem dX6_scanOne_34 : decode cX6_scanOne 34 = .ok (.getfield 25, 3) := by decide +kernel
theorem dX6_scanOne_37 : decode cX6_scanOne 37 = .ok (.iconst 1, 1) := by decide +kernel
theorem dX6_scanOne_38 : decode cX6_scanOne 38 = .ok (.iadd, 1) := by decide +kernel
theorem dX6_scanOne_39 : decode cX6_scanOne 39 = .ok (.putfield 25, 3) := by decide +kernel
theorem dX6_scanOne_42 : decode cX6_scanOne 42 = .ok (.goto (-42), 3) := by decide +kernel
theorem dX6_scanOne_45 : decode cX6_scanOne 45 = .ok (.aload_n 0, 1) := by decide +kernel
theorem dX6_scanOne_46 : decode cX6_scanOne 46 = .ok (.aload_n 0, 1) := by decide +kernel
theorem dX6_scanOne_47 : decode cX6_scanOne 47 = .ok (.getfield 25, 3) := by decide +kernel
theorem dX6_scanOne_50 : decode cX6_scanOne 50 = .ok (.putfield 21, 3) := by decide +kernel
theorem dX6_scanOne_53 : decode cX6_scanOne 53 = .ok (.aload_n 0, 1) := by decide +kernel
theorem dX6_scanOne_54 : decode cX6_scanOne 54 = .ok (.getfield 25, 3) := by decide +kernel
theorem dX6_scanOne_57 : decode cX6_scanOne 57 = .ok (.aload_n 0, 1) := by decide +kernel
theorem dX6_scanOne_58 : decode cX6_scanOne 58 = .ok (.getfield 31, 3) := by decide +kernel
theorem dX6_scanOne_61 : decode cX6_scanOne 61 = .ok (.getfield 39, 3) := by decide +kernel
theorem dX6_scanOne_64 : decode cX6_scanOne 64 = .ok (.if_icmp .lt 5, 3) := by decide +kernel
theorem dX6_scanOne_67 : decode cX6_scanOne 67 = .ok (.iconst 0, 1) := by decide +kernel
theorem dX6_scanOne_68 : decode cX6_scanOne 68 = .ok (.ireturn, 1) := by decide +kernel
theorem dX6_scanOne_69 : decode cX6_scanOne 69 = .ok (.aload_n 0, 1) := by decide +kernel
theorem dX6_scanOne_70 : decode cX6_scanOne 70 = .ok (.getfield 31, 3) := by decide +kernel
theorem dX6_scanOne_73 : decode cX6_scanOne 73 = .ok (.getfield 44, 3) := by decide +kernel
theorem dX6_scanOne_76 : decode cX6_scanOne 76 = .ok (.aload_n 0, 1) := by decide +kernel
theorem dX6_scanOne_77 : decode cX6_scanOne 77 = .ok (.getfield 25, 3) := by decide +kernel
theorem dX6_scanOne_80 : decode cX6_scanOne 80 = .ok (.baload, 1) := by decide +kernel
theorem dX6_scanOne_81 : decode cX6_scanOne 81 = .ok (.invokestatic 52, 3) := by decide +kernel
theorem dX6_scanOne_84 : decode cX6_scanOne 84 = .ok (.ifCond .eq 8, 3) := by decide +kernel
theorem dX6_scanOne_87 : decode cX6_scanOne 87 = .ok (.aload_n 0, 1) := by decide +kernel
theorem dX6_scanOne_88 : decode cX6_scanOne 88 = .ok (.invokevirtual 55, 3) := by decide +kernel
theorem dX6_scanOne_91 : decode cX6_scanOne 91 = .ok (.ireturn, 1) := by decide +kernel
theorem dX6_scanOne_92 : decode cX6_scanOne 92 = .ok (.aload_n 0, 1) := by decide +kernel
theorem dX6_scanOne_93 : decode cX6_scanOne 93 = .ok (.getfield 31, 3) := by decide +kernel
theorem dX6_scanOne_96 : decode cX6_scanOne 96 = .ok (.getfield 44, 3) := by decide +kernel
theorem dX6_scanOne_99 : decode cX6_scanOne 99 = .ok (.aload_n 0, 1) := by decide +kernel
theorem dX6_scanOne_100 : decode cX6_scanOne 100 = .ok (.getfield 25, 3) := by decide +kernel
theorem dX6_scanOne_103 : decode cX6_scanOne 103 = .ok (.baload, 1) := by decide +kernel
theorem dX6_scanOne_104 : decode cX6_scanOne 104 = .ok (.invokestatic 58, 3) := by decide +kernel
theorem dX6_scanOne_107 : decode cX6_scanOne 107 = .ok (.ifCond .eq 10, 3) := by decide +kernel
theorem dX6_scanOne_110 : decode cX6_scanOne 110 = .ok (.aload_n 0, 1) := by decide +kernel
theorem dX6_scanOne_111 : decode cX6_scanOne 111 = .ok (.invokevirtual 61, 3) := by decide +kernel
theorem dX6_scanOne_114 : decode cX6_scanOne 114 = .ok (.goto 7, 3) := by decide +kernel
theorem dX6_scanOne_117 : decode cX6_scanOne 117 = .ok (.aload_n 0, 1) := by decide +kernel
theorem dX6_scanOne_118 : decode cX6_scanOne 118 = .ok (.invokevirtual 64, 3) := by decide +kernel
theorem dX6_scanOne_121 : decode cX6_scanOne 121 = .ok (.ireturn, 1) := by decide +kernel
theorem dX6_scanWord_0 : decode cX6_scanWord 0 = .ok (.aload_n 0, 1) := by decide +kernel
theorem dX6_scanWord_1 : decode cX6_scanWord 1 = .ok (.getfield 25, 3) := by decide +kernel
theorem dX6_scanWord_4 : decode cX6_scanWord 4 = .ok (.aload_n 0, 1) := by decide +kernel
theorem dX6_scanWord_5 : decode cX6_scanWord 5 = .ok (.getfield 31, 3) := by decide +kernel
theorem dX6_scanWord_8 : decode cX6_scanWord 8 = .ok (.getfield 39, 3) := by decide +kernel
theorem dX6_scanWord_11 : decode cX6_scanWord 11 = .ok (.if_icmp .ge 34, 3) := by decide +kernel
theorem dX6_scanWord_14 : decode cX6_scanWord 14 = .ok (.aload_n 0, 1) := by decide +kernel
theorem dX6_scanWord_15 : decode cX6_scanWord 15 = .ok (.getfield 31, 3) := by decide +kernel
theorem dX6_scanWord_18 : decode cX6_scanWord 18 = .ok (.getfield 44, 3) := by decide +kernel
theorem dX6_scanWord_21 : decode cX6_scanWord 21 = .ok (.aload_n 0, 1) := by decide +kernel
theorem dX6_scanWord_22 : decode cX6_scanWord 22 = .ok (.getfield 25, 3) := by decide +kernel
theorem dX6_scanWord_25 : decode cX6_scanWord 25 = .ok (.baload, 1) := by decide +kernel
theorem dX6_scanWord_26 : decode cX6_scanWord 26 = .ok (.invokestatic 52, 3) := by decide +kernel
theorem dX6_scanWord_29 : decode cX6_scanWord 29 = .ok (.ifCond .eq 16, 3) := by decide +kernel
theorem dX6_scanWord_32 : decode cX6_scanWord 32 = .ok (.aload_n 0, 1) := by decide +kernel
theorem dX6_scanWord_33 : decode cX6_scanWord 33 = .ok (.dup, 1) := by decide +kernel
theorem dX6_scanWord_34 : decode cX6_scanWord 34 = .ok (.getfield 25, 3) := by decide +kernel
theorem dX6_scanWord_37 : decode cX6_scanWord 37 = .ok (.iconst 1, 1) := by decide +kernel
theorem dX6_scanWord_38 : decode cX6_scanWord 38 = .ok (.iadd, 1) := by decide +kernel
theorem dX6_scanWord_39 : decode cX6_scanWord 39 = .ok (.putfield 25, 3) := by decide +kernel
theorem dX6_scanWord_42 : decode cX6_scanWord 42 = .ok (.goto (-42), 3) := by decide +kernel
theorem dX6_scanWord_45 : decode cX6_scanWord 45 = .ok (.aload_n 0, 1) := by decide +kernel
theorem dX6_scanWord_46 : decode cX6_scanWord 46 = .ok (.ldc 67, 2) := by decide +kernel
theorem dX6_scanWord_48 : decode cX6_scanWord 48 = .ok (.invokevirtual 69, 3) := by decide +kernel
theorem dX6_scanWord_51 : decode cX6_scanWord 51 = .ok (.ifCond .eq 6, 3) := by decide +kernel
theorem dX6_scanWord_54 : decode cX6_scanWord 54 = .ok (.bipush 7, 2) := by decide +kernel
theorem dX6_scanWord_56 : decode cX6_scanWord 56 = .ok (.ireturn, 1) := by decide +kernel
theorem dX6_scanWord_57 : decode cX6_scanWord 57 = .ok (.aload_n 0, 1) := by decide +kernel
theorem dX6_scanWord_58 : decode cX6_scanWord 58 = .ok (.ldc 73, 2) := by decide +kernel
theorem dX6_scanWord_60 : decode cX6_scanWord 60 = .ok (.invokevirtual 69, 3) := by decide +kernel
theorem dX6_scanWord_63 : decode cX6_scanWord 63 = .ok (.ifCond .eq 6, 3) := by decide +kernel
theorem dX6_scanWord_66 : decode cX6_scanWord 66 = .ok (.bipush 8, 2) := by decide +kernel
theorem dX6_scanWord_68 : decode cX6_scanWord 68 = .ok (.ireturn, 1) := by decide +kernel
theorem dX6_scanWord_69 : decode cX6_scanWord 69 = .ok (.aload_n 0, 1) := by decide +kernel
theorem dX6_scanWord_70 : decode cX6_scanWord 70 = .ok (.ldc 75, 2) := by decide +kernel
theorem dX6_scanWord_72 : decode cX6_scanWord 72 = .ok (.invokevirtual 69, 3) := by decide +kernel
theorem dX6_scanWord_75 : decode cX6_scanWord 75 = .ok (.ifCond .eq 6, 3) := by decide +kernel
theorem dX6_scanWord_78 : decode cX6_scanWord 78 = .ok (.bipush 9, 2) := by decide +kernel
theorem dX6_scanWord_80 : decode cX6_scanWord 80 = .ok (.ireturn, 1) := by decide +kernel
theorem dX6_scanWord_81 : decode cX6_scanWord 81 = .ok (.aload_n 0, 1) := by decide +kernel
theorem dX6_scanWord_82 : decode cX6_scanWord 82 = .ok (.ldc 77, 2) := by decide +kernel
theorem dX6_scanWord_84 : decode cX6_scanWord 84 = .ok (.invokevirtual 69, 3) := by decide +kernel
theorem dX6_scanWord_87 : decode cX6_scanWord 87 = .ok (.ifCond .eq 6, 3) := by decide +kernel
theorem dX6_scanWord_90 : decode cX6_scanWord 90 = .ok (.bipush 10, 2) := by decide +kernel
theorem dX6_scanWord_92 : decode cX6_scanWord 92 = .ok (.ireturn, 1) := by decide +kernel
theorem dX6_scanWord_93 : decode cX6_scanWord 93 = .ok (.aload_n 0, 1) := by decide +kernel
theorem dX6_scanWord_94 : decode cX6_scanWord 94 = .ok (.ldc 79, 2) := by decide +kernel
theorem dX6_scanWord_96 : decode cX6_scanWord 96 = .ok (.invokevirtual 69, 3) := by decide +kernel
theorem dX6_scanWord_99 : decode cX6_scanWord 99 = .ok (.ifCond .eq 6, 3) := by decide +kernel
theorem dX6_scanWord_102 : decode cX6_scanWord 102 = .ok (.bipush 11, 2) := by decide +kernel
theorem dX6_scanWord_104 : decode cX6_scanWord 104 = .ok (.ireturn, 1) := by decide +kernel
theorem dX6_scanWord_105 : decode cX6_scanWord 105 = .ok (.aload_n 0, 1) := by decide +kernel
theorem dX6_scanWord_106 : decode cX6_scanWord 106 = .ok (.aload_n 0, 1) := by decide +kernel
theorem dX6_scanWord_107 : decode cX6_scanWord 107 = .ok (.invokevirtual 81, 3) := by decide +kernel
theorem dX6_scanWord_110 : decode cX6_scanWord 110 = .ok (.putfield 28, 3) := by decide +kernel
theorem dX6_scanWord_113 : decode cX6_scanWord 113 = .ok (.aload_n 0, 1) := by decide +kernel
theorem dX6_scanWord_114 : decode cX6_scanWord 114 = .ok (.getfield 28, 3) := by decide +kernel
theorem dX6_scanWord_117 : decode cX6_scanWord 117 = .ok (.iconst (-1), 1) := by decide +kernel
theorem dX6_scanWord_118 : decode cX6_scanWord 118 = .ok (.if_icmp .ne 7, 3) := by decide +kernel
theorem dX6_scanWord_121 : decode cX6_scanWord 121 = .ok (.iconst 1, 1) := by decide +kernel
theorem dX6_scanWord_122 : decode cX6_scanWord 122 = .ok (.goto 4, 3) := by decide +kernel
theorem dX6_scanWord_125 : decode cX6_scanWord 125 = .ok (.iconst 3, 1) := by decide +kernel
theorem dX6_scanWord_126 : decode cX6_scanWord 126 = .ok (.ireturn, 1) := by decide +kernel
theorem dX6_subjectOfWord_0 : decode cX6_subjectOfWord 0 = .ok (.aload_n 0, 1) := by decide +kernel
theorem dX6_subjectOfWord_1 : decode cX6_subjectOfWord 1 = .ok (.ldc 84, 2) := by decide +kernel
theorem dX6_subjectOfWord_3 : decode cX6_subjectOfWord 3 = .ok (.invokevirtual 69, 3) := by decide +kernel
