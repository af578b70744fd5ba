theorem dX9_dry_67 : decode cX9_dry 67 = .ok (.ireturn, 1) := by decide +kernel
theorem dX9_greatestHeat_0 : decode cX9_greatestHeat 0 = .ok (.aload_n 0, 1) := by decide +kernel
theorem dX9_greatestHeat_1 : decode cX9_greatestHeat 1 = .ok (.getfield 7, 3) := by decide +kernel
theorem dX9_greatestHeat_4 : decode cX9_greatestHeat 4 = .ok (.bipush 10, 2) := by decide +kernel
theorem dX9_greatestHeat_6 : decode cX9_greatestHeat 6 = .ok (.iaload, 1) := by decide +kernel
theorem dX9_greatestHeat_7 : decode cX9_greatestHeat 7 = .ok (.istore_n 1, 1) := by decide +kernel
theorem dX9_greatestHeat_8 : decode cX9_greatestHeat 8 = .ok (.iconst 1, 1) := by decide +kernel
theorem dX9_greatestHeat_9 : decode cX9_greatestHeat 9 = .ok (.istore_n 2, 1) := by decide +kernel
theorem dX9_greatestHeat_10 : decode cX9_greatestHeat 10 = .ok (.iload_n 2, 1) := by decide +kernel
theorem dX9_greatestHeat_11 : decode cX9_greatestHeat 11 = .ok (.aload_n 0, 1) := by decide +kernel
theorem dX9_greatestHeat_12 : decode cX9_greatestHeat 12 = .ok (.getfield 7, 3) := by decide +kernel
theorem dX9_greatestHeat_15 : decode cX9_greatestHeat 15 = .ok (.iconst 2, 1) := by decide +kernel
theorem dX9_greatestHeat_16 : decode cX9_greatestHeat 16 = .ok (.iaload, 1) := by decide +kernel
theorem dX9_greatestHeat_17 : decode cX9_greatestHeat 17 = .ok (.if_icmp .ge 32, 3) := by decide +kernel
theorem dX9_greatestHeat_20 : decode cX9_greatestHeat 20 = .ok (.aload_n 0, 1) := by decide +kernel
theorem dX9_greatestHeat_21 : decode cX9_greatestHeat 21 = .ok (.getfield 7, 3) := by decide +kernel
theorem dX9_greatestHeat_24 : decode cX9_greatestHeat 24 = .ok (.bipush 10, 2) := by decide +kernel
theorem dX9_greatestHeat_26 : decode cX9_greatestHeat 26 = .ok (.iload_n 2, 1) := by decide +kernel
theorem dX9_greatestHeat_27 : decode cX9_greatestHeat 27 = .ok (.iadd, 1) := by decide +kernel
theorem dX9_greatestHeat_28 : decode cX9_greatestHeat 28 = .ok (.iaload, 1) := by decide +kernel
theorem dX9_greatestHeat_29 : decode cX9_greatestHeat 29 = .ok (.iload_n 1, 1) := by decide +kernel
theorem dX9_greatestHeat_30 : decode cX9_greatestHeat 30 = .ok (.if_icmp .le 13, 3) := by decide +kernel
theorem dX9_greatestHeat_33 : decode cX9_greatestHeat 33 = .ok (.aload_n 0, 1) := by decide +kernel
theorem dX9_greatestHeat_34 : decode cX9_greatestHeat 34 = .ok (.getfield 7, 3) := by decide +kernel
theorem dX9_greatestHeat_37 : decode cX9_greatestHeat 37 = .ok (.bipush 10, 2) := by decide +kernel
theorem dX9_greatestHeat_39 : decode cX9_greatestHeat 39 = .ok (.iload_n 2, 1) := by decide +kernel
theorem dX9_greatestHeat_40 : decode cX9_greatestHeat 40 = .ok (.iadd, 1) := by decide +kernel
theorem dX9_greatestHeat_41 : decode cX9_greatestHeat 41 = .ok (.iaload, 1) := by decide +kernel
theorem dX9_greatestHeat_42 : decode cX9_greatestHeat 42 = .ok (.istore_n 1, 1) := by decide +kernel
theorem dX9_greatestHeat_43 : decode cX9_greatestHeat 43 = .ok (.iinc 2 1, 3) := by decide +kernel
theorem dX9_greatestHeat_46 : decode cX9_greatestHeat 46 = .ok (.goto (-36), 3) := by decide +kernel
theorem dX9_greatestHeat_49 : decode cX9_greatestHeat 49 = .ok (.iload_n 1, 1) := by decide +kernel
theorem dX9_greatestHeat_50 : decode cX9_greatestHeat 50 = .ok (.ireturn, 1) := by decide +kernel
theorem dX9_at0_0 : decode cX9_at0 0 = .ok (.iconst 0, 1) := by decide +kernel
theorem dX9_at0_1 : decode cX9_at0 1 = .ok (.istore_n 2, 1) := by decide +kernel
theorem dX9_at0_2 : decode cX9_at0 2 = .ok (.iload_n 2, 1) := by decide +kernel
theorem dX9_at0_3 : decode cX9_at0 3 = .ok (.aload_n 0, 1) := by decide +kernel
theorem dX9_at0_4 : decode cX9_at0 4 = .ok (.getfield 7, 3) := by decide +kernel
theorem dX9_at0_7 : decode cX9_at0 7 = .ok (.iconst 1, 1) := by decide +kernel
theorem dX9_at0_8 : decode cX9_at0 8 = .ok (.iaload, 1) := by decide +kernel
theorem dX9_at0_9 : decode cX9_at0 9 = .ok (.if_icmp .ge 21, 3) := by decide +kernel
theorem dX9_at0_12 : decode cX9_at0 12 = .ok (.aload_n 0, 1) := by decide +kernel
theorem dX9_at0_13 : decode cX9_at0 13 = .ok (.iload_n 2, 1) := by decide +kernel
theorem dX9_at0_14 : decode cX9_at0 14 = .ok (.iconst 4, 1) := by decide +kernel
theorem dX9_at0_15 : decode cX9_at0 15 = .ok (.invokevirtual 130, 3) := by decide +kernel
theorem dX9_at0_18 : decode cX9_at0 18 = .ok (.iload_n 1, 1) := by decide +kernel
theorem dX9_at0_19 : decode cX9_at0 19 = .ok (.if_icmp .ne 5, 3) := by decide +kernel
theorem dX9_at0_22 : decode cX9_at0 22 = .ok (.iload_n 2, 1) := by decide +kernel
theorem dX9_at0_23 : decode cX9_at0 23 = .ok (.ireturn, 1) := by decide +kernel
theorem dX9_at0_24 : decode cX9_at0 24 = .ok (.iinc 2 1, 3) := by decide +kernel
theorem dX9_at0_27 : decode cX9_at0 27 = .ok (.goto (-25), 3) := by decide +kernel
theorem dX9_at0_30 : decode cX9_at0 30 = .ok (.iconst (-1), 1) := by decide +kernel
theorem dX9_at0_31 : decode cX9_at0 31 = .ok (.ireturn, 1) := by decide +kernel
theorem dX9_bestPlace_0 : decode cX9_bestPlace 0 = .ok (.iconst (-1), 1) := by decide +kernel
theorem dX9_bestPlace_1 : decode cX9_bestPlace 1 = .ok (.istore_n 1, 1) := by decide +kernel
theorem dX9_bestPlace_2 : decode cX9_bestPlace 2 = .ok (.iconst 0, 1) := by decide +kernel
theorem dX9_bestPlace_3 : decode cX9_bestPlace 3 = .ok (.istore_n 2, 1) := by decide +kernel
theorem dX9_bestPlace_4 : decode cX9_bestPlace 4 = .ok (.iload_n 2, 1) := by decide +kernel
theorem dX9_bestPlace_5 : decode cX9_bestPlace 5 = .ok (.iconst 4, 1) := by decide +kernel
theorem dX9_bestPlace_6 : decode cX9_bestPlace 6 = .ok (.aload_n 0, 1) := by decide +kernel
theorem dX9_bestPlace_7 : decode cX9_bestPlace 7 = .ok (.getfield 7, 3) := by decide +kernel
theorem dX9_bestPlace_10 : decode cX9_bestPlace 10 = .ok (.iconst 2, 1) := by decide +kernel
theorem dX9_bestPlace_11 : decode cX9_bestPlace 11 = .ok (.iaload, 1) := by decide +kernel
theorem dX9_bestPlace_12 : decode cX9_bestPlace 12 = .ok (.imul, 1) := by decide +kernel
theorem dX9_bestPlace_13 : decode cX9_bestPlace 13 = .ok (.if_icmp .ge 44, 3) := by decide +kernel
theorem dX9_bestPlace_16 : decode cX9_bestPlace 16 = .ok (.aload_n 0, 1) := by decide +kernel
theorem dX9_bestPlace_17 : decode cX9_bestPlace 17 = .ok (.iload_n 2, 1) := by decide +kernel
theorem dX9_bestPlace_18 : decode cX9_bestPlace 18 = .ok (.invokevirtual 151, 3) := by decide +kernel
theorem dX9_bestPlace_21 : decode cX9_bestPlace 21 = .ok (.ifCond .ge 30, 3) := by decide +kernel
theorem dX9_bestPlace_24 : decode cX9_bestPlace 24 = .ok (.iload_n 1, 1) := by decide +kernel
theorem dX9_bestPlace_25 : decode cX9_bestPlace 25 = .ok (.ifCond .lt 24, 3) := by decide +kernel
theorem dX9_bestPlace_28 : decode cX9_bestPlace 28 = .ok (.aload_n 0, 1) := by decide +kernel
theorem dX9_bestPlace_29 : decode cX9_bestPlace 29 = .ok (.getfield 7, 3) := by decide +kernel
theorem dX9_bestPlace_32 : decode cX9_bestPlace 32 = .ok (.bipush 16, 2) := by decide +kernel
theorem dX9_bestPlace_34 : decode cX9_bestPlace 34 = .ok (.iload_n 2, 1) := by decide +kernel
theorem dX9_bestPlace_35 : decode cX9_bestPlace 35 = .ok (.iadd, 1) := by decide +kernel
theorem dX9_bestPlace_36 : decode cX9_bestPlace 36 = .ok (.iaload, 1) := by decide +kernel
theorem dX9_bestPlace_37 : decode cX9_bestPlace 37 = .ok (.aload_n 0, 1) := by decide +kernel
theorem dX9_bestPlace_38 : decode cX9_bestPlace 38 = .ok (.getfield 7, 3) := by decide +kernel
theorem dX9_bestPlace_41 : decode cX9_bestPlace 41 = .ok (.bipush 16, 2) := by decide +kernel
theorem dX9_bestPlace_43 : decode cX9_bestPlace 43 = .ok (.iload_n 1, 1) := by decide +kernel
theorem dX9_bestPlace_44 : decode cX9_bestPlace 44 = .ok (.iadd, 1) := by decide +kernel
theorem dX9_bestPlace_45 : decode cX9_bestPlace 45 = .ok (.iaload, 1) := by decide +kernel
theorem dX9_bestPlace_46 : decode cX9_bestPlace 46 = .ok (.if_icmp .le 5, 3) := by decide +kernel
theorem dX9_bestPlace_49 : decode cX9_bestPlace 49 = .ok (.iload_n 2, 1) := by decide +kernel
theorem dX9_bestPlace_50 : decode cX9_bestPlace 50 = .ok (.istore_n 1, 1) := by decide +kernel
theorem dX9_bestPlace_51 : decode cX9_bestPlace 51 = .ok (.iinc 2 1, 3) := by decide +kernel
theorem dX9_bestPlace_54 : decode cX9_bestPlace 54 = .ok (.goto (-50), 3) := by decide +kernel
theorem dX9_bestPlace_57 : decode cX9_bestPlace 57 = .ok (.iload_n 1, 1) := by decide +kernel
theorem dX9_bestPlace_58 : decode cX9_bestPlace 58 = .ok (.ireturn, 1) := by decide +kernel
theorem dX9_waiting_0 : decode cX9_waiting 0 = .ok (.iconst 0, 1) := by decide +kernel
theorem dX9_waiting_1 : decode cX9_waiting 1 = .ok (.istore_n 2, 1) := by decide +kernel
theorem dX9_waiting_2 : decode cX9_waiting 2 = .ok (.iload_n 2, 1) := by decide +kernel
theorem dX9_waiting_3 : decode cX9_waiting 3 = .ok (.aload_n 0, 1) := by decide +kernel
theorem dX9_waiting_4 : decode cX9_waiting 4 = .ok (.getfield 7, 3) := by decide +kernel
theorem dX9_waiting_7 : decode cX9_waiting 7 = .ok (.iconst 1, 1) := by decide +kernel
theorem dX9_waiting_8 : decode cX9_waiting 8 = .ok (.iaload, 1) := by decide +kernel
theorem dX9_waiting_9 : decode cX9_waiting 9 = .ok (.if_icmp .ge 29, 3) := by decide +kernel
theorem dX9_waiting_12 : decode cX9_waiting 12 = .ok (.aload_n 0, 1) := by decide +kernel
theorem dX9_waiting_13 : decode cX9_waiting 13 = .ok (.iload_n 2, 1) := by decide +kernel
theorem dX9_waiting_14 : decode cX9_waiting 14 = .ok (.invokevirtual 134, 3) := by decide +kernel
theorem dX9_waiting_17 : decode cX9_waiting 17 = .ok (.ifCond .ne 15, 3) := by decide +kernel
theorem dX9_waiting_20 : decode cX9_waiting 20 = .ok (.aload_n 0, 1) := by decide +kernel
theorem dX9_waiting_21 : decode cX9_waiting 21 = .ok (.iload_n 2, 1) := by decide +kernel
theorem dX9_waiting_22 : decode cX9_waiting 22 = .ok (.iconst 0, 1) := by decide +kernel
theorem dX9_waiting_23 : decode cX9_waiting 23 = .ok (.invokevirtual 130, 3) := by decide +kernel
theorem dX9_waiting_26 : decode cX9_waiting 26 = .ok (.iload_n 1, 1) := by decide +kernel
theorem dX9_waiting_27 : decode cX9_waiting 27 = .ok (.if_icmp .ne 5, 3) := by decide +kernel
theorem dX9_waiting_30 : decode cX9_waiting 30 = .ok (.iload_n 2, 1) := by decide +kernel
theorem dX9_waiting_31 : decode cX9_waiting 31 = .ok (.ireturn, 1) := by decide +kernel
theorem dX9_waiting_32 : decode cX9_waiting 32 = .ok (.iinc 2 1, 3) := by decide +kernel
theorem dX9_waiting_35 : decode cX9_waiting 35 = .ok (.goto (-33), 3) := by decide +kernel
theorem dX9_waiting_38 : decode cX9_waiting 38 = .ok (.iconst (-1), 1) := by decide +kernel
theorem dX9_waiting_39 : decode cX9_waiting 39 = .ok (.ireturn, 1) := by decide +kernel
theorem dX9_nextHouse_0 : decode cX9_nextHouse 0 = .ok (.iconst (-1), 1) := by decide +kernel
theorem dX9_nextHouse_1 : decode cX9_nextHouse 1 = .ok (.istore_n 1, 1) := by decide +kernel
theorem dX9_nextHouse_2 : decode cX9_nextHouse 2 = .ok (.iconst 0, 1) := by decide +kernel
theorem dX9_nextHouse_3 : decode cX9_nextHouse 3 = .ok (.istore_n 2, 1) := by decide +kernel
theorem dX9_nextHouse_4 : decode cX9_nextHouse 4 = .ok (.iload_n 2, 1) := by decide +kernel
theorem dX9_nextHouse_5 : decode cX9_nextHouse 5 = .ok (.aload_n 0, 1) := by decide +kernel
theorem dX9_nextHouse_6 : decode cX9_nextHouse 6 = .ok (.getfield 7, 3) := by decide +kernel
theorem dX9_nextHouse_9 : decode cX9_nextHouse 9 = .ok (.iconst 0, 1) := by decide +kernel
theorem dX9_nextHouse_10 : decode cX9_nextHouse 10 = .ok (.iaload, 1) := by decide +kernel
theorem dX9_nextHouse_11 : decode cX9_nextHouse 11 = .ok (.if_icmp .ge 38, 3) := by decide +kernel
theorem dX9_nextHouse_14 : decode cX9_nextHouse 14 = .ok (.aload_n 0, 1) := by decide +kernel
theorem dX9_nextHouse_15 : decode cX9_nextHouse 15 = .ok (.iload_n 2, 1) := by decide +kernel
theorem dX9_nextHouse_16 : decode cX9_nextHouse 16 = .ok (.invokevirtual 154, 3) := by decide +kernel
theorem dX9_nextHouse_19 : decode cX9_nextHouse 19 = .ok (.ifCond .lt 24, 3) := by decide +kernel
theorem dX9_nextHouse_22 : decode cX9_nextHouse 22 = .ok (.iload_n 1, 1) := by decide +kernel
theorem dX9_nextHouse_23 : decode cX9_nextHouse 23 = .ok (.ifCond .lt 18, 3) := by decide +kernel
theorem dX9_nextHouse_26 : decode cX9_nextHouse 26 = .ok (.aload_n 0, 1) := by decide +kernel
theorem dX9_nextHouse_27 : decode cX9_nextHouse 27 = .ok (.iload_n 2, 1) := by decide +kernel
theorem dX9_nextHouse_28 : decode cX9_nextHouse 28 = .ok (.iconst 1, 1) := by decide +kernel
theorem dX9_nextHouse_29 : decode cX9_nextHouse 29 = .ok (.invokevirtual 157, 3) := by decide +kernel
theorem dX9_nextHouse_32 : decode cX9_nextHouse 32 = .ok (.aload_n 0, 1) := by decide +kernel
theorem dX9_nextHouse_33 : decode cX9_nextHouse 33 = .ok (.iload_n 1, 1) := by decide +kernel
theorem dX9_nextHouse_34 : decode cX9_nextHouse 34 = .ok (.iconst 1, 1) := by decide +kernel
theorem dX9_nextHouse_35 : decode cX9_nextHouse 35 = .ok (.invokevirtual 157, 3) := by decide +kernel
theorem dX9_nextHouse_38 : decode cX9_nextHouse 38 = .ok (.if_icmp .ge 5, 3) := by decide +kernel
theorem dX9_nextHouse_41 : decode cX9_nextHouse 41 = .ok (.iload_n 2, 1) := by decide +kernel
theorem dX9_nextHouse_42 : decode cX9_nextHouse 42 = .ok (.istore_n 1, 1) := by decide +kernel
theorem dX9_nextHouse_43 : decode cX9_nextHouse 43 = .ok (.iinc 2 1, 3) := by decide +kernel
theorem dX9_nextHouse_46 : decode cX9_nextHouse 46 = .ok (.goto (-42), 3) := by decide +kernel
theorem dX9_nextHouse_49 : decode cX9_nextHouse 49 = .ok (.iload_n 1, 1) := by decide +kernel
theorem dX9_nextHouse_50 : decode cX9_nextHouse 50 = .ok (.ireturn, 1) := by decide +kernel
theorem dX9_deal_0 : decode cX9_deal 0 = .ok (.aload_n 0, 1) := by decide +kernel
theorem dX9_deal_1 : decode cX9_deal 1 = .ok (.invokevirtual 160, 3) := by decide +kernel
theorem dX9_deal_4 : decode cX9_deal 4 = .ok (.bipush 50, 2) := by decide +kernel
theorem dX9_deal_6 : decode cX9_deal 6 = .ok (.if_icmp .le 5, 3) := by decide +kernel
theorem dX9_deal_9 : decode cX9_deal 9 = .ok (.iconst (-1), 1) := by decide +kernel
theorem dX9_deal_10 : decode cX9_deal 10 = .ok (.ireturn, 1) := by decide +kernel
theorem dX9_deal_11 : decode cX9_deal 11 = .ok (.iconst 0, 1) := by decide +kernel
theorem dX9_deal_12 : decode cX9_deal 12 = .ok (.istore_n 1, 1) := by decide +kernel
theorem dX9_deal_13 : decode cX9_deal 13 = .ok (.aload_n 0, 1) := by decide +kernel
theorem dX9_deal_14 : decode cX9_deal 14 = .ok (.invokevirtual 163, 3) := by decide +kernel
theorem dX9_deal_17 : decode cX9_deal 17 = .ok (.istore_n 2, 1) := by decide +kernel
theorem dX9_deal_18 : decode cX9_deal 18 = .ok (.aload_n 0, 1) := by decide +kernel
theorem dX9_deal_19 : decode cX9_deal 19 = .ok (.invokevirtual 166, 3) := by decide +kernel
theorem dX9_deal_22 : decode cX9_deal 22 = .ok (.istore_n 3, 1) := by decide +kernel
theorem dX9_deal_23 : decode cX9_deal 23 = .ok (.iload_n 2, 1) := by decide +kernel
theorem dX9_deal_24 : decode cX9_deal 24 = .ok (.ifCond .lt 49, 3) := by decide +kernel
theorem dX9_deal_27 : decode cX9_deal 27 = .ok (.iload_n 3, 1) := by decide +kernel
theorem dX9_deal_28 : decode cX9_deal 28 = .ok (.ifCond .lt 45, 3) := by decide +kernel
theorem dX9_deal_31 : decode cX9_deal 31 = .ok (.aload_n 0, 1) := by decide +kernel
theorem dX9_deal_32 : decode cX9_deal 32 = .ok (.aload_n 0, 1) := by decide +kernel
theorem dX9_deal_33 : decode cX9_deal 33 = .ok (.iload_n 2, 1) := by decide +kernel
theorem dX9_deal_34 : decode cX9_deal 34 = .ok (.invokevirtual 154, 3) := by decide +kernel
theorem dX9_deal_37 : decode cX9_deal 37 = .ok (.iconst 4, 1) := by decide +kernel
theorem dX9_deal_38 : decode cX9_deal 38 = .ok (.iload_n 3, 1) := by decide +kernel
theorem dX9_deal_39 : decode cX9_deal 39 = .ok (.invokevirtual 147, 3) := by decide +kernel
theorem dX9_deal_42 : decode cX9_deal 42 = .ok (.aload_n 0, 1) := by decide +kernel
theorem dX9_deal_43 : decode cX9_deal 43 = .ok (.iload_n 2, 1) := by decide +kernel
theorem dX9_deal_44 : decode cX9_deal 44 = .ok (.iconst 1, 1) := by decide +kernel
theorem dX9_deal_45 : decode cX9_deal 45 = .ok (.aload_n 0, 1) := by decide +kernel
theorem dX9_deal_46 : decode cX9_deal 46 = .ok (.getfield 7, 3) := by decide +kernel
theorem dX9_deal_49 : decode cX9_deal 49 = .ok (.bipush 16, 2) := by decide +kernel
theorem dX9_deal_51 : decode cX9_deal 51 = .ok (.iload_n 3, 1) := by decide +kernel
theorem dX9_deal_52 : decode cX9_deal 52 = .ok (.iadd, 1) := by decide +kernel
theorem dX9_deal_53 : decode cX9_deal 53 = .ok (.iaload, 1) := by decide +kernel
theorem dX9_deal_54 : decode cX9_deal 54 = .ok (.invokevirtual 169, 3) := by decide +kernel
theorem dX9_deal_57 : decode cX9_deal 57 = .ok (.iinc 1 1, 3) := by decide +kernel
theorem dX9_deal_60 : decode cX9_deal 60 = .ok (.aload_n 0, 1) := by decide +kernel
theorem dX9_deal_61 : decode cX9_deal 61 = .ok (.invokevirtual 163, 3) := by decide +kernel
theorem dX9_deal_64 : decode cX9_deal 64 = .ok (.istore_n 2, 1) := by decide +kernel
theorem dX9_deal_65 : decode cX9_deal 65 = .ok (.aload_n 0, 1) := by decide +kernel
theorem dX9_deal_66 : decode cX9_deal 66 = .ok (.invokevirtual 166, 3) := by decide +kernel
theorem dX9_deal_69 : decode cX9_deal 69 = .ok (.istore_n 3, 1) := by decide +kernel
theorem dX9_deal_70 : decode cX9_deal 70 = .ok (.goto (-47), 3) := by decide +kernel
theorem dX9_deal_73 : decode cX9_deal 73 = .ok (.iload_n 1, 1) := by decide +kernel
theorem dX9_deal_74 : decode cX9_deal 74 = .ok (.ireturn, 1) := by decide +kernel
theorem dX9_spread_0 : decode cX9_spread 0 = .ok (.iconst (-1), 1) := by decide +kernel
theorem dX9_spread_1 : decode cX9_spread 1 = .ok (.istore_n 1, 1) := by decide +kernel
theorem dX9_spread_2 : decode cX9_spread 2 = .ok (.iconst 0, 1) := by decide +kernel
theorem dX9_spread_3 : decode cX9_spread 3 = .ok (.istore_n 2, 1) := by decide +kernel
theorem dX9_spread_4 : decode cX9_spread 4 = .ok (.iconst 0, 1) := by decide +kernel
theorem dX9_spread_5 : decode cX9_spread 5 = .ok (.istore_n 3, 1) := by decide +kernel
theorem dX9_spread_6 : decode cX9_spread 6 = .ok (.iload_n 3, 1) := by decide +kernel
theorem dX9_spread_7 : decode cX9_spread 7 = .ok (.aload_n 0, 1) := by decide +kernel
theorem dX9_spread_8 : decode cX9_spread 8 = .ok (.getfield 7, 3) := by decide +kernel
theorem dX9_spread_11 : decode cX9_spread 11 = .ok (.iconst 0, 1) := by decide +kernel
theorem dX9_spread_12 : decode cX9_spread 12 = .ok (.iaload, 1) := by decide +kernel
theorem dX9_spread_13 : decode cX9_spread 13 = .ok (.if_icmp .ge 51, 3) := by decide +kernel
theorem dX9_spread_16 : decode cX9_spread 16 = .ok (.aload_n 0, 1) := by decide +kernel
theorem dX9_spread_17 : decode cX9_spread 17 = .ok (.iload_n 3, 1) := by decide +kernel
theorem dX9_spread_18 : decode cX9_spread 18 = .ok (.iconst 2, 1) := by decide +kernel
theorem dX9_spread_19 : decode cX9_spread 19 = .ok (.invokevirtual 157, 3) := by decide +kernel
theorem dX9_spread_22 : decode cX9_spread 22 = .ok (.ifCond .ne 6, 3) := by decide +kernel
theorem dX9_spread_25 : decode cX9_spread 25 = .ok (.goto 33, 3) := by decide +kernel
theorem dX9_spread_28 : decode cX9_spread 28 = .ok (.aload_n 0, 1) := by decide +kernel
theorem dX9_spread_29 : decode cX9_spread 29 = .ok (.iload_n 3, 1) := by decide +kernel
theorem dX9_spread_30 : decode cX9_spread 30 = .ok (.iconst 1, 1) := by decide +kernel
theorem dX9_spread_31 : decode cX9_spread 31 = .ok (.invokevirtual 157, 3) := by decide +kernel
theorem dX9_spread_34 : decode cX9_spread 34 = .ok (.istore 4, 2) := by decide +kernel
theorem dX9_spread_36 : decode cX9_spread 36 = .ok (.iload_n 1, 1) := by decide +kernel
theorem dX9_spread_37 : decode cX9_spread 37 = .ok (.ifCond .lt 9, 3) := by decide +kernel
theorem dX9_spread_40 : decode cX9_spread 40 = .ok (.iload 4, 2) := by decide +kernel
theorem dX9_spread_42 : decode cX9_spread 42 = .ok (.iload_n 1, 1) := by decide +kernel
theorem dX9_spread_43 : decode cX9_spread 43 = .ok (.if_icmp .ge 6, 3) := by decide +kernel
theorem dX9_spread_46 : decode cX9_spread 46 = .ok (.iload 4, 2) := by decide +kernel
theorem dX9_spread_48 : decode cX9_spread 48 = .ok (.istore_n 1, 1) := by decide +kernel
theorem dX9_spread_49 : decode cX9_spread 49 = .ok (.iload 4, 2) := by decide +kernel
theorem dX9_spread_51 : decode cX9_spread 51 = .ok (.iload_n 2, 1) := by decide +kernel
theorem dX9_spread_52 : decode cX9_spread 52 = .ok (.if_icmp .le 6, 3) := by decide +kernel
theorem dX9_spread_55 : decode cX9_spread 55 = .ok (.iload 4, 2) := by decide +kernel
theorem dX9_spread_57 : decode cX9_spread 57 = .ok (.istore_n 2, 1) := by decide +kernel
theorem dX9_spread_58 : decode cX9_spread 58 = .ok (.iinc 3 1, 3) := by decide +kernel
theorem dX9_spread_61 : decode cX9_spread 61 = .ok (.goto (-55), 3) := by decide +kernel
theorem dX9_spread_64 : decode cX9_spread 64 = .ok (.iload_n 1, 1) := by decide +kernel
theorem dX9_spread_65 : decode cX9_spread 65 = .ok (.ifCond .ge 7, 3) := by decide +kernel
theorem dX9_spread_68 : decode cX9_spread 68 = .ok (.iconst 0, 1) := by decide +kernel
theorem dX9_spread_69 : decode cX9_spread 69 = .ok (.goto 6, 3) := by decide +kernel
theorem dX9_spread_72 : decode cX9_spread 72 = .ok (.iload_n 2, 1) := by decide +kernel
theorem dX9_spread_73 : decode cX9_spread 73 = .ok (.iload_n 1, 1) := by decide +kernel
theorem dX9_spread_74 : decode cX9_spread 74 = .ok (.isub, 1) := by decide +kernel
theorem dX9_spread_75 : decode cX9_spread 75 = .ok (.ireturn, 1) := by decide +kernel
theorem dX9_hour_0 : decode cX9_hour 0 = .ok (.aload_n 0, 1) := by decide +kernel
theorem dX9_hour_1 : decode cX9_hour 1 = .ok (.getfield 7, 3) := by decide +kernel
theorem dX9_hour_4 : decode cX9_hour 4 = .ok (.iconst 2, 1) := by decide +kernel
theorem dX9_hour_5 : decode cX9_hour 5 = .ok (.iaload, 1) := by decide +kernel
theorem dX9_hour_6 : decode cX9_hour 6 = .ok (.istore_n 3, 1) := by decide +kernel
theorem dX9_hour_7 : decode cX9_hour 7 = .ok (.iconst 0, 1) := by decide +kernel
theorem dX9_hour_8 : decode cX9_hour 8 = .ok (.istore 4, 2) := by decide +kernel
theorem dX9_hour_10 : decode cX9_hour 10 = .ok (.iload 4, 2) := by decide +kernel
theorem dX9_hour_12 : decode cX9_hour 12 = .ok (.iload_n 3, 1) := by decide +kernel
theorem dX9_hour_13 : decode cX9_hour 13 = .ok (.if_icmp .ge 26, 3) := by decide +kernel
theorem dX9_hour_16 : decode cX9_hour 16 = .ok (.aload_n 0, 1) := by decide +kernel
theorem dX9_hour_17 : decode cX9_hour 17 = .ok (.getfield 23, 3) := by decide +kernel
theorem dX9_hour_20 : decode cX9_hour 20 = .ok (.iload 4, 2) := by decide +kernel
theorem dX9_hour_22 : decode cX9_hour 22 = .ok (.aload_n 0, 1) := by decide +kernel
theorem dX9_hour_23 : decode cX9_hour 23 = .ok (.getfield 7, 3) := by decide +kernel
theorem dX9_hour_26 : decode cX9_hour 26 = .ok (.bipush 10, 2) := by decide +kernel
theorem dX9_hour_28 : decode cX9_hour 28 = .ok (.iload 4, 2) := by decide +kernel
theorem dX9_hour_30 : decode cX9_hour 30 = .ok (.iadd, 1) := by decide +kernel
theorem dX9_hour_31 : decode cX9_hour 31 = .ok (.iaload, 1) := by decide +kernel
theorem dX9_hour_32 : decode cX9_hour 32 = .ok (.iastore, 1) := by decide +kernel
theorem dX9_hour_33 : decode cX9_hour 33 = .ok (.iinc 4 1, 3) := by decide +kernel
theorem dX9_hour_36 : decode cX9_hour 36 = .ok (.goto (-26), 3) := by decide +kernel
theorem dX9_hour_39 : decode cX9_hour 39 = .ok (.iconst 0, 1) := by decide +kernel
theorem dX9_hour_40 : decode cX9_hour 40 = .ok (.istore 4, 2) := by decide +kernel
theorem dX9_hour_42 : decode cX9_hour 42 = .ok (.iload 4, 2) := by decide +kernel
theorem dX9_hour_44 : decode cX9_hour 44 = .ok (.iconst 1, 1) := by decide +kernel
theorem dX9_hour_45 : decode cX9_hour 45 = .ok (.iadd, 1) := by decide +kernel
theorem dX9_hour_46 : decode cX9_hour 46 = .ok (.iload_n 3, 1) := by decide +kernel
theorem dX9_hour_47 : decode cX9_hour 47 = .ok (.if_icmp .ge 62, 3) := by decide +kernel
theorem dX9_hour_50 : decode cX9_hour 50 = .ok (.aload_n 0, 1) := by decide +kernel
theorem dX9_hour_51 : decode cX9_hour 51 = .ok (.getfield 23, 3) := by decide +kernel
theorem dX9_hour_54 : decode cX9_hour 54 = .ok (.iload 4, 2) := by decide +kernel
theorem dX9_hour_56 : decode cX9_hour 56 = .ok (.iaload, 1) := by decide +kernel
theorem dX9_hour_57 : decode cX9_hour 57 = .ok (.aload_n 0, 1) := by decide +kernel
theorem dX9_hour_58 : decode cX9_hour 58 = .ok (.getfield 23, 3) := by decide +kernel
theorem dX9_hour_61 : decode cX9_hour 61 = .ok (.iload 4, 2) := by decide +kernel
theorem dX9_hour_63 : decode cX9_hour 63 = .ok (.iconst 1, 1) := by decide +kernel
theorem dX9_hour_64 : decode cX9_hour 64 = .ok (.iadd, 1) := by decide +kernel
theorem dX9_hour_65 : decode cX9_hour 65 = .ok (.iaload, 1) := by decide +kernel
theorem dX9_hour_66 : decode cX9_hour 66 = .ok (.isub, 1) := by decide +kernel
theorem dX9_hour_67 : decode cX9_hour 67 = .ok (.iconst 4, 1) := by decide +kernel
theorem dX9_hour_68 : decode cX9_hour 68 = .ok (.idiv, 1) := by decide +kernel
theorem dX9_hour_69 : decode cX9_hour 69 = .ok (.istore 5, 2) := by decide +kernel
theorem dX9_hour_71 : decode cX9_hour 71 = .ok (.aload_n 0, 1) := by decide +kernel
theorem dX9_hour_72 : decode cX9_hour 72 = .ok (.getfield 7, 3) := by decide +kernel
theorem dX9_hour_75 : decode cX9_hour 75 = .ok (.bipush 10, 2) := by decide +kernel
theorem dX9_hour_77 : decode cX9_hour 77 = .ok (.iload 4, 2) := by decide +kernel
theorem dX9_hour_79 : decode cX9_hour 79 = .ok (.iadd, 1) := by decide +kernel
theorem dX9_hour_80 : decode cX9_hour 80 = .ok (.dup2, 1) := by decide +kernel
theorem dX9_hour_81 : decode cX9_hour 81 = .ok (.iaload, 1) := by decide +kernel
theorem dX9_hour_82 : decode cX9_hour 82 = .ok (.iload 5, 2) := by decide +kernel
theorem dX9_hour_84 : decode cX9_hour 84 = .ok (.isub, 1) := by decide +kernel
theorem dX9_hour_85 : decode cX9_hour 85 = .ok (.iastore, 1) := by decide +kernel
theorem dX9_hour_86 : decode cX9_hour 86 = .ok (.aload_n 0, 1) := by decide +kernel
theorem dX9_hour_87 : decode cX9_hour 87 = .ok (.getfield 7, 3) := by decide +kernel
theorem dX9_hour_90 : decode cX9_hour 90 = .ok (.bipush 10, 2) := by decide +kernel
theorem dX9_hour_92 : decode cX9_hour 92 = .ok (.iload 4, 2) := by decide +kernel
theorem dX9_hour_94 : decode cX9_hour 94 = .ok (.iadd, 1) := by decide +kernel
theorem dX9_hour_95 : decode cX9_hour 95 = .ok (.iconst 1, 1) := by decide +kernel
theorem dX9_hour_96 : decode cX9_hour 96 = .ok (.iadd, 1) := by decide +kernel
theorem dX9_hour_97 : decode cX9_hour 97 = .ok (.dup2, 1) := by decide +kernel
theorem dX9_hour_98 : decode cX9_hour 98 = .ok (.iaload, 1) := by decide +kernel
theorem dX9_hour_99 : decode cX9_hour 99 = .ok (.iload 5, 2) := by decide +kernel
theorem dX9_hour_101 : decode cX9_hour 101 = .ok (.iadd, 1) := by decide +kernel
theorem dX9_hour_102 : decode cX9_hour 102 = .ok (.iastore, 1) := by decide +kernel
theorem dX9_hour_103 : decode cX9_hour 103 = .ok (.iinc 4 1, 3) := by decide +kernel
theorem dX9_hour_106 : decode cX9_hour 106 = .ok (.goto (-64), 3) := by decide +kernel
theorem dX9_hour_109 : decode cX9_hour 109 = .ok (.iconst 0, 1) := by decide +kernel
theorem dX9_hour_110 : decode cX9_hour 110 = .ok (.istore 4, 2) := by decide +kernel
theorem dX9_hour_112 : decode cX9_hour 112 = .ok (.iload 4, 2) := by decide +kernel
theorem dX9_hour_114 : decode cX9_hour 114 = .ok (.iload_n 3, 1) := by decide +kernel
theorem dX9_hour_115 : decode cX9_hour 115 = .ok (.if_icmp .ge 35, 3) := by decide +kernel
theorem dX9_hour_118 : decode cX9_hour 118 = .ok (.aload_n 0, 1) := by decide +kernel
theorem dX9_hour_119 : decode cX9_hour 119 = .ok (.getfield 7, 3) := by decide +kernel
theorem dX9_hour_122 : decode cX9_hour 122 = .ok (.bipush 10, 2) := by decide +kernel
theorem dX9_hour_124 : decode cX9_hour 124 = .ok (.iload 4, 2) := by decide +kernel
theorem dX9_hour_126 : decode cX9_hour 126 = .ok (.iadd, 1) := by decide +kernel
theorem dX9_hour_127 : decode cX9_hour 127 = .ok (.dup2, 1) := by decide +kernel
theorem dX9_hour_128 : decode cX9_hour 128 = .ok (.iaload, 1) := by decide +kernel
theorem dX9_hour_129 : decode cX9_hour 129 = .ok (.aload_n 0, 1) := by decide +kernel
theorem dX9_hour_130 : decode cX9_hour 130 = .ok (.getfield 23, 3) := by decide +kernel
theorem dX9_hour_133 : decode cX9_hour 133 = .ok (.iload 4, 2) := by decide +kernel
theorem dX9_hour_135 : decode cX9_hour 135 = .ok (.iaload, 1) := by decide +kernel
theorem dX9_hour_136 : decode cX9_hour 136 = .ok (.bipush 20, 2) := by decide +kernel
theorem dX9_hour_138 : decode cX9_hour 138 = .ok (.isub, 1) := by decide +kernel
theorem dX9_hour_139 : decode cX9_hour 139 = .ok (.bipush 16, 2) := by decide +kernel
theorem dX9_hour_141 : decode cX9_hour 141 = .ok (.idiv, 1) := by decide +kernel
theorem dX9_hour_142 : decode cX9_hour 142 = .ok (.isub, 1) := by decide +kernel
theorem dX9_hour_143 : decode cX9_hour 143 = .ok (.iastore, 1) := by decide +kernel
theorem dX9_hour_144 : decode cX9_hour 144 = .ok (.iinc 4 1, 3) := by decide +kernel
theorem dX9_hour_147 : decode cX9_hour 147 = .ok (.goto (-35), 3) := by decide +kernel
theorem dX9_hour_150 : decode cX9_hour 150 = .ok (.aload_n 0, 1) := by decide +kernel
theorem dX9_hour_151 : decode cX9_hour 151 = .ok (.getfield 7, 3) := by decide +kernel
theorem dX9_hour_154 : decode cX9_hour 154 = .ok (.bipush 10, 2) := by decide +kernel
theorem dX9_hour_156 : decode cX9_hour 156 = .ok (.iload_n 1, 1) := by decide +kernel
theorem dX9_hour_157 : decode cX9_hour 157 = .ok (.iadd, 1) := by decide +kernel
theorem dX9_hour_158 : decode cX9_hour 158 = .ok (.dup2, 1) := by decide +kernel
theorem dX9_hour_159 : decode cX9_hour 159 = .ok (.iaload, 1) := by decide +kernel
theorem dX9_hour_160 : decode cX9_hour 160 = .ok (.bipush 60, 2) := by decide +kernel
theorem dX9_hour_162 : decode cX9_hour 162 = .ok (.iload_n 2, 1) := by decide +kernel
theorem dX9_hour_163 : decode cX9_hour 163 = .ok (.imul, 1) := by decide +kernel
theorem dX9_hour_164 : decode cX9_hour 164 = .ok (.iadd, 1) := by decide +kernel
theorem dX9_hour_165 : decode cX9_hour 165 = .ok (.iastore, 1) := by decide +kernel
theorem dX9_hour_166 : decode cX9_hour 166 = .ok (.iconst 0, 1) := by decide +kernel
theorem dX9_hour_167 : decode cX9_hour 167 = .ok (.istore 4, 2) := by decide +kernel
theorem dX9_hour_169 : decode cX9_hour 169 = .ok (.iload 4, 2) := by decide +kernel
theorem dX9_hour_171 : decode cX9_hour 171 = .ok (.aload_n 0, 1) := by decide +kernel
theorem dX9_hour_172 : decode cX9_hour 172 = .ok (.getfield 7, 3) := by decide +kernel
theorem dX9_hour_175 : decode cX9_hour 175 = .ok (.iconst 1, 1) := by decide +kernel
theorem dX9_hour_176 : decode cX9_hour 176 = .ok (.iaload, 1) := by decide +kernel
theorem dX9_hour_177 : decode cX9_hour 177 = .ok (.if_icmp .ge 43, 3) := by decide +kernel
theorem dX9_hour_180 : decode cX9_hour 180 = .ok (.aload_n 0, 1) := by decide +kernel
theorem dX9_hour_181 : decode cX9_hour 181 = .ok (.iload 4, 2) := by decide +kernel
theorem dX9_hour_183 : decode cX9_hour 183 = .ok (.invokevirtual 134, 3) := by decide +kernel
theorem dX9_hour_186 : decode cX9_hour 186 = .ok (.ifCond .eq 28, 3) := by decide +kernel
theorem dX9_hour_189 : decode cX9_hour 189 = .ok (.aload_n 0, 1) := by decide +kernel
theorem dX9_hour_190 : decode cX9_hour 190 = .ok (.iload 4, 2) := by decide +kernel
theorem dX9_hour_192 : decode cX9_hour 192 = .ok (.iconst 5, 1) := by decide +kernel
theorem dX9_hour_193 : decode cX9_hour 193 = .ok (.invokevirtual 130, 3) := by decide +kernel
theorem dX9_hour_196 : decode cX9_hour 196 = .ok (.ifCond .ne 18, 3) := by decide +kernel
theorem dX9_hour_199 : decode cX9_hour 199 = .ok (.aload_n 0, 1) := by decide +kernel
theorem dX9_hour_200 : decode cX9_hour 200 = .ok (.iload 4, 2) := by decide +kernel
theorem dX9_hour_202 : decode cX9_hour 202 = .ok (.aload_n 0, 1) := by decide +kernel
theorem dX9_hour_203 : decode cX9_hour 203 = .ok (.iload 4, 2) := by decide +kernel
theorem dX9_hour_205 : decode cX9_hour 205 = .ok (.iconst 4, 1) := by decide +kernel
theorem dX9_hour_206 : decode cX9_hour 206 = .ok (.invokevirtual 130, 3) := by decide +kernel
theorem dX9_hour_209 : decode cX9_hour 209 = .ok (.iconst 4, 1) := by decide +kernel
theorem dX9_hour_210 : decode cX9_hour 210 = .ok (.idiv, 1) := by decide +kernel
theorem dX9_hour_211 : decode cX9_hour 211 = .ok (.invokevirtual 172, 3) := by decide +kernel
theorem dX9_hour_214 : decode cX9_hour 214 = .ok (.iinc 4 1, 3) := by decide +kernel
theorem dX9_hour_217 : decode cX9_hour 217 = .ok (.goto (-48), 3) := by decide +kernel
theorem dX9_hour_220 : decode cX9_hour 220 = .ok (.aload_n 0, 1) := by decide +kernel
theorem dX9_hour_221 : decode cX9_hour 221 = .ok (.getfield 7, 3) := by decide +kernel
theorem dX9_hour_224 : decode cX9_hour 224 = .ok (.iconst 3, 1) := by decide +kernel
theorem dX9_hour_225 : decode cX9_hour 225 = .ok (.dup2, 1) := by decide +kernel
theorem dX9_hour_226 : decode cX9_hour 226 = .ok (.iaload, 1) := by decide +kernel
theorem dX9_hour_227 : decode cX9_hour 227 = .ok (.iconst 1, 1) := by decide +kernel
theorem dX9_hour_228 : decode cX9_hour 228 = .ok (.iadd, 1) := by decide +kernel
theorem dX9_hour_229 : decode cX9_hour 229 = .ok (.iastore, 1) := by decide +kernel
theorem dX9_hour_230 : decode cX9_hour 230 = .ok (.aload_n 0, 1) := by decide +kernel
theorem dX9_hour_231 : decode cX9_hour 231 = .ok (.getfield 7, 3) := by decide +kernel
theorem dX9_hour_234 : decode cX9_hour 234 = .ok (.iconst 4, 1) := by decide +kernel
theorem dX9_hour_235 : decode cX9_hour 235 = .ok (.dup2, 1) := by decide +kernel
theorem dX9_hour_236 : decode cX9_hour 236 = .ok (.iaload, 1) := by decide +kernel
theorem dX9_hour_237 : decode cX9_hour 237 = .ok (.iload_n 2, 1) := by decide +kernel
theorem dX9_hour_238 : decode cX9_hour 238 = .ok (.iadd, 1) := by decide +kernel
theorem dX9_hour_239 : decode cX9_hour 239 = .ok (.iastore, 1) := by decide +kernel
theorem dX9_hour_240 : decode cX9_hour 240 = .ok (.return_, 1) := by decide +kernel
theorem dX9_bakes_0 : decode cX9_bakes 0 = .ok (.aload_n 0, 1) := by decide +kernel
theorem dX9_bakes_1 : decode cX9_bakes 1 = .ok (.getfield 7, 3) := by decide +kernel
theorem dX9_bakes_4 : decode cX9_bakes 4 = .ok (.bipush 10, 2) := by decide +kernel
theorem dX9_bakes_6 : decode cX9_bakes 6 = .ok (.iload_n 2, 1) := by decide +kernel
theorem dX9_bakes_7 : decode cX9_bakes 7 = .ok (.iadd, 1) := by decide +kernel
theorem dX9_bakes_8 : decode cX9_bakes 8 = .ok (.iaload, 1) := by decide +kernel
theorem dX9_bakes_9 : decode cX9_bakes 9 = .ok (.istore_n 3, 1) := by decide +kernel
theorem dX9_bakes_10 : decode cX9_bakes 10 = .ok (.iload_n 3, 1) := by decide +kernel
theorem dX9_bakes_11 : decode cX9_bakes 11 = .ok (.aload_n 0, 1) := by decide +kernel
theorem dX9_bakes_12 : decode cX9_bakes 12 = .ok (.getfield 23, 3) := by decide +kernel
theorem dX9_bakes_15 : decode cX9_bakes 15 = .ok (.iload_n 2, 1) := by decide +kernel
theorem dX9_bakes_16 : decode cX9_bakes 16 = .ok (.iaload, 1) := by decide +kernel
theorem dX9_bakes_17 : decode cX9_bakes 17 = .ok (.if_icmp .le 14, 3) := by decide +kernel
theorem dX9_bakes_20 : decode cX9_bakes 20 = .ok (.iload_n 3, 1) := by decide +kernel
theorem dX9_bakes_21 : decode cX9_bakes 21 = .ok (.aload_n 0, 1) := by decide +kernel
theorem dX9_bakes_22 : decode cX9_bakes 22 = .ok (.getfield 23, 3) := by decide +kernel
theorem dX9_bakes_25 : decode cX9_bakes 25 = .ok (.iload_n 2, 1) := by decide +kernel
theorem dX9_bakes_26 : decode cX9_bakes 26 = .ok (.iaload, 1) := by decide +kernel
theorem dX9_bakes_27 : decode cX9_bakes 27 = .ok (.isub, 1) := by decide +kernel
theorem dX9_bakes_28 : decode cX9_bakes 28 = .ok (.goto 11, 3) := by decide +kernel
theorem dX9_bakes_31 : decode cX9_bakes 31 = .ok (.aload_n 0, 1) := by decide +kernel
theorem dX9_bakes_32 : decode cX9_bakes 32 = .ok (.getfield 23, 3) := by decide +kernel
theorem dX9_bakes_35 : decode cX9_bakes 35 = .ok (.iload_n 2, 1) := by decide +kernel
theorem dX9_bakes_36 : decode cX9_bakes 36 = .ok (.iaload, 1) := by decide +kernel
theorem dX9_bakes_37 : decode cX9_bakes 37 = .ok (.iload_n 3, 1) := by decide +kernel
theorem dX9_bakes_38 : decode cX9_bakes 38 = .ok (.isub, 1) := by decide +kernel
theorem dX9_bakes_39 : decode cX9_bakes 39 = .ok (.istore 4, 2) := by decide +kernel
theorem dX9_bakes_41 : decode cX9_bakes 41 = .ok (.iload 4, 2) := by decide +kernel
theorem dX9_bakes_43 : decode cX9_bakes 43 = .ok (.aload_n 0, 1) := by decide +kernel
theorem dX9_bakes_44 : decode cX9_bakes 44 = .ok (.getfield 7, 3) := by decide +kernel
theorem dX9_bakes_47 : decode cX9_bakes 47 = .ok (.bipush 40, 2) := by decide +kernel
theorem dX9_bakes_49 : decode cX9_bakes 49 = .ok (.iconst 2, 1) := by decide +kernel
theorem dX9_bakes_50 : decode cX9_bakes 50 = .ok (.aload_n 0, 1) := by decide +kernel
theorem dX9_bakes_51 : decode cX9_bakes 51 = .ok (.iload_n 1, 1) := by decide +kernel
theorem dX9_bakes_52 : decode cX9_bakes 52 = .ok (.iconst 1, 1) := by decide +kernel
theorem dX9_bakes_53 : decode cX9_bakes 53 = .ok (.invokevirtual 130, 3) := by decide +kernel
theorem dX9_bakes_56 : decode cX9_bakes 56 = .ok (.imul, 1) := by decide +kernel
theorem dX9_bakes_57 : decode cX9_bakes 57 = .ok (.iadd, 1) := by decide +kernel
theorem dX9_bakes_58 : decode cX9_bakes 58 = .ok (.iconst 1, 1) := by decide +kernel
theorem dX9_bakes_59 : decode cX9_bakes 59 = .ok (.iadd, 1) := by decide +kernel
theorem dX9_bakes_60 : decode cX9_bakes 60 = .ok (.iaload, 1) := by decide +kernel
theorem dX9_bakes_61 : decode cX9_bakes 61 = .ok (.bipush 10, 2) := by decide +kernel
theorem dX9_bakes_63 : decode cX9_bakes 63 = .ok (.aload_n 0, 1) := by decide +kernel
theorem dX9_bakes_64 : decode cX9_bakes 64 = .ok (.iload_n 1, 1) := by decide +kernel
theorem dX9_bakes_65 : decode cX9_bakes 65 = .ok (.iconst 3, 1) := by decide +kernel
theorem dX9_bakes_66 : decode cX9_bakes 66 = .ok (.invokevirtual 130, 3) := by decide +kernel
theorem dX9_bakes_69 : decode cX9_bakes 69 = .ok (.imul, 1) := by decide +kernel
theorem dX9_bakes_70 : decode cX9_bakes 70 = .ok (.isub, 1) := by decide +kernel
theorem dX9_bakes_71 : decode cX9_bakes 71 = .ok (.if_icmp .le 11, 3) := by decide +kernel
theorem dX9_bakes_74 : decode cX9_bakes 74 = .ok (.aload_n 0, 1) := by decide +kernel
theorem dX9_bakes_75 : decode cX9_bakes 75 = .ok (.iload_n 1, 1) := by decide +kernel
theorem dX9_bakes_76 : decode cX9_bakes 76 = .ok (.iconst 5, 1) := by decide +kernel
theorem dX9_bakes_77 : decode cX9_bakes 77 = .ok (.iconst 1, 1) := by decide +kernel
theorem dX9_bakes_78 : decode cX9_bakes 78 = .ok (.invokevirtual 147, 3) := by decide +kernel
theorem dX9_bakes_81 : decode cX9_bakes 81 = .ok (.return_, 1) := by decide +kernel
theorem dX9_bakes_82 : decode cX9_bakes 82 = .ok (.iload_n 3, 1) := by decide +kernel
theorem dX9_bakes_83 : decode cX9_bakes 83 = .ok (.sipush 600, 3) := by decide +kernel
theorem dX9_bakes_86 : decode cX9_bakes 86 = .ok (.if_icmp .lt 26, 3) := by decide +kernel
theorem dX9_bakes_89 : decode cX9_bakes 89 = .ok (.aload_n 0, 1) := by decide +kernel
theorem dX9_bakes_90 : decode cX9_bakes 90 = .ok (.iload_n 1, 1) := by decide +kernel
theorem dX9_bakes_91 : decode cX9_bakes 91 = .ok (.bipush 6, 2) := by decide +kernel
theorem dX9_bakes_93 : decode cX9_bakes 93 = .ok (.aload_n 0, 1) := by decide +kernel
theorem dX9_bakes_94 : decode cX9_bakes 94 = .ok (.iload_n 1, 1) := by decide +kernel
theorem dX9_bakes_95 : decode cX9_bakes 95 = .ok (.bipush 6, 2) := by decide +kernel
theorem dX9_bakes_97 : decode cX9_bakes 97 = .ok (.invokevirtual 130, 3) := by decide +kernel
theorem dX9_bakes_100 : decode cX9_bakes 100 = .ok (.iload_n 3, 1) := by decide +kernel
theorem dX9_bakes_101 : decode cX9_bakes 101 = .ok (.sipush 600, 3) := by decide +kernel
theorem dX9_bakes_104 : decode cX9_bakes 104 = .ok (.isub, 1) := by decide +kernel
theorem dX9_bakes_105 : decode cX9_bakes 105 = .ok (.bipush 50, 2) := by decide +kernel
theorem dX9_bakes_107 : decode cX9_bakes 107 = .ok (.idiv, 1) := by decide +kernel
theorem dX9_bakes_108 : decode cX9_bakes 108 = .ok (.iadd, 1) := by decide +kernel
theorem dX9_bakes_109 : decode cX9_bakes 109 = .ok (.invokevirtual 147, 3) := by decide +kernel
theorem dX9_bakes_112 : decode cX9_bakes 112 = .ok (.iload_n 3, 1) := by decide +kernel
theorem dX9_bakes_113 : decode cX9_bakes 113 = .ok (.bipush 100, 2) := by decide +kernel
theorem dX9_bakes_115 : decode cX9_bakes 115 = .ok (.if_icmp .lt 26, 3) := by decide +kernel
theorem dX9_bakes_118 : decode cX9_bakes 118 = .ok (.aload_n 0, 1) := by decide +kernel
theorem dX9_bakes_119 : decode cX9_bakes 119 = .ok (.iload_n 1, 1) := by decide +kernel
theorem dX9_bakes_120 : decode cX9_bakes 120 = .ok (.iconst 3, 1) := by decide +kernel
theorem dX9_bakes_121 : decode cX9_bakes 121 = .ok (.invokevirtual 130, 3) := by decide +kernel
theorem dX9_bakes_124 : decode cX9_bakes 124 = .ok (.ifCond .le 17, 3) := by decide +kernel
theorem dX9_bakes_127 : decode cX9_bakes 127 = .ok (.aload_n 0, 1) := by decide +kernel
theorem dX9_bakes_128 : decode cX9_bakes 128 = .ok (.iload_n 1, 1) := by decide +kernel
theorem dX9_bakes_129 : decode cX9_bakes 129 = .ok (.iconst 3, 1) := by decide +kernel
theorem dX9_bakes_130 : decode cX9_bakes 130 = .ok (.aload_n 0, 1) := by decide +kernel
theorem dX9_bakes_131 : decode cX9_bakes 131 = .ok (.iload_n 1, 1) := by decide +kernel
theorem dX9_bakes_132 : decode cX9_bakes 132 = .ok (.iconst 3, 1) := by decide +kernel
theorem dX9_bakes_133 : decode cX9_bakes 133 = .ok (.invokevirtual 130, 3) := by decide +kernel
theorem dX9_bakes_136 : decode cX9_bakes 136 = .ok (.iconst 1, 1) := by decide +kernel
theorem dX9_bakes_137 : decode cX9_bakes 137 = .ok (.isub, 1) := by decide +kernel
theorem dX9_bakes_138 : decode cX9_bakes 138 = .ok (.invokevirtual 147, 3) := by decide +kernel
theorem dX9_bakes_141 : decode cX9_bakes 141 = .ok (.return_, 1) := by decide +kernel
theorem dX9_fire_0 : decode cX9_fire 0 = .ok (.iload_n 1, 1) := by decide +kernel
theorem dX9_fire_1 : decode cX9_fire 1 = .ok (.iconst 0, 1) := by decide +kernel
theorem dX9_fire_2 : decode cX9_fire 2 = .ok (.aload_n 0, 1) := by decide +kernel
theorem dX9_fire_3 : decode cX9_fire 3 = .ok (.getfield 7, 3) := by decide +kernel
theorem dX9_fire_6 : decode cX9_fire 6 = .ok (.iconst 2, 1) := by decide +kernel
theorem dX9_fire_7 : decode cX9_fire 7 = .ok (.iaload, 1) := by decide +kernel
theorem dX9_fire_8 : decode cX9_fire 8 = .ok (.iconst 1, 1) := by decide +kernel
theorem dX9_fire_9 : decode cX9_fire 9 = .ok (.isub, 1) := by decide +kernel
theorem dX9_fire_10 : decode cX9_fire 10 = .ok (.invokestatic 103, 3) := by decide +kernel
theorem dX9_fire_13 : decode cX9_fire 13 = .ok (.ifCond .eq 13, 3) := by decide +kernel
theorem dX9_fire_16 : decode cX9_fire 16 = .ok (.iload_n 2, 1) := by decide +kernel
theorem dX9_fire_17 : decode cX9_fire 17 = .ok (.iconst 0, 1) := by decide +kernel
theorem dX9_fire_18 : decode cX9_fire 18 = .ok (.bipush 9, 2) := by decide +kernel
theorem dX9_fire_20 : decode cX9_fire 20 = .ok (.invokestatic 103, 3) := by decide +kernel
theorem dX9_fire_23 : decode cX9_fire 23 = .ok (.ifCond .ne 5, 3) := by decide +kernel
theorem dX9_fire_26 : decode cX9_fire 26 = .ok (.iconst (-1), 1) := by decide +kernel
theorem dX9_fire_27 : decode cX9_fire 27 = .ok (.ireturn, 1) := by decide +kernel
theorem dX9_fire_28 : decode cX9_fire 28 = .ok (.aload_n 0, 1) := by decide +kernel
theorem dX9_fire_29 : decode cX9_fire 29 = .ok (.iload_n 1, 1) := by decide +kernel
theorem dX9_fire_30 : decode cX9_fire 30 = .ok (.iload_n 2, 1) := by decide +kernel
theorem dX9_fire_31 : decode cX9_fire 31 = .ok (.invokevirtual 175, 3) := by decide +kernel
theorem dX9_fire_34 : decode cX9_fire 34 = .ok (.aload_n 0, 1) := by decide +kernel
theorem dX9_fire_35 : decode cX9_fire 35 = .ok (.getfield 7, 3) := by decide +kernel
theorem dX9_fire_38 : decode cX9_fire 38 = .ok (.bipush 10, 2) := by decide +kernel
theorem dX9_fire_40 : decode cX9_fire 40 = .ok (.iload_n 1, 1) := by decide +kernel
theorem dX9_fire_41 : decode cX9_fire 41 = .ok (.iadd, 1) := by decide +kernel
theorem dX9_fire_42 : decode cX9_fire 42 = .ok (.iaload, 1) := by decide +kernel
theorem dX9_fire_43 : decode cX9_fire 43 = .ok (.ireturn, 1) := by decide +kernel
theorem dX9_rest_0 : decode cX9_rest 0 = .ok (.iload_n 1, 1) := by decide +kernel
theorem dX9_rest_1 : decode cX9_rest 1 = .ok (.iconst 1, 1) := by decide +kernel
theorem dX9_rest_2 : decode cX9_rest 2 = .ok (.bipush 60, 2) := by decide +kernel
theorem dX9_rest_4 : decode cX9_rest 4 = .ok (.invokestatic 103, 3) := by decide +kernel
theorem dX9_rest_7 : decode cX9_rest 7 = .ok (.ifCond .ne 5, 3) := by decide +kernel
theorem dX9_rest_10 : decode cX9_rest 10 = .ok (.iconst (-1), 1) := by decide +kernel
theorem dX9_rest_11 : decode cX9_rest 11 = .ok (.ireturn, 1) := by decide +kernel
theorem dX9_rest_12 : decode cX9_rest 12 = .ok (.iconst 0, 1) := by decide +kernel
theorem dX9_rest_13 : decode cX9_rest 13 = .ok (.istore_n 2, 1) := by decide +kernel
theorem dX9_rest_14 : decode cX9_rest 14 = .ok (.iload_n 2, 1) := by decide +kernel
theorem dX9_rest_15 : decode cX9_rest 15 = .ok (.iload_n 1, 1) := by decide +kernel
theorem dX9_rest_16 : decode cX9_rest 16 = .ok (.if_icmp .ge 15, 3) := by decide +kernel
theorem dX9_rest_19 : decode cX9_rest 19 = .ok (.aload_n 0, 1) := by decide +kernel
theorem dX9_rest_20 : decode cX9_rest 20 = .ok (.iconst 0, 1) := by decide +kernel
theorem dX9_rest_21 : decode cX9_rest 21 = .ok (.iconst 0, 1) := by decide +kernel
theorem dX9_rest_22 : decode cX9_rest 22 = .ok (.invokevirtual 175, 3) := by decide +kernel
theorem dX9_rest_25 : decode cX9_rest 25 = .ok (.iinc 2 1, 3) := by decide +kernel
theorem dX9_rest_28 : decode cX9_rest 28 = .ok (.goto (-14), 3) := by decide +kernel
theorem dX9_rest_31 : decode cX9_rest 31 = .ok (.aload_n 0, 1) := by decide +kernel
theorem dX9_rest_32 : decode cX9_rest 32 = .ok (.invokevirtual 160, 3) := by decide +kernel
theorem dX9_rest_35 : decode cX9_rest 35 = .ok (.ireturn, 1) := by decide +kernel
theorem dX9_heat_0 : decode cX9_heat 0 = .ok (.iload_n 1, 1) := by decide +kernel
theorem dX9_heat_1 : decode cX9_heat 1 = .ok (.iconst 0, 1) := by decide +kernel
theorem dX9_heat_2 : decode cX9_heat 2 = .ok (.aload_n 0, 1) := by decide +kernel
theorem dX9_heat_3 : decode cX9_heat 3 = .ok (.getfield 7, 3) := by decide +kernel
theorem dX9_heat_6 : decode cX9_heat 6 = .ok (.iconst 2, 1) := by decide +kernel
theorem dX9_heat_7 : decode cX9_heat 7 = .ok (.iaload, 1) := by decide +kernel
theorem dX9_heat_8 : decode cX9_heat 8 = .ok (.iconst 1, 1) := by decide +kernel
theorem dX9_heat_9 : decode cX9_heat 9 = .ok (.isub, 1) := by decide +kernel
theorem dX9_heat_10 : decode cX9_heat 10 = .ok (.invokestatic 103, 3) := by decide +kernel
theorem dX9_heat_13 : decode cX9_heat 13 = .ok (.ifCond .eq 15, 3) := by decide +kernel
theorem dX9_heat_16 : decode cX9_heat 16 = .ok (.aload_n 0, 1) := by decide +kernel
theorem dX9_heat_17 : decode cX9_heat 17 = .ok (.getfield 7, 3) := by decide +kernel
theorem dX9_heat_20 : decode cX9_heat 20 = .ok (.bipush 10, 2) := by decide +kernel
theorem dX9_heat_22 : decode cX9_heat 22 = .ok (.iload_n 1, 1) := by decide +kernel
theorem dX9_heat_23 : decode cX9_heat 23 = .ok (.iadd, 1) := by decide +kernel
theorem dX9_heat_24 : decode cX9_heat 24 = .ok (.iaload, 1) := by decide +kernel
theorem dX9_heat_25 : decode cX9_heat 25 = .ok (.goto 4, 3) := by decide +kernel
theorem dX9_heat_28 : decode cX9_heat 28 = .ok (.iconst (-1), 1) := by decide +kernel
theorem dX9_heat_29 : decode cX9_heat 29 = .ok (.ireturn, 1) := by decide +kernel
theorem dX9_asked_0 : decode cX9_asked 0 = .ok (.aload_n 0, 1) := by decide +kernel
theorem dX9_asked_1 : decode cX9_asked 1 = .ok (.iload_n 1, 1) := by decide +kernel
theorem dX9_asked_2 : decode cX9_asked 2 = .ok (.invokevirtual 134, 3) := by decide +kernel
theorem dX9_asked_5 : decode cX9_asked 5 = .ok (.ifCond .eq 12, 3) := by decide +kernel
theorem dX9_asked_8 : decode cX9_asked 8 = .ok (.aload_n 0, 1) := by decide +kernel
theorem dX9_asked_9 : decode cX9_asked 9 = .ok (.iload_n 1, 1) := by decide +kernel
theorem dX9_asked_10 : decode cX9_asked 10 = .ok (.iconst 4, 1) := by decide +kernel
theorem dX9_asked_11 : decode cX9_asked 11 = .ok (.invokevirtual 130, 3) := by decide +kernel
theorem dX9_asked_14 : decode cX9_asked 14 = .ok (.goto 4, 3) := by decide +kernel
theorem dX9_asked_17 : decode cX9_asked 17 = .ok (.iconst 0, 1) := by decide +kernel
theorem dX9_asked_18 : decode cX9_asked 18 = .ok (.istore_n 3, 1) := by decide +kernel
theorem dX9_asked_19 : decode cX9_asked 19 = .ok (.iload_n 2, 1) := by decide +kernel
theorem dX9_asked_20 : decode cX9_asked 20 = .ok (.tableswitch 76 1 6 #[40, 44, 48, 55, 62, 69], 40) := by decide +kernel
theorem dX9_asked_60 : decode cX9_asked 60 = .ok (.iload_n 3, 1) := by decide +kernel
theorem dX9_asked_61 : decode cX9_asked 61 = .ok (.iconst 4, 1) := by decide +kernel
theorem dX9_asked_62 : decode cX9_asked 62 = .ok (.idiv, 1) := by decide +kernel
theorem dX9_asked_63 : decode cX9_asked 63 = .ok (.ireturn, 1) := by decide +kernel
theorem dX9_asked_64 : decode cX9_asked 64 = .ok (.iload_n 3, 1) := by decide +kernel
theorem dX9_asked_65 : decode cX9_asked 65 = .ok (.iconst 4, 1) := by decide +kernel
theorem dX9_asked_66 : decode cX9_asked 66 = .ok (.irem, 1) := by decide +kernel
theorem dX9_asked_67 : decode cX9_asked 67 = .ok (.ireturn, 1) := by decide +kernel
theorem dX9_asked_68 : decode cX9_asked 68 = .ok (.aload_n 0, 1) := by decide +kernel
theorem dX9_asked_69 : decode cX9_asked 69 = .ok (.iload_n 1, 1) := by decide +kernel
theorem dX9_asked_70 : decode cX9_asked 70 = .ok (.iconst 1, 1) := by decide +kernel
theorem dX9_asked_71 : decode cX9_asked 71 = .ok (.invokevirtual 130, 3) := by decide +kernel
theorem dX9_asked_74 : decode cX9_asked 74 = .ok (.ireturn, 1) := by decide +kernel
theorem dX9_asked_75 : decode cX9_asked 75 = .ok (.aload_n 0, 1) := by decide +kernel
theorem dX9_asked_76 : decode cX9_asked 76 = .ok (.iload_n 1, 1) := by decide +kernel
theorem dX9_asked_77 : decode cX9_asked 77 = .ok (.iconst 2, 1) := by decide +kernel
theorem dX9_asked_78 : decode cX9_asked 78 = .ok (.invokevirtual 130, 3) := by decide +kernel
theorem dX9_asked_81 : decode cX9_asked 81 = .ok (.ireturn, 1) := by decide +kernel
theorem dX9_asked_82 : decode cX9_asked 82 = .ok (.aload_n 0, 1) := by decide +kernel
theorem dX9_asked_83 : decode cX9_asked 83 = .ok (.iload_n 1, 1) := by decide +kernel
theorem dX9_asked_84 : decode cX9_asked 84 = .ok (.iconst 0, 1) := by decide +kernel
theorem dX9_asked_85 : decode cX9_asked 85 = .ok (.invokevirtual 130, 3) := by decide +kernel
theorem dX9_asked_88 : decode cX9_asked 88 = .ok (.ireturn, 1) := by decide +kernel
theorem dX9_asked_89 : decode cX9_asked 89 = .ok (.aload_n 0, 1) := by decide +kernel
theorem dX9_asked_90 : decode cX9_asked 90 = .ok (.iload_n 1, 1) := by decide +kernel
theorem dX9_asked_91 : decode cX9_asked 91 = .ok (.iconst 3, 1) := by decide +kernel
theorem dX9_asked_92 : decode cX9_asked 92 = .ok (.invokevirtual 130, 3) := by decide +kernel
theorem dX9_asked_95 : decode cX9_asked 95 = .ok (.ireturn, 1) := by decide +kernel
theorem dX9_asked_96 : decode cX9_asked 96 = .ok (.aload_n 0, 1) := by decide +kernel
theorem dX9_asked_97 : decode cX9_asked 97 = .ok (.iload_n 1, 1) := by decide +kernel
theorem dX9_asked_98 : decode cX9_asked 98 = .ok (.bipush 6, 2) := by decide +kernel
theorem dX9_asked_100 : decode cX9_asked 100 = .ok (.invokevirtual 130, 3) := by decide +kernel
theorem dX9_asked_103 : decode cX9_asked 103 = .ok (.ireturn, 1) := by decide +kernel
theorem dX9_holds_0 : decode cX9_holds 0 = .ok (.iconst 1, 1) := by decide +kernel
theorem dX9_holds_1 : decode cX9_holds 1 = .ok (.istore_n 3, 1) := by decide +kernel
theorem dX9_holds_2 : decode cX9_holds 2 = .ok (.iconst 0, 1) := by decide +kernel
theorem dX9_holds_3 : decode cX9_holds 3 = .ok (.istore 4, 2) := by decide +kernel
theorem dX9_holds_5 : decode cX9_holds 5 = .ok (.iload 4, 2) := by decide +kernel
theorem dX9_holds_7 : decode cX9_holds 7 = .ok (.aload_n 0, 1) := by decide +kernel
theorem dX9_holds_8 : decode cX9_holds 8 = .ok (.getfield 7, 3) := by decide +kernel
theorem dX9_holds_11 : decode cX9_holds 11 = .ok (.iload_n 2, 1) := by decide +kernel
theorem dX9_holds_12 : decode cX9_holds 12 = .ok (.iaload, 1) := by decide +kernel
theorem dX9_holds_13 : decode cX9_holds 13 = .ok (.if_icmp .ge 149, 3) := by decide +kernel
theorem dX9_holds_16 : decode cX9_holds 16 = .ok (.iload_n 3, 1) := by decide +kernel
theorem dX9_holds_17 : decode cX9_holds 17 = .ok (.ifCond .eq 145, 3) := by decide +kernel
theorem dX9_holds_20 : decode cX9_holds 20 = .ok (.iload_n 2, 1) := by decide +kernel
theorem dX9_holds_21 : decode cX9_holds 21 = .ok (.iconst 1, 1) := by decide +kernel
theorem dX9_holds_22 : decode cX9_holds 22 = .ok (.iadd, 1) := by decide +kernel
theorem dX9_holds_23 : decode cX9_holds 23 = .ok (.iconst 4, 1) := by decide +kernel
theorem dX9_holds_24 : decode cX9_holds 24 = .ok (.iload 4, 2) := by decide +kernel
theorem dX9_holds_26 : decode cX9_holds 26 = .ok (.imul, 1) := by decide +kernel
theorem dX9_holds_27 : decode cX9_holds 27 = .ok (.iadd, 1) := by decide +kernel
theorem dX9_holds_28 : decode cX9_holds 28 = .ok (.istore 5, 2) := by decide +kernel
theorem dX9_holds_30 : decode cX9_holds 30 = .ok (.aload_n 0, 1) := by decide +kernel
theorem dX9_holds_31 : decode cX9_holds 31 = .ok (.iload_n 1, 1) := by decide +kernel
theorem dX9_holds_32 : decode cX9_holds 32 = .ok (.aload_n 0, 1) := by decide +kernel
theorem dX9_holds_33 : decode cX9_holds 33 = .ok (.getfield 7, 3) := by decide +kernel
theorem dX9_holds_36 : decode cX9_holds 36 = .ok (.iload 5, 2) := by decide +kernel
theorem dX9_holds_38 : decode cX9_holds 38 = .ok (.iconst 1, 1) := by decide +kernel
theorem dX9_holds_39 : decode cX9_holds 39 = .ok (.iadd, 1) := by decide +kernel
theorem dX9_holds_40 : decode cX9_holds 40 = .ok (.iaload, 1) := by decide +kernel
theorem dX9_holds_41 : decode cX9_holds 41 = .ok (.invokevirtual 178, 3) := by decide +kernel
theorem dX9_holds_44 : decode cX9_holds 44 = .ok (.istore 6, 2) := by decide +kernel
theorem dX9_holds_46 : decode cX9_holds 46 = .ok (.aload_n 0, 1) := by decide +kernel
theorem dX9_holds_47 : decode cX9_holds 47 = .ok (.getfield 7, 3) := by decide +kernel
theorem dX9_holds_50 : decode cX9_holds 50 = .ok (.iload 5, 2) := by decide +kernel
theorem dX9_holds_52 : decode cX9_holds 52 = .ok (.iconst 3, 1) := by decide +kernel
theorem dX9_holds_53 : decode cX9_holds 53 = .ok (.iadd, 1) := by decide +kernel
theorem dX9_holds_54 : decode cX9_holds 54 = .ok (.iaload, 1) := by decide +kernel
theorem dX9_holds_55 : decode cX9_holds 55 = .ok (.istore 7, 2) := by decide +kernel
theorem dX9_holds_57 : decode cX9_holds 57 = .ok (.aload_n 0, 1) := by decide +kernel
theorem dX9_holds_58 : decode cX9_holds 58 = .ok (.getfield 7, 3) := by decide +kernel
theorem dX9_holds_61 : decode cX9_holds 61 = .ok (.iload 5, 2) := by decide +kernel
theorem dX9_holds_63 : decode cX9_holds 63 = .ok (.iconst 2, 1) := by decide +kernel
theorem dX9_holds_64 : decode cX9_holds 64 = .ok (.iadd, 1) := by decide +kernel
theorem dX9_holds_65 : decode cX9_holds 65 = .ok (.iaload, 1) := by decide +kernel
theorem dX9_holds_66 : decode cX9_holds 66 = .ok (.bipush 60, 2) := by decide +kernel
theorem dX9_holds_68 : decode cX9_holds 68 = .ok (.if_icmp .ne 18, 3) := by decide +kernel
theorem dX9_holds_71 : decode cX9_holds 71 = .ok (.iload 6, 2) := by decide +kernel
theorem dX9_holds_73 : decode cX9_holds 73 = .ok (.iload 7, 2) := by decide +kernel
theorem dX9_holds_75 : decode cX9_holds 75 = .ok (.if_icmp .ge 7, 3) := by decide +kernel
theorem dX9_holds_78 : decode cX9_holds 78 = .ok (.iconst 1, 1) := by decide +kernel
theorem dX9_holds_79 : decode cX9_holds 79 = .ok (.goto 48, 3) := by decide +kernel
theorem dX9_holds_82 : decode cX9_holds 82 = .ok (.iconst 0, 1) := by decide +kernel
theorem dX9_holds_83 : decode cX9_holds 83 = .ok (.goto 44, 3) := by decide +kernel
theorem dX9_holds_86 : decode cX9_holds 86 = .ok (.aload_n 0, 1) := by decide +kernel
theorem dX9_holds_87 : decode cX9_holds 87 = .ok (.getfield 7, 3) := by decide +kernel
theorem dX9_holds_90 : decode cX9_holds 90 = .ok (.iload 5, 2) := by decide +kernel
theorem dX9_holds_92 : decode cX9_holds 92 = .ok (.iconst 2, 1) := by decide +kernel
theorem dX9_holds_93 : decode cX9_holds 93 = .ok (.iadd, 1) := by decide +kernel
theorem dX9_holds_94 : decode cX9_holds 94 = .ok (.iaload, 1) := by decide +kernel
theorem dX9_holds_95 : decode cX9_holds 95 = .ok (.bipush 62, 2) := by decide +kernel
theorem dX9_holds_97 : decode cX9_holds 97 = .ok (.if_icmp .ne 18, 3) := by decide +kernel
theorem dX9_holds_100 : decode cX9_holds 100 = .ok (.iload 6, 2) := by decide +kernel
theorem dX9_holds_102 : decode cX9_holds 102 = .ok (.iload 7, 2) := by decide +kernel
theorem dX9_holds_104 : decode cX9_holds 104 = .ok (.if_icmp .le 7, 3) := by decide +kernel
theorem dX9_holds_107 : decode cX9_holds 107 = .ok (.iconst 1, 1) := by decide +kernel
theorem dX9_holds_108 : decode cX9_holds 108 = .ok (.goto 19, 3) := by decide +kernel
theorem dX9_holds_111 : decode cX9_holds 111 = .ok (.iconst 0, 1) := by decide +kernel
theorem dX9_holds_112 : decode cX9_holds 112 = .ok (.goto 15, 3) := by decide +kernel
theorem dX9_holds_115 : decode cX9_holds 115 = .ok (.iload 6, 2) := by decide +kernel
theorem dX9_holds_117 : decode cX9_holds 117 = .ok (.iload 7, 2) := by decide +kernel
theorem dX9_holds_119 : decode cX9_holds 119 = .ok (.if_icmp .ne 7, 3) := by decide +kernel
theorem dX9_holds_122 : decode cX9_holds 122 = .ok (.iconst 1, 1) := by decide +kernel
theorem dX9_holds_123 : decode cX9_holds 123 = .ok (.goto 4, 3) := by decide +kernel
theorem dX9_holds_126 : decode cX9_holds 126 = .ok (.iconst 0, 1) := by decide +kernel
theorem dX9_holds_127 : decode cX9_holds 127 = .ok (.istore 8, 2) := by decide +kernel
theorem dX9_holds_129 : decode cX9_holds 129 = .ok (.iload 8, 2) := by decide +kernel
theorem dX9_holds_131 : decode cX9_holds 131 = .ok (.aload_n 0, 1) := by decide +kernel
theorem dX9_holds_132 : decode cX9_holds 132 = .ok (.getfield 7, 3) := by decide +kernel
theorem dX9_holds_135 : decode cX9_holds 135 = .ok (.iload 5, 2) := by decide +kernel
theorem dX9_holds_137 : decode cX9_holds 137 = .ok (.iaload, 1) := by decide +kernel
theorem dX9_holds_138 : decode cX9_holds 138 = .ok (.iconst 1, 1) := by decide +kernel
theorem dX9_holds_139 : decode cX9_holds 139 = .ok (.if_icmp .ne 7, 3) := by decide +kernel
theorem dX9_holds_142 : decode cX9_holds 142 = .ok (.iconst 1, 1) := by decide +kernel
theorem dX9_holds_143 : decode cX9_holds 143 = .ok (.goto 4, 3) := by decide +kernel
theorem dX9_holds_146 : decode cX9_holds 146 = .ok (.iconst 0, 1) := by decide +kernel
theorem dX9_holds_147 : decode cX9_holds 147 = .ok (.if_icmp .eq 7, 3) := by decide +kernel
theorem dX9_holds_150 : decode cX9_holds 150 = .ok (.iconst 1, 1) := by decide +kernel
theorem dX9_holds_151 : decode cX9_holds 151 = .ok (.goto 4, 3) := by decide +kernel
theorem dX9_holds_154 : decode cX9_holds 154 = .ok (.iconst 0, 1) := by decide +kernel
theorem dX9_holds_155 : decode cX9_holds 155 = .ok (.istore_n 3, 1) := by decide +kernel
theorem dX9_holds_156 : decode cX9_holds 156 = .ok (.iinc 4 1, 3) := by decide +kernel
theorem dX9_holds_159 : decode cX9_holds 159 = .ok (.goto (-154), 3) := by decide +kernel
theorem dX9_holds_162 : decode cX9_holds 162 = .ok (.iload_n 3, 1) := by decide +kernel
theorem dX9_holds_163 : decode cX9_holds 163 = .ok (.ireturn, 1) := by decide +kernel
theorem dX9_customOf_0 : decode cX9_customOf 0 = .ok (.iconst 0, 1) := by decide +kernel
theorem dX9_customOf_1 : decode cX9_customOf 1 = .ok (.istore_n 2, 1) := by decide +kernel
theorem dX9_customOf_2 : decode cX9_customOf 2 = .ok (.iload_n 2, 1) := by decide +kernel
theorem dX9_customOf_3 : decode cX9_customOf 3 = .ok (.aload_n 0, 1) := by decide +kernel
theorem dX9_customOf_4 : decode cX9_customOf 4 = .ok (.getfield 7, 3) := by decide +kernel
theorem dX9_customOf_7 : decode cX9_customOf 7 = .ok (.bipush 6, 2) := by decide +kernel
theorem dX9_customOf_9 : decode cX9_customOf 9 = .ok (.iaload, 1) := by decide +kernel
theorem dX9_customOf_10 : decode cX9_customOf 10 = .ok (.if_icmp .ge 42, 3) := by decide +kernel
theorem dX9_customOf_13 : decode cX9_customOf 13 = .ok (.aload_n 0, 1) := by decide +kernel
theorem dX9_customOf_14 : decode cX9_customOf 14 = .ok (.iload_n 1, 1) := by decide +kernel
theorem dX9_customOf_15 : decode cX9_customOf 15 = .ok (.sipush 500, 3) := by decide +kernel
theorem dX9_customOf_18 : decode cX9_customOf 18 = .ok (.bipush 18, 2) := by decide +kernel
theorem dX9_customOf_20 : decode cX9_customOf 20 = .ok (.iload_n 2, 1) := by decide +kernel
theorem dX9_customOf_21 : decode cX9_customOf 21 = .ok (.imul, 1) := by decide +kernel
theorem dX9_customOf_22 : decode cX9_customOf 22 = .ok (.iadd, 1) := by decide +kernel
theorem dX9_customOf_23 : decode cX9_customOf 23 = .ok (.invokevirtual 181, 3) := by decide +kernel
theorem dX9_customOf_26 : decode cX9_customOf 26 = .ok (.ifCond .eq 20, 3) := by decide +kernel
theorem dX9_customOf_29 : decode cX9_customOf 29 = .ok (.aload_n 0, 1) := by decide +kernel
theorem dX9_customOf_30 : decode cX9_customOf 30 = .ok (.getfield 7, 3) := by decide +kernel
theorem dX9_customOf_33 : decode cX9_customOf 33 = .ok (.sipush 500, 3) := by decide +kernel
theorem dX9_customOf_36 : decode cX9_customOf 36 = .ok (.bipush 18, 2) := by decide +kernel
theorem dX9_customOf_38 : decode cX9_customOf 38 = .ok (.iload_n 2, 1) := by decide +kernel
theorem dX9_customOf_39 : decode cX9_customOf 39 = .ok (.imul, 1) := by decide +kernel
theorem dX9_customOf_40 : decode cX9_customOf 40 = .ok (.iadd, 1) := by decide +kernel
theorem dX9_customOf_41 : decode cX9_customOf 41 = .ok (.bipush 17, 2) := by decide +kernel
theorem dX9_customOf_43 : decode cX9_customOf 43 = .ok (.iadd, 1) := by decide +kernel
theorem dX9_customOf_44 : decode cX9_customOf 44 = .ok (.iaload, 1) := by decide +kernel
theorem dX9_customOf_45 : decode cX9_customOf 45 = .ok (.ireturn, 1) := by decide +kernel
theorem dX9_customOf_46 : decode cX9_customOf 46 = .ok (.iinc 2 1, 3) := by decide +kernel
theorem dX9_customOf_49 : decode cX9_customOf 49 = .ok (.goto (-47), 3) := by decide +kernel
theorem dX9_customOf_52 : decode cX9_customOf 52 = .ok (.iconst 0, 1) := by decide +kernel
theorem dX9_customOf_53 : decode cX9_customOf 53 = .ok (.ireturn, 1) := by decide +kernel
theorem dX9_isRipe_0 : decode cX9_isRipe 0 = .ok (.aload_n 0, 1) := by decide +kernel
theorem dX9_isRipe_1 : decode cX9_isRipe 1 = .ok (.getfield 7, 3) := by decide +kernel
theorem dX9_isRipe_4 : decode cX9_isRipe 4 = .ok (.bipush 50, 2) := by decide +kernel
theorem dX9_isRipe_6 : decode cX9_isRipe 6 = .ok (.aload_n 0, 1) := by decide +kernel
theorem dX9_isRipe_7 : decode cX9_isRipe 7 = .ok (.iload_n 1, 1) := by decide +kernel
theorem dX9_isRipe_8 : decode cX9_isRipe 8 = .ok (.iconst 2, 1) := by decide +kernel
theorem dX9_isRipe_9 : decode cX9_isRipe 9 = .ok (.invokevirtual 130, 3) := by decide +kernel
theorem dX9_isRipe_12 : decode cX9_isRipe 12 = .ok (.iadd, 1) := by decide +kernel
theorem dX9_isRipe_13 : decode cX9_isRipe 13 = .ok (.iaload, 1) := by decide +kernel
theorem dX9_isRipe_14 : decode cX9_isRipe 14 = .ok (.istore_n 2, 1) := by decide +kernel
theorem dX9_isRipe_15 : decode cX9_isRipe 15 = .ok (.bipush 8, 2) := by decide +kernel
theorem dX9_isRipe_17 : decode cX9_isRipe 17 = .ok (.bipush 10, 2) := by decide +kernel
theorem dX9_isRipe_19 : decode cX9_isRipe 19 = .ok (.iload_n 2, 1) := by decide +kernel
theorem dX9_isRipe_20 : decode cX9_isRipe 20 = .ok (.isub, 1) := by decide +kernel
theorem dX9_isRipe_21 : decode cX9_isRipe 21 = .ok (.imul, 1) := by decide +kernel
theorem dX9_isRipe_22 : decode cX9_isRipe 22 = .ok (.bipush 20, 2) := by decide +kernel
theorem dX9_isRipe_24 : decode cX9_isRipe 24 = .ok (.iadd, 1) := by decide +kernel
theorem dX9_isRipe_25 : decode cX9_isRipe 25 = .ok (.istore_n 3, 1) := by decide +kernel
theorem dX9_isRipe_26 : decode cX9_isRipe 26 = .ok (.aload_n 0, 1) := by decide +kernel
theorem dX9_isRipe_27 : decode cX9_isRipe 27 = .ok (.iload_n 1, 1) := by decide +kernel
theorem dX9_isRipe_28 : decode cX9_isRipe 28 = .ok (.bipush 6, 2) := by decide +kernel
theorem dX9_isRipe_30 : decode cX9_isRipe 30 = .ok (.invokevirtual 130, 3) := by decide +kernel
theorem dX9_isRipe_33 : decode cX9_isRipe 33 = .ok (.iload_n 3, 1) := by decide +kernel
theorem dX9_isRipe_34 : decode cX9_isRipe 34 = .ok (.iload_n 3, 1) := by decide +kernel
theorem dX9_isRipe_35 : decode cX9_isRipe 35 = .ok (.bipush 6, 2) := by decide +kernel
theorem dX9_isRipe_37 : decode cX9_isRipe 37 = .ok (.iload_n 2, 1) := by decide +kernel
theorem dX9_isRipe_38 : decode cX9_isRipe 38 = .ok (.imul, 1) := by decide +kernel
theorem dX9_isRipe_39 : decode cX9_isRipe 39 = .ok (.iadd, 1) := by decide +kernel
theorem dX9_isRipe_40 : decode cX9_isRipe 40 = .ok (.invokestatic 103, 3) := by decide +kernel
theorem dX9_isRipe_43 : decode cX9_isRipe 43 = .ok (.ireturn, 1) := by decide +kernel
theorem dX9_gives_0 : decode cX9_gives 0 = .ok (.aload_n 0, 1) := by decide +kernel
theorem dX9_gives_1 : decode cX9_gives 1 = .ok (.iload_n 1, 1) := by decide +kernel
theorem dX9_gives_2 : decode cX9_gives 2 = .ok (.iconst 0, 1) := by decide +kernel
theorem dX9_gives_3 : decode cX9_gives 3 = .ok (.invokevirtual 130, 3) := by decide +kernel
theorem dX9_gives_6 : decode cX9_gives 6 = .ok (.istore_n 2, 1) := by decide +kernel
theorem dX9_gives_7 : decode cX9_gives 7 = .ok (.aload_n 0, 1) := by decide +kernel
theorem dX9_gives_8 : decode cX9_gives 8 = .ok (.getfield 7, 3) := by decide +kernel
theorem dX9_gives_11 : decode cX9_gives 11 = .ok (.bipush 40, 2) := by decide +kernel
theorem dX9_gives_13 : decode cX9_gives 13 = .ok (.iconst 2, 1) := by decide +kernel
theorem dX9_gives_14 : decode cX9_gives 14 = .ok (.aload_n 0, 1) := by decide +kernel
theorem dX9_gives_15 : decode cX9_gives 15 = .ok (.iload_n 1, 1) := by decide +kernel
theorem dX9_gives_16 : decode cX9_gives 16 = .ok (.iconst 1, 1) := by decide +kernel
theorem dX9_gives_17 : decode cX9_gives 17 = .ok (.invokevirtual 130, 3) := by decide +kernel
theorem dX9_gives_20 : decode cX9_gives 20 = .ok (.imul, 1) := by decide +kernel
theorem dX9_gives_21 : decode cX9_gives 21 = .ok (.iadd, 1) := by decide +kernel
theorem dX9_gives_22 : decode cX9_gives 22 = .ok (.iaload, 1) := by decide +kernel
theorem dX9_gives_23 : decode cX9_gives 23 = .ok (.istore_n 3, 1) := by decide +kernel
theorem dX9_gives_24 : decode cX9_gives 24 = .ok (.aload_n 0, 1) := by decide +kernel
theorem dX9_gives_25 : decode cX9_gives 25 = .ok (.iload_n 1, 1) := by decide +kernel
theorem dX9_gives_26 : decode cX9_gives 26 = .ok (.iconst 5, 1) := by decide +kernel
theorem dX9_gives_27 : decode cX9_gives 27 = .ok (.invokevirtual 130, 3) := by decide +kernel
theorem dX9_gives_30 : decode cX9_gives 30 = .ok (.ifCond .ne 30, 3) := by decide +kernel
theorem dX9_gives_33 : decode cX9_gives 33 = .ok (.aload_n 0, 1) := by decide +kernel
theorem dX9_gives_34 : decode cX9_gives 34 = .ok (.iload_n 2, 1) := by decide +kernel
theorem dX9_gives_35 : decode cX9_gives 35 = .ok (.iconst 0, 1) := by decide +kernel
theorem dX9_gives_36 : decode cX9_gives 36 = .ok (.aload_n 0, 1) := by decide +kernel
theorem dX9_gives_37 : decode cX9_gives 37 = .ok (.iload_n 1, 1) := by decide +kernel
theorem dX9_gives_38 : decode cX9_gives 38 = .ok (.invokevirtual 184, 3) := by decide +kernel
theorem dX9_gives_41 : decode cX9_gives 41 = .ok (.ifCond .eq 7, 3) := by decide +kernel
theorem dX9_gives_44 : decode cX9_gives 44 = .ok (.iload_n 3, 1) := by decide +kernel
theorem dX9_gives_45 : decode cX9_gives 45 = .ok (.goto 6, 3) := by decide +kernel
theorem dX9_gives_48 : decode cX9_gives 48 = .ok (.iload_n 3, 1) := by decide +kernel
theorem dX9_gives_49 : decode cX9_gives 49 = .ok (.iconst 2, 1) := by decide +kernel
theorem dX9_gives_50 : decode cX9_gives 50 = .ok (.idiv, 1) := by decide +kernel
theorem dX9_gives_51 : decode cX9_gives 51 = .ok (.invokevirtual 169, 3) := by decide +kernel
theorem dX9_gives_54 : decode cX9_gives 54 = .ok (.aload_n 0, 1) := by decide +kernel
theorem dX9_gives_55 : decode cX9_gives 55 = .ok (.iload_n 1, 1) := by decide +kernel
theorem dX9_gives_56 : decode cX9_gives 56 = .ok (.invokevirtual 184, 3) := by decide +kernel
theorem dX9_gives_59 : decode cX9_gives 59 = .ok (.ireturn, 1) := by decide +kernel
theorem dX9_gives_60 : decode cX9_gives 60 = .ok (.iload_n 3, 1) := by decide +kernel
theorem dX9_gives_61 : decode cX9_gives 61 = .ok (.aload_n 0, 1) := by decide +kernel
theorem dX9_gives_62 : decode cX9_gives 62 = .ok (.iload_n 1, 1) := by decide +kernel
theorem dX9_gives_63 : decode cX9_gives 63 = .ok (.invokevirtual 187, 3) := by decide +kernel
theorem dX9_gives_66 : decode cX9_gives 66 = .ok (.imul, 1) := by decide +kernel
theorem dX9_gives_67 : decode cX9_gives 67 = .ok (.bipush 100, 2) := by decide +kernel
theorem dX9_gives_69 : decode cX9_gives 69 = .ok (.idiv, 1) := by decide +kernel
theorem dX9_gives_70 : decode cX9_gives 70 = .ok (.aload_n 0, 1) := by decide +kernel
theorem dX9_gives_71 : decode cX9_gives 71 = .ok (.getfield 7, 3) := by decide +kernel
theorem dX9_gives_74 : decode cX9_gives 74 = .ok (.iconst 0, 1) := by decide +kernel
theorem dX9_gives_75 : decode cX9_gives 75 = .ok (.iaload, 1) := by decide +kernel
theorem dX9_gives_76 : decode cX9_gives 76 = .ok (.idiv, 1) := by decide +kernel
theorem dX9_gives_77 : decode cX9_gives 77 = .ok (.istore 4, 2) := by decide +kernel
theorem dX9_gives_79 : decode cX9_gives 79 = .ok (.iconst 0, 1) := by decide +kernel
theorem dX9_gives_80 : decode cX9_gives 80 = .ok (.istore 5, 2) := by decide +kernel
theorem dX9_gives_82 : decode cX9_gives 82 = .ok (.iload 5, 2) := by decide +kernel
theorem dX9_gives_84 : decode cX9_gives 84 = .ok (.aload_n 0, 1) := by decide +kernel
theorem dX9_gives_85 : decode cX9_gives 85 = .ok (.getfield 7, 3) := by decide +kernel
theorem dX9_gives_88 : decode cX9_gives 88 = .ok (.iconst 0, 1) := by decide +kernel
theorem dX9_gives_89 : decode cX9_gives 89 = .ok (.iaload, 1) := by decide +kernel
theorem dX9_gives_90 : decode cX9_gives 90 = .ok (.if_icmp .ge 19, 3) := by decide +kernel
theorem dX9_gives_93 : decode cX9_gives 93 = .ok (.aload_n 0, 1) := by decide +kernel
theorem dX9_gives_94 : decode cX9_gives 94 = .ok (.iload 5, 2) := by decide +kernel
theorem dX9_gives_96 : decode cX9_gives 96 = .ok (.iconst 0, 1) := by decide +kernel
theorem dX9_gives_97 : decode cX9_gives 97 = .ok (.iload 4, 2) := by decide +kernel
theorem dX9_gives_99 : decode cX9_gives 99 = .ok (.ineg, 1) := by decide +kernel
theorem dX9_gives_100 : decode cX9_gives 100 = .ok (.invokevirtual 169, 3) := by decide +kernel
theorem dX9_gives_103 : decode cX9_gives 103 = .ok (.iinc 5 1, 3) := by decide +kernel
theorem dX9_gives_106 : decode cX9_gives 106 = .ok (.goto (-24), 3) := by decide +kernel
theorem dX9_gives_109 : decode cX9_gives 109 = .ok (.aload_n 0, 1) := by decide +kernel
theorem dX9_gives_110 : decode cX9_gives 110 = .ok (.iload_n 2, 1) := by decide +kernel
theorem dX9_gives_111 : decode cX9_gives 111 = .ok (.iconst 0, 1) := by decide +kernel
theorem dX9_gives_112 : decode cX9_gives 112 = .ok (.iload 4, 2) := by decide +kernel
theorem dX9_gives_114 : decode cX9_gives 114 = .ok (.aload_n 0, 1) := by decide +kernel
theorem dX9_gives_115 : decode cX9_gives 115 = .ok (.getfield 7, 3) := by decide +kernel
theorem dX9_gives_118 : decode cX9_gives 118 = .ok (.iconst 0, 1) := by decide +kernel
theorem dX9_gives_119 : decode cX9_gives 119 = .ok (.iaload, 1) := by decide +kernel
theorem dX9_gives_120 : decode cX9_gives 120 = .ok (.imul, 1) := by decide +kernel
theorem dX9_gives_121 : decode cX9_gives 121 = .ok (.invokevirtual 169, 3) := by decide +kernel
theorem dX9_gives_124 : decode cX9_gives 124 = .ok (.aload_n 0, 1) := by decide +kernel
theorem dX9_gives_125 : decode cX9_gives 125 = .ok (.iload_n 2, 1) := by decide +kernel
theorem dX9_gives_126 : decode cX9_gives 126 = .ok (.iconst 3, 1) := by decide +kernel
theorem dX9_gives_127 : decode cX9_gives 127 = .ok (.iconst 1, 1) := by decide +kernel
theorem dX9_gives_128 : decode cX9_gives 128 = .ok (.invokevirtual 169, 3) := by decide +kernel
theorem dX9_gives_131 : decode cX9_gives 131 = .ok (.iconst 0, 1) := by decide +kernel
theorem dX9_gives_132 : decode cX9_gives 132 = .ok (.ireturn, 1) := by decide +kernel
theorem dX9_open_0 : decode cX9_open 0 = .ok (.aload_n 0, 1) := by decide +kernel
theorem dX9_open_1 : decode cX9_open 1 = .ok (.invokevirtual 160, 3) := by decide +kernel
theorem dX9_open_4 : decode cX9_open 4 = .ok (.sipush 200, 3) := by decide +kernel
theorem dX9_open_7 : decode cX9_open 7 = .ok (.if_icmp .gt 10, 3) := by decide +kernel
theorem dX9_open_10 : decode cX9_open 10 = .ok (.aload_n 0, 1) := by decide +kernel
theorem dX9_open_11 : decode cX9_open 11 = .ok (.invokevirtual 137, 3) := by decide +kernel
theorem dX9_open_14 : decode cX9_open 14 = .ok (.ifCond .ne 5, 3) := by decide +kernel
theorem dX9_open_17 : decode cX9_open 17 = .ok (.iconst (-1), 1) := by decide +kernel
theorem dX9_open_18 : decode cX9_open 18 = .ok (.ireturn, 1) := by decide +kernel
theorem dX9_open_19 : decode cX9_open 19 = .ok (.iconst 0, 1) := by decide +kernel
theorem dX9_open_20 : decode cX9_open 20 = .ok (.istore_n 1, 1) := by decide +kernel
theorem dX9_open_21 : decode cX9_open 21 = .ok (.iconst 0, 1) := by decide +kernel
theorem dX9_open_22 : decode cX9_open 22 = .ok (.istore_n 2, 1) := by decide +kernel
theorem dX9_open_23 : decode cX9_open 23 = .ok (.iload_n 2, 1) := by decide +kernel
theorem dX9_open_24 : decode cX9_open 24 = .ok (.aload_n 0, 1) := by decide +kernel
theorem dX9_open_25 : decode cX9_open 25 = .ok (.getfield 7, 3) := by decide +kernel
theorem dX9_open_28 : decode cX9_open 28 = .ok (.iconst 1, 1) := by decide +kernel
theorem dX9_open_29 : decode cX9_open 29 = .ok (.iaload, 1) := by decide +kernel
theorem dX9_open_30 : decode cX9_open 30 = .ok (.if_icmp .ge 28, 3) := by decide +kernel
theorem dX9_open_33 : decode cX9_open 33 = .ok (.aload_n 0, 1) := by decide +kernel
theorem dX9_open_34 : decode cX9_open 34 = .ok (.iload_n 2, 1) := by decide +kernel
theorem dX9_open_35 : decode cX9_open 35 = .ok (.invokevirtual 134, 3) := by decide +kernel
theorem dX9_open_38 : decode cX9_open 38 = .ok (.ifCond .eq 14, 3) := by decide +kernel
theorem dX9_open_41 : decode cX9_open 41 = .ok (.aload_n 0, 1) := by decide +kernel
theorem dX9_open_42 : decode cX9_open 42 = .ok (.iload_n 2, 1) := by decide +kernel
theorem dX9_open_43 : decode cX9_open 43 = .ok (.invokevirtual 190, 3) := by decide +kernel
theorem dX9_open_46 : decode cX9_open 46 = .ok (.ifCond .eq 6, 3) := by decide +kernel
theorem dX9_open_49 : decode cX9_open 49 = .ok (.iinc 1 1, 3) := by decide +kernel
theorem dX9_open_52 : decode cX9_open 52 = .ok (.iinc 2 1, 3) := by decide +kernel
theorem dX9_open_55 : decode cX9_open 55 = .ok (.goto (-32), 3) := by decide +kernel
theorem dX9_open_58 : decode cX9_open 58 = .ok (.iconst 0, 1) := by decide +kernel
theorem dX9_open_59 : decode cX9_open 59 = .ok (.istore_n 2, 1) := by decide +kernel
theorem dX9_open_60 : decode cX9_open 60 = .ok (.iconst 0, 1) := by decide +kernel
theorem dX9_open_61 : decode cX9_open 61 = .ok (.istore_n 3, 1) := by decide +kernel
theorem dX9_open_62 : decode cX9_open 62 = .ok (.iload_n 3, 1) := by decide +kernel
theorem dX9_open_63 : decode cX9_open 63 = .ok (.aload_n 0, 1) := by decide +kernel
theorem dX9_open_64 : decode cX9_open 64 = .ok (.getfield 7, 3) := by decide +kernel
theorem dX9_open_67 : decode cX9_open 67 = .ok (.iconst 1, 1) := by decide +kernel
theorem dX9_open_68 : decode cX9_open 68 = .ok (.iaload, 1) := by decide +kernel
theorem dX9_open_69 : decode cX9_open 69 = .ok (.if_icmp .ge 53, 3) := by decide +kernel
theorem dX9_open_72 : decode cX9_open 72 = .ok (.aload_n 0, 1) := by decide +kernel
theorem dX9_open_73 : decode cX9_open 73 = .ok (.iload_n 3, 1) := by decide +kernel
theorem dX9_open_74 : decode cX9_open 74 = .ok (.invokevirtual 134, 3) := by decide +kernel
theorem dX9_open_77 : decode cX9_open 77 = .ok (.ifCond .eq 6, 3) := by decide +kernel
theorem dX9_open_80 : decode cX9_open 80 = .ok (.goto 36, 3) := by decide +kernel
theorem dX9_open_83 : decode cX9_open 83 = .ok (.iconst 0, 1) := by decide +kernel
theorem dX9_open_84 : decode cX9_open 84 = .ok (.istore 4, 2) := by decide +kernel
theorem dX9_open_86 : decode cX9_open 86 = .ok (.iload 4, 2) := by decide +kernel
theorem dX9_open_88 : decode cX9_open 88 = .ok (.bipush 8, 2) := by decide +kernel
theorem dX9_open_90 : decode cX9_open 90 = .ok (.if_icmp .ge 23, 3) := by decide +kernel
theorem dX9_open_93 : decode cX9_open 93 = .ok (.aload_n 0, 1) := by decide +kernel
theorem dX9_open_94 : decode cX9_open 94 = .ok (.iload_n 2, 1) := by decide +kernel
theorem dX9_open_95 : decode cX9_open 95 = .ok (.iload 4, 2) := by decide +kernel
theorem dX9_open_97 : decode cX9_open 97 = .ok (.aload_n 0, 1) := by decide +kernel
theorem dX9_open_98 : decode cX9_open 98 = .ok (.iload_n 3, 1) := by decide +kernel
theorem dX9_open_99 : decode cX9_open 99 = .ok (.iload 4, 2) := by decide +kernel
theorem dX9_open_101 : decode cX9_open 101 = .ok (.invokevirtual 130, 3) := by decide +kernel
theorem dX9_open_104 : decode cX9_open 104 = .ok (.invokevirtual 147, 3) := by decide +kernel
theorem dX9_open_107 : decode cX9_open 107 = .ok (.iinc 4 1, 3) := by decide +kernel
theorem dX9_open_110 : decode cX9_open 110 = .ok (.goto (-24), 3) := by decide +kernel
theorem dX9_open_113 : decode cX9_open 113 = .ok (.iinc 2 1, 3) := by decide +kernel
theorem dX9_open_116 : decode cX9_open 116 = .ok (.iinc 3 1, 3) := by decide +kernel
theorem dX9_open_119 : decode cX9_open 119 = .ok (.goto (-57), 3) := by decide +kernel
theorem dX9_open_122 : decode cX9_open 122 = .ok (.aload_n 0, 1) := by decide +kernel
theorem dX9_open_123 : decode cX9_open 123 = .ok (.getfield 7, 3) := by decide +kernel
theorem dX9_open_126 : decode cX9_open 126 = .ok (.iconst 1, 1) := by decide +kernel
theorem dX9_open_127 : decode cX9_open 127 = .ok (.iload_n 2, 1) := by decide +kernel
theorem dX9_open_128 : decode cX9_open 128 = .ok (.iastore, 1) := by decide +kernel
theorem dX9_open_129 : decode cX9_open 129 = .ok (.aload_n 0, 1) := by decide +kernel
theorem dX9_open_130 : decode cX9_open 130 = .ok (.getfield 7, 3) := by decide +kernel
theorem dX9_open_133 : decode cX9_open 133 = .ok (.iconst 5, 1) := by decide +kernel
theorem dX9_open_134 : decode cX9_open 134 = .ok (.dup2, 1) := by decide +kernel
theorem dX9_open_135 : decode cX9_open 135 = .ok (.iaload, 1) := by decide +kernel
theorem dX9_open_136 : decode cX9_open 136 = .ok (.iconst 1, 1) := by decide +kernel
theorem dX9_open_137 : decode cX9_open 137 = .ok (.iadd, 1) := by decide +kernel
theorem dX9_open_138 : decode cX9_open 138 = .ok (.iastore, 1) := by decide +kernel
theorem dX9_open_139 : decode cX9_open 139 = .ok (.iload_n 1, 1) := by decide +kernel
theorem dX9_open_140 : decode cX9_open 140 = .ok (.ireturn, 1) := by decide +kernel
theorem dX9_about_0 : decode cX9_about 0 = .ok (.iload_n 1, 1) := by decide +kernel
theorem dX9_about_1 : decode cX9_about 1 = .ok (.iconst 0, 1) := by decide +kernel
theorem dX9_about_2 : decode cX9_about 2 = .ok (.aload_n 0, 1) := by decide +kernel
theorem dX9_about_3 : decode cX9_about 3 = .ok (.getfield 7, 3) := by decide +kernel
theorem dX9_about_6 : decode cX9_about 6 = .ok (.iconst 1, 1) := by decide +kernel
theorem dX9_about_7 : decode cX9_about 7 = .ok (.iaload, 1) := by decide +kernel
theorem dX9_about_8 : decode cX9_about 8 = .ok (.iconst 1, 1) := by decide +kernel
theorem dX9_about_9 : decode cX9_about 9 = .ok (.isub, 1) := by decide +kernel
theorem dX9_about_10 : decode cX9_about 10 = .ok (.invokestatic 103, 3) := by decide +kernel
theorem dX9_about_13 : decode cX9_about 13 = .ok (.ifCond .ne 5, 3) := by decide +kernel
theorem dX9_about_16 : decode cX9_about 16 = .ok (.iconst (-1), 1) := by decide +kernel
theorem dX9_about_17 : decode cX9_about 17 = .ok (.ireturn, 1) := by decide +kernel
theorem dX9_about_18 : decode cX9_about 18 = .ok (.iload_n 2, 1) := by decide +kernel
theorem dX9_about_19 : decode cX9_about 19 = .ok (.tableswitch 119 0 8 #[49, 49, 49, 49, 56, 77, 98, 105, 113], 49) := by decide +kernel
theorem dX9_about_68 : decode cX9_about 68 = .ok (.aload_n 0, 1) := by decide +kernel
theorem dX9_about_69 : decode cX9_about 69 = .ok (.iload_n 1, 1) := by decide +kernel
theorem dX9_about_70 : decode cX9_about 70 = .ok (.iload_n 2, 1) := by decide +kernel
theorem dX9_about_71 : decode cX9_about 71 = .ok (.invokevirtual 130, 3) := by decide +kernel
theorem dX9_about_74 : decode cX9_about 74 = .ok (.ireturn, 1) := by decide +kernel
theorem dX9_about_75 : decode cX9_about 75 = .ok (.aload_n 0, 1) := by decide +kernel
theorem dX9_about_76 : decode cX9_about 76 = .ok (.iload_n 1, 1) := by decide +kernel
theorem dX9_about_77 : decode cX9_about 77 = .ok (.invokevirtual 134, 3) := by decide +kernel
theorem dX9_about_80 : decode cX9_about 80 = .ok (.ifCond .eq 14, 3) := by decide +kernel
theorem dX9_about_83 : decode cX9_about 83 = .ok (.aload_n 0, 1) := by decide +kernel
theorem dX9_about_84 : decode cX9_about 84 = .ok (.iload_n 1, 1) := by decide +kernel
theorem dX9_about_85 : decode cX9_about 85 = .ok (.iconst 4, 1) := by decide +kernel
theorem dX9_about_86 : decode cX9_about 86 = .ok (.invokevirtual 130, 3) := by decide +kernel
theorem dX9_about_89 : decode cX9_about 89 = .ok (.iconst 4, 1) := by decide +kernel
theorem dX9_about_90 : decode cX9_about 90 = .ok (.idiv, 1) := by decide +kernel
theorem dX9_about_91 : decode cX9_about 91 = .ok (.goto 4, 3) := by decide +kernel
theorem dX9_about_94 : decode cX9_about 94 = .ok (.iconst (-1), 1) := by decide +kernel
theorem dX9_about_95 : decode cX9_about 95 = .ok (.ireturn, 1) := by decide +kernel
theorem dX9_about_96 : decode cX9_about 96 = .ok (.aload_n 0, 1) := by decide +kernel
theorem dX9_about_97 : decode cX9_about 97 = .ok (.iload_n 1, 1) := by decide +kernel
theorem dX9_about_98 : decode cX9_about 98 = .ok (.invokevirtual 134, 3) := by decide +kernel
theorem dX9_about_101 : decode cX9_about 101 = .ok (.ifCond .eq 14, 3) := by decide +kernel
theorem dX9_about_104 : decode cX9_about 104 = .ok (.aload_n 0, 1) := by decide +kernel
theorem dX9_about_105 : decode cX9_about 105 = .ok (.iload_n 1, 1) := by decide +kernel
theorem dX9_about_106 : decode cX9_about 106 = .ok (.iconst 4, 1) := by decide +kernel
theorem dX9_about_107 : decode cX9_about 107 = .ok (.invokevirtual 130, 3) := by decide +kernel
theorem dX9_about_110 : decode cX9_about 110 = .ok (.iconst 4, 1) := by decide +kernel
theorem dX9_about_111 : decode cX9_about 111 = .ok (.irem, 1) := by decide +kernel
theorem dX9_about_112 : decode cX9_about 112 = .ok (.goto 4, 3) := by decide +kernel
theorem dX9_about_115 : decode cX9_about 115 = .ok (.iconst (-1), 1) := by decide +kernel
theorem dX9_about_116 : decode cX9_about 116 = .ok (.ireturn, 1) := by decide +kernel
theorem dX9_about_117 : decode cX9_about 117 = .ok (.aload_n 0, 1) := by decide +kernel
theorem dX9_about_118 : decode cX9_about 118 = .ok (.iload_n 1, 1) := by decide +kernel
theorem dX9_about_119 : decode cX9_about 119 = .ok (.iconst 5, 1) := by decide +kernel
theorem dX9_about_120 : decode cX9_about 120 = .ok (.invokevirtual 130, 3) := by decide +kernel
theorem dX9_about_123 : decode cX9_about 123 = .ok (.ireturn, 1) := by decide +kernel
theorem dX9_about_124 : decode cX9_about 124 = .ok (.aload_n 0, 1) := by decide +kernel
theorem dX9_about_125 : decode cX9_about 125 = .ok (.iload_n 1, 1) := by decide +kernel
theorem dX9_about_126 : decode cX9_about 126 = .ok (.bipush 6, 2) := by decide +kernel
theorem dX9_about_128 : decode cX9_about 128 = .ok (.invokevirtual 130, 3) := by decide +kernel
theorem dX9_about_131 : decode cX9_about 131 = .ok (.ireturn, 1) := by decide +kernel
theorem dX9_about_132 : decode cX9_about 132 = .ok (.aload_n 0, 1) := by decide +kernel
theorem dX9_about_133 : decode cX9_about 133 = .ok (.iload_n 1, 1) := by decide +kernel
theorem dX9_about_134 : decode cX9_about 134 = .ok (.invokevirtual 187, 3) := by decide +kernel
theorem dX9_about_137 : decode cX9_about 137 = .ok (.ireturn, 1) := by decide +kernel
theorem dX9_about_138 : decode cX9_about 138 = .ok (.iconst (-1), 1) := by decide +kernel
theorem dX9_about_139 : decode cX9_about 139 = .ok (.ireturn, 1) := by decide +kernel
theorem dX9_at_0 : decode cX9_at 0 = .ok (.aload_n 0, 1) := by decide +kernel
theorem dX9_at_1 : decode cX9_at 1 = .ok (.iload_n 1, 1) := by decide +kernel
theorem dX9_at_2 : decode cX9_at 2 = .ok (.iload_n 2, 1) := by decide +kernel
theorem dX9_at_3 : decode cX9_at 3 = .ok (.invokevirtual 140, 3) := by decide +kernel
theorem dX9_at_6 : decode cX9_at 6 = .ok (.ifCond .eq 15, 3) := by decide +kernel
theorem dX9_at_9 : decode cX9_at 9 = .ok (.aload_n 0, 1) := by decide +kernel
theorem dX9_at_10 : decode cX9_at 10 = .ok (.iconst 4, 1) := by decide +kernel
theorem dX9_at_11 : decode cX9_at 11 = .ok (.iload_n 1, 1) := by decide +kernel
theorem dX9_at_12 : decode cX9_at 12 = .ok (.imul, 1) := by decide +kernel
theorem dX9_at_13 : decode cX9_at 13 = .ok (.iload_n 2, 1) := by decide +kernel
theorem dX9_at_14 : decode cX9_at 14 = .ok (.iadd, 1) := by decide +kernel
theorem dX9_at_15 : decode cX9_at 15 = .ok (.invokevirtual 151, 3) := by decide +kernel
theorem dX9_at_18 : decode cX9_at 18 = .ok (.goto 4, 3) := by decide +kernel
theorem dX9_at_21 : decode cX9_at 21 = .ok (.iconst (-1), 1) := by decide +kernel
theorem dX9_at_22 : decode cX9_at 22 = .ok (.ireturn, 1) := by decide +kernel
theorem dX9_order_0 : decode cX9_order 0 = .ok (.aload_n 0, 1) := by decide +kernel
theorem dX9_order_1 : decode cX9_order 1 = .ok (.iload_n 1, 1) := by decide +kernel
theorem dX9_order_2 : decode cX9_order 2 = .ok (.invokevirtual 144, 3) := by decide +kernel
theorem dX9_order_5 : decode cX9_order 5 = .ok (.ifCond .eq 47, 3) := by decide +kernel
theorem dX9_order_8 : decode cX9_order 8 = .ok (.aload_n 0, 1) := by decide +kernel
theorem dX9_order_9 : decode cX9_order 9 = .ok (.iload_n 1, 1) := by decide +kernel
theorem dX9_order_10 : decode cX9_order 10 = .ok (.iconst 4, 1) := by decide +kernel
theorem dX9_order_11 : decode cX9_order 11 = .ok (.invokevirtual 157, 3) := by decide +kernel
theorem dX9_order_14 : decode cX9_order 14 = .ok (.bipush 8, 2) := by decide +kernel
theorem dX9_order_16 : decode cX9_order 16 = .ok (.if_icmp .eq 36, 3) := by decide +kernel
theorem dX9_order_19 : decode cX9_order 19 = .ok (.iload_n 2, 1) := by decide +kernel
theorem dX9_order_20 : decode cX9_order 20 = .ok (.iconst 1, 1) := by decide +kernel
theorem dX9_order_21 : decode cX9_order 21 = .ok (.bipush 30, 2) := by decide +kernel
theorem dX9_order_23 : decode cX9_order 23 = .ok (.invokestatic 103, 3) := by decide +kernel
theorem dX9_order_26 : decode cX9_order 26 = .ok (.ifCond .eq 26, 3) := by decide +kernel
theorem dX9_order_29 : decode cX9_order 29 = .ok (.iload_n 3, 1) := by decide +kernel
theorem dX9_order_30 : decode cX9_order 30 = .ok (.iconst 1, 1) := by decide +kernel
theorem dX9_order_31 : decode cX9_order 31 = .ok (.sipush 200, 3) := by decide +kernel
theorem dX9_order_34 : decode cX9_order 34 = .ok (.invokestatic 103, 3) := by decide +kernel
theorem dX9_order_37 : decode cX9_order 37 = .ok (.ifCond .eq 15, 3) := by decide +kernel
theorem dX9_order_40 : decode cX9_order 40 = .ok (.iload 4, 2) := by decide +kernel
theorem dX9_order_42 : decode cX9_order 42 = .ok (.iconst 1, 1) := by decide +kernel
theorem dX9_order_43 : decode cX9_order 43 = .ok (.sipush 999, 3) := by decide +kernel
theorem dX9_order_46 : decode cX9_order 46 = .ok (.invokestatic 103, 3) := by decide +kernel
theorem dX9_order_49 : decode cX9_order 49 = .ok (.ifCond .ne 5, 3) := by decide +kernel
theorem dX9_order_52 : decode cX9_order 52 = .ok (.iconst (-1), 1) := by decide +kernel
theorem dX9_order_53 : decode cX9_order 53 = .ok (.ireturn, 1) := by decide +kernel
theorem dX9_order_54 : decode cX9_order 54 = .ok (.aload_n 0, 1) := by decide +kernel
theorem dX9_order_55 : decode cX9_order 55 = .ok (.iload_n 1, 1) := by decide +kernel
theorem dX9_order_56 : decode cX9_order 56 = .ok (.iconst 4, 1) := by decide +kernel
theorem dX9_order_57 : decode cX9_order 57 = .ok (.invokevirtual 157, 3) := by decide +kernel
theorem dX9_order_60 : decode cX9_order 60 = .ok (.istore 5, 2) := by decide +kernel
theorem dX9_order_62 : decode cX9_order 62 = .ok (.bipush 60, 2) := by decide +kernel
theorem dX9_order_64 : decode cX9_order 64 = .ok (.bipush 30, 2) := by decide +kernel
theorem dX9_order_66 : decode cX9_order 66 = .ok (.iload_n 1, 1) := by decide +kernel
theorem dX9_order_67 : decode cX9_order 67 = .ok (.imul, 1) := by decide +kernel
theorem dX9_order_68 : decode cX9_order 68 = .ok (.iadd, 1) := by decide +kernel
theorem dX9_order_69 : decode cX9_order 69 = .ok (.iconst 5, 1) := by decide +kernel
theorem dX9_order_70 : decode cX9_order 70 = .ok (.iadd, 1) := by decide +kernel
theorem dX9_order_71 : decode cX9_order 71 = .ok (.iconst 3, 1) := by decide +kernel
theorem dX9_order_72 : decode cX9_order 72 = .ok (.iload 5, 2) := by decide +kernel
theorem dX9_order_74 : decode cX9_order 74 = .ok (.imul, 1) := by decide +kernel
theorem dX9_order_75 : decode cX9_order 75 = .ok (.iadd, 1) := by decide +kernel
theorem dX9_order_76 : decode cX9_order 76 = .ok (.istore 6, 2) := by decide +kernel
theorem dX9_order_78 : decode cX9_order 78 = .ok (.aload_n 0, 1) := by decide +kernel
theorem dX9_order_79 : decode cX9_order 79 = .ok (.getfield 7, 3) := by decide +kernel
theorem dX9_order_82 : decode cX9_order 82 = .ok (.iload 6, 2) := by decide +kernel
theorem dX9_order_84 : decode cX9_order 84 = .ok (.iload_n 2, 1) := by decide +kernel
theorem dX9_order_85 : decode cX9_order 85 = .ok (.iastore, 1) := by decide +kernel
theorem dX9_order_86 : decode cX9_order 86 = .ok (.aload_n 0, 1) := by decide +kernel
theorem dX9_order_87 : decode cX9_order 87 = .ok (.getfield 7, 3) := by decide +kernel
theorem dX9_order_90 : decode cX9_order 90 = .ok (.iload 6, 2) := by decide +kernel
theorem dX9_order_92 : decode cX9_order 92 = .ok (.iconst 1, 1) := by decide +kernel
theorem dX9_order_93 : decode cX9_order 93 = .ok (.iadd, 1) := by decide +kernel
theorem dX9_order_94 : decode cX9_order 94 = .ok (.iload_n 3, 1) := by decide +kernel
theorem dX9_order_95 : decode cX9_order 95 = .ok (.iastore, 1) := by decide +kernel
theorem dX9_order_96 : decode cX9_order 96 = .ok (.aload_n 0, 1) := by decide +kernel
theorem dX9_order_97 : decode cX9_order 97 = .ok (.getfield 7, 3) := by decide +kernel
theorem dX9_order_100 : decode cX9_order 100 = .ok (.iload 6, 2) := by decide +kernel
theorem dX9_order_102 : decode cX9_order 102 = .ok (.iconst 2, 1) := by decide +kernel
theorem dX9_order_103 : decode cX9_order 103 = .ok (.iadd, 1) := by decide +kernel
theorem dX9_order_104 : decode cX9_order 104 = .ok (.iload 4, 2) := by decide +kernel
theorem dX9_order_106 : decode cX9_order 106 = .ok (.iastore, 1) := by decide +kernel
theorem dX9_order_107 : decode cX9_order 107 = .ok (.aload_n 0, 1) := by decide +kernel
theorem dX9_order_108 : decode cX9_order 108 = .ok (.iload_n 1, 1) := by decide +kernel
theorem dX9_order_109 : decode cX9_order 109 = .ok (.iconst 4, 1) := by decide +kernel
theorem dX9_order_110 : decode cX9_order 110 = .ok (.iconst 1, 1) := by decide +kernel
theorem dX9_order_111 : decode cX9_order 111 = .ok (.invokevirtual 169, 3) := by decide +kernel
theorem dX9_order_114 : decode cX9_order 114 = .ok (.iload 5, 2) := by decide +kernel
theorem dX9_order_116 : decode cX9_order 116 = .ok (.ireturn, 1) := by decide +kernel
theorem dX9_can_0 : decode cX9_can 0 = .ok (.iconst 0, 1) := by decide +kernel
theorem dX9_can_1 : decode cX9_can 1 = .ok (.istore_n 3, 1) := by decide +kernel
theorem dX9_can_2 : decode cX9_can 2 = .ok (.iload_n 3, 1) := by decide +kernel
theorem dX9_can_3 : decode cX9_can 3 = .ok (.aload_n 0, 1) := by decide +kernel
theorem dX9_can_4 : decode cX9_can 4 = .ok (.iload_n 1, 1) := by decide +kernel
theorem dX9_can_5 : decode cX9_can 5 = .ok (.iconst 4, 1) := by decide +kernel
theorem dX9_can_6 : decode cX9_can 6 = .ok (.invokevirtual 157, 3) := by decide +kernel
theorem dX9_can_9 : decode cX9_can 9 = .ok (.if_icmp .ge 108, 3) := by decide +kernel
theorem dX9_can_12 : decode cX9_can 12 = .ok (.iload_n 2, 1) := by decide +kernel
theorem dX9_can_13 : decode cX9_can 13 = .ok (.iload_n 3, 1) := by decide +kernel
theorem dX9_can_14 : decode cX9_can 14 = .ok (.ishr, 1) := by decide +kernel
theorem dX9_can_15 : decode cX9_can 15 = .ok (.iconst 1, 1) := by decide +kernel
theorem dX9_can_16 : decode cX9_can 16 = .ok (.iand, 1) := by decide +kernel
theorem dX9_can_17 : decode cX9_can 17 = .ok (.ifCond .ne 6, 3) := by decide +kernel
theorem dX9_can_20 : decode cX9_can 20 = .ok (.goto 91, 3) := by decide +kernel
theorem dX9_can_23 : decode cX9_can 23 = .ok (.aload_n 0, 1) := by decide +kernel
theorem dX9_can_24 : decode cX9_can 24 = .ok (.iload_n 1, 1) := by decide +kernel
theorem dX9_can_25 : decode cX9_can 25 = .ok (.bipush 6, 2) := by decide +kernel
theorem dX9_can_27 : decode cX9_can 27 = .ok (.iconst 3, 1) := by decide +kernel
theorem dX9_can_28 : decode cX9_can 28 = .ok (.iload_n 3, 1) := by decide +kernel
theorem dX9_can_29 : decode cX9_can 29 = .ok (.imul, 1) := by decide +kernel
theorem dX9_can_30 : decode cX9_can 30 = .ok (.iadd, 1) := by decide +kernel
theorem dX9_can_31 : decode cX9_can 31 = .ok (.invokevirtual 157, 3) := by decide +kernel
theorem dX9_can_34 : decode cX9_can 34 = .ok (.istore 4, 2) := by decide +kernel
theorem dX9_can_36 : decode cX9_can 36 = .ok (.iconst 0, 1) := by decide +kernel
theorem dX9_can_37 : decode cX9_can 37 = .ok (.istore 5, 2) := by decide +kernel
theorem dX9_can_39 : decode cX9_can 39 = .ok (.iconst 0, 1) := by decide +kernel
theorem dX9_can_40 : decode cX9_can 40 = .ok (.istore 6, 2) := by decide +kernel
theorem dX9_can_42 : decode cX9_can 42 = .ok (.iload 6, 2) := by decide +kernel
theorem dX9_can_44 : decode cX9_can 44 = .ok (.aload_n 0, 1) := by decide +kernel
theorem dX9_can_45 : decode cX9_can 45 = .ok (.iload_n 1, 1) := by decide +kernel
theorem dX9_can_46 : decode cX9_can 46 = .ok (.iconst 4, 1) := by decide +kernel
theorem dX9_can_47 : decode cX9_can 47 = .ok (.invokevirtual 157, 3) := by decide +kernel
theorem dX9_can_50 : decode cX9_can 50 = .ok (.if_icmp .ge 52, 3) := by decide +kernel
theorem dX9_can_53 : decode cX9_can 53 = .ok (.iload_n 2, 1) := by decide +kernel
theorem dX9_can_54 : decode cX9_can 54 = .ok (.iload 6, 2) := by decide +kernel
theorem dX9_can_56 : decode cX9_can 56 = .ok (.ishr, 1) := by decide +kernel
theorem dX9_can_57 : decode cX9_can 57 = .ok (.iconst 1, 1) := by decide +kernel
theorem dX9_can_58 : decode cX9_can 58 = .ok (.iand, 1) := by decide +kernel
theorem dX9_can_59 : decode cX9_can 59 = .ok (.iconst 1, 1) := by decide +kernel
theorem dX9_can_60 : decode cX9_can 60 = .ok (.if_icmp .ne 36, 3) := by decide +kernel
theorem dX9_can_63 : decode cX9_can 63 = .ok (.aload_n 0, 1) := by decide +kernel
theorem dX9_can_64 : decode cX9_can 64 = .ok (.iload_n 1, 1) := by decide +kernel
theorem dX9_can_65 : decode cX9_can 65 = .ok (.bipush 6, 2) := by decide +kernel
theorem dX9_can_67 : decode cX9_can 67 = .ok (.iconst 3, 1) := by decide +kernel
theorem dX9_can_68 : decode cX9_can 68 = .ok (.iload 6, 2) := by decide +kernel
theorem dX9_can_70 : decode cX9_can 70 = .ok (.imul, 1) := by decide +kernel
theorem dX9_can_71 : decode cX9_can 71 = .ok (.iadd, 1) := by decide +kernel
theorem dX9_can_72 : decode cX9_can 72 = .ok (.invokevirtual 157, 3) := by decide +kernel
theorem dX9_can_75 : decode cX9_can 75 = .ok (.iload 4, 2) := by decide +kernel
theorem dX9_can_77 : decode cX9_can 77 = .ok (.if_icmp .gt 19, 3) := by decide +kernel
theorem dX9_can_80 : decode cX9_can 80 = .ok (.iload 5, 2) := by decide +kernel
theorem dX9_can_82 : decode cX9_can 82 = .ok (.aload_n 0, 1) := by decide +kernel
theorem dX9_can_83 : decode cX9_can 83 = .ok (.iload_n 1, 1) := by decide +kernel
theorem dX9_can_84 : decode cX9_can 84 = .ok (.iconst 5, 1) := by decide +kernel
theorem dX9_can_85 : decode cX9_can 85 = .ok (.iconst 3, 1) := by decide +kernel
theorem dX9_can_86 : decode cX9_can 86 = .ok (.iload 6, 2) := by decide +kernel
theorem dX9_can_88 : decode cX9_can 88 = .ok (.imul, 1) := by decide +kernel
theorem dX9_can_89 : decode cX9_can 89 = .ok (.iadd, 1) := by decide +kernel
theorem dX9_can_90 : decode cX9_can 90 = .ok (.invokevirtual 157, 3) := by decide +kernel
theorem dX9_can_93 : decode cX9_can 93 = .ok (.iadd, 1) := by decide +kernel
theorem dX9_can_94 : decode cX9_can 94 = .ok (.istore 5, 2) := by decide +kernel
theorem dX9_can_96 : decode cX9_can 96 = .ok (.iinc 6 1, 3) := by decide +kernel
theorem dX9_can_99 : decode cX9_can 99 = .ok (.goto (-57), 3) := by decide +kernel
theorem dX9_can_102 : decode cX9_can 102 = .ok (.iload 5, 2) := by decide +kernel
theorem dX9_can_104 : decode cX9_can 104 = .ok (.iload 4, 2) := by decide +kernel
theorem dX9_can_106 : decode cX9_can 106 = .ok (.if_icmp .le 5, 3) := by decide +kernel
theorem dX9_can_109 : decode cX9_can 109 = .ok (.iconst 0, 1) := by decide +kernel
theorem dX9_can_110 : decode cX9_can 110 = .ok (.ireturn, 1) := by decide +kernel
theorem dX9_can_111 : decode cX9_can 111 = .ok (.iinc 3 1, 3) := by decide +kernel
theorem dX9_can_114 : decode cX9_can 114 = .ok (.goto (-112), 3) := by decide +kernel
theorem dX9_can_117 : decode cX9_can 117 = .ok (.iconst 1, 1) := by decide +kernel
theorem dX9_can_118 : decode cX9_can 118 = .ok (.ireturn, 1) := by decide +kernel
theorem dX9_inTime_0 : decode cX9_inTime 0 = .ok (.aload_n 0, 1) := by decide +kernel
theorem dX9_inTime_1 : decode cX9_inTime 1 = .ok (.iload_n 1, 1) := by decide +kernel
theorem dX9_inTime_2 : decode cX9_inTime 2 = .ok (.invokevirtual 144, 3) := by decide +kernel
theorem dX9_inTime_5 : decode cX9_inTime 5 = .ok (.ifCond .eq 34, 3) := by decide +kernel
theorem dX9_inTime_8 : decode cX9_inTime 8 = .ok (.iload_n 2, 1) := by decide +kernel
theorem dX9_inTime_9 : decode cX9_inTime 9 = .ok (.iconst 0, 1) := by decide +kernel
theorem dX9_inTime_10 : decode cX9_inTime 10 = .ok (.iconst 1, 1) := by decide +kernel
theorem dX9_inTime_11 : decode cX9_inTime 11 = .ok (.aload_n 0, 1) := by decide +kernel
theorem dX9_inTime_12 : decode cX9_inTime 12 = .ok (.iload_n 1, 1) := by decide +kernel
theorem dX9_inTime_13 : decode cX9_inTime 13 = .ok (.iconst 4, 1) := by decide +kernel
theorem dX9_inTime_14 : decode cX9_inTime 14 = .ok (.invokevirtual 157, 3) := by decide +kernel
theorem dX9_inTime_17 : decode cX9_inTime 17 = .ok (.ishl, 1) := by decide +kernel
theorem dX9_inTime_18 : decode cX9_inTime 18 = .ok (.iconst 1, 1) := by decide +kernel
theorem dX9_inTime_19 : decode cX9_inTime 19 = .ok (.isub, 1) := by decide +kernel
theorem dX9_inTime_20 : decode cX9_inTime 20 = .ok (.invokestatic 103, 3) := by decide +kernel
theorem dX9_inTime_23 : decode cX9_inTime 23 = .ok (.ifCond .eq 16, 3) := by decide +kernel
theorem dX9_inTime_26 : decode cX9_inTime 26 = .ok (.aload_n 0, 1) := by decide +kernel
theorem dX9_inTime_27 : decode cX9_inTime 27 = .ok (.iload_n 1, 1) := by decide +kernel
theorem dX9_inTime_28 : decode cX9_inTime 28 = .ok (.iload_n 2, 1) := by decide +kernel
theorem dX9_inTime_29 : decode cX9_inTime 29 = .ok (.invokevirtual 193, 3) := by decide +kernel
theorem dX9_inTime_32 : decode cX9_inTime 32 = .ok (.ifCond .eq 7, 3) := by decide +kernel
theorem dX9_inTime_35 : decode cX9_inTime 35 = .ok (.iconst 1, 1) := by decide +kernel
theorem dX9_inTime_36 : decode cX9_inTime 36 = .ok (.goto 4, 3) := by decide +kernel
theorem dX9_inTime_39 : decode cX9_inTime 39 = .ok (.iconst 0, 1) := by decide +kernel
theorem dX9_inTime_40 : decode cX9_inTime 40 = .ok (.ireturn, 1) := by decide +kernel
theorem dX9_worthOf_0 : decode cX9_worthOf 0 = .ok (.iconst 0, 1) := by decide +kernel
theorem dX9_worthOf_1 : decode cX9_worthOf 1 = .ok (.istore_n 3, 1) := by decide +kernel
theorem dX9_worthOf_2 : decode cX9_worthOf 2 = .ok (.iconst 0, 1) := by decide +kernel
theorem dX9_worthOf_3 : decode cX9_worthOf 3 = .ok (.istore 4, 2) := by decide +kernel
theorem dX9_worthOf_5 : decode cX9_worthOf 5 = .ok (.iload 4, 2) := by decide +kernel
theorem dX9_worthOf_7 : decode cX9_worthOf 7 = .ok (.aload_n 0, 1) := by decide +kernel
theorem dX9_worthOf_8 : decode cX9_worthOf 8 = .ok (.iload_n 1, 1) := by decide +kernel
theorem dX9_worthOf_9 : decode cX9_worthOf 9 = .ok (.iconst 4, 1) := by decide +kernel
theorem dX9_worthOf_10 : decode cX9_worthOf 10 = .ok (.invokevirtual 157, 3) := by decide +kernel
theorem dX9_worthOf_13 : decode cX9_worthOf 13 = .ok (.if_icmp .ge 31, 3) := by decide +kernel
theorem dX9_worthOf_16 : decode cX9_worthOf 16 = .ok (.iload_n 3, 1) := by decide +kernel
theorem dX9_worthOf_17 : decode cX9_worthOf 17 = .ok (.iload_n 2, 1) := by decide +kernel
theorem dX9_worthOf_18 : decode cX9_worthOf 18 = .ok (.iload 4, 2) := by decide +kernel
theorem dX9_worthOf_20 : decode cX9_worthOf 20 = .ok (.ishr, 1) := by decide +kernel
theorem dX9_worthOf_21 : decode cX9_worthOf 21 = .ok (.iconst 1, 1) := by decide +kernel
theorem dX9_worthOf_22 : decode cX9_worthOf 22 = .ok (.iand, 1) := by decide +kernel
theorem dX9_worthOf_23 : decode cX9_worthOf 23 = .ok (.aload_n 0, 1) := by decide +kernel
theorem dX9_worthOf_24 : decode cX9_worthOf 24 = .ok (.iload_n 1, 1) := by decide +kernel
theorem dX9_worthOf_25 : decode cX9_worthOf 25 = .ok (.bipush 7, 2) := by decide +kernel
theorem dX9_worthOf_27 : decode cX9_worthOf 27 = .ok (.iconst 3, 1) := by decide +kernel
theorem dX9_worthOf_28 : decode cX9_worthOf 28 = .ok (.iload 4, 2) := by decide +kernel
theorem dX9_worthOf_30 : decode cX9_worthOf 30 = .ok (.imul, 1) := by decide +kernel
theorem dX9_worthOf_31 : decode cX9_worthOf 31 = .ok (.iadd, 1) := by decide +kernel
theorem dX9_worthOf_32 : decode cX9_worthOf 32 = .ok (.invokevirtual 157, 3) := by decide +kernel
theorem dX9_worthOf_35 : decode cX9_worthOf 35 = .ok (.imul, 1) := by decide +kernel
theorem dX9_worthOf_36 : decode cX9_worthOf 36 = .ok (.iadd, 1) := by decide +kernel
theorem dX9_worthOf_37 : decode cX9_worthOf 37 = .ok (.istore_n 3, 1) := by decide +kernel
theorem dX9_worthOf_38 : decode cX9_worthOf 38 = .ok (.iinc 4 1, 3) := by decide +kernel
theorem dX9_worthOf_41 : decode cX9_worthOf 41 = .ok (.goto (-36), 3) := by decide +kernel
theorem dX9_worthOf_44 : decode cX9_worthOf 44 = .ok (.iload_n 3, 1) := by decide +kernel
theorem dX9_worthOf_45 : decode cX9_worthOf 45 = .ok (.ireturn, 1) := by decide +kernel
theorem dX9_best_0 : decode cX9_best 0 = .ok (.iconst 0, 1) := by decide +kernel
theorem dX9_best_1 : decode cX9_best 1 = .ok (.istore_n 2, 1) := by decide +kernel
theorem dX9_best_2 : decode cX9_best 2 = .ok (.iconst 1, 1) := by decide +kernel
theorem dX9_best_3 : decode cX9_best 3 = .ok (.istore_n 3, 1) := by decide +kernel
theorem dX9_best_4 : decode cX9_best 4 = .ok (.iload_n 3, 1) := by decide +kernel
theorem dX9_best_5 : decode cX9_best 5 = .ok (.iconst 1, 1) := by decide +kernel
theorem dX9_best_6 : decode cX9_best 6 = .ok (.aload_n 0, 1) := by decide +kernel
theorem dX9_best_7 : decode cX9_best 7 = .ok (.iload_n 1, 1) := by decide +kernel
theorem dX9_best_8 : decode cX9_best 8 = .ok (.iconst 4, 1) := by decide +kernel
theorem dX9_best_9 : decode cX9_best 9 = .ok (.invokevirtual 157, 3) := by decide +kernel
theorem dX9_best_12 : decode cX9_best 12 = .ok (.ishl, 1) := by decide +kernel
theorem dX9_best_13 : decode cX9_best 13 = .ok (.if_icmp .ge 35, 3) := by decide +kernel
theorem dX9_best_16 : decode cX9_best 16 = .ok (.aload_n 0, 1) := by decide +kernel
theorem dX9_best_17 : decode cX9_best 17 = .ok (.iload_n 1, 1) := by decide +kernel
theorem dX9_best_18 : decode cX9_best 18 = .ok (.iload_n 3, 1) := by decide +kernel
theorem dX9_best_19 : decode cX9_best 19 = .ok (.invokevirtual 196, 3) := by decide +kernel
theorem dX9_best_22 : decode cX9_best 22 = .ok (.aload_n 0, 1) := by decide +kernel
theorem dX9_best_23 : decode cX9_best 23 = .ok (.iload_n 1, 1) := by decide +kernel
theorem dX9_best_24 : decode cX9_best 24 = .ok (.iload_n 2, 1) := by decide +kernel
theorem dX9_best_25 : decode cX9_best 25 = .ok (.invokevirtual 196, 3) := by decide +kernel
theorem dX9_best_28 : decode cX9_best 28 = .ok (.if_icmp .le 14, 3) := by decide +kernel
theorem dX9_best_31 : decode cX9_best 31 = .ok (.aload_n 0, 1) := by decide +kernel
theorem dX9_best_32 : decode cX9_best 32 = .ok (.iload_n 1, 1) := by decide +kernel
theorem dX9_best_33 : decode cX9_best 33 = .ok (.iload_n 3, 1) := by decide +kernel
theorem dX9_best_34 : decode cX9_best 34 = .ok (.invokevirtual 193, 3) := by decide +kernel
theorem dX9_best_37 : decode cX9_best 37 = .ok (.ifCond .eq 5, 3) := by decide +kernel
theorem dX9_best_40 : decode cX9_best 40 = .ok (.iload_n 3, 1) := by decide +kernel
theorem dX9_best_41 : decode cX9_best 41 = .ok (.istore_n 2, 1) := by decide +kernel
theorem dX9_best_42 : decode cX9_best 42 = .ok (.iinc 3 1, 3) := by decide +kernel
theorem dX9_best_45 : decode cX9_best 45 = .ok (.goto (-41), 3) := by decide +kernel
theorem dX9_best_48 : decode cX9_best 48 = .ok (.iload_n 2, 1) := by decide +kernel
theorem dX9_best_49 : decode cX9_best 49 = .ok (.ireturn, 1) := by decide +kernel
theorem dX9_forget_0 : decode cX9_forget 0 = .ok (.aload_n 0, 1) := by decide +kernel
theorem dX9_forget_1 : decode cX9_forget 1 = .ok (.iload_n 1, 1) := by decide +kernel
theorem dX9_forget_2 : decode cX9_forget 2 = .ok (.invokevirtual 144, 3) := by decide +kernel
theorem dX9_forget_5 : decode cX9_forget 5 = .ok (.ifCond .ne 5, 3) := by decide +kernel
theorem dX9_forget_8 : decode cX9_forget 8 = .ok (.iconst 0, 1) := by decide +kernel
theorem dX9_forget_9 : decode cX9_forget 9 = .ok (.ireturn, 1) := by decide +kernel
theorem dX9_forget_10 : decode cX9_forget 10 = .ok (.aload_n 0, 1) := by decide +kernel
theorem dX9_forget_11 : decode cX9_forget 11 = .ok (.getfield 7, 3) := by decide +kernel
theorem dX9_forget_14 : decode cX9_forget 14 = .ok (.bipush 60, 2) := by decide +kernel
theorem dX9_forget_16 : decode cX9_forget 16 = .ok (.bipush 30, 2) := by decide +kernel
theorem dX9_forget_18 : decode cX9_forget 18 = .ok (.iload_n 1, 1) := by decide +kernel
theorem dX9_forget_19 : decode cX9_forget 19 = .ok (.imul, 1) := by decide +kernel
theorem dX9_forget_20 : decode cX9_forget 20 = .ok (.iadd, 1) := by decide +kernel
theorem dX9_forget_21 : decode cX9_forget 21 = .ok (.iconst 4, 1) := by decide +kernel
theorem dX9_forget_22 : decode cX9_forget 22 = .ok (.iadd, 1) := by decide +kernel
theorem dX9_forget_23 : decode cX9_forget 23 = .ok (.iconst 0, 1) := by decide +kernel
theorem dX9_forget_24 : decode cX9_forget 24 = .ok (.iastore, 1) := by decide +kernel
theorem dX9_forget_25 : decode cX9_forget 25 = .ok (.iconst 1, 1) := by decide +kernel
theorem dX9_forget_26 : decode cX9_forget 26 = .ok (.ireturn, 1) := by decide +kernel
theorem dX9_tell_0 : decode cX9_tell 0 = .ok (.aload_n 0, 1) := by decide +kernel
theorem dX9_tell_1 : decode cX9_tell 1 = .ok (.iload_n 1, 1) := by decide +kernel
theorem dX9_tell_2 : decode cX9_tell 2 = .ok (.invokevirtual 144, 3) := by decide +kernel
theorem dX9_tell_5 : decode cX9_tell 5 = .ok (.ifCond .ne 6, 3) := by decide +kernel
theorem dX9_tell_8 : decode cX9_tell 8 = .ok (.ldc 199, 2) := by decide +kernel
theorem dX9_tell_10 : decode cX9_tell 10 = .ok (.ireturn, 1) := by decide +kernel
theorem dX9_tell_11 : decode cX9_tell 11 = .ok (.iconst 0, 1) := by decide +kernel
theorem dX9_tell_12 : decode cX9_tell 12 = .ok (.istore_n 3, 1) := by decide +kernel
theorem dX9_tell_13 : decode cX9_tell 13 = .ok (.iconst 0, 1) := by decide +kernel
theorem dX9_tell_14 : decode cX9_tell 14 = .ok (.istore 4, 2) := by decide +kernel
theorem dX9_tell_16 : decode cX9_tell 16 = .ok (.iconst 0, 1) := by decide +kernel
theorem dX9_tell_17 : decode cX9_tell 17 = .ok (.istore 5, 2) := by decide +kernel
theorem dX9_tell_19 : decode cX9_tell 19 = .ok (.iload 5, 2) := by decide +kernel
theorem dX9_tell_21 : decode cX9_tell 21 = .ok (.aload_n 0, 1) := by decide +kernel
theorem dX9_tell_22 : decode cX9_tell 22 = .ok (.getfield 7, 3) := by decide +kernel
theorem dX9_tell_25 : decode cX9_tell 25 = .ok (.iconst 1, 1) := by decide +kernel
theorem dX9_tell_26 : decode cX9_tell 26 = .ok (.iaload, 1) := by decide +kernel
theorem dX9_tell_27 : decode cX9_tell 27 = .ok (.if_icmp .ge 58, 3) := by decide +kernel
theorem dX9_tell_30 : decode cX9_tell 30 = .ok (.iload_n 3, 1) := by decide +kernel
theorem dX9_tell_31 : decode cX9_tell 31 = .ok (.aload_n 0, 1) := by decide +kernel
theorem dX9_tell_32 : decode cX9_tell 32 = .ok (.iload 5, 2) := by decide +kernel
theorem dX9_tell_34 : decode cX9_tell 34 = .ok (.iconst 0, 1) := by decide +kernel
theorem dX9_tell_35 : decode cX9_tell 35 = .ok (.invokevirtual 130, 3) := by decide +kernel
theorem dX9_tell_38 : decode cX9_tell 38 = .ok (.iload_n 1, 1) := by decide +kernel
theorem dX9_tell_39 : decode cX9_tell 39 = .ok (.if_icmp .ne 7, 3) := by decide +kernel
theorem dX9_tell_42 : decode cX9_tell 42 = .ok (.iconst 1, 1) := by decide +kernel
theorem dX9_tell_43 : decode cX9_tell 43 = .ok (.goto 4, 3) := by decide +kernel
theorem dX9_tell_46 : decode cX9_tell 46 = .ok (.iconst 0, 1) := by decide +kernel
theorem dX9_tell_47 : decode cX9_tell 47 = .ok (.iadd, 1) := by decide +kernel
theorem dX9_tell_48 : decode cX9_tell 48 = .ok (.istore_n 3, 1) := by decide +kernel
theorem dX9_tell_49 : decode cX9_tell 49 = .ok (.iload 4, 2) := by decide +kernel
theorem dX9_tell_51 : decode cX9_tell 51 = .ok (.aload_n 0, 1) := by decide +kernel
theorem dX9_tell_52 : decode cX9_tell 52 = .ok (.iload 5, 2) := by decide +kernel
theorem dX9_tell_54 : decode cX9_tell 54 = .ok (.iconst 0, 1) := by decide +kernel
theorem dX9_tell_55 : decode cX9_tell 55 = .ok (.invokevirtual 130, 3) := by decide +kernel
theorem dX9_tell_58 : decode cX9_tell 58 = .ok (.iload_n 1, 1) := by decide +kernel
theorem dX9_tell_59 : decode cX9_tell 59 = .ok (.if_icmp .ne 16, 3) := by decide +kernel
theorem dX9_tell_62 : decode cX9_tell 62 = .ok (.aload_n 0, 1) := by decide +kernel
theorem dX9_tell_63 : decode cX9_tell 63 = .ok (.iload 5, 2) := by decide +kernel
theorem dX9_tell_65 : decode cX9_tell 65 = .ok (.invokevirtual 134, 3) := by decide +kernel
theorem dX9_tell_68 : decode cX9_tell 68 = .ok (.ifCond .eq 7, 3) := by decide +kernel
theorem dX9_tell_71 : decode cX9_tell 71 = .ok (.iconst 1, 1) := by decide +kernel
theorem dX9_tell_72 : decode cX9_tell 72 = .ok (.goto 4, 3) := by decide +kernel
theorem dX9_tell_75 : decode cX9_tell 75 = .ok (.iconst 0, 1) := by decide +kernel
theorem dX9_tell_76 : decode cX9_tell 76 = .ok (.iadd, 1) := by decide +kernel
theorem dX9_tell_77 : decode cX9_tell 77 = .ok (.istore 4, 2) := by decide +kernel
theorem dX9_tell_79 : decode cX9_tell 79 = .ok (.iinc 5 1, 3) := by decide +kernel
theorem dX9_tell_82 : decode cX9_tell 82 = .ok (.goto (-63), 3) := by decide +kernel
theorem dX9_tell_85 : decode cX9_tell 85 = .ok (.iload_n 2, 1) := by decide +kernel
theorem dX9_tell_86 : decode cX9_tell 86 = .ok (.tableswitch 89 0 7 #[46, 46, 53, 55, 58, 65, 76, 82], 46) := by decide +kernel
theorem dX9_tell_132 : decode cX9_tell 132 = .ok (.aload_n 0, 1) := by decide +kernel
theorem dX9_tell_133 : decode cX9_tell 133 = .ok (.iload_n 1, 1) := by decide +kernel
theorem dX9_tell_134 : decode cX9_tell 134 = .ok (.iload_n 2, 1) := by decide +kernel
theorem dX9_tell_135 : decode cX9_tell 135 = .ok (.invokevirtual 157, 3) := by decide +kernel
theorem dX9_tell_138 : decode cX9_tell 138 = .ok (.ireturn, 1) := by decide +kernel
theorem dX9_tell_139 : decode cX9_tell 139 = .ok (.iload_n 3, 1) := by decide +kernel
theorem dX9_tell_140 : decode cX9_tell 140 = .ok (.ireturn, 1) := by decide +kernel
theorem dX9_tell_141 : decode cX9_tell 141 = .ok (.iload 4, 2) := by decide +kernel
theorem dX9_tell_143 : decode cX9_tell 143 = .ok (.ireturn, 1) := by decide +kernel
theorem dX9_tell_144 : decode cX9_tell 144 = .ok (.aload_n 0, 1) := by decide +kernel
theorem dX9_tell_145 : decode cX9_tell 145 = .ok (.iload_n 1, 1) := by decide +kernel
theorem dX9_tell_146 : decode cX9_tell 146 = .ok (.iconst 4, 1) := by decide +kernel
theorem dX9_tell_147 : decode cX9_tell 147 = .ok (.invokevirtual 157, 3) := by decide +kernel
theorem dX9_tell_150 : decode cX9_tell 150 = .ok (.ireturn, 1) := by decide +kernel
theorem dX9_tell_151 : decode cX9_tell 151 = .ok (.aload_n 0, 1) := by decide +kernel
theorem dX9_tell_152 : decode cX9_tell 152 = .ok (.iload_n 1, 1) := by decide +kernel
theorem dX9_tell_153 : decode cX9_tell 153 = .ok (.aload_n 0, 1) := by decide +kernel
theorem dX9_tell_154 : decode cX9_tell 154 = .ok (.iload_n 1, 1) := by decide +kernel
theorem dX9_tell_155 : decode cX9_tell 155 = .ok (.invokevirtual 200, 3) := by decide +kernel
theorem dX9_tell_158 : decode cX9_tell 158 = .ok (.invokevirtual 196, 3) := by decide +kernel
theorem dX9_tell_161 : decode cX9_tell 161 = .ok (.ireturn, 1) := by decide +kernel
theorem dX9_tell_162 : decode cX9_tell 162 = .ok (.aload_n 0, 1) := by decide +kernel
theorem dX9_tell_163 : decode cX9_tell 163 = .ok (.iload_n 1, 1) := by decide +kernel
theorem dX9_tell_164 : decode cX9_tell 164 = .ok (.invokevirtual 200, 3) := by decide +kernel
theorem dX9_tell_167 : decode cX9_tell 167 = .ok (.ireturn, 1) := by decide +kernel
theorem dX9_tell_168 : decode cX9_tell 168 = .ok (.aload_n 0, 1) := by decide +kernel
theorem dX9_tell_169 : decode cX9_tell 169 = .ok (.iload_n 1, 1) := by decide +kernel
theorem dX9_tell_170 : decode cX9_tell 170 = .ok (.iconst 3, 1) := by decide +kernel
theorem dX9_tell_171 : decode cX9_tell 171 = .ok (.invokevirtual 157, 3) := by decide +kernel
theorem dX9_tell_174 : decode cX9_tell 174 = .ok (.ireturn, 1) := by decide +kernel
theorem dX9_tell_175 : decode cX9_tell 175 = .ok (.ldc 199, 2) := by decide +kernel
theorem dX9_tell_177 : decode cX9_tell 177 = .ok (.ireturn, 1) := by decide +kernel
theorem dX9_count_0 : decode cX9_count 0 = .ok (.iconst 0, 1) := by decide +kernel
theorem dX9_count_1 : decode cX9_count 1 = .ok (.istore_n 2, 1) := by decide +kernel
theorem dX9_count_2 : decode cX9_count 2 = .ok (.iconst 0, 1) := by decide +kernel
theorem dX9_count_3 : decode cX9_count 3 = .ok (.istore_n 3, 1) := by decide +kernel
theorem dX9_count_4 : decode cX9_count 4 = .ok (.iload_n 3, 1) := by decide +kernel
theorem dX9_count_5 : decode cX9_count 5 = .ok (.aload_n 0, 1) := by decide +kernel
theorem dX9_count_6 : decode cX9_count 6 = .ok (.getfield 7, 3) := by decide +kernel
theorem dX9_count_9 : decode cX9_count 9 = .ok (.iconst 2, 1) := by decide +kernel
theorem dX9_count_10 : decode cX9_count 10 = .ok (.iaload, 1) := by decide +kernel
theorem dX9_count_11 : decode cX9_count 11 = .ok (.if_icmp .ge 21, 3) := by decide +kernel
theorem dX9_count_14 : decode cX9_count 14 = .ok (.iload_n 2, 1) := by decide +kernel
theorem dX9_count_15 : decode cX9_count 15 = .ok (.aload_n 0, 1) := by decide +kernel
theorem dX9_count_16 : decode cX9_count 16 = .ok (.getfield 7, 3) := by decide +kernel
theorem dX9_count_19 : decode cX9_count 19 = .ok (.bipush 10, 2) := by decide +kernel
theorem dX9_count_21 : decode cX9_count 21 = .ok (.iload_n 3, 1) := by decide +kernel
theorem dX9_count_22 : decode cX9_count 22 = .ok (.iadd, 1) := by decide +kernel
theorem dX9_count_23 : decode cX9_count 23 = .ok (.iaload, 1) := by decide +kernel
theorem dX9_count_24 : decode cX9_count 24 = .ok (.iadd, 1) := by decide +kernel
theorem dX9_count_25 : decode cX9_count 25 = .ok (.istore_n 2, 1) := by decide +kernel
theorem dX9_count_26 : decode cX9_count 26 = .ok (.iinc 3 1, 3) := by decide +kernel
theorem dX9_count_29 : decode cX9_count 29 = .ok (.goto (-25), 3) := by decide +kernel
theorem dX9_count_32 : decode cX9_count 32 = .ok (.iload_n 1, 1) := by decide +kernel
theorem dX9_count_33 : decode cX9_count 33 = .ok (.tableswitch 108 0 8 #[51, 58, 65, 70, 77, 84, 91, 99, 106], 51) := by decide +kernel
theorem dX9_count_84 : decode cX9_count 84 = .ok (.aload_n 0, 1) := by decide +kernel
theorem dX9_count_85 : decode cX9_count 85 = .ok (.getfield 7, 3) := by decide +kernel
theorem dX9_count_88 : decode cX9_count 88 = .ok (.iconst 0, 1) := by decide +kernel
theorem dX9_count_89 : decode cX9_count 89 = .ok (.iaload, 1) := by decide +kernel
theorem dX9_count_90 : decode cX9_count 90 = .ok (.ireturn, 1) := by decide +kernel
theorem dX9_count_91 : decode cX9_count 91 = .ok (.aload_n 0, 1) := by decide +kernel
theorem dX9_count_92 : decode cX9_count 92 = .ok (.getfield 7, 3) := by decide +kernel
theorem dX9_count_95 : decode cX9_count 95 = .ok (.iconst 1, 1) := by decide +kernel
theorem dX9_count_96 : decode cX9_count 96 = .ok (.iaload, 1) := by decide +kernel
theorem dX9_count_97 : decode cX9_count 97 = .ok (.ireturn, 1) := by decide +kernel
theorem dX9_count_98 : decode cX9_count 98 = .ok (.aload_n 0, 1) := by decide +kernel
theorem dX9_count_99 : decode cX9_count 99 = .ok (.invokevirtual 137, 3) := by decide +kernel
theorem dX9_count_102 : decode cX9_count 102 = .ok (.ireturn, 1) := by decide +kernel
theorem dX9_count_103 : decode cX9_count 103 = .ok (.aload_n 0, 1) := by decide +kernel
theorem dX9_count_104 : decode cX9_count 104 = .ok (.getfield 7, 3) := by decide +kernel
theorem dX9_count_107 : decode cX9_count 107 = .ok (.iconst 3, 1) := by decide +kernel
theorem dX9_count_108 : decode cX9_count 108 = .ok (.iaload, 1) := by decide +kernel
theorem dX9_count_109 : decode cX9_count 109 = .ok (.ireturn, 1) := by decide +kernel
theorem dX9_count_110 : decode cX9_count 110 = .ok (.aload_n 0, 1) := by decide +kernel
theorem dX9_count_111 : decode cX9_count 111 = .ok (.getfield 7, 3) := by decide +kernel
theorem dX9_count_114 : decode cX9_count 114 = .ok (.iconst 4, 1) := by decide +kernel
theorem dX9_count_115 : decode cX9_count 115 = .ok (.iaload, 1) := by decide +kernel
theorem dX9_count_116 : decode cX9_count 116 = .ok (.ireturn, 1) := by decide +kernel
theorem dX9_count_117 : decode cX9_count 117 = .ok (.aload_n 0, 1) := by decide +kernel
theorem dX9_count_118 : decode cX9_count 118 = .ok (.getfield 7, 3) := by decide +kernel
theorem dX9_count_121 : decode cX9_count 121 = .ok (.iconst 5, 1) := by decide +kernel
theorem dX9_count_122 : decode cX9_count 122 = .ok (.iaload, 1) := by decide +kernel
theorem dX9_count_123 : decode cX9_count 123 = .ok (.ireturn, 1) := by decide +kernel
theorem dX9_count_124 : decode cX9_count 124 = .ok (.aload_n 0, 1) := by decide +kernel
theorem dX9_count_125 : decode cX9_count 125 = .ok (.getfield 7, 3) := by decide +kernel
theorem dX9_count_128 : decode cX9_count 128 = .ok (.bipush 6, 2) := by decide +kernel
theorem dX9_count_130 : decode cX9_count 130 = .ok (.iaload, 1) := by decide +kernel
theorem dX9_count_131 : decode cX9_count 131 = .ok (.ireturn, 1) := by decide +kernel
theorem dX9_count_132 : decode cX9_count 132 = .ok (.aload_n 0, 1) := by decide +kernel
theorem dX9_count_133 : decode cX9_count 133 = .ok (.getfield 7, 3) := by decide +kernel
theorem dX9_count_136 : decode cX9_count 136 = .ok (.iconst 2, 1) := by decide +kernel
theorem dX9_count_137 : decode cX9_count 137 = .ok (.iaload, 1) := by decide +kernel
theorem dX9_count_138 : decode cX9_count 138 = .ok (.ireturn, 1) := by decide +kernel
theorem dX9_count_139 : decode cX9_count 139 = .ok (.iload_n 2, 1) := by decide +kernel
theorem dX9_count_140 : decode cX9_count 140 = .ok (.ireturn, 1) := by decide +kernel
theorem dX9_count_141 : decode cX9_count 141 = .ok (.iconst (-1), 1) := by decide +kernel
theorem dX9_count_142 : decode cX9_count 142 = .ok (.ireturn, 1) := by decide +kernel
theorem dX9_image_0 : decode cX9_image 0 = .ok (.iload_n 1, 1) := by decide +kernel
theorem dX9_image_1 : decode cX9_image 1 = .ok (.iconst 0, 1) := by decide +kernel
theorem dX9_image_2 : decode cX9_image 2 = .ok (.iconst 2, 1) := by decide +kernel
theorem dX9_image_3 : decode cX9_image 3 = .ok (.invokestatic 103, 3) := by decide +kernel
theorem dX9_image_6 : decode cX9_image 6 = .ok (.ifCond .ne 5, 3) := by decide +kernel
theorem dX9_image_9 : decode cX9_image 9 = .ok (.iconst 0, 1) := by decide +kernel
theorem dX9_image_10 : decode cX9_image 10 = .ok (.ireturn, 1) := by decide +kernel
theorem dX9_image_11 : decode cX9_image 11 = .ok (.aload_n 0, 1) := by decide +kernel
theorem dX9_image_12 : decode cX9_image 12 = .ok (.getfield 13, 3) := by decide +kernel
theorem dX9_image_15 : decode cX9_image 15 = .ok (.iload_n 1, 1) := by decide +kernel
theorem dX9_image_16 : decode cX9_image 16 = .ok (.iconst 1, 1) := by decide +kernel
theorem dX9_image_17 : decode cX9_image 17 = .ok (.bastore, 1) := by decide +kernel
theorem dX9_image_18 : decode cX9_image 18 = .ok (.iconst 0, 1) := by decide +kernel
theorem dX9_image_19 : decode cX9_image 19 = .ok (.istore_n 2, 1) := by decide +kernel
theorem dX9_image_20 : decode cX9_image 20 = .ok (.iload_n 2, 1) := by decide +kernel
theorem dX9_image_21 : decode cX9_image 21 = .ok (.sipush 1020, 3) := by decide +kernel
theorem dX9_image_24 : decode cX9_image 24 = .ok (.if_icmp .ge 29, 3) := by decide +kernel
theorem dX9_image_27 : decode cX9_image 27 = .ok (.aload_n 0, 1) := by decide +kernel
theorem dX9_image_28 : decode cX9_image 28 = .ok (.getfield 7, 3) := by decide +kernel
theorem dX9_image_31 : decode cX9_image 31 = .ok (.sipush 1020, 3) := by decide +kernel
theorem dX9_image_34 : decode cX9_image 34 = .ok (.iload_n 1, 1) := by decide +kernel
theorem dX9_image_35 : decode cX9_image 35 = .ok (.iconst 1, 1) := by decide +kernel
theorem dX9_image_36 : decode cX9_image 36 = .ok (.iadd, 1) := by decide +kernel
theorem dX9_image_37 : decode cX9_image 37 = .ok (.imul, 1) := by decide +kernel
theorem dX9_image_38 : decode cX9_image 38 = .ok (.iload_n 2, 1) := by decide +kernel
theorem dX9_image_39 : decode cX9_image 39 = .ok (.iadd, 1) := by decide +kernel
theorem dX9_image_40 : decode cX9_image 40 = .ok (.aload_n 0, 1) := by decide +kernel
theorem dX9_image_41 : decode cX9_image 41 = .ok (.getfield 7, 3) := by decide +kernel
theorem dX9_image_44 : decode cX9_image 44 = .ok (.iload_n 2, 1) := by decide +kernel
theorem dX9_image_45 : decode cX9_image 45 = .ok (.iaload, 1) := by decide +kernel
theorem dX9_image_46 : decode cX9_image 46 = .ok (.iastore, 1) := by decide +kernel
theorem dX9_image_47 : decode cX9_image 47 = .ok (.iinc 2 1, 3) := by decide +kernel
theorem dX9_image_50 : decode cX9_image 50 = .ok (.goto (-30), 3) := by decide +kernel
theorem dX9_image_53 : decode cX9_image 53 = .ok (.iconst 1, 1) := by decide +kernel
theorem dX9_image_54 : decode cX9_image 54 = .ok (.ireturn, 1) := by decide +kernel
theorem dX9_again_0 : decode cX9_again 0 = .ok (.iload_n 1, 1) := by decide +kernel
theorem dX9_again_1 : decode cX9_again 1 = .ok (.iconst 0, 1) := by decide +kernel
theorem dX9_again_2 : decode cX9_again 2 = .ok (.iconst 2, 1) := by decide +kernel
theorem dX9_again_3 : decode cX9_again 3 = .ok (.invokestatic 103, 3) := by decide +kernel
theorem dX9_again_6 : decode cX9_again 6 = .ok (.ifCond .eq 12, 3) := by decide +kernel
theorem dX9_again_9 : decode cX9_again 9 = .ok (.aload_n 0, 1) := by decide +kernel
theorem dX9_again_10 : decode cX9_again 10 = .ok (.getfield 13, 3) := by decide +kernel
theorem dX9_again_13 : decode cX9_again 13 = .ok (.iload_n 1, 1) := by decide +kernel
theorem dX9_again_14 : decode cX9_again 14 = .ok (.baload, 1) := by decide +kernel
theorem dX9_again_15 : decode cX9_again 15 = .ok (.ifCond .ne 5, 3) := by decide +kernel
theorem dX9_again_18 : decode cX9_again 18 = .ok (.iconst 0, 1) := by decide +kernel
theorem dX9_again_19 : decode cX9_again 19 = .ok (.ireturn, 1) := by decide +kernel
theorem dX9_again_20 : decode cX9_again 20 = .ok (.iconst 0, 1) := by decide +kernel
theorem dX9_again_21 : decode cX9_again 21 = .ok (.istore_n 2, 1) := by decide +kernel
theorem dX9_again_22 : decode cX9_again 22 = .ok (.iload_n 2, 1) := by decide +kernel
theorem dX9_again_23 : decode cX9_again 23 = .ok (.sipush 1020, 3) := by decide +kernel
theorem dX9_again_26 : decode cX9_again 26 = .ok (.if_icmp .ge 29, 3) := by decide +kernel
theorem dX9_again_29 : decode cX9_again 29 = .ok (.aload_n 0, 1) := by decide +kernel
theorem dX9_again_30 : decode cX9_again 30 = .ok (.getfield 7, 3) := by decide +kernel
theorem dX9_again_33 : decode cX9_again 33 = .ok (.iload_n 2, 1) := by decide +kernel
theorem dX9_again_34 : decode cX9_again 34 = .ok (.aload_n 0, 1) := by decide +kernel
theorem dX9_again_35 : decode cX9_again 35 = .ok (.getfield 7, 3) := by decide +kernel
theorem dX9_again_38 : decode cX9_again 38 = .ok (.sipush 1020, 3) := by decide +kernel
theorem dX9_again_41 : decode cX9_again 41 = .ok (.iload_n 1, 1) := by decide +kernel
theorem dX9_again_42 : decode cX9_again 42 = .ok (.iconst 1, 1) := by decide +kernel
theorem dX9_again_43 : decode cX9_again 43 = .ok (.iadd, 1) := by decide +kernel
theorem dX9_again_44 : decode cX9_again 44 = .ok (.imul, 1) := by decide +kernel
theorem dX9_again_45 : decode cX9_again 45 = .ok (.iload_n 2, 1) := by decide +kernel
theorem dX9_again_46 : decode cX9_again 46 = .ok (.iadd, 1) := by decide +kernel
theorem dX9_again_47 : decode cX9_again 47 = .ok (.iaload, 1) := by decide +kernel
theorem dX9_again_48 : decode cX9_again 48 = .ok (.iastore, 1) := by decide +kernel
theorem dX9_again_49 : decode cX9_again 49 = .ok (.iinc 2 1, 3) := by decide +kernel
theorem dX9_again_52 : decode cX9_again 52 = .ok (.goto (-30), 3) := by decide +kernel
theorem dX9_again_55 : decode cX9_again 55 = .ok (.iconst 1, 1) := by decide +kernel
theorem dX9_again_56 : decode cX9_again 56 = .ok (.ireturn, 1) := by decide +kernel
theorem dJ9_abs_0f7a4_0 : decode cJ9_abs_0f7a4 0 = .ok (.iload_n 0, 1) := by decide +kernel
theorem dJ9_abs_0f7a4_1 : decode cJ9_abs_0f7a4 1 = .ok (.ifCond .ge 8, 3) := by decide +kernel
theorem dJ9_abs_0f7a4_4 : decode cJ9_abs_0f7a4 4 = .ok (.iload_n 0, 1) := by decide +kernel
theorem dJ9_abs_0f7a4_5 : decode cJ9_abs_0f7a4 5 = .ok (.ineg, 1) := by decide +kernel
theorem dJ9_abs_0f7a4_6 : decode cJ9_abs_0f7a4 6 = .ok (.goto 4, 3) := by decide +kernel
theorem dJ9_abs_0f7a4_9 : decode cJ9_abs_0f7a4 9 = .ok (.iload_n 0, 1) := by decide +kernel
theorem dJ9_abs_0f7a4_10 : decode cJ9_abs_0f7a4 10 = .ok (.ireturn, 1) := by decide +kernel
theorem dJ9_max_7cf53_0 : decode cJ9_max_7cf53 0 = .ok (.iload_n 0, 1) := by decide +kernel
theorem dJ9_max_7cf53_1 : decode cJ9_max_7cf53 1 = .ok (.iload_n 1, 1) := by decide +kernel
theorem dJ9_max_7cf53_2 : decode cJ9_max_7cf53 2 = .ok (.if_icmp .lt 7, 3) := by decide +kernel
theorem dJ9_max_7cf53_5 : decode cJ9_max_7cf53 5 = .ok (.iload_n 0, 1) := by decide +kernel
theorem dJ9_max_7cf53_6 : decode cJ9_max_7cf53 6 = .ok (.goto 4, 3) := by decide +kernel
theorem dJ9_max_7cf53_9 : decode cJ9_max_7cf53 9 = .ok (.iload_n 1, 1) := by decide +kernel
theorem dJ9_max_7cf53_10 : decode cJ9_max_7cf53 10 = .ok (.ireturn, 1) := by decide +kernel
theorem dJ9_min_7cf53_0 : decode cJ9_min_7cf53 0 = .ok (.iload_n 0, 1) := by decide +kernel
theorem dJ9_min_7cf53_1 : decode cJ9_min_7cf53 1 = .ok (.iload_n 1, 1) := by decide +kernel
theorem dJ9_min_7cf53_2 : decode cJ9_min_7cf53 2 = .ok (.if_icmp .gt 7, 3) := by decide +kernel
theorem dJ9_min_7cf53_5 : decode cJ9_min_7cf53 5 = .ok (.iload_n 0, 1) := by decide +kernel
theorem dJ9_min_7cf53_6 : decode cJ9_min_7cf53 6 = .ok (.goto 4, 3) := by decide +kernel
theorem dJ9_min_7cf53_9 : decode cJ9_min_7cf53 9 = .ok (.iload_n 1, 1) := by decide +kernel
theorem dJ9_min_7cf53_10 : decode cJ9_min_7cf53 10 = .ok (.ireturn, 1) := by decide +kernel
