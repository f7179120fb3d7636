theorem dX11_change_13 : decode cX11_change 13 = .ok (.ifCond .eq 17, 3) := by decide +kernel
theorem dX11_change_16 : decode cX11_change 16 = .ok (.aload_n 0, 1) := by decide +kernel
theorem dX11_change_17 : decode cX11_change 17 = .ok (.getfield 86, 3) := by decide +kernel
theorem dX11_change_20 : decode cX11_change 20 = .ok (.iload_n 1, 1) := by decide +kernel
theorem dX11_change_21 : decode cX11_change 21 = .ok (.iconst 1, 1) := by decide +kernel
theorem dX11_change_22 : decode cX11_change 22 = .ok (.bipush 40, 2) := by decide +kernel
theorem dX11_change_24 : decode cX11_change 24 = .ok (.invokevirtual 234, 3) := by decide +kernel
theorem dX11_change_27 : decode cX11_change 27 = .ok (.ifCond .ne 5, 3) := by decide +kernel
theorem dX11_change_30 : decode cX11_change 30 = .ok (.iconst (-1), 1) := by decide +kernel
theorem dX11_change_31 : decode cX11_change 31 = .ok (.ireturn, 1) := by decide +kernel
theorem dX11_change_32 : decode cX11_change 32 = .ok (.aload_n 0, 1) := by decide +kernel
theorem dX11_change_33 : decode cX11_change 33 = .ok (.getfield 86, 3) := by decide +kernel
theorem dX11_change_36 : decode cX11_change 36 = .ok (.iload_n 1, 1) := by decide +kernel
theorem dX11_change_37 : decode cX11_change 37 = .ok (.invokevirtual 293, 3) := by decide +kernel
theorem dX11_change_40 : decode cX11_change 40 = .ok (.iload_n 2, 1) := by decide +kernel
theorem dX11_change_41 : decode cX11_change 41 = .ok (.lookupswitch 43 #[(0, 27), (1, 35)], 27) := by decide +kernel
theorem dX11_change_68 : decode cX11_change 68 = .ok (.aload_n 0, 1) := by decide +kernel
theorem dX11_change_69 : decode cX11_change 69 = .ok (.getfield 86, 3) := by decide +kernel
theorem dX11_change_72 : decode cX11_change 72 = .ok (.getfield 296, 3) := by decide +kernel
theorem dX11_change_75 : decode cX11_change 75 = .ok (.ireturn, 1) := by decide +kernel
theorem dX11_change_76 : decode cX11_change 76 = .ok (.aload_n 0, 1) := by decide +kernel
theorem dX11_change_77 : decode cX11_change 77 = .ok (.getfield 86, 3) := by decide +kernel
theorem dX11_change_80 : decode cX11_change 80 = .ok (.getfield 299, 3) := by decide +kernel
theorem dX11_change_83 : decode cX11_change 83 = .ok (.ireturn, 1) := by decide +kernel
theorem dX11_change_84 : decode cX11_change 84 = .ok (.aload_n 0, 1) := by decide +kernel
theorem dX11_change_85 : decode cX11_change 85 = .ok (.getfield 86, 3) := by decide +kernel
theorem dX11_change_88 : decode cX11_change 88 = .ok (.getfield 302, 3) := by decide +kernel
theorem dX11_change_91 : decode cX11_change 91 = .ok (.ireturn, 1) := by decide +kernel
theorem dX11_odds_0 : decode cX11_odds 0 = .ok (.aload_n 0, 1) := by decide +kernel
theorem dX11_odds_1 : decode cX11_odds 1 = .ok (.invokevirtual 289, 3) := by decide +kernel
theorem dX11_odds_4 : decode cX11_odds 4 = .ok (.ifCond .eq 16, 3) := by decide +kernel
theorem dX11_odds_7 : decode cX11_odds 7 = .ok (.aload_n 0, 1) := by decide +kernel
theorem dX11_odds_8 : decode cX11_odds 8 = .ok (.getfield 54, 3) := by decide +kernel
theorem dX11_odds_11 : decode cX11_odds 11 = .ok (.getfield 165, 3) := by decide +kernel
theorem dX11_odds_14 : decode cX11_odds 14 = .ok (.sipush 999, 3) := by decide +kernel
theorem dX11_odds_17 : decode cX11_odds 17 = .ok (.if_icmp .lt 5, 3) := by decide +kernel
theorem dX11_odds_20 : decode cX11_odds 20 = .ok (.iconst (-1), 1) := by decide +kernel
theorem dX11_odds_21 : decode cX11_odds 21 = .ok (.ireturn, 1) := by decide +kernel
theorem dX11_odds_22 : decode cX11_odds 22 = .ok (.iload_n 1, 1) := by decide +kernel
theorem dX11_odds_23 : decode cX11_odds 23 = .ok (.iconst (-1), 1) := by decide +kernel
theorem dX11_odds_24 : decode cX11_odds 24 = .ok (.if_icmp .ne 14, 3) := by decide +kernel
theorem dX11_odds_27 : decode cX11_odds 27 = .ok (.bipush 100, 2) := by decide +kernel
theorem dX11_odds_29 : decode cX11_odds 29 = .ok (.aload_n 0, 1) := by decide +kernel
theorem dX11_odds_30 : decode cX11_odds 30 = .ok (.getfield 26, 3) := by decide +kernel
theorem dX11_odds_33 : decode cX11_odds 33 = .ok (.getfield 155, 3) := by decide +kernel
theorem dX11_odds_36 : decode cX11_odds 36 = .ok (.imul, 1) := by decide +kernel
theorem dX11_odds_37 : decode cX11_odds 37 = .ok (.ireturn, 1) := by decide +kernel
theorem dX11_odds_38 : decode cX11_odds 38 = .ok (.aload_n 0, 1) := by decide +kernel
theorem dX11_odds_39 : decode cX11_odds 39 = .ok (.iload_n 1, 1) := by decide +kernel
theorem dX11_odds_40 : decode cX11_odds 40 = .ok (.invokevirtual 197, 3) := by decide +kernel
theorem dX11_odds_43 : decode cX11_odds 43 = .ok (.ifCond .eq 14, 3) := by decide +kernel
theorem dX11_odds_46 : decode cX11_odds 46 = .ok (.aload_n 0, 1) := by decide +kernel
theorem dX11_odds_47 : decode cX11_odds 47 = .ok (.getfield 86, 3) := by decide +kernel
theorem dX11_odds_50 : decode cX11_odds 50 = .ok (.iload_n 1, 1) := by decide +kernel
theorem dX11_odds_51 : decode cX11_odds 51 = .ok (.invokevirtual 305, 3) := by decide +kernel
theorem dX11_odds_54 : decode cX11_odds 54 = .ok (.goto 4, 3) := by decide +kernel
theorem dX11_odds_57 : decode cX11_odds 57 = .ok (.iconst (-1), 1) := by decide +kernel
theorem dX11_odds_58 : decode cX11_odds 58 = .ok (.ireturn, 1) := by decide +kernel
theorem dX11_see_0 : decode cX11_see 0 = .ok (.aload_n 0, 1) := by decide +kernel
theorem dX11_see_1 : decode cX11_see 1 = .ok (.getfield 95, 3) := by decide +kernel
theorem dX11_see_4 : decode cX11_see 4 = .ok (.aload_n 0, 1) := by decide +kernel
theorem dX11_see_5 : decode cX11_see 5 = .ok (.getfield 12, 3) := by decide +kernel
theorem dX11_see_8 : decode cX11_see 8 = .ok (.aload_n 0, 1) := by decide +kernel
theorem dX11_see_9 : decode cX11_see 9 = .ok (.getfield 26, 3) := by decide +kernel
theorem dX11_see_12 : decode cX11_see 12 = .ok (.getfield 155, 3) := by decide +kernel
theorem dX11_see_15 : decode cX11_see 15 = .ok (.invokevirtual 308, 3) := by decide +kernel
theorem dX11_see_18 : decode cX11_see 18 = .ok (.istore_n 1, 1) := by decide +kernel
theorem dX11_see_19 : decode cX11_see 19 = .ok (.aload_n 0, 1) := by decide +kernel
theorem dX11_see_20 : decode cX11_see 20 = .ok (.getfield 12, 3) := by decide +kernel
theorem dX11_see_23 : decode cX11_see 23 = .ok (.iconst 0, 1) := by decide +kernel
theorem dX11_see_24 : decode cX11_see 24 = .ok (.putfield 119, 3) := by decide +kernel
theorem dX11_see_27 : decode cX11_see 27 = .ok (.iload_n 1, 1) := by decide +kernel
theorem dX11_see_28 : decode cX11_see 28 = .ok (.ifCond .eq 13, 3) := by decide +kernel
theorem dX11_see_31 : decode cX11_see 31 = .ok (.aload_n 0, 1) := by decide +kernel
theorem dX11_see_32 : decode cX11_see 32 = .ok (.getfield 95, 3) := by decide +kernel
theorem dX11_see_35 : decode cX11_see 35 = .ok (.getfield 149, 3) := by decide +kernel
theorem dX11_see_38 : decode cX11_see 38 = .ok (.goto 8, 3) := by decide +kernel
theorem dX11_see_41 : decode cX11_see 41 = .ok (.aload_n 0, 1) := by decide +kernel
theorem dX11_see_42 : decode cX11_see 42 = .ok (.iconst 1, 1) := by decide +kernel
theorem dX11_see_43 : decode cX11_see 43 = .ok (.invokevirtual 122, 3) := by decide +kernel
theorem dX11_see_46 : decode cX11_see 46 = .ok (.ireturn, 1) := by decide +kernel
theorem dX11_inches_0 : decode cX11_inches 0 = .ok (.aload_n 0, 1) := by decide +kernel
theorem dX11_inches_1 : decode cX11_inches 1 = .ok (.iload_n 1, 1) := by decide +kernel
theorem dX11_inches_2 : decode cX11_inches 2 = .ok (.invokevirtual 267, 3) := by decide +kernel
theorem dX11_inches_5 : decode cX11_inches 5 = .ok (.ifCond .ne 5, 3) := by decide +kernel
theorem dX11_inches_8 : decode cX11_inches 8 = .ok (.iconst (-1), 1) := by decide +kernel
theorem dX11_inches_9 : decode cX11_inches 9 = .ok (.ireturn, 1) := by decide +kernel
theorem dX11_inches_10 : decode cX11_inches 10 = .ok (.aload_n 0, 1) := by decide +kernel
theorem dX11_inches_11 : decode cX11_inches 11 = .ok (.getfield 95, 3) := by decide +kernel
theorem dX11_inches_14 : decode cX11_inches 14 = .ok (.iload_n 1, 1) := by decide +kernel
theorem dX11_inches_15 : decode cX11_inches 15 = .ok (.invokevirtual 312, 3) := by decide +kernel
theorem dX11_inches_18 : decode cX11_inches 18 = .ok (.iload_n 2, 1) := by decide +kernel
theorem dX11_inches_19 : decode cX11_inches 19 = .ok (.iconst (-1), 1) := by decide +kernel
theorem dX11_inches_20 : decode cX11_inches 20 = .ok (.if_icmp .ne 11, 3) := by decide +kernel
theorem dX11_inches_23 : decode cX11_inches 23 = .ok (.aload_n 0, 1) := by decide +kernel
theorem dX11_inches_24 : decode cX11_inches 24 = .ok (.getfield 95, 3) := by decide +kernel
theorem dX11_inches_27 : decode cX11_inches 27 = .ok (.getfield 315, 3) := by decide +kernel
theorem dX11_inches_30 : decode cX11_inches 30 = .ok (.ireturn, 1) := by decide +kernel
theorem dX11_inches_31 : decode cX11_inches 31 = .ok (.iload_n 2, 1) := by decide +kernel
theorem dX11_inches_32 : decode cX11_inches 32 = .ok (.ifCond .lt 26, 3) := by decide +kernel
theorem dX11_inches_35 : decode cX11_inches 35 = .ok (.iload_n 2, 1) := by decide +kernel
theorem dX11_inches_36 : decode cX11_inches 36 = .ok (.aload_n 0, 1) := by decide +kernel
theorem dX11_inches_37 : decode cX11_inches 37 = .ok (.getfield 95, 3) := by decide +kernel
theorem dX11_inches_40 : decode cX11_inches 40 = .ok (.getfield 315, 3) := by decide +kernel
theorem dX11_inches_43 : decode cX11_inches 43 = .ok (.if_icmp .ge 15, 3) := by decide +kernel
theorem dX11_inches_46 : decode cX11_inches 46 = .ok (.aload_n 0, 1) := by decide +kernel
theorem dX11_inches_47 : decode cX11_inches 47 = .ok (.getfield 95, 3) := by decide +kernel
theorem dX11_inches_50 : decode cX11_inches 50 = .ok (.getfield 316, 3) := by decide +kernel
theorem dX11_inches_53 : decode cX11_inches 53 = .ok (.iload_n 2, 1) := by decide +kernel
theorem dX11_inches_54 : decode cX11_inches 54 = .ok (.iaload, 1) := by decide +kernel
theorem dX11_inches_55 : decode cX11_inches 55 = .ok (.goto 4, 3) := by decide +kernel
theorem dX11_inches_58 : decode cX11_inches 58 = .ok (.iconst (-1), 1) := by decide +kernel
theorem dX11_inches_59 : decode cX11_inches 59 = .ok (.ireturn, 1) := by decide +kernel
theorem dX11_tells_0 : decode cX11_tells 0 = .ok (.iload_n 2, 1) := by decide +kernel
theorem dX11_tells_1 : decode cX11_tells 1 = .ok (.ifCond .lt 29, 3) := by decide +kernel
theorem dX11_tells_4 : decode cX11_tells 4 = .ok (.iload_n 2, 1) := by decide +kernel
theorem dX11_tells_5 : decode cX11_tells 5 = .ok (.iconst 2, 1) := by decide +kernel
theorem dX11_tells_6 : decode cX11_tells 6 = .ok (.if_icmp .gt 24, 3) := by decide +kernel
theorem dX11_tells_9 : decode cX11_tells 9 = .ok (.aload_n 0, 1) := by decide +kernel
theorem dX11_tells_10 : decode cX11_tells 10 = .ok (.iload_n 1, 1) := by decide +kernel
theorem dX11_tells_11 : decode cX11_tells 11 = .ok (.invokevirtual 267, 3) := by decide +kernel
theorem dX11_tells_14 : decode cX11_tells 14 = .ok (.ifCond .eq 16, 3) := by decide +kernel
theorem dX11_tells_17 : decode cX11_tells 17 = .ok (.aload_n 0, 1) := by decide +kernel
theorem dX11_tells_18 : decode cX11_tells 18 = .ok (.getfield 54, 3) := by decide +kernel
theorem dX11_tells_21 : decode cX11_tells 21 = .ok (.getfield 165, 3) := by decide +kernel
theorem dX11_tells_24 : decode cX11_tells 24 = .ok (.sipush 999, 3) := by decide +kernel
theorem dX11_tells_27 : decode cX11_tells 27 = .ok (.if_icmp .lt 5, 3) := by decide +kernel
theorem dX11_tells_30 : decode cX11_tells 30 = .ok (.iconst (-1), 1) := by decide +kernel
theorem dX11_tells_31 : decode cX11_tells 31 = .ok (.ireturn, 1) := by decide +kernel
theorem dX11_tells_32 : decode cX11_tells 32 = .ok (.aload_n 0, 1) := by decide +kernel
theorem dX11_tells_33 : decode cX11_tells 33 = .ok (.getfield 95, 3) := by decide +kernel
theorem dX11_tells_36 : decode cX11_tells 36 = .ok (.iload_n 1, 1) := by decide +kernel
theorem dX11_tells_37 : decode cX11_tells 37 = .ok (.invokevirtual 312, 3) := by decide +kernel
theorem dX11_tells_40 : decode cX11_tells 40 = .ok (.aload_n 0, 1) := by decide +kernel
theorem dX11_tells_41 : decode cX11_tells 41 = .ok (.getfield 95, 3) := by decide +kernel
theorem dX11_tells_44 : decode cX11_tells 44 = .ok (.getfield 315, 3) := by decide +kernel
theorem dX11_tells_47 : decode cX11_tells 47 = .ok (.ifCond .ne 5, 3) := by decide +kernel
theorem dX11_tells_50 : decode cX11_tells 50 = .ok (.iconst (-1), 1) := by decide +kernel
theorem dX11_tells_51 : decode cX11_tells 51 = .ok (.ireturn, 1) := by decide +kernel
theorem dX11_tells_52 : decode cX11_tells 52 = .ok (.aload_n 0, 1) := by decide +kernel
theorem dX11_tells_53 : decode cX11_tells 53 = .ok (.getfield 95, 3) := by decide +kernel
theorem dX11_tells_56 : decode cX11_tells 56 = .ok (.iload_n 1, 1) := by decide +kernel
theorem dX11_tells_57 : decode cX11_tells 57 = .ok (.invokevirtual 319, 3) := by decide +kernel
theorem dX11_tells_60 : decode cX11_tells 60 = .ok (.iload_n 2, 1) := by decide +kernel
theorem dX11_tells_61 : decode cX11_tells 61 = .ok (.lookupswitch 43 #[(0, 27), (1, 35)], 27) := by decide +kernel
theorem dX11_tells_88 : decode cX11_tells 88 = .ok (.aload_n 0, 1) := by decide +kernel
theorem dX11_tells_89 : decode cX11_tells 89 = .ok (.getfield 95, 3) := by decide +kernel
theorem dX11_tells_92 : decode cX11_tells 92 = .ok (.getfield 322, 3) := by decide +kernel
theorem dX11_tells_95 : decode cX11_tells 95 = .ok (.ireturn, 1) := by decide +kernel
theorem dX11_tells_96 : decode cX11_tells 96 = .ok (.aload_n 0, 1) := by decide +kernel
theorem dX11_tells_97 : decode cX11_tells 97 = .ok (.getfield 95, 3) := by decide +kernel
theorem dX11_tells_100 : decode cX11_tells 100 = .ok (.getfield 325, 3) := by decide +kernel
theorem dX11_tells_103 : decode cX11_tells 103 = .ok (.ireturn, 1) := by decide +kernel
theorem dX11_tells_104 : decode cX11_tells 104 = .ok (.aload_n 0, 1) := by decide +kernel
theorem dX11_tells_105 : decode cX11_tells 105 = .ok (.getfield 95, 3) := by decide +kernel
theorem dX11_tells_108 : decode cX11_tells 108 = .ok (.getfield 328, 3) := by decide +kernel
theorem dX11_tells_111 : decode cX11_tells 111 = .ok (.ireturn, 1) := by decide +kernel
theorem dX11_light_0 : decode cX11_light 0 = .ok (.aload_n 0, 1) := by decide +kernel
theorem dX11_light_1 : decode cX11_light 1 = .ok (.iload_n 1, 1) := by decide +kernel
theorem dX11_light_2 : decode cX11_light 2 = .ok (.invokevirtual 197, 3) := by decide +kernel
theorem dX11_light_5 : decode cX11_light 5 = .ok (.ifCond .eq 33, 3) := by decide +kernel
theorem dX11_light_8 : decode cX11_light 8 = .ok (.aload_n 0, 1) := by decide +kernel
theorem dX11_light_9 : decode cX11_light 9 = .ok (.iload_n 1, 1) := by decide +kernel
theorem dX11_light_10 : decode cX11_light 10 = .ok (.invokevirtual 267, 3) := by decide +kernel
theorem dX11_light_13 : decode cX11_light 13 = .ok (.ifCond .ne 25, 3) := by decide +kernel
theorem dX11_light_16 : decode cX11_light 16 = .ok (.iload_n 2, 1) := by decide +kernel
theorem dX11_light_17 : decode cX11_light 17 = .ok (.iconst 1, 1) := by decide +kernel
theorem dX11_light_18 : decode cX11_light 18 = .ok (.if_icmp .lt 20, 3) := by decide +kernel
theorem dX11_light_21 : decode cX11_light 21 = .ok (.iload_n 2, 1) := by decide +kernel
theorem dX11_light_22 : decode cX11_light 22 = .ok (.bipush 99, 2) := by decide +kernel
theorem dX11_light_24 : decode cX11_light 24 = .ok (.if_icmp .gt 14, 3) := by decide +kernel
theorem dX11_light_27 : decode cX11_light 27 = .ok (.iload_n 2, 1) := by decide +kernel
theorem dX11_light_28 : decode cX11_light 28 = .ok (.aload_n 0, 1) := by decide +kernel
theorem dX11_light_29 : decode cX11_light 29 = .ok (.getfield 54, 3) := by decide +kernel
theorem dX11_light_32 : decode cX11_light 32 = .ok (.getfield 168, 3) := by decide +kernel
theorem dX11_light_35 : decode cX11_light 35 = .ok (.if_icmp .le 9, 3) := by decide +kernel
theorem dX11_light_38 : decode cX11_light 38 = .ok (.aload_n 0, 1) := by decide +kernel
theorem dX11_light_39 : decode cX11_light 39 = .ok (.iconst 2, 1) := by decide +kernel
theorem dX11_light_40 : decode cX11_light 40 = .ok (.invokevirtual 130, 3) := by decide +kernel
theorem dX11_light_43 : decode cX11_light 43 = .ok (.ireturn, 1) := by decide +kernel
theorem dX11_light_44 : decode cX11_light 44 = .ok (.aload_n 0, 1) := by decide +kernel
theorem dX11_light_45 : decode cX11_light 45 = .ok (.getfield 68, 3) := by decide +kernel
theorem dX11_light_48 : decode cX11_light 48 = .ok (.aload_n 0, 1) := by decide +kernel
theorem dX11_light_49 : decode cX11_light 49 = .ok (.getfield 54, 3) := by decide +kernel
theorem dX11_light_52 : decode cX11_light 52 = .ok (.aload_n 0, 1) := by decide +kernel
theorem dX11_light_53 : decode cX11_light 53 = .ok (.getfield 61, 3) := by decide +kernel
theorem dX11_light_56 : decode cX11_light 56 = .ok (.invokevirtual 331, 3) := by decide +kernel
theorem dX11_light_59 : decode cX11_light 59 = .ok (.aload_n 0, 1) := by decide +kernel
theorem dX11_light_60 : decode cX11_light 60 = .ok (.getfield 54, 3) := by decide +kernel
theorem dX11_light_63 : decode cX11_light 63 = .ok (.iload_n 1, 1) := by decide +kernel
theorem dX11_light_64 : decode cX11_light 64 = .ok (.iload_n 2, 1) := by decide +kernel
theorem dX11_light_65 : decode cX11_light 65 = .ok (.invokevirtual 335, 3) := by decide +kernel
theorem dX11_light_68 : decode cX11_light 68 = .ok (.iconst 1, 1) := by decide +kernel
theorem dX11_light_69 : decode cX11_light 69 = .ok (.ireturn, 1) := by decide +kernel
theorem dX11_snuff_0 : decode cX11_snuff 0 = .ok (.aload_n 0, 1) := by decide +kernel
theorem dX11_snuff_1 : decode cX11_snuff 1 = .ok (.iload_n 1, 1) := by decide +kernel
theorem dX11_snuff_2 : decode cX11_snuff 2 = .ok (.invokevirtual 267, 3) := by decide +kernel
theorem dX11_snuff_5 : decode cX11_snuff 5 = .ok (.ifCond .ne 9, 3) := by decide +kernel
theorem dX11_snuff_8 : decode cX11_snuff 8 = .ok (.aload_n 0, 1) := by decide +kernel
theorem dX11_snuff_9 : decode cX11_snuff 9 = .ok (.iconst 2, 1) := by decide +kernel
theorem dX11_snuff_10 : decode cX11_snuff 10 = .ok (.invokevirtual 122, 3) := by decide +kernel
theorem dX11_snuff_13 : decode cX11_snuff 13 = .ok (.ireturn, 1) := by decide +kernel
theorem dX11_snuff_14 : decode cX11_snuff 14 = .ok (.aload_n 0, 1) := by decide +kernel
theorem dX11_snuff_15 : decode cX11_snuff 15 = .ok (.getfield 68, 3) := by decide +kernel
theorem dX11_snuff_18 : decode cX11_snuff 18 = .ok (.aload_n 0, 1) := by decide +kernel
theorem dX11_snuff_19 : decode cX11_snuff 19 = .ok (.getfield 54, 3) := by decide +kernel
theorem dX11_snuff_22 : decode cX11_snuff 22 = .ok (.aload_n 0, 1) := by decide +kernel
theorem dX11_snuff_23 : decode cX11_snuff 23 = .ok (.getfield 61, 3) := by decide +kernel
theorem dX11_snuff_26 : decode cX11_snuff 26 = .ok (.invokevirtual 331, 3) := by decide +kernel
theorem dX11_snuff_29 : decode cX11_snuff 29 = .ok (.aload_n 0, 1) := by decide +kernel
theorem dX11_snuff_30 : decode cX11_snuff 30 = .ok (.getfield 54, 3) := by decide +kernel
theorem dX11_snuff_33 : decode cX11_snuff 33 = .ok (.iload_n 1, 1) := by decide +kernel
theorem dX11_snuff_34 : decode cX11_snuff 34 = .ok (.invokevirtual 339, 3) := by decide +kernel
theorem dX11_snuff_37 : decode cX11_snuff 37 = .ok (.ireturn, 1) := by decide +kernel
theorem dX11_move_0 : decode cX11_move 0 = .ok (.aload_n 0, 1) := by decide +kernel
theorem dX11_move_1 : decode cX11_move 1 = .ok (.iload_n 1, 1) := by decide +kernel
theorem dX11_move_2 : decode cX11_move 2 = .ok (.invokevirtual 187, 3) := by decide +kernel
theorem dX11_move_5 : decode cX11_move 5 = .ok (.ifCond .eq 24, 3) := by decide +kernel
theorem dX11_move_8 : decode cX11_move 8 = .ok (.aload_n 0, 1) := by decide +kernel
theorem dX11_move_9 : decode cX11_move 9 = .ok (.iload_n 2, 1) := by decide +kernel
theorem dX11_move_10 : decode cX11_move 10 = .ok (.invokevirtual 231, 3) := by decide +kernel
theorem dX11_move_13 : decode cX11_move 13 = .ok (.ifCond .eq 16, 3) := by decide +kernel
theorem dX11_move_16 : decode cX11_move 16 = .ok (.aload_n 0, 1) := by decide +kernel
theorem dX11_move_17 : decode cX11_move 17 = .ok (.getfield 54, 3) := by decide +kernel
theorem dX11_move_20 : decode cX11_move 20 = .ok (.getfield 203, 3) := by decide +kernel
theorem dX11_move_23 : decode cX11_move 23 = .ok (.iload_n 1, 1) := by decide +kernel
theorem dX11_move_24 : decode cX11_move 24 = .ok (.iaload, 1) := by decide +kernel
theorem dX11_move_25 : decode cX11_move 25 = .ok (.iload_n 2, 1) := by decide +kernel
theorem dX11_move_26 : decode cX11_move 26 = .ok (.if_icmp .ne 9, 3) := by decide +kernel
theorem dX11_move_29 : decode cX11_move 29 = .ok (.aload_n 0, 1) := by decide +kernel
theorem dX11_move_30 : decode cX11_move 30 = .ok (.iconst 2, 1) := by decide +kernel
theorem dX11_move_31 : decode cX11_move 31 = .ok (.invokevirtual 130, 3) := by decide +kernel
theorem dX11_move_34 : decode cX11_move 34 = .ok (.ireturn, 1) := by decide +kernel
theorem dX11_move_35 : decode cX11_move 35 = .ok (.aload_n 0, 1) := by decide +kernel
theorem dX11_move_36 : decode cX11_move 36 = .ok (.getfield 68, 3) := by decide +kernel
theorem dX11_move_39 : decode cX11_move 39 = .ok (.aload_n 0, 1) := by decide +kernel
theorem dX11_move_40 : decode cX11_move 40 = .ok (.getfield 54, 3) := by decide +kernel
theorem dX11_move_43 : decode cX11_move 43 = .ok (.aload_n 0, 1) := by decide +kernel
theorem dX11_move_44 : decode cX11_move 44 = .ok (.getfield 61, 3) := by decide +kernel
theorem dX11_move_47 : decode cX11_move 47 = .ok (.invokevirtual 331, 3) := by decide +kernel
theorem dX11_move_50 : decode cX11_move 50 = .ok (.aload_n 0, 1) := by decide +kernel
theorem dX11_move_51 : decode cX11_move 51 = .ok (.getfield 54, 3) := by decide +kernel
theorem dX11_move_54 : decode cX11_move 54 = .ok (.getfield 203, 3) := by decide +kernel
theorem dX11_move_57 : decode cX11_move 57 = .ok (.iload_n 1, 1) := by decide +kernel
theorem dX11_move_58 : decode cX11_move 58 = .ok (.iload_n 2, 1) := by decide +kernel
theorem dX11_move_59 : decode cX11_move 59 = .ok (.iastore, 1) := by decide +kernel
theorem dX11_move_60 : decode cX11_move 60 = .ok (.iconst 1, 1) := by decide +kernel
theorem dX11_move_61 : decode cX11_move 61 = .ok (.ireturn, 1) := by decide +kernel
theorem dX11_buy_0 : decode cX11_buy 0 = .ok (.aload_n 0, 1) := by decide +kernel
theorem dX11_buy_1 : decode cX11_buy 1 = .ok (.invokevirtual 289, 3) := by decide +kernel
theorem dX11_buy_4 : decode cX11_buy 4 = .ok (.ifCond .eq 28, 3) := by decide +kernel
theorem dX11_buy_7 : decode cX11_buy 7 = .ok (.iload_n 1, 1) := by decide +kernel
theorem dX11_buy_8 : decode cX11_buy 8 = .ok (.iconst 1, 1) := by decide +kernel
theorem dX11_buy_9 : decode cX11_buy 9 = .ok (.if_icmp .lt 23, 3) := by decide +kernel
theorem dX11_buy_12 : decode cX11_buy 12 = .ok (.iload_n 1, 1) := by decide +kernel
theorem dX11_buy_13 : decode cX11_buy 13 = .ok (.sipush 999, 3) := by decide +kernel
theorem dX11_buy_16 : decode cX11_buy 16 = .ok (.if_icmp .gt 16, 3) := by decide +kernel
theorem dX11_buy_19 : decode cX11_buy 19 = .ok (.aload_n 0, 1) := by decide +kernel
theorem dX11_buy_20 : decode cX11_buy 20 = .ok (.getfield 54, 3) := by decide +kernel
theorem dX11_buy_23 : decode cX11_buy 23 = .ok (.getfield 168, 3) := by decide +kernel
theorem dX11_buy_26 : decode cX11_buy 26 = .ok (.sipush 999, 3) := by decide +kernel
theorem dX11_buy_29 : decode cX11_buy 29 = .ok (.if_icmp .lt 9, 3) := by decide +kernel
theorem dX11_buy_32 : decode cX11_buy 32 = .ok (.aload_n 0, 1) := by decide +kernel
theorem dX11_buy_33 : decode cX11_buy 33 = .ok (.iconst 2, 1) := by decide +kernel
theorem dX11_buy_34 : decode cX11_buy 34 = .ok (.invokevirtual 122, 3) := by decide +kernel
theorem dX11_buy_37 : decode cX11_buy 37 = .ok (.ireturn, 1) := by decide +kernel
theorem dX11_buy_38 : decode cX11_buy 38 = .ok (.aload_n 0, 1) := by decide +kernel
theorem dX11_buy_39 : decode cX11_buy 39 = .ok (.getfield 68, 3) := by decide +kernel
theorem dX11_buy_42 : decode cX11_buy 42 = .ok (.aload_n 0, 1) := by decide +kernel
theorem dX11_buy_43 : decode cX11_buy 43 = .ok (.getfield 54, 3) := by decide +kernel
theorem dX11_buy_46 : decode cX11_buy 46 = .ok (.aload_n 0, 1) := by decide +kernel
theorem dX11_buy_47 : decode cX11_buy 47 = .ok (.getfield 61, 3) := by decide +kernel
theorem dX11_buy_50 : decode cX11_buy 50 = .ok (.invokevirtual 331, 3) := by decide +kernel
theorem dX11_buy_53 : decode cX11_buy 53 = .ok (.aload_n 0, 1) := by decide +kernel
theorem dX11_buy_54 : decode cX11_buy 54 = .ok (.getfield 54, 3) := by decide +kernel
theorem dX11_buy_57 : decode cX11_buy 57 = .ok (.iload_n 1, 1) := by decide +kernel
theorem dX11_buy_58 : decode cX11_buy 58 = .ok (.invokevirtual 342, 3) := by decide +kernel
theorem dX11_buy_61 : decode cX11_buy 61 = .ok (.aload_n 0, 1) := by decide +kernel
theorem dX11_buy_62 : decode cX11_buy 62 = .ok (.getfield 54, 3) := by decide +kernel
theorem dX11_buy_65 : decode cX11_buy 65 = .ok (.getfield 168, 3) := by decide +kernel
theorem dX11_buy_68 : decode cX11_buy 68 = .ok (.ireturn, 1) := by decide +kernel
theorem dX11_hours_0 : decode cX11_hours 0 = .ok (.aload_n 0, 1) := by decide +kernel
theorem dX11_hours_1 : decode cX11_hours 1 = .ok (.invokevirtual 289, 3) := by decide +kernel
theorem dX11_hours_4 : decode cX11_hours 4 = .ok (.ifCond .eq 17, 3) := by decide +kernel
theorem dX11_hours_7 : decode cX11_hours 7 = .ok (.aload_n 0, 1) := by decide +kernel
theorem dX11_hours_8 : decode cX11_hours 8 = .ok (.getfield 86, 3) := by decide +kernel
theorem dX11_hours_11 : decode cX11_hours 11 = .ok (.iload_n 1, 1) := by decide +kernel
theorem dX11_hours_12 : decode cX11_hours 12 = .ok (.iconst 1, 1) := by decide +kernel
theorem dX11_hours_13 : decode cX11_hours 13 = .ok (.bipush 100, 2) := by decide +kernel
theorem dX11_hours_15 : decode cX11_hours 15 = .ok (.invokevirtual 234, 3) := by decide +kernel
theorem dX11_hours_18 : decode cX11_hours 18 = .ok (.ifCond .ne 9, 3) := by decide +kernel
theorem dX11_hours_21 : decode cX11_hours 21 = .ok (.aload_n 0, 1) := by decide +kernel
theorem dX11_hours_22 : decode cX11_hours 22 = .ok (.iconst 3, 1) := by decide +kernel
theorem dX11_hours_23 : decode cX11_hours 23 = .ok (.invokevirtual 122, 3) := by decide +kernel
theorem dX11_hours_26 : decode cX11_hours 26 = .ok (.ireturn, 1) := by decide +kernel
theorem dX11_hours_27 : decode cX11_hours 27 = .ok (.aload_n 0, 1) := by decide +kernel
theorem dX11_hours_28 : decode cX11_hours 28 = .ok (.getfield 68, 3) := by decide +kernel
theorem dX11_hours_31 : decode cX11_hours 31 = .ok (.aload_n 0, 1) := by decide +kernel
theorem dX11_hours_32 : decode cX11_hours 32 = .ok (.getfield 54, 3) := by decide +kernel
theorem dX11_hours_35 : decode cX11_hours 35 = .ok (.aload_n 0, 1) := by decide +kernel
theorem dX11_hours_36 : decode cX11_hours 36 = .ok (.getfield 61, 3) := by decide +kernel
theorem dX11_hours_39 : decode cX11_hours 39 = .ok (.invokevirtual 331, 3) := by decide +kernel
theorem dX11_hours_42 : decode cX11_hours 42 = .ok (.iconst 0, 1) := by decide +kernel
theorem dX11_hours_43 : decode cX11_hours 43 = .ok (.istore_n 2, 1) := by decide +kernel
theorem dX11_hours_44 : decode cX11_hours 44 = .ok (.iconst 0, 1) := by decide +kernel
theorem dX11_hours_45 : decode cX11_hours 45 = .ok (.istore_n 3, 1) := by decide +kernel
theorem dX11_hours_46 : decode cX11_hours 46 = .ok (.iload_n 3, 1) := by decide +kernel
theorem dX11_hours_47 : decode cX11_hours 47 = .ok (.iload_n 1, 1) := by decide +kernel
theorem dX11_hours_48 : decode cX11_hours 48 = .ok (.if_icmp .ge 16, 3) := by decide +kernel
theorem dX11_hours_51 : decode cX11_hours 51 = .ok (.iload_n 2, 1) := by decide +kernel
theorem dX11_hours_52 : decode cX11_hours 52 = .ok (.aload_n 0, 1) := by decide +kernel
theorem dX11_hours_53 : decode cX11_hours 53 = .ok (.invokevirtual 345, 3) := by decide +kernel
theorem dX11_hours_56 : decode cX11_hours 56 = .ok (.iadd, 1) := by decide +kernel
theorem dX11_hours_57 : decode cX11_hours 57 = .ok (.istore_n 2, 1) := by decide +kernel
theorem dX11_hours_58 : decode cX11_hours 58 = .ok (.iinc 3 1, 3) := by decide +kernel
theorem dX11_hours_61 : decode cX11_hours 61 = .ok (.goto (-15), 3) := by decide +kernel
theorem dX11_hours_64 : decode cX11_hours 64 = .ok (.iload_n 2, 1) := by decide +kernel
theorem dX11_hours_65 : decode cX11_hours 65 = .ok (.ireturn, 1) := by decide +kernel
theorem dX11_chance_0 : decode cX11_chance 0 = .ok (.aload_n 0, 1) := by decide +kernel
theorem dX11_chance_1 : decode cX11_chance 1 = .ok (.invokevirtual 289, 3) := by decide +kernel
theorem dX11_chance_4 : decode cX11_chance 4 = .ok (.ifCond .eq 17, 3) := by decide +kernel
theorem dX11_chance_7 : decode cX11_chance 7 = .ok (.aload_n 0, 1) := by decide +kernel
theorem dX11_chance_8 : decode cX11_chance 8 = .ok (.getfield 86, 3) := by decide +kernel
theorem dX11_chance_11 : decode cX11_chance 11 = .ok (.iload_n 1, 1) := by decide +kernel
theorem dX11_chance_12 : decode cX11_chance 12 = .ok (.iconst 1, 1) := by decide +kernel
theorem dX11_chance_13 : decode cX11_chance 13 = .ok (.bipush 100, 2) := by decide +kernel
theorem dX11_chance_15 : decode cX11_chance 15 = .ok (.invokevirtual 234, 3) := by decide +kernel
theorem dX11_chance_18 : decode cX11_chance 18 = .ok (.ifCond .ne 9, 3) := by decide +kernel
theorem dX11_chance_21 : decode cX11_chance 21 = .ok (.aload_n 0, 1) := by decide +kernel
theorem dX11_chance_22 : decode cX11_chance 22 = .ok (.iconst 3, 1) := by decide +kernel
theorem dX11_chance_23 : decode cX11_chance 23 = .ok (.invokevirtual 122, 3) := by decide +kernel
theorem dX11_chance_26 : decode cX11_chance 26 = .ok (.ireturn, 1) := by decide +kernel
theorem dX11_chance_27 : decode cX11_chance 27 = .ok (.aload_n 0, 1) := by decide +kernel
theorem dX11_chance_28 : decode cX11_chance 28 = .ok (.getfield 68, 3) := by decide +kernel
theorem dX11_chance_31 : decode cX11_chance 31 = .ok (.aload_n 0, 1) := by decide +kernel
theorem dX11_chance_32 : decode cX11_chance 32 = .ok (.getfield 54, 3) := by decide +kernel
theorem dX11_chance_35 : decode cX11_chance 35 = .ok (.aload_n 0, 1) := by decide +kernel
theorem dX11_chance_36 : decode cX11_chance 36 = .ok (.getfield 61, 3) := by decide +kernel
theorem dX11_chance_39 : decode cX11_chance 39 = .ok (.invokevirtual 331, 3) := by decide +kernel
theorem dX11_chance_42 : decode cX11_chance 42 = .ok (.iconst 0, 1) := by decide +kernel
theorem dX11_chance_43 : decode cX11_chance 43 = .ok (.istore_n 2, 1) := by decide +kernel
theorem dX11_chance_44 : decode cX11_chance 44 = .ok (.iconst 0, 1) := by decide +kernel
theorem dX11_chance_45 : decode cX11_chance 45 = .ok (.istore_n 3, 1) := by decide +kernel
theorem dX11_chance_46 : decode cX11_chance 46 = .ok (.iload_n 3, 1) := by decide +kernel
theorem dX11_chance_47 : decode cX11_chance 47 = .ok (.iload_n 1, 1) := by decide +kernel
theorem dX11_chance_48 : decode cX11_chance 48 = .ok (.if_icmp .ge 69, 3) := by decide +kernel
theorem dX11_chance_51 : decode cX11_chance 51 = .ok (.aload_n 0, 1) := by decide +kernel
theorem dX11_chance_52 : decode cX11_chance 52 = .ok (.bipush 100, 2) := by decide +kernel
theorem dX11_chance_54 : decode cX11_chance 54 = .ok (.invokevirtual 349, 3) := by decide +kernel
theorem dX11_chance_57 : decode cX11_chance 57 = .ok (.aload_n 0, 1) := by decide +kernel
theorem dX11_chance_58 : decode cX11_chance 58 = .ok (.getfield 26, 3) := by decide +kernel
theorem dX11_chance_61 : decode cX11_chance 61 = .ok (.getfield 352, 3) := by decide +kernel
theorem dX11_chance_64 : decode cX11_chance 64 = .ok (.if_icmp .ge 42, 3) := by decide +kernel
theorem dX11_chance_67 : decode cX11_chance 67 = .ok (.iinc 2 1, 3) := by decide +kernel
theorem dX11_chance_70 : decode cX11_chance 70 = .ok (.aload_n 0, 1) := by decide +kernel
theorem dX11_chance_71 : decode cX11_chance 71 = .ok (.getfield 61, 3) := by decide +kernel
theorem dX11_chance_74 : decode cX11_chance 74 = .ok (.aload_n 0, 1) := by decide +kernel
theorem dX11_chance_75 : decode cX11_chance 75 = .ok (.getfield 54, 3) := by decide +kernel
theorem dX11_chance_78 : decode cX11_chance 78 = .ok (.getfield 165, 3) := by decide +kernel
theorem dX11_chance_81 : decode cX11_chance 81 = .ok (.aload_n 0, 1) := by decide +kernel
theorem dX11_chance_82 : decode cX11_chance 82 = .ok (.getfield 77, 3) := by decide +kernel
theorem dX11_chance_85 : decode cX11_chance 85 = .ok (.aload_n 0, 1) := by decide +kernel
theorem dX11_chance_86 : decode cX11_chance 86 = .ok (.getfield 54, 3) := by decide +kernel
theorem dX11_chance_89 : decode cX11_chance 89 = .ok (.aload_n 0, 1) := by decide +kernel
theorem dX11_chance_90 : decode cX11_chance 90 = .ok (.aload_n 0, 1) := by decide +kernel
theorem dX11_chance_91 : decode cX11_chance 91 = .ok (.getfield 26, 3) := by decide +kernel
theorem dX11_chance_94 : decode cX11_chance 94 = .ok (.getfield 155, 3) := by decide +kernel
theorem dX11_chance_97 : decode cX11_chance 97 = .ok (.invokevirtual 349, 3) := by decide +kernel
theorem dX11_chance_100 : decode cX11_chance 100 = .ok (.invokevirtual 355, 3) := by decide +kernel
theorem dX11_chance_103 : decode cX11_chance 103 = .ok (.invokevirtual 358, 3) := by decide +kernel
theorem dX11_chance_106 : decode cX11_chance 106 = .ok (.aload_n 0, 1) := by decide +kernel
theorem dX11_chance_107 : decode cX11_chance 107 = .ok (.invokevirtual 345, 3) := by decide +kernel
theorem dX11_chance_110 : decode cX11_chance 110 = .ok (.pop, 1) := by decide +kernel
theorem dX11_chance_111 : decode cX11_chance 111 = .ok (.iinc 3 1, 3) := by decide +kernel
theorem dX11_chance_114 : decode cX11_chance 114 = .ok (.goto (-68), 3) := by decide +kernel
theorem dX11_chance_117 : decode cX11_chance 117 = .ok (.iload_n 2, 1) := by decide +kernel
theorem dX11_chance_118 : decode cX11_chance 118 = .ok (.ireturn, 1) := by decide +kernel
theorem dX11_undo_0 : decode cX11_undo 0 = .ok (.aload_n 0, 1) := by decide +kernel
theorem dX11_undo_1 : decode cX11_undo 1 = .ok (.getfield 68, 3) := by decide +kernel
theorem dX11_undo_4 : decode cX11_undo 4 = .ok (.aload_n 0, 1) := by decide +kernel
theorem dX11_undo_5 : decode cX11_undo 5 = .ok (.getfield 54, 3) := by decide +kernel
theorem dX11_undo_8 : decode cX11_undo 8 = .ok (.aload_n 0, 1) := by decide +kernel
theorem dX11_undo_9 : decode cX11_undo 9 = .ok (.getfield 61, 3) := by decide +kernel
theorem dX11_undo_12 : decode cX11_undo 12 = .ok (.invokevirtual 361, 3) := by decide +kernel
theorem dX11_undo_15 : decode cX11_undo 15 = .ok (.ifCond .ne 11, 3) := by decide +kernel
theorem dX11_undo_18 : decode cX11_undo 18 = .ok (.aload_n 0, 1) := by decide +kernel
theorem dX11_undo_19 : decode cX11_undo 19 = .ok (.iconst 4, 1) := by decide +kernel
theorem dX11_undo_20 : decode cX11_undo 20 = .ok (.invokevirtual 130, 3) := by decide +kernel
theorem dX11_undo_23 : decode cX11_undo 23 = .ok (.ifCond .eq 7, 3) := by decide +kernel
theorem dX11_undo_26 : decode cX11_undo 26 = .ok (.iconst 1, 1) := by decide +kernel
theorem dX11_undo_27 : decode cX11_undo 27 = .ok (.goto 4, 3) := by decide +kernel
theorem dX11_undo_30 : decode cX11_undo 30 = .ok (.iconst 0, 1) := by decide +kernel
theorem dX11_undo_31 : decode cX11_undo 31 = .ok (.ireturn, 1) := by decide +kernel
theorem dX11_seed_0 : decode cX11_seed 0 = .ok (.iload_n 1, 1) := by decide +kernel
theorem dX11_seed_1 : decode cX11_seed 1 = .ok (.ifCond .ge 9, 3) := by decide +kernel
theorem dX11_seed_4 : decode cX11_seed 4 = .ok (.aload_n 0, 1) := by decide +kernel
theorem dX11_seed_5 : decode cX11_seed 5 = .ok (.iconst 5, 1) := by decide +kernel
theorem dX11_seed_6 : decode cX11_seed 6 = .ok (.invokevirtual 130, 3) := by decide +kernel
theorem dX11_seed_9 : decode cX11_seed 9 = .ok (.ireturn, 1) := by decide +kernel
theorem dX11_seed_10 : decode cX11_seed 10 = .ok (.aload_n 0, 1) := by decide +kernel
theorem dX11_seed_11 : decode cX11_seed 11 = .ok (.iload_n 1, 1) := by decide +kernel
theorem dX11_seed_12 : decode cX11_seed 12 = .ok (.putfield 116, 3) := by decide +kernel
theorem dX11_seed_15 : decode cX11_seed 15 = .ok (.iconst 1, 1) := by decide +kernel
theorem dX11_seed_16 : decode cX11_seed 16 = .ok (.ireturn, 1) := by decide +kernel
theorem dX11_ask_0 : decode cX11_ask 0 = .ok (.aload_n 0, 1) := by decide +kernel
theorem dX11_ask_1 : decode cX11_ask 1 = .ok (.invokevirtual 289, 3) := by decide +kernel
theorem dX11_ask_4 : decode cX11_ask 4 = .ok (.ifCond .ne 15, 3) := by decide +kernel
theorem dX11_ask_7 : decode cX11_ask 7 = .ok (.aload_n 0, 1) := by decide +kernel
theorem dX11_ask_8 : decode cX11_ask 8 = .ok (.getfield 12, 3) := by decide +kernel
theorem dX11_ask_11 : decode cX11_ask 11 = .ok (.iconst 0, 1) := by decide +kernel
theorem dX11_ask_12 : decode cX11_ask 12 = .ok (.putfield 119, 3) := by decide +kernel
theorem dX11_ask_15 : decode cX11_ask 15 = .ok (.ldc2_w 365, 3) := by decide +kernel
theorem dX11_ask_18 : decode cX11_ask 18 = .ok (.lreturn, 1) := by decide +kernel
theorem dX11_ask_19 : decode cX11_ask 19 = .ok (.aload_n 0, 1) := by decide +kernel
theorem dX11_ask_20 : decode cX11_ask 20 = .ok (.getfield 38, 3) := by decide +kernel
theorem dX11_ask_23 : decode cX11_ask 23 = .ok (.aload_n 0, 1) := by decide +kernel
theorem dX11_ask_24 : decode cX11_ask 24 = .ok (.getfield 19, 3) := by decide +kernel
theorem dX11_ask_27 : decode cX11_ask 27 = .ok (.invokevirtual 367, 3) := by decide +kernel
theorem dX11_ask_30 : decode cX11_ask 30 = .ok (.istore_n 1, 1) := by decide +kernel
theorem dX11_ask_31 : decode cX11_ask 31 = .ok (.aload_n 0, 1) := by decide +kernel
theorem dX11_ask_32 : decode cX11_ask 32 = .ok (.invokevirtual 137, 3) := by decide +kernel
theorem dX11_ask_35 : decode cX11_ask 35 = .ok (.aload_n 0, 1) := by decide +kernel
theorem dX11_ask_36 : decode cX11_ask 36 = .ok (.getfield 110, 3) := by decide +kernel
theorem dX11_ask_39 : decode cX11_ask 39 = .ok (.ifCond .eq 9, 3) := by decide +kernel
theorem dX11_ask_42 : decode cX11_ask 42 = .ok (.ldc2_w 365, 3) := by decide +kernel
theorem dX11_ask_45 : decode cX11_ask 45 = .ok (.goto 19, 3) := by decide +kernel
theorem dX11_ask_48 : decode cX11_ask 48 = .ok (.aload_n 0, 1) := by decide +kernel
theorem dX11_ask_49 : decode cX11_ask 49 = .ok (.getfield 77, 3) := by decide +kernel
theorem dX11_ask_52 : decode cX11_ask 52 = .ok (.aload_n 0, 1) := by decide +kernel
theorem dX11_ask_53 : decode cX11_ask 53 = .ok (.getfield 54, 3) := by decide +kernel
theorem dX11_ask_56 : decode cX11_ask 56 = .ok (.aload_n 0, 1) := by decide +kernel
theorem dX11_ask_57 : decode cX11_ask 57 = .ok (.getfield 19, 3) := by decide +kernel
theorem dX11_ask_60 : decode cX11_ask 60 = .ok (.iload_n 1, 1) := by decide +kernel
theorem dX11_ask_61 : decode cX11_ask 61 = .ok (.invokevirtual 371, 3) := by decide +kernel
theorem dX11_ask_64 : decode cX11_ask 64 = .ok (.lreturn, 1) := by decide +kernel
theorem dX11_image_0 : decode cX11_image 0 = .ok (.aload_n 0, 1) := by decide +kernel
theorem dX11_image_1 : decode cX11_image 1 = .ok (.iconst 0, 1) := by decide +kernel
theorem dX11_image_2 : decode cX11_image 2 = .ok (.aload_n 0, 1) := by decide +kernel
theorem dX11_image_3 : decode cX11_image 3 = .ok (.getfield 54, 3) := by decide +kernel
theorem dX11_image_6 : decode cX11_image 6 = .ok (.getfield 165, 3) := by decide +kernel
theorem dX11_image_9 : decode cX11_image 9 = .ok (.invokevirtual 375, 3) := by decide +kernel
theorem dX11_image_12 : decode cX11_image 12 = .ok (.aload_n 0, 1) := by decide +kernel
theorem dX11_image_13 : decode cX11_image 13 = .ok (.iconst 2, 1) := by decide +kernel
theorem dX11_image_14 : decode cX11_image 14 = .ok (.aload_n 0, 1) := by decide +kernel
theorem dX11_image_15 : decode cX11_image 15 = .ok (.getfield 54, 3) := by decide +kernel
theorem dX11_image_18 : decode cX11_image 18 = .ok (.getfield 168, 3) := by decide +kernel
theorem dX11_image_21 : decode cX11_image 21 = .ok (.invokevirtual 375, 3) := by decide +kernel
theorem dX11_image_24 : decode cX11_image 24 = .ok (.iconst 4, 1) := by decide +kernel
theorem dX11_image_25 : decode cX11_image 25 = .ok (.istore_n 1, 1) := by decide +kernel
theorem dX11_image_26 : decode cX11_image 26 = .ok (.iconst 0, 1) := by decide +kernel
theorem dX11_image_27 : decode cX11_image 27 = .ok (.istore_n 2, 1) := by decide +kernel
theorem dX11_image_28 : decode cX11_image 28 = .ok (.iload_n 2, 1) := by decide +kernel
theorem dX11_image_29 : decode cX11_image 29 = .ok (.aload_n 0, 1) := by decide +kernel
theorem dX11_image_30 : decode cX11_image 30 = .ok (.getfield 26, 3) := by decide +kernel
theorem dX11_image_33 : decode cX11_image 33 = .ok (.getfield 158, 3) := by decide +kernel
theorem dX11_image_36 : decode cX11_image 36 = .ok (.if_icmp .ge 27, 3) := by decide +kernel
theorem dX11_image_39 : decode cX11_image 39 = .ok (.aload_n 0, 1) := by decide +kernel
theorem dX11_image_40 : decode cX11_image 40 = .ok (.getfield 99, 3) := by decide +kernel
theorem dX11_image_43 : decode cX11_image 43 = .ok (.iload_n 1, 1) := by decide +kernel
theorem dX11_image_44 : decode cX11_image 44 = .ok (.iinc 1 1, 3) := by decide +kernel
theorem dX11_image_47 : decode cX11_image 47 = .ok (.aload_n 0, 1) := by decide +kernel
theorem dX11_image_48 : decode cX11_image 48 = .ok (.getfield 54, 3) := by decide +kernel
theorem dX11_image_51 : decode cX11_image 51 = .ok (.getfield 203, 3) := by decide +kernel
theorem dX11_image_54 : decode cX11_image 54 = .ok (.iload_n 2, 1) := by decide +kernel
theorem dX11_image_55 : decode cX11_image 55 = .ok (.iaload, 1) := by decide +kernel
theorem dX11_image_56 : decode cX11_image 56 = .ok (.iastore, 1) := by decide +kernel
theorem dX11_image_57 : decode cX11_image 57 = .ok (.iinc 2 1, 3) := by decide +kernel
theorem dX11_image_60 : decode cX11_image 60 = .ok (.goto (-32), 3) := by decide +kernel
theorem dX11_image_63 : decode cX11_image 63 = .ok (.iconst 0, 1) := by decide +kernel
theorem dX11_image_64 : decode cX11_image 64 = .ok (.istore_n 2, 1) := by decide +kernel
theorem dX11_image_65 : decode cX11_image 65 = .ok (.iload_n 2, 1) := by decide +kernel
theorem dX11_image_66 : decode cX11_image 66 = .ok (.aload_n 0, 1) := by decide +kernel
theorem dX11_image_67 : decode cX11_image 67 = .ok (.getfield 26, 3) := by decide +kernel
theorem dX11_image_70 : decode cX11_image 70 = .ok (.getfield 161, 3) := by decide +kernel
theorem dX11_image_73 : decode cX11_image 73 = .ok (.if_icmp .ge 45, 3) := by decide +kernel
theorem dX11_image_76 : decode cX11_image 76 = .ok (.aload_n 0, 1) := by decide +kernel
theorem dX11_image_77 : decode cX11_image 77 = .ok (.getfield 99, 3) := by decide +kernel
theorem dX11_image_80 : decode cX11_image 80 = .ok (.iload_n 1, 1) := by decide +kernel
theorem dX11_image_81 : decode cX11_image 81 = .ok (.iinc 1 1, 3) := by decide +kernel
theorem dX11_image_84 : decode cX11_image 84 = .ok (.aload_n 0, 1) := by decide +kernel
theorem dX11_image_85 : decode cX11_image 85 = .ok (.getfield 54, 3) := by decide +kernel
theorem dX11_image_88 : decode cX11_image 88 = .ok (.getfield 216, 3) := by decide +kernel
theorem dX11_image_91 : decode cX11_image 91 = .ok (.iload_n 2, 1) := by decide +kernel
theorem dX11_image_92 : decode cX11_image 92 = .ok (.iaload, 1) := by decide +kernel
theorem dX11_image_93 : decode cX11_image 93 = .ok (.iastore, 1) := by decide +kernel
theorem dX11_image_94 : decode cX11_image 94 = .ok (.aload_n 0, 1) := by decide +kernel
theorem dX11_image_95 : decode cX11_image 95 = .ok (.getfield 99, 3) := by decide +kernel
theorem dX11_image_98 : decode cX11_image 98 = .ok (.iload_n 1, 1) := by decide +kernel
theorem dX11_image_99 : decode cX11_image 99 = .ok (.iinc 1 1, 3) := by decide +kernel
theorem dX11_image_102 : decode cX11_image 102 = .ok (.aload_n 0, 1) := by decide +kernel
theorem dX11_image_103 : decode cX11_image 103 = .ok (.getfield 54, 3) := by decide +kernel
theorem dX11_image_106 : decode cX11_image 106 = .ok (.getfield 219, 3) := by decide +kernel
theorem dX11_image_109 : decode cX11_image 109 = .ok (.iload_n 2, 1) := by decide +kernel
theorem dX11_image_110 : decode cX11_image 110 = .ok (.iaload, 1) := by decide +kernel
theorem dX11_image_111 : decode cX11_image 111 = .ok (.iastore, 1) := by decide +kernel
theorem dX11_image_112 : decode cX11_image 112 = .ok (.iinc 2 1, 3) := by decide +kernel
theorem dX11_image_115 : decode cX11_image 115 = .ok (.goto (-50), 3) := by decide +kernel
theorem dX11_image_118 : decode cX11_image 118 = .ok (.sipush 167, 3) := by decide +kernel
theorem dX11_image_121 : decode cX11_image 121 = .ok (.istore_n 2, 1) := by decide +kernel
theorem dX11_image_122 : decode cX11_image 122 = .ok (.iconst 0, 1) := by decide +kernel
theorem dX11_image_123 : decode cX11_image 123 = .ok (.istore_n 3, 1) := by decide +kernel
theorem dX11_image_124 : decode cX11_image 124 = .ok (.iload_n 3, 1) := by decide +kernel
theorem dX11_image_125 : decode cX11_image 125 = .ok (.iload_n 1, 1) := by decide +kernel
theorem dX11_image_126 : decode cX11_image 126 = .ok (.if_icmp .ge 24, 3) := by decide +kernel
theorem dX11_image_129 : decode cX11_image 129 = .ok (.iconst 3, 1) := by decide +kernel
theorem dX11_image_130 : decode cX11_image 130 = .ok (.iload_n 2, 1) := by decide +kernel
theorem dX11_image_131 : decode cX11_image 131 = .ok (.imul, 1) := by decide +kernel
theorem dX11_image_132 : decode cX11_image 132 = .ok (.aload_n 0, 1) := by decide +kernel
theorem dX11_image_133 : decode cX11_image 133 = .ok (.getfield 99, 3) := by decide +kernel
theorem dX11_image_136 : decode cX11_image 136 = .ok (.iload_n 3, 1) := by decide +kernel
theorem dX11_image_137 : decode cX11_image 137 = .ok (.iaload, 1) := by decide +kernel
theorem dX11_image_138 : decode cX11_image 138 = .ok (.iadd, 1) := by decide +kernel
theorem dX11_image_139 : decode cX11_image 139 = .ok (.sipush 251, 3) := by decide +kernel
theorem dX11_image_142 : decode cX11_image 142 = .ok (.irem, 1) := by decide +kernel
theorem dX11_image_143 : decode cX11_image 143 = .ok (.istore_n 2, 1) := by decide +kernel
theorem dX11_image_144 : decode cX11_image 144 = .ok (.iinc 3 1, 3) := by decide +kernel
theorem dX11_image_147 : decode cX11_image 147 = .ok (.goto (-23), 3) := by decide +kernel
theorem dX11_image_150 : decode cX11_image 150 = .ok (.aload_n 0, 1) := by decide +kernel
theorem dX11_image_151 : decode cX11_image 151 = .ok (.getfield 99, 3) := by decide +kernel
theorem dX11_image_154 : decode cX11_image 154 = .ok (.iload_n 1, 1) := by decide +kernel
theorem dX11_image_155 : decode cX11_image 155 = .ok (.iinc 1 1, 3) := by decide +kernel
theorem dX11_image_158 : decode cX11_image 158 = .ok (.iload_n 2, 1) := by decide +kernel
theorem dX11_image_159 : decode cX11_image 159 = .ok (.iastore, 1) := by decide +kernel
theorem dX11_image_160 : decode cX11_image 160 = .ok (.aload_n 0, 1) := by decide +kernel
theorem dX11_image_161 : decode cX11_image 161 = .ok (.iload_n 1, 1) := by decide +kernel
theorem dX11_image_162 : decode cX11_image 162 = .ok (.putfield 103, 3) := by decide +kernel
theorem dX11_image_165 : decode cX11_image 165 = .ok (.iload_n 1, 1) := by decide +kernel
theorem dX11_image_166 : decode cX11_image 166 = .ok (.ireturn, 1) := by decide +kernel
theorem dX11_octet_0 : decode cX11_octet 0 = .ok (.iload_n 1, 1) := by decide +kernel
theorem dX11_octet_1 : decode cX11_octet 1 = .ok (.ifCond .lt 20, 3) := by decide +kernel
theorem dX11_octet_4 : decode cX11_octet 4 = .ok (.iload_n 1, 1) := by decide +kernel
theorem dX11_octet_5 : decode cX11_octet 5 = .ok (.aload_n 0, 1) := by decide +kernel
theorem dX11_octet_6 : decode cX11_octet 6 = .ok (.getfield 103, 3) := by decide +kernel
theorem dX11_octet_9 : decode cX11_octet 9 = .ok (.if_icmp .ge 12, 3) := by decide +kernel
theorem dX11_octet_12 : decode cX11_octet 12 = .ok (.aload_n 0, 1) := by decide +kernel
theorem dX11_octet_13 : decode cX11_octet 13 = .ok (.getfield 99, 3) := by decide +kernel
theorem dX11_octet_16 : decode cX11_octet 16 = .ok (.iload_n 1, 1) := by decide +kernel
theorem dX11_octet_17 : decode cX11_octet 17 = .ok (.iaload, 1) := by decide +kernel
theorem dX11_octet_18 : decode cX11_octet 18 = .ok (.goto 4, 3) := by decide +kernel
theorem dX11_octet_21 : decode cX11_octet 21 = .ok (.iconst (-1), 1) := by decide +kernel
theorem dX11_octet_22 : decode cX11_octet 22 = .ok (.ireturn, 1) := by decide +kernel
theorem dX11_on_0 : decode cX11_on 0 = .ok (.aload_n 0, 1) := by decide +kernel
theorem dX11_on_1 : decode cX11_on 1 = .ok (.invokevirtual 289, 3) := by decide +kernel
theorem dX11_on_4 : decode cX11_on 4 = .ok (.ifCond .eq 14, 3) := by decide +kernel
theorem dX11_on_7 : decode cX11_on 7 = .ok (.aload_n 0, 1) := by decide +kernel
theorem dX11_on_8 : decode cX11_on 8 = .ok (.invokevirtual 378, 3) := by decide +kernel
theorem dX11_on_11 : decode cX11_on 11 = .ok (.ifCond .eq 7, 3) := by decide +kernel
theorem dX11_on_14 : decode cX11_on 14 = .ok (.iconst 1, 1) := by decide +kernel
theorem dX11_on_15 : decode cX11_on 15 = .ok (.goto 4, 3) := by decide +kernel
theorem dX11_on_18 : decode cX11_on 18 = .ok (.iconst 0, 1) := by decide +kernel
theorem dX11_on_19 : decode cX11_on 19 = .ok (.istore_n 1, 1) := by decide +kernel
theorem dX11_on_20 : decode cX11_on 20 = .ok (.iload_n 1, 1) := by decide +kernel
theorem dX11_on_21 : decode cX11_on 21 = .ok (.ifCond .eq 22, 3) := by decide +kernel
theorem dX11_on_24 : decode cX11_on 24 = .ok (.aload_n 0, 1) := by decide +kernel
theorem dX11_on_25 : decode cX11_on 25 = .ok (.getfield 54, 3) := by decide +kernel
theorem dX11_on_28 : decode cX11_on 28 = .ok (.aload_n 0, 1) := by decide +kernel
theorem dX11_on_29 : decode cX11_on 29 = .ok (.getfield 12, 3) := by decide +kernel
theorem dX11_on_32 : decode cX11_on 32 = .ok (.aload_n 0, 1) := by decide +kernel
theorem dX11_on_33 : decode cX11_on 33 = .ok (.getfield 26, 3) := by decide +kernel
theorem dX11_on_36 : decode cX11_on 36 = .ok (.invokevirtual 381, 3) := by decide +kernel
theorem dX11_on_39 : decode cX11_on 39 = .ok (.aload_n 0, 1) := by decide +kernel
theorem dX11_on_40 : decode cX11_on 40 = .ok (.invokevirtual 146, 3) := by decide +kernel
theorem dX11_on_43 : decode cX11_on 43 = .ok (.aload_n 0, 1) := by decide +kernel
theorem dX11_on_44 : decode cX11_on 44 = .ok (.getfield 12, 3) := by decide +kernel
theorem dX11_on_47 : decode cX11_on 47 = .ok (.iconst 0, 1) := by decide +kernel
theorem dX11_on_48 : decode cX11_on 48 = .ok (.putfield 119, 3) := by decide +kernel
theorem dX11_on_51 : decode cX11_on 51 = .ok (.iload_n 1, 1) := by decide +kernel
theorem dX11_on_52 : decode cX11_on 52 = .ok (.ifCond .ne 11, 3) := by decide +kernel
theorem dX11_on_55 : decode cX11_on 55 = .ok (.aload_n 0, 1) := by decide +kernel
theorem dX11_on_56 : decode cX11_on 56 = .ok (.iconst 5, 1) := by decide +kernel
theorem dX11_on_57 : decode cX11_on 57 = .ok (.invokevirtual 130, 3) := by decide +kernel
theorem dX11_on_60 : decode cX11_on 60 = .ok (.ifCond .eq 7, 3) := by decide +kernel
theorem dX11_on_63 : decode cX11_on 63 = .ok (.iconst 1, 1) := by decide +kernel
theorem dX11_on_64 : decode cX11_on 64 = .ok (.goto 4, 3) := by decide +kernel
theorem dX11_on_67 : decode cX11_on 67 = .ok (.iconst 0, 1) := by decide +kernel
theorem dX11_on_68 : decode cX11_on 68 = .ok (.ireturn, 1) := by decide +kernel
theorem dX11_status_0 : decode cX11_status 0 = .ok (.iload_n 1, 1) := by decide +kernel
theorem dX11_status_1 : decode cX11_status 1 = .ok (.ifCond .lt 18, 3) := by decide +kernel
theorem dX11_status_4 : decode cX11_status 4 = .ok (.iload_n 1, 1) := by decide +kernel
theorem dX11_status_5 : decode cX11_status 5 = .ok (.bipush 6, 2) := by decide +kernel
theorem dX11_status_7 : decode cX11_status 7 = .ok (.if_icmp .ge 12, 3) := by decide +kernel
theorem dX11_status_10 : decode cX11_status 10 = .ok (.aload_n 0, 1) := by decide +kernel
theorem dX11_status_11 : decode cX11_status 11 = .ok (.getfield 107, 3) := by decide +kernel
theorem dX11_status_14 : decode cX11_status 14 = .ok (.iload_n 1, 1) := by decide +kernel
theorem dX11_status_15 : decode cX11_status 15 = .ok (.iaload, 1) := by decide +kernel
theorem dX11_status_16 : decode cX11_status 16 = .ok (.goto 4, 3) := by decide +kernel
theorem dX11_status_19 : decode cX11_status 19 = .ok (.iconst (-1), 1) := by decide +kernel
theorem dX11_status_20 : decode cX11_status 20 = .ok (.ireturn, 1) := by decide +kernel
theorem dX11_refuse_0 : decode cX11_refuse 0 = .ok (.aload_n 0, 1) := by decide +kernel
theorem dX11_refuse_1 : decode cX11_refuse 1 = .ok (.getfield 107, 3) := by decide +kernel
theorem dX11_refuse_4 : decode cX11_refuse 4 = .ok (.iload_n 1, 1) := by decide +kernel
theorem dX11_refuse_5 : decode cX11_refuse 5 = .ok (.dup2, 1) := by decide +kernel
theorem dX11_refuse_6 : decode cX11_refuse 6 = .ok (.iaload, 1) := by decide +kernel
theorem dX11_refuse_7 : decode cX11_refuse 7 = .ok (.iconst 1, 1) := by decide +kernel
theorem dX11_refuse_8 : decode cX11_refuse 8 = .ok (.iadd, 1) := by decide +kernel
theorem dX11_refuse_9 : decode cX11_refuse 9 = .ok (.iastore, 1) := by decide +kernel
theorem dX11_refuse_10 : decode cX11_refuse 10 = .ok (.iconst (-1), 1) := by decide +kernel
theorem dX11_refuse_11 : decode cX11_refuse 11 = .ok (.ireturn, 1) := by decide +kernel
theorem dX11_deny_0 : decode cX11_deny 0 = .ok (.aload_n 0, 1) := by decide +kernel
theorem dX11_deny_1 : decode cX11_deny 1 = .ok (.getfield 107, 3) := by decide +kernel
theorem dX11_deny_4 : decode cX11_deny 4 = .ok (.iload_n 1, 1) := by decide +kernel
theorem dX11_deny_5 : decode cX11_deny 5 = .ok (.dup2, 1) := by decide +kernel
theorem dX11_deny_6 : decode cX11_deny 6 = .ok (.iaload, 1) := by decide +kernel
theorem dX11_deny_7 : decode cX11_deny 7 = .ok (.iconst 1, 1) := by decide +kernel
theorem dX11_deny_8 : decode cX11_deny 8 = .ok (.iadd, 1) := by decide +kernel
theorem dX11_deny_9 : decode cX11_deny 9 = .ok (.iastore, 1) := by decide +kernel
theorem dX11_deny_10 : decode cX11_deny 10 = .ok (.iconst 0, 1) := by decide +kernel
theorem dX11_deny_11 : decode cX11_deny 11 = .ok (.ireturn, 1) := by decide +kernel
theorem dX11_hasStreet_0 : decode cX11_hasStreet 0 = .ok (.aload_n 0, 1) := by decide +kernel
theorem dX11_hasStreet_1 : decode cX11_hasStreet 1 = .ok (.getfield 26, 3) := by decide +kernel
theorem dX11_hasStreet_4 : decode cX11_hasStreet 4 = .ok (.getfield 155, 3) := by decide +kernel
theorem dX11_hasStreet_7 : decode cX11_hasStreet 7 = .ok (.ifCond .le 7, 3) := by decide +kernel
theorem dX11_hasStreet_10 : decode cX11_hasStreet 10 = .ok (.iconst 1, 1) := by decide +kernel
theorem dX11_hasStreet_11 : decode cX11_hasStreet 11 = .ok (.goto 4, 3) := by decide +kernel
theorem dX11_hasStreet_14 : decode cX11_hasStreet 14 = .ok (.iconst 0, 1) := by decide +kernel
theorem dX11_hasStreet_15 : decode cX11_hasStreet 15 = .ok (.ireturn, 1) := by decide +kernel
theorem dX11_isWindow_0 : decode cX11_isWindow 0 = .ok (.iload_n 1, 1) := by decide +kernel
theorem dX11_isWindow_1 : decode cX11_isWindow 1 = .ok (.ifCond .lt 18, 3) := by decide +kernel
theorem dX11_isWindow_4 : decode cX11_isWindow 4 = .ok (.iload_n 1, 1) := by decide +kernel
theorem dX11_isWindow_5 : decode cX11_isWindow 5 = .ok (.aload_n 0, 1) := by decide +kernel
theorem dX11_isWindow_6 : decode cX11_isWindow 6 = .ok (.getfield 26, 3) := by decide +kernel
theorem dX11_isWindow_9 : decode cX11_isWindow 9 = .ok (.getfield 155, 3) := by decide +kernel
theorem dX11_isWindow_12 : decode cX11_isWindow 12 = .ok (.if_icmp .ge 7, 3) := by decide +kernel
theorem dX11_isWindow_15 : decode cX11_isWindow 15 = .ok (.iconst 1, 1) := by decide +kernel
theorem dX11_isWindow_16 : decode cX11_isWindow 16 = .ok (.goto 4, 3) := by decide +kernel
theorem dX11_isWindow_19 : decode cX11_isWindow 19 = .ok (.iconst 0, 1) := by decide +kernel
theorem dX11_isWindow_20 : decode cX11_isWindow 20 = .ok (.ireturn, 1) := by decide +kernel
theorem dX11_isPerson_0 : decode cX11_isPerson 0 = .ok (.iload_n 1, 1) := by decide +kernel
theorem dX11_isPerson_1 : decode cX11_isPerson 1 = .ok (.ifCond .lt 18, 3) := by decide +kernel
theorem dX11_isPerson_4 : decode cX11_isPerson 4 = .ok (.iload_n 1, 1) := by decide +kernel
theorem dX11_isPerson_5 : decode cX11_isPerson 5 = .ok (.aload_n 0, 1) := by decide +kernel
theorem dX11_isPerson_6 : decode cX11_isPerson 6 = .ok (.getfield 26, 3) := by decide +kernel
theorem dX11_isPerson_9 : decode cX11_isPerson 9 = .ok (.getfield 158, 3) := by decide +kernel
theorem dX11_isPerson_12 : decode cX11_isPerson 12 = .ok (.if_icmp .ge 7, 3) := by decide +kernel
theorem dX11_isPerson_15 : decode cX11_isPerson 15 = .ok (.iconst 1, 1) := by decide +kernel
theorem dX11_isPerson_16 : decode cX11_isPerson 16 = .ok (.goto 4, 3) := by decide +kernel
theorem dX11_isPerson_19 : decode cX11_isPerson 19 = .ok (.iconst 0, 1) := by decide +kernel
theorem dX11_isPerson_20 : decode cX11_isPerson 20 = .ok (.ireturn, 1) := by decide +kernel
theorem dX11_isLie_0 : decode cX11_isLie 0 = .ok (.iload_n 1, 1) := by decide +kernel
theorem dX11_isLie_1 : decode cX11_isLie 1 = .ok (.ifCond .lt 18, 3) := by decide +kernel
theorem dX11_isLie_4 : decode cX11_isLie 4 = .ok (.iload_n 1, 1) := by decide +kernel
theorem dX11_isLie_5 : decode cX11_isLie 5 = .ok (.aload_n 0, 1) := by decide +kernel
theorem dX11_isLie_6 : decode cX11_isLie 6 = .ok (.getfield 26, 3) := by decide +kernel
theorem dX11_isLie_9 : decode cX11_isLie 9 = .ok (.getfield 161, 3) := by decide +kernel
theorem dX11_isLie_12 : decode cX11_isLie 12 = .ok (.if_icmp .ge 7, 3) := by decide +kernel
theorem dX11_isLie_15 : decode cX11_isLie 15 = .ok (.iconst 1, 1) := by decide +kernel
theorem dX11_isLie_16 : decode cX11_isLie 16 = .ok (.goto 4, 3) := by decide +kernel
theorem dX11_isLie_19 : decode cX11_isLie 19 = .ok (.iconst 0, 1) := by decide +kernel
theorem dX11_isLie_20 : decode cX11_isLie 20 = .ok (.ireturn, 1) := by decide +kernel
theorem dX11_isLit_0 : decode cX11_isLit 0 = .ok (.aload_n 0, 1) := by decide +kernel
theorem dX11_isLit_1 : decode cX11_isLit 1 = .ok (.iload_n 1, 1) := by decide +kernel
theorem dX11_isLit_2 : decode cX11_isLit 2 = .ok (.invokevirtual 197, 3) := by decide +kernel
theorem dX11_isLit_5 : decode cX11_isLit 5 = .ok (.ifCond .eq 19, 3) := by decide +kernel
theorem dX11_isLit_8 : decode cX11_isLit 8 = .ok (.aload_n 0, 1) := by decide +kernel
theorem dX11_isLit_9 : decode cX11_isLit 9 = .ok (.getfield 54, 3) := by decide +kernel
theorem dX11_isLit_12 : decode cX11_isLit 12 = .ok (.getfield 216, 3) := by decide +kernel
theorem dX11_isLit_15 : decode cX11_isLit 15 = .ok (.iload_n 1, 1) := by decide +kernel
theorem dX11_isLit_16 : decode cX11_isLit 16 = .ok (.iaload, 1) := by decide +kernel
theorem dX11_isLit_17 : decode cX11_isLit 17 = .ok (.ifCond .le 7, 3) := by decide +kernel
theorem dX11_isLit_20 : decode cX11_isLit 20 = .ok (.iconst 1, 1) := by decide +kernel
theorem dX11_isLit_21 : decode cX11_isLit 21 = .ok (.goto 4, 3) := by decide +kernel
theorem dX11_isLit_24 : decode cX11_isLit 24 = .ok (.iconst 0, 1) := by decide +kernel
theorem dX11_isLit_25 : decode cX11_isLit 25 = .ok (.ireturn, 1) := by decide +kernel
theorem dX11_letterOf_0 : decode cX11_letterOf 0 = .ok (.iload_n 0, 1) := by decide +kernel
theorem dX11_letterOf_1 : decode cX11_letterOf 1 = .ok (.iconst 5, 1) := by decide +kernel
theorem dX11_letterOf_2 : decode cX11_letterOf 2 = .ok (.iconst 5, 1) := by decide +kernel
theorem dX11_letterOf_3 : decode cX11_letterOf 3 = .ok (.iload_n 1, 1) := by decide +kernel
theorem dX11_letterOf_4 : decode cX11_letterOf 4 = .ok (.isub, 1) := by decide +kernel
theorem dX11_letterOf_5 : decode cX11_letterOf 5 = .ok (.imul, 1) := by decide +kernel
theorem dX11_letterOf_6 : decode cX11_letterOf 6 = .ok (.ishr, 1) := by decide +kernel
theorem dX11_letterOf_7 : decode cX11_letterOf 7 = .ok (.bipush 31, 2) := by decide +kernel
theorem dX11_letterOf_9 : decode cX11_letterOf 9 = .ok (.iand, 1) := by decide +kernel
theorem dX11_letterOf_10 : decode cX11_letterOf 10 = .ok (.ireturn, 1) := by decide +kernel
theorem dX11_takeFault_0 : decode cX11_takeFault 0 = .ok (.aload_n 0, 1) := by decide +kernel
theorem dX11_takeFault_1 : decode cX11_takeFault 1 = .ok (.aload_n 0, 1) := by decide +kernel
theorem dX11_takeFault_2 : decode cX11_takeFault 2 = .ok (.getfield 38, 3) := by decide +kernel
theorem dX11_takeFault_5 : decode cX11_takeFault 5 = .ok (.getfield 385, 3) := by decide +kernel
theorem dX11_takeFault_8 : decode cX11_takeFault 8 = .ok (.putfield 110, 3) := by decide +kernel
theorem dX11_takeFault_11 : decode cX11_takeFault 11 = .ok (.aload_n 0, 1) := by decide +kernel
theorem dX11_takeFault_12 : decode cX11_takeFault 12 = .ok (.aload_n 0, 1) := by decide +kernel
theorem dX11_takeFault_13 : decode cX11_takeFault 13 = .ok (.getfield 38, 3) := by decide +kernel
theorem dX11_takeFault_16 : decode cX11_takeFault 16 = .ok (.getfield 388, 3) := by decide +kernel
theorem dX11_takeFault_19 : decode cX11_takeFault 19 = .ok (.putfield 113, 3) := by decide +kernel
theorem dX11_takeFault_22 : decode cX11_takeFault 22 = .ok (.aload_n 0, 1) := by decide +kernel
theorem dX11_takeFault_23 : decode cX11_takeFault 23 = .ok (.getfield 12, 3) := by decide +kernel
theorem dX11_takeFault_26 : decode cX11_takeFault 26 = .ok (.iconst 0, 1) := by decide +kernel
theorem dX11_takeFault_27 : decode cX11_takeFault 27 = .ok (.putfield 119, 3) := by decide +kernel
theorem dX11_takeFault_30 : decode cX11_takeFault 30 = .ok (.return_, 1) := by decide +kernel
theorem dX11_forgetActs_0 : decode cX11_forgetActs 0 = .ok (.aload_n 0, 1) := by decide +kernel
theorem dX11_forgetActs_1 : decode cX11_forgetActs 1 = .ok (.getfield 61, 3) := by decide +kernel
theorem dX11_forgetActs_4 : decode cX11_forgetActs 4 = .ok (.iconst 0, 1) := by decide +kernel
theorem dX11_forgetActs_5 : decode cX11_forgetActs 5 = .ok (.putfield 183, 3) := by decide +kernel
theorem dX11_forgetActs_8 : decode cX11_forgetActs 8 = .ok (.aload_n 0, 1) := by decide +kernel
theorem dX11_forgetActs_9 : decode cX11_forgetActs 9 = .ok (.getfield 68, 3) := by decide +kernel
theorem dX11_forgetActs_12 : decode cX11_forgetActs 12 = .ok (.iconst 0, 1) := by decide +kernel
theorem dX11_forgetActs_13 : decode cX11_forgetActs 13 = .ok (.putfield 186, 3) := by decide +kernel
theorem dX11_forgetActs_16 : decode cX11_forgetActs 16 = .ok (.return_, 1) := by decide +kernel
theorem dX11_passNow_0 : decode cX11_passNow 0 = .ok (.aload_n 0, 1) := by decide +kernel
theorem dX11_passNow_1 : decode cX11_passNow 1 = .ok (.getfield 54, 3) := by decide +kernel
theorem dX11_passNow_4 : decode cX11_passNow 4 = .ok (.getfield 165, 3) := by decide +kernel
theorem dX11_passNow_7 : decode cX11_passNow 7 = .ok (.istore_n 1, 1) := by decide +kernel
theorem dX11_passNow_8 : decode cX11_passNow 8 = .ok (.aload_n 0, 1) := by decide +kernel
theorem dX11_passNow_9 : decode cX11_passNow 9 = .ok (.getfield 77, 3) := by decide +kernel
theorem dX11_passNow_12 : decode cX11_passNow 12 = .ok (.aload_n 0, 1) := by decide +kernel
theorem dX11_passNow_13 : decode cX11_passNow 13 = .ok (.getfield 54, 3) := by decide +kernel
theorem dX11_passNow_16 : decode cX11_passNow 16 = .ok (.invokevirtual 261, 3) := by decide +kernel
theorem dX11_passNow_19 : decode cX11_passNow 19 = .ok (.istore_n 2, 1) := by decide +kernel
theorem dX11_passNow_20 : decode cX11_passNow 20 = .ok (.aload_n 0, 1) := by decide +kernel
theorem dX11_passNow_21 : decode cX11_passNow 21 = .ok (.getfield 61, 3) := by decide +kernel
theorem dX11_passNow_24 : decode cX11_passNow 24 = .ok (.iload_n 1, 1) := by decide +kernel
theorem dX11_passNow_25 : decode cX11_passNow 25 = .ok (.iload_n 2, 1) := by decide +kernel
theorem dX11_passNow_26 : decode cX11_passNow 26 = .ok (.invokevirtual 358, 3) := by decide +kernel
theorem dX11_passNow_29 : decode cX11_passNow 29 = .ok (.iload_n 2, 1) := by decide +kernel
theorem dX11_passNow_30 : decode cX11_passNow 30 = .ok (.invokestatic 175, 3) := by decide +kernel
theorem dX11_passNow_33 : decode cX11_passNow 33 = .ok (.ireturn, 1) := by decide +kernel
theorem dX11_draw_0 : decode cX11_draw 0 = .ok (.aload_n 0, 1) := by decide +kernel
theorem dX11_draw_1 : decode cX11_draw 1 = .ok (.ldc2_w 391, 3) := by decide +kernel
theorem dX11_draw_4 : decode cX11_draw 4 = .ok (.aload_n 0, 1) := by decide +kernel
theorem dX11_draw_5 : decode cX11_draw 5 = .ok (.getfield 116, 3) := by decide +kernel
theorem dX11_draw_8 : decode cX11_draw 8 = .ok (.i2l, 1) := by decide +kernel
theorem dX11_draw_9 : decode cX11_draw 9 = .ok (.lmul, 1) := by decide +kernel
theorem dX11_draw_10 : decode cX11_draw 10 = .ok (.ldc2_w 393, 3) := by decide +kernel
theorem dX11_draw_13 : decode cX11_draw 13 = .ok (.ladd, 1) := by decide +kernel
theorem dX11_draw_14 : decode cX11_draw 14 = .ok (.ldc2_w 395, 3) := by decide +kernel
theorem dX11_draw_17 : decode cX11_draw 17 = .ok (.land, 1) := by decide +kernel
theorem dX11_draw_18 : decode cX11_draw 18 = .ok (.l2i, 1) := by decide +kernel
theorem dX11_draw_19 : decode cX11_draw 19 = .ok (.putfield 116, 3) := by decide +kernel
theorem dX11_draw_22 : decode cX11_draw 22 = .ok (.iload_n 1, 1) := by decide +kernel
theorem dX11_draw_23 : decode cX11_draw 23 = .ok (.ifCond .le 15, 3) := by decide +kernel
theorem dX11_draw_26 : decode cX11_draw 26 = .ok (.aload_n 0, 1) := by decide +kernel
theorem dX11_draw_27 : decode cX11_draw 27 = .ok (.getfield 116, 3) := by decide +kernel
theorem dX11_draw_30 : decode cX11_draw 30 = .ok (.bipush 64, 2) := by decide +kernel
theorem dX11_draw_32 : decode cX11_draw 32 = .ok (.idiv, 1) := by decide +kernel
theorem dX11_draw_33 : decode cX11_draw 33 = .ok (.iload_n 1, 1) := by decide +kernel
theorem dX11_draw_34 : decode cX11_draw 34 = .ok (.irem, 1) := by decide +kernel
theorem dX11_draw_35 : decode cX11_draw 35 = .ok (.goto 4, 3) := by decide +kernel
theorem dX11_draw_38 : decode cX11_draw 38 = .ok (.iconst 0, 1) := by decide +kernel
theorem dX11_draw_39 : decode cX11_draw 39 = .ok (.ireturn, 1) := by decide +kernel
theorem dX11_putPair_0 : decode cX11_putPair 0 = .ok (.aload_n 0, 1) := by decide +kernel
theorem dX11_putPair_1 : decode cX11_putPair 1 = .ok (.getfield 99, 3) := by decide +kernel
theorem dX11_putPair_4 : decode cX11_putPair 4 = .ok (.iload_n 1, 1) := by decide +kernel
theorem dX11_putPair_5 : decode cX11_putPair 5 = .ok (.iload_n 2, 1) := by decide +kernel
theorem dX11_putPair_6 : decode cX11_putPair 6 = .ok (.bipush 8, 2) := by decide +kernel
theorem dX11_putPair_8 : decode cX11_putPair 8 = .ok (.ishr, 1) := by decide +kernel
theorem dX11_putPair_9 : decode cX11_putPair 9 = .ok (.iastore, 1) := by decide +kernel
theorem dX11_putPair_10 : decode cX11_putPair 10 = .ok (.aload_n 0, 1) := by decide +kernel
theorem dX11_putPair_11 : decode cX11_putPair 11 = .ok (.getfield 99, 3) := by decide +kernel
theorem dX11_putPair_14 : decode cX11_putPair 14 = .ok (.iload_n 1, 1) := by decide +kernel
theorem dX11_putPair_15 : decode cX11_putPair 15 = .ok (.iconst 1, 1) := by decide +kernel
theorem dX11_putPair_16 : decode cX11_putPair 16 = .ok (.iadd, 1) := by decide +kernel
theorem dX11_putPair_17 : decode cX11_putPair 17 = .ok (.iload_n 2, 1) := by decide +kernel
theorem dX11_putPair_18 : decode cX11_putPair 18 = .ok (.sipush 255, 3) := by decide +kernel
theorem dX11_putPair_21 : decode cX11_putPair 21 = .ok (.iand, 1) := by decide +kernel
theorem dX11_putPair_22 : decode cX11_putPair 22 = .ok (.iastore, 1) := by decide +kernel
theorem dX11_putPair_23 : decode cX11_putPair 23 = .ok (.return_, 1) := by decide +kernel
theorem dX11_isPicture_0 : decode cX11_isPicture 0 = .ok (.iconst 4, 1) := by decide +kernel
theorem dX11_isPicture_1 : decode cX11_isPicture 1 = .ok (.aload_n 0, 1) := by decide +kernel
theorem dX11_isPicture_2 : decode cX11_isPicture 2 = .ok (.getfield 26, 3) := by decide +kernel
theorem dX11_isPicture_5 : decode cX11_isPicture 5 = .ok (.getfield 158, 3) := by decide +kernel
theorem dX11_isPicture_8 : decode cX11_isPicture 8 = .ok (.iadd, 1) := by decide +kernel
theorem dX11_isPicture_9 : decode cX11_isPicture 9 = .ok (.iconst 2, 1) := by decide +kernel
theorem dX11_isPicture_10 : decode cX11_isPicture 10 = .ok (.aload_n 0, 1) := by decide +kernel
theorem dX11_isPicture_11 : decode cX11_isPicture 11 = .ok (.getfield 26, 3) := by decide +kernel
theorem dX11_isPicture_14 : decode cX11_isPicture 14 = .ok (.getfield 161, 3) := by decide +kernel
theorem dX11_isPicture_17 : decode cX11_isPicture 17 = .ok (.imul, 1) := by decide +kernel
theorem dX11_isPicture_18 : decode cX11_isPicture 18 = .ok (.iadd, 1) := by decide +kernel
theorem dX11_isPicture_19 : decode cX11_isPicture 19 = .ok (.istore_n 1, 1) := by decide +kernel
theorem dX11_isPicture_20 : decode cX11_isPicture 20 = .ok (.aload_n 0, 1) := by decide +kernel
theorem dX11_isPicture_21 : decode cX11_isPicture 21 = .ok (.getfield 12, 3) := by decide +kernel
theorem dX11_isPicture_24 : decode cX11_isPicture 24 = .ok (.getfield 119, 3) := by decide +kernel
theorem dX11_isPicture_27 : decode cX11_isPicture 27 = .ok (.iload_n 1, 1) := by decide +kernel
theorem dX11_isPicture_28 : decode cX11_isPicture 28 = .ok (.iconst 1, 1) := by decide +kernel
theorem dX11_isPicture_29 : decode cX11_isPicture 29 = .ok (.iadd, 1) := by decide +kernel
theorem dX11_isPicture_30 : decode cX11_isPicture 30 = .ok (.if_icmp .ne 31, 3) := by decide +kernel
theorem dX11_isPicture_33 : decode cX11_isPicture 33 = .ok (.aload_n 0, 1) := by decide +kernel
theorem dX11_isPicture_34 : decode cX11_isPicture 34 = .ok (.getfield 12, 3) := by decide +kernel
theorem dX11_isPicture_37 : decode cX11_isPicture 37 = .ok (.iconst 0, 1) := by decide +kernel
theorem dX11_isPicture_38 : decode cX11_isPicture 38 = .ok (.invokevirtual 397, 3) := by decide +kernel
theorem dX11_isPicture_41 : decode cX11_isPicture 41 = .ok (.sipush 999, 3) := by decide +kernel
theorem dX11_isPicture_44 : decode cX11_isPicture 44 = .ok (.if_icmp .gt 17, 3) := by decide +kernel
theorem dX11_isPicture_47 : decode cX11_isPicture 47 = .ok (.aload_n 0, 1) := by decide +kernel
theorem dX11_isPicture_48 : decode cX11_isPicture 48 = .ok (.getfield 12, 3) := by decide +kernel
theorem dX11_isPicture_51 : decode cX11_isPicture 51 = .ok (.iconst 2, 1) := by decide +kernel
theorem dX11_isPicture_52 : decode cX11_isPicture 52 = .ok (.invokevirtual 397, 3) := by decide +kernel
theorem dX11_isPicture_55 : decode cX11_isPicture 55 = .ok (.sipush 999, 3) := by decide +kernel
theorem dX11_isPicture_58 : decode cX11_isPicture 58 = .ok (.if_icmp .le 5, 3) := by decide +kernel
theorem dX11_isPicture_61 : decode cX11_isPicture 61 = .ok (.iconst 0, 1) := by decide +kernel
theorem dX11_isPicture_62 : decode cX11_isPicture 62 = .ok (.ireturn, 1) := by decide +kernel
theorem dX11_isPicture_63 : decode cX11_isPicture 63 = .ok (.sipush 167, 3) := by decide +kernel
theorem dX11_isPicture_66 : decode cX11_isPicture 66 = .ok (.istore_n 2, 1) := by decide +kernel
theorem dX11_isPicture_67 : decode cX11_isPicture 67 = .ok (.iconst 0, 1) := by decide +kernel
theorem dX11_isPicture_68 : decode cX11_isPicture 68 = .ok (.istore_n 3, 1) := by decide +kernel
theorem dX11_isPicture_69 : decode cX11_isPicture 69 = .ok (.iload_n 3, 1) := by decide +kernel
theorem dX11_isPicture_70 : decode cX11_isPicture 70 = .ok (.iload_n 1, 1) := by decide +kernel
theorem dX11_isPicture_71 : decode cX11_isPicture 71 = .ok (.if_icmp .ge 26, 3) := by decide +kernel
theorem dX11_isPicture_74 : decode cX11_isPicture 74 = .ok (.iconst 3, 1) := by decide +kernel
theorem dX11_isPicture_75 : decode cX11_isPicture 75 = .ok (.iload_n 2, 1) := by decide +kernel
theorem dX11_isPicture_76 : decode cX11_isPicture 76 = .ok (.imul, 1) := by decide +kernel
theorem dX11_isPicture_77 : decode cX11_isPicture 77 = .ok (.aload_n 0, 1) := by decide +kernel
theorem dX11_isPicture_78 : decode cX11_isPicture 78 = .ok (.getfield 12, 3) := by decide +kernel
theorem dX11_isPicture_81 : decode cX11_isPicture 81 = .ok (.iload_n 3, 1) := by decide +kernel
theorem dX11_isPicture_82 : decode cX11_isPicture 82 = .ok (.invokevirtual 400, 3) := by decide +kernel
theorem dX11_isPicture_85 : decode cX11_isPicture 85 = .ok (.iadd, 1) := by decide +kernel
theorem dX11_isPicture_86 : decode cX11_isPicture 86 = .ok (.sipush 251, 3) := by decide +kernel
theorem dX11_isPicture_89 : decode cX11_isPicture 89 = .ok (.irem, 1) := by decide +kernel
theorem dX11_isPicture_90 : decode cX11_isPicture 90 = .ok (.istore_n 2, 1) := by decide +kernel
theorem dX11_isPicture_91 : decode cX11_isPicture 91 = .ok (.iinc 3 1, 3) := by decide +kernel
theorem dX11_isPicture_94 : decode cX11_isPicture 94 = .ok (.goto (-25), 3) := by decide +kernel
theorem dX11_isPicture_97 : decode cX11_isPicture 97 = .ok (.iconst 0, 1) := by decide +kernel
theorem dX11_isPicture_98 : decode cX11_isPicture 98 = .ok (.istore_n 3, 1) := by decide +kernel
theorem dX11_isPicture_99 : decode cX11_isPicture 99 = .ok (.iload_n 3, 1) := by decide +kernel
theorem dX11_isPicture_100 : decode cX11_isPicture 100 = .ok (.aload_n 0, 1) := by decide +kernel
theorem dX11_isPicture_101 : decode cX11_isPicture 101 = .ok (.getfield 26, 3) := by decide +kernel
theorem dX11_isPicture_104 : decode cX11_isPicture 104 = .ok (.getfield 158, 3) := by decide +kernel
theorem dX11_isPicture_107 : decode cX11_isPicture 107 = .ok (.if_icmp .ge 31, 3) := by decide +kernel
theorem dX11_isPicture_110 : decode cX11_isPicture 110 = .ok (.aload_n 0, 1) := by decide +kernel
theorem dX11_isPicture_111 : decode cX11_isPicture 111 = .ok (.getfield 12, 3) := by decide +kernel
theorem dX11_isPicture_114 : decode cX11_isPicture 114 = .ok (.iconst 4, 1) := by decide +kernel
theorem dX11_isPicture_115 : decode cX11_isPicture 115 = .ok (.iload_n 3, 1) := by decide +kernel
theorem dX11_isPicture_116 : decode cX11_isPicture 116 = .ok (.iadd, 1) := by decide +kernel
theorem dX11_isPicture_117 : decode cX11_isPicture 117 = .ok (.invokevirtual 400, 3) := by decide +kernel
theorem dX11_isPicture_120 : decode cX11_isPicture 120 = .ok (.aload_n 0, 1) := by decide +kernel
theorem dX11_isPicture_121 : decode cX11_isPicture 121 = .ok (.getfield 26, 3) := by decide +kernel
theorem dX11_isPicture_124 : decode cX11_isPicture 124 = .ok (.getfield 155, 3) := by decide +kernel
theorem dX11_isPicture_127 : decode cX11_isPicture 127 = .ok (.if_icmp .lt 5, 3) := by decide +kernel
theorem dX11_isPicture_130 : decode cX11_isPicture 130 = .ok (.iconst 0, 1) := by decide +kernel
theorem dX11_isPicture_131 : decode cX11_isPicture 131 = .ok (.ireturn, 1) := by decide +kernel
theorem dX11_isPicture_132 : decode cX11_isPicture 132 = .ok (.iinc 3 1, 3) := by decide +kernel
theorem dX11_isPicture_135 : decode cX11_isPicture 135 = .ok (.goto (-36), 3) := by decide +kernel
theorem dX11_isPicture_138 : decode cX11_isPicture 138 = .ok (.iconst 4, 1) := by decide +kernel
theorem dX11_isPicture_139 : decode cX11_isPicture 139 = .ok (.aload_n 0, 1) := by decide +kernel
theorem dX11_isPicture_140 : decode cX11_isPicture 140 = .ok (.getfield 26, 3) := by decide +kernel
theorem dX11_isPicture_143 : decode cX11_isPicture 143 = .ok (.getfield 158, 3) := by decide +kernel
theorem dX11_isPicture_146 : decode cX11_isPicture 146 = .ok (.iadd, 1) := by decide +kernel
theorem dX11_isPicture_147 : decode cX11_isPicture 147 = .ok (.istore_n 3, 1) := by decide +kernel
theorem dX11_isPicture_148 : decode cX11_isPicture 148 = .ok (.iload_n 3, 1) := by decide +kernel
theorem dX11_isPicture_149 : decode cX11_isPicture 149 = .ok (.iload_n 1, 1) := by decide +kernel
theorem dX11_isPicture_150 : decode cX11_isPicture 150 = .ok (.if_icmp .ge 57, 3) := by decide +kernel
theorem dX11_isPicture_153 : decode cX11_isPicture 153 = .ok (.aload_n 0, 1) := by decide +kernel
theorem dX11_isPicture_154 : decode cX11_isPicture 154 = .ok (.getfield 12, 3) := by decide +kernel
theorem dX11_isPicture_157 : decode cX11_isPicture 157 = .ok (.iload_n 3, 1) := by decide +kernel
theorem dX11_isPicture_158 : decode cX11_isPicture 158 = .ok (.invokevirtual 400, 3) := by decide +kernel
theorem dX11_isPicture_161 : decode cX11_isPicture 161 = .ok (.istore 4, 2) := by decide +kernel
theorem dX11_isPicture_163 : decode cX11_isPicture 163 = .ok (.aload_n 0, 1) := by decide +kernel
theorem dX11_isPicture_164 : decode cX11_isPicture 164 = .ok (.getfield 12, 3) := by decide +kernel
theorem dX11_isPicture_167 : decode cX11_isPicture 167 = .ok (.iload_n 3, 1) := by decide +kernel
theorem dX11_isPicture_168 : decode cX11_isPicture 168 = .ok (.iconst 1, 1) := by decide +kernel
theorem dX11_isPicture_169 : decode cX11_isPicture 169 = .ok (.iadd, 1) := by decide +kernel
theorem dX11_isPicture_170 : decode cX11_isPicture 170 = .ok (.invokevirtual 400, 3) := by decide +kernel
theorem dX11_isPicture_173 : decode cX11_isPicture 173 = .ok (.istore 5, 2) := by decide +kernel
theorem dX11_isPicture_175 : decode cX11_isPicture 175 = .ok (.iload 4, 2) := by decide +kernel
theorem dX11_isPicture_177 : decode cX11_isPicture 177 = .ok (.bipush 99, 2) := by decide +kernel
theorem dX11_isPicture_179 : decode cX11_isPicture 179 = .ok (.if_icmp .gt 20, 3) := by decide +kernel
theorem dX11_isPicture_182 : decode cX11_isPicture 182 = .ok (.iload 5, 2) := by decide +kernel
theorem dX11_isPicture_184 : decode cX11_isPicture 184 = .ok (.bipush 99, 2) := by decide +kernel
theorem dX11_isPicture_186 : decode cX11_isPicture 186 = .ok (.if_icmp .gt 13, 3) := by decide +kernel
theorem dX11_isPicture_189 : decode cX11_isPicture 189 = .ok (.iload 4, 2) := by decide +kernel
theorem dX11_isPicture_191 : decode cX11_isPicture 191 = .ok (.ifCond .ne 10, 3) := by decide +kernel
theorem dX11_isPicture_194 : decode cX11_isPicture 194 = .ok (.iload 5, 2) := by decide +kernel
theorem dX11_isPicture_196 : decode cX11_isPicture 196 = .ok (.ifCond .le 5, 3) := by decide +kernel
theorem dX11_isPicture_199 : decode cX11_isPicture 199 = .ok (.iconst 0, 1) := by decide +kernel
theorem dX11_isPicture_200 : decode cX11_isPicture 200 = .ok (.ireturn, 1) := by decide +kernel
theorem dX11_isPicture_201 : decode cX11_isPicture 201 = .ok (.iinc 3 2, 3) := by decide +kernel
theorem dX11_isPicture_204 : decode cX11_isPicture 204 = .ok (.goto (-56), 3) := by decide +kernel
theorem dX11_isPicture_207 : decode cX11_isPicture 207 = .ok (.aload_n 0, 1) := by decide +kernel
theorem dX11_isPicture_208 : decode cX11_isPicture 208 = .ok (.getfield 12, 3) := by decide +kernel
theorem dX11_isPicture_211 : decode cX11_isPicture 211 = .ok (.iload_n 1, 1) := by decide +kernel
theorem dX11_isPicture_212 : decode cX11_isPicture 212 = .ok (.invokevirtual 400, 3) := by decide +kernel
theorem dX11_isPicture_215 : decode cX11_isPicture 215 = .ok (.iload_n 2, 1) := by decide +kernel
theorem dX11_isPicture_216 : decode cX11_isPicture 216 = .ok (.if_icmp .ne 7, 3) := by decide +kernel
theorem dX11_isPicture_219 : decode cX11_isPicture 219 = .ok (.iconst 1, 1) := by decide +kernel
theorem dX11_isPicture_220 : decode cX11_isPicture 220 = .ok (.goto 4, 3) := by decide +kernel
theorem dX11_isPicture_223 : decode cX11_isPicture 223 = .ok (.iconst 0, 1) := by decide +kernel
theorem dX11_isPicture_224 : decode cX11_isPicture 224 = .ok (.ireturn, 1) := by decide +kernel
theorem dX12_init_0 : decode cX12_init 0 = .ok (.aload_n 0, 1) := by decide +kernel
theorem dX12_init_1 : decode cX12_init 1 = .ok (.invokespecial 1, 3) := by decide +kernel
theorem dX12_init_4 : decode cX12_init 4 = .ok (.aload_n 0, 1) := by decide +kernel
theorem dX12_init_5 : decode cX12_init 5 = .ok (.sipush 1600, 3) := by decide +kernel
theorem dX12_init_8 : decode cX12_init 8 = .ok (.newarray .int, 2) := by decide +kernel
theorem dX12_init_10 : decode cX12_init 10 = .ok (.putfield 7, 3) := by decide +kernel
theorem dX12_init_13 : decode cX12_init 13 = .ok (.aload_n 0, 1) := by decide +kernel
theorem dX12_init_14 : decode cX12_init 14 = .ok (.iconst (-1), 1) := by decide +kernel
theorem dX12_init_15 : decode cX12_init 15 = .ok (.putfield 13, 3) := by decide +kernel
theorem dX12_init_18 : decode cX12_init 18 = .ok (.aload_n 0, 1) := by decide +kernel
theorem dX12_init_19 : decode cX12_init 19 = .ok (.bipush 6, 2) := by decide +kernel
theorem dX12_init_21 : decode cX12_init 21 = .ok (.newarray .int, 2) := by decide +kernel
theorem dX12_init_23 : decode cX12_init 23 = .ok (.putfield 17, 3) := by decide +kernel
theorem dX12_init_26 : decode cX12_init 26 = .ok (.aload_n 0, 1) := by decide +kernel
theorem dX12_init_27 : decode cX12_init 27 = .ok (.bipush 6, 2) := by decide +kernel
theorem dX12_init_29 : decode cX12_init 29 = .ok (.newarray .char, 2) := by decide +kernel
theorem dX12_init_31 : decode cX12_init 31 = .ok (.dup, 1) := by decide +kernel
theorem dX12_init_32 : decode cX12_init 32 = .ok (.iconst 0, 1) := by decide +kernel
theorem dX12_init_33 : decode cX12_init 33 = .ok (.bipush 115, 2) := by decide +kernel
theorem dX12_init_35 : decode cX12_init 35 = .ok (.castore, 1) := by decide +kernel
theorem dX12_init_36 : decode cX12_init 36 = .ok (.dup, 1) := by decide +kernel
theorem dX12_init_37 : decode cX12_init 37 = .ok (.iconst 1, 1) := by decide +kernel
theorem dX12_init_38 : decode cX12_init 38 = .ok (.bipush 116, 2) := by decide +kernel
theorem dX12_init_40 : decode cX12_init 40 = .ok (.castore, 1) := by decide +kernel
theorem dX12_init_41 : decode cX12_init 41 = .ok (.dup, 1) := by decide +kernel
theorem dX12_init_42 : decode cX12_init 42 = .ok (.iconst 2, 1) := by decide +kernel
theorem dX12_init_43 : decode cX12_init 43 = .ok (.bipush 114, 2) := by decide +kernel
theorem dX12_init_45 : decode cX12_init 45 = .ok (.castore, 1) := by decide +kernel
theorem dX12_init_46 : decode cX12_init 46 = .ok (.dup, 1) := by decide +kernel
theorem dX12_init_47 : decode cX12_init 47 = .ok (.iconst 3, 1) := by decide +kernel
theorem dX12_init_48 : decode cX12_init 48 = .ok (.bipush 101, 2) := by decide +kernel
theorem dX12_init_50 : decode cX12_init 50 = .ok (.castore, 1) := by decide +kernel
theorem dX12_init_51 : decode cX12_init 51 = .ok (.dup, 1) := by decide +kernel
theorem dX12_init_52 : decode cX12_init 52 = .ok (.iconst 4, 1) := by decide +kernel
theorem dX12_init_53 : decode cX12_init 53 = .ok (.bipush 101, 2) := by decide +kernel
theorem dX12_init_55 : decode cX12_init 55 = .ok (.castore, 1) := by decide +kernel
theorem dX12_init_56 : decode cX12_init 56 = .ok (.dup, 1) := by decide +kernel
theorem dX12_init_57 : decode cX12_init 57 = .ok (.iconst 5, 1) := by decide +kernel
theorem dX12_init_58 : decode cX12_init 58 = .ok (.bipush 116, 2) := by decide +kernel
theorem dX12_init_60 : decode cX12_init 60 = .ok (.castore, 1) := by decide +kernel
theorem dX12_init_61 : decode cX12_init 61 = .ok (.putfield 20, 3) := by decide +kernel
theorem dX12_init_64 : decode cX12_init 64 = .ok (.aload_n 0, 1) := by decide +kernel
theorem dX12_init_65 : decode cX12_init 65 = .ok (.bipush 6, 2) := by decide +kernel
theorem dX12_init_67 : decode cX12_init 67 = .ok (.newarray .char, 2) := by decide +kernel
theorem dX12_init_69 : decode cX12_init 69 = .ok (.dup, 1) := by decide +kernel
theorem dX12_init_70 : decode cX12_init 70 = .ok (.iconst 0, 1) := by decide +kernel
theorem dX12_init_71 : decode cX12_init 71 = .ok (.bipush 112, 2) := by decide +kernel
theorem dX12_init_73 : decode cX12_init 73 = .ok (.castore, 1) := by decide +kernel
theorem dX12_init_74 : decode cX12_init 74 = .ok (.dup, 1) := by decide +kernel
theorem dX12_init_75 : decode cX12_init 75 = .ok (.iconst 1, 1) := by decide +kernel
theorem dX12_init_76 : decode cX12_init 76 = .ok (.bipush 101, 2) := by decide +kernel
theorem dX12_init_78 : decode cX12_init 78 = .ok (.castore, 1) := by decide +kernel
theorem dX12_init_79 : decode cX12_init 79 = .ok (.dup, 1) := by decide +kernel
theorem dX12_init_80 : decode cX12_init 80 = .ok (.iconst 2, 1) := by decide +kernel
theorem dX12_init_81 : decode cX12_init 81 = .ok (.bipush 114, 2) := by decide +kernel
theorem dX12_init_83 : decode cX12_init 83 = .ok (.castore, 1) := by decide +kernel
theorem dX12_init_84 : decode cX12_init 84 = .ok (.dup, 1) := by decide +kernel
theorem dX12_init_85 : decode cX12_init 85 = .ok (.iconst 3, 1) := by decide +kernel
theorem dX12_init_86 : decode cX12_init 86 = .ok (.bipush 115, 2) := by decide +kernel
theorem dX12_init_88 : decode cX12_init 88 = .ok (.castore, 1) := by decide +kernel
theorem dX12_init_89 : decode cX12_init 89 = .ok (.dup, 1) := by decide +kernel
theorem dX12_init_90 : decode cX12_init 90 = .ok (.iconst 4, 1) := by decide +kernel
theorem dX12_init_91 : decode cX12_init 91 = .ok (.bipush 111, 2) := by decide +kernel
theorem dX12_init_93 : decode cX12_init 93 = .ok (.castore, 1) := by decide +kernel
theorem dX12_init_94 : decode cX12_init 94 = .ok (.dup, 1) := by decide +kernel
theorem dX12_init_95 : decode cX12_init 95 = .ok (.iconst 5, 1) := by decide +kernel
theorem dX12_init_96 : decode cX12_init 96 = .ok (.bipush 110, 2) := by decide +kernel
theorem dX12_init_98 : decode cX12_init 98 = .ok (.castore, 1) := by decide +kernel
theorem dX12_init_99 : decode cX12_init 99 = .ok (.putfield 24, 3) := by decide +kernel
theorem dX12_init_102 : decode cX12_init 102 = .ok (.aload_n 0, 1) := by decide +kernel
theorem dX12_init_103 : decode cX12_init 103 = .ok (.iconst 2, 1) := by decide +kernel
theorem dX12_init_104 : decode cX12_init 104 = .ok (.newarray .char, 2) := by decide +kernel
theorem dX12_init_106 : decode cX12_init 106 = .ok (.dup, 1) := by decide +kernel
theorem dX12_init_107 : decode cX12_init 107 = .ok (.iconst 0, 1) := by decide +kernel
theorem dX12_init_108 : decode cX12_init 108 = .ok (.bipush 97, 2) := by decide +kernel
theorem dX12_init_110 : decode cX12_init 110 = .ok (.castore, 1) := by decide +kernel
theorem dX12_init_111 : decode cX12_init 111 = .ok (.dup, 1) := by decide +kernel
theorem dX12_init_112 : decode cX12_init 112 = .ok (.iconst 1, 1) := by decide +kernel
theorem dX12_init_113 : decode cX12_init 113 = .ok (.bipush 116, 2) := by decide +kernel
theorem dX12_init_115 : decode cX12_init 115 = .ok (.castore, 1) := by decide +kernel
theorem dX12_init_116 : decode cX12_init 116 = .ok (.putfield 27, 3) := by decide +kernel
theorem dX12_init_119 : decode cX12_init 119 = .ok (.aload_n 0, 1) := by decide +kernel
theorem dX12_init_120 : decode cX12_init 120 = .ok (.iconst 5, 1) := by decide +kernel
theorem dX12_init_121 : decode cX12_init 121 = .ok (.newarray .char, 2) := by decide +kernel
theorem dX12_init_123 : decode cX12_init 123 = .ok (.dup, 1) := by decide +kernel
theorem dX12_init_124 : decode cX12_init 124 = .ok (.iconst 0, 1) := by decide +kernel
theorem dX12_init_125 : decode cX12_init 125 = .ok (.bipush 116, 2) := by decide +kernel
theorem dX12_init_127 : decode cX12_init 127 = .ok (.castore, 1) := by decide +kernel
theorem dX12_init_128 : decode cX12_init 128 = .ok (.dup, 1) := by decide +kernel
theorem dX12_init_129 : decode cX12_init 129 = .ok (.iconst 1, 1) := by decide +kernel
theorem dX12_init_130 : decode cX12_init 130 = .ok (.bipush 114, 2) := by decide +kernel
theorem dX12_init_132 : decode cX12_init 132 = .ok (.castore, 1) := by decide +kernel
theorem dX12_init_133 : decode cX12_init 133 = .ok (.dup, 1) := by decide +kernel
theorem dX12_init_134 : decode cX12_init 134 = .ok (.iconst 2, 1) := by decide +kernel
theorem dX12_init_135 : decode cX12_init 135 = .ok (.bipush 117, 2) := by decide +kernel
theorem dX12_init_137 : decode cX12_init 137 = .ok (.castore, 1) := by decide +kernel
theorem dX12_init_138 : decode cX12_init 138 = .ok (.dup, 1) := by decide +kernel
theorem dX12_init_139 : decode cX12_init 139 = .ok (.iconst 3, 1) := by decide +kernel
theorem dX12_init_140 : decode cX12_init 140 = .ok (.bipush 115, 2) := by decide +kernel
theorem dX12_init_142 : decode cX12_init 142 = .ok (.castore, 1) := by decide +kernel
theorem dX12_init_143 : decode cX12_init 143 = .ok (.dup, 1) := by decide +kernel
theorem dX12_init_144 : decode cX12_init 144 = .ok (.iconst 4, 1) := by decide +kernel
theorem dX12_init_145 : decode cX12_init 145 = .ok (.bipush 116, 2) := by decide +kernel
theorem dX12_init_147 : decode cX12_init 147 = .ok (.castore, 1) := by decide +kernel
theorem dX12_init_148 : decode cX12_init 148 = .ok (.putfield 30, 3) := by decide +kernel
theorem dX12_init_151 : decode cX12_init 151 = .ok (.aload_n 0, 1) := by decide +kernel
theorem dX12_init_152 : decode cX12_init 152 = .ok (.iconst 3, 1) := by decide +kernel
theorem dX12_init_153 : decode cX12_init 153 = .ok (.newarray .char, 2) := by decide +kernel
theorem dX12_init_155 : decode cX12_init 155 = .ok (.dup, 1) := by decide +kernel
theorem dX12_init_156 : decode cX12_init 156 = .ok (.iconst 0, 1) := by decide +kernel
theorem dX12_init_157 : decode cX12_init 157 = .ok (.bipush 108, 2) := by decide +kernel
theorem dX12_init_159 : decode cX12_init 159 = .ok (.castore, 1) := by decide +kernel
theorem dX12_init_160 : decode cX12_init 160 = .ok (.dup, 1) := by decide +kernel
theorem dX12_init_161 : decode cX12_init 161 = .ok (.iconst 1, 1) := by decide +kernel
theorem dX12_init_162 : decode cX12_init 162 = .ok (.bipush 105, 2) := by decide +kernel
theorem dX12_init_164 : decode cX12_init 164 = .ok (.castore, 1) := by decide +kernel
theorem dX12_init_165 : decode cX12_init 165 = .ok (.dup, 1) := by decide +kernel
theorem dX12_init_166 : decode cX12_init 166 = .ok (.iconst 2, 1) := by decide +kernel
theorem dX12_init_167 : decode cX12_init 167 = .ok (.bipush 101, 2) := by decide +kernel
theorem dX12_init_169 : decode cX12_init 169 = .ok (.castore, 1) := by decide +kernel
theorem dX12_init_170 : decode cX12_init 170 = .ok (.putfield 33, 3) := by decide +kernel
theorem dX12_init_173 : decode cX12_init 173 = .ok (.aload_n 0, 1) := by decide +kernel
theorem dX12_init_174 : decode cX12_init 174 = .ok (.iconst 2, 1) := by decide +kernel
theorem dX12_init_175 : decode cX12_init 175 = .ok (.newarray .char, 2) := by decide +kernel
theorem dX12_init_177 : decode cX12_init 177 = .ok (.dup, 1) := by decide +kernel
theorem dX12_init_178 : decode cX12_init 178 = .ok (.iconst 0, 1) := by decide +kernel
theorem dX12_init_179 : decode cX12_init 179 = .ok (.bipush 111, 2) := by decide +kernel
theorem dX12_init_181 : decode cX12_init 181 = .ok (.castore, 1) := by decide +kernel
theorem dX12_init_182 : decode cX12_init 182 = .ok (.dup, 1) := by decide +kernel
theorem dX12_init_183 : decode cX12_init 183 = .ok (.iconst 1, 1) := by decide +kernel
theorem dX12_init_184 : decode cX12_init 184 = .ok (.bipush 102, 2) := by decide +kernel
theorem dX12_init_186 : decode cX12_init 186 = .ok (.castore, 1) := by decide +kernel
theorem dX12_init_187 : decode cX12_init 187 = .ok (.putfield 36, 3) := by decide +kernel
theorem dX12_init_190 : decode cX12_init 190 = .ok (.aload_n 0, 1) := by decide +kernel
theorem dX12_init_191 : decode cX12_init 191 = .ok (.iconst 5, 1) := by decide +kernel
theorem dX12_init_192 : decode cX12_init 192 = .ok (.newarray .char, 2) := by decide +kernel
theorem dX12_init_194 : decode cX12_init 194 = .ok (.dup, 1) := by decide +kernel
theorem dX12_init_195 : decode cX12_init 195 = .ok (.iconst 0, 1) := by decide +kernel
theorem dX12_init_196 : decode cX12_init 196 = .ok (.bipush 104, 2) := by decide +kernel
theorem dX12_init_198 : decode cX12_init 198 = .ok (.castore, 1) := by decide +kernel
theorem dX12_init_199 : decode cX12_init 199 = .ok (.dup, 1) := by decide +kernel
theorem dX12_init_200 : decode cX12_init 200 = .ok (.iconst 1, 1) := by decide +kernel
theorem dX12_init_201 : decode cX12_init 201 = .ok (.bipush 97, 2) := by decide +kernel
theorem dX12_init_203 : decode cX12_init 203 = .ok (.castore, 1) := by decide +kernel
theorem dX12_init_204 : decode cX12_init 204 = .ok (.dup, 1) := by decide +kernel
theorem dX12_init_205 : decode cX12_init 205 = .ok (.iconst 2, 1) := by decide +kernel
theorem dX12_init_206 : decode cX12_init 206 = .ok (.bipush 110, 2) := by decide +kernel
theorem dX12_init_208 : decode cX12_init 208 = .ok (.castore, 1) := by decide +kernel
theorem dX12_init_209 : decode cX12_init 209 = .ok (.dup, 1) := by decide +kernel
theorem dX12_init_210 : decode cX12_init 210 = .ok (.iconst 3, 1) := by decide +kernel
theorem dX12_init_211 : decode cX12_init 211 = .ok (.bipush 103, 2) := by decide +kernel
theorem dX12_init_213 : decode cX12_init 213 = .ok (.castore, 1) := by decide +kernel
theorem dX12_init_214 : decode cX12_init 214 = .ok (.dup, 1) := by decide +kernel
theorem dX12_init_215 : decode cX12_init 215 = .ok (.iconst 4, 1) := by decide +kernel
theorem dX12_init_216 : decode cX12_init 216 = .ok (.bipush 115, 2) := by decide +kernel
theorem dX12_init_218 : decode cX12_init 218 = .ok (.castore, 1) := by decide +kernel
theorem dX12_init_219 : decode cX12_init 219 = .ok (.putfield 39, 3) := by decide +kernel
theorem dX12_init_222 : decode cX12_init 222 = .ok (.aload_n 0, 1) := by decide +kernel
theorem dX12_init_223 : decode cX12_init 223 = .ok (.iconst 2, 1) := by decide +kernel
theorem dX12_init_224 : decode cX12_init 224 = .ok (.newarray .char, 2) := by decide +kernel
theorem dX12_init_226 : decode cX12_init 226 = .ok (.dup, 1) := by decide +kernel
theorem dX12_init_227 : decode cX12_init 227 = .ok (.iconst 0, 1) := by decide +kernel
theorem dX12_init_228 : decode cX12_init 228 = .ok (.bipush 111, 2) := by decide +kernel
theorem dX12_init_230 : decode cX12_init 230 = .ok (.castore, 1) := by decide +kernel
theorem dX12_init_231 : decode cX12_init 231 = .ok (.dup, 1) := by decide +kernel
theorem dX12_init_232 : decode cX12_init 232 = .ok (.iconst 1, 1) := by decide +kernel
theorem dX12_init_233 : decode cX12_init 233 = .ok (.bipush 110, 2) := by decide +kernel
theorem dX12_init_235 : decode cX12_init 235 = .ok (.castore, 1) := by decide +kernel
theorem dX12_init_236 : decode cX12_init 236 = .ok (.putfield 42, 3) := by decide +kernel
theorem dX12_init_239 : decode cX12_init 239 = .ok (.aload_n 0, 1) := by decide +kernel
theorem dX12_init_240 : decode cX12_init 240 = .ok (.iconst 5, 1) := by decide +kernel
theorem dX12_init_241 : decode cX12_init 241 = .ok (.newarray .char, 2) := by decide +kernel
theorem dX12_init_243 : decode cX12_init 243 = .ok (.dup, 1) := by decide +kernel
theorem dX12_init_244 : decode cX12_init 244 = .ok (.iconst 0, 1) := by decide +kernel
theorem dX12_init_245 : decode cX12_init 245 = .ok (.bipush 108, 2) := by decide +kernel
theorem dX12_init_247 : decode cX12_init 247 = .ok (.castore, 1) := by decide +kernel
theorem dX12_init_248 : decode cX12_init 248 = .ok (.dup, 1) := by decide +kernel
theorem dX12_init_249 : decode cX12_init 249 = .ok (.iconst 1, 1) := by decide +kernel
theorem dX12_init_250 : decode cX12_init 250 = .ok (.bipush 105, 2) := by decide +kernel
theorem dX12_init_252 : decode cX12_init 252 = .ok (.castore, 1) := by decide +kernel
theorem dX12_init_253 : decode cX12_init 253 = .ok (.dup, 1) := by decide +kernel
theorem dX12_init_254 : decode cX12_init 254 = .ok (.iconst 2, 1) := by decide +kernel
theorem dX12_init_255 : decode cX12_init 255 = .ok (.bipush 103, 2) := by decide +kernel
theorem dX12_init_257 : decode cX12_init 257 = .ok (.castore, 1) := by decide +kernel
theorem dX12_init_258 : decode cX12_init 258 = .ok (.dup, 1) := by decide +kernel
theorem dX12_init_259 : decode cX12_init 259 = .ok (.iconst 3, 1) := by decide +kernel
theorem dX12_init_260 : decode cX12_init 260 = .ok (.bipush 104, 2) := by decide +kernel
theorem dX12_init_262 : decode cX12_init 262 = .ok (.castore, 1) := by decide +kernel
theorem dX12_init_263 : decode cX12_init 263 = .ok (.dup, 1) := by decide +kernel
theorem dX12_init_264 : decode cX12_init 264 = .ok (.iconst 4, 1) := by decide +kernel
theorem dX12_init_265 : decode cX12_init 265 = .ok (.bipush 116, 2) := by decide +kernel
theorem dX12_init_267 : decode cX12_init 267 = .ok (.castore, 1) := by decide +kernel
theorem dX12_init_268 : decode cX12_init 268 = .ok (.putfield 45, 3) := by decide +kernel
theorem dX12_init_271 : decode cX12_init 271 = .ok (.aload_n 0, 1) := by decide +kernel
theorem dX12_init_272 : decode cX12_init 272 = .ok (.iconst 3, 1) := by decide +kernel
theorem dX12_init_273 : decode cX12_init 273 = .ok (.newarray .char, 2) := by decide +kernel
theorem dX12_init_275 : decode cX12_init 275 = .ok (.dup, 1) := by decide +kernel
theorem dX12_init_276 : decode cX12_init 276 = .ok (.iconst 0, 1) := by decide +kernel
theorem dX12_init_277 : decode cX12_init 277 = .ok (.bipush 102, 2) := by decide +kernel
theorem dX12_init_279 : decode cX12_init 279 = .ok (.castore, 1) := by decide +kernel
theorem dX12_init_280 : decode cX12_init 280 = .ok (.dup, 1) := by decide +kernel
theorem dX12_init_281 : decode cX12_init 281 = .ok (.iconst 1, 1) := by decide +kernel
theorem dX12_init_282 : decode cX12_init 282 = .ok (.bipush 111, 2) := by decide +kernel
theorem dX12_init_284 : decode cX12_init 284 = .ok (.castore, 1) := by decide +kernel
theorem dX12_init_285 : decode cX12_init 285 = .ok (.dup, 1) := by decide +kernel
theorem dX12_init_286 : decode cX12_init 286 = .ok (.iconst 2, 1) := by decide +kernel
theorem dX12_init_287 : decode cX12_init 287 = .ok (.bipush 114, 2) := by decide +kernel
theorem dX12_init_289 : decode cX12_init 289 = .ok (.castore, 1) := by decide +kernel
theorem dX12_init_290 : decode cX12_init 290 = .ok (.putfield 48, 3) := by decide +kernel
theorem dX12_init_293 : decode cX12_init 293 = .ok (.aload_n 0, 1) := by decide +kernel
theorem dX12_init_294 : decode cX12_init 294 = .ok (.bipush 6, 2) := by decide +kernel
theorem dX12_init_296 : decode cX12_init 296 = .ok (.newarray .char, 2) := by decide +kernel
theorem dX12_init_298 : decode cX12_init 298 = .ok (.dup, 1) := by decide +kernel
theorem dX12_init_299 : decode cX12_init 299 = .ok (.iconst 0, 1) := by decide +kernel
theorem dX12_init_300 : decode cX12_init 300 = .ok (.bipush 116, 2) := by decide +kernel
theorem dX12_init_302 : decode cX12_init 302 = .ok (.castore, 1) := by decide +kernel
theorem dX12_init_303 : decode cX12_init 303 = .ok (.dup, 1) := by decide +kernel
theorem dX12_init_304 : decode cX12_init 304 = .ok (.iconst 1, 1) := by decide +kernel
theorem dX12_init_305 : decode cX12_init 305 = .ok (.bipush 97, 2) := by decide +kernel
theorem dX12_init_307 : decode cX12_init 307 = .ok (.castore, 1) := by decide +kernel
theorem dX12_init_308 : decode cX12_init 308 = .ok (.dup, 1) := by decide +kernel
theorem dX12_init_309 : decode cX12_init 309 = .ok (.iconst 2, 1) := by decide +kernel
theorem dX12_init_310 : decode cX12_init 310 = .ok (.bipush 108, 2) := by decide +kernel
theorem dX12_init_312 : decode cX12_init 312 = .ok (.castore, 1) := by decide +kernel
theorem dX12_init_313 : decode cX12_init 313 = .ok (.dup, 1) := by decide +kernel
theorem dX12_init_314 : decode cX12_init 314 = .ok (.iconst 3, 1) := by decide +kernel
theorem dX12_init_315 : decode cX12_init 315 = .ok (.bipush 108, 2) := by decide +kernel
theorem dX12_init_317 : decode cX12_init 317 = .ok (.castore, 1) := by decide +kernel
theorem dX12_init_318 : decode cX12_init 318 = .ok (.dup, 1) := by decide +kernel
theorem dX12_init_319 : decode cX12_init 319 = .ok (.iconst 4, 1) := by decide +kernel
theorem dX12_init_320 : decode cX12_init 320 = .ok (.bipush 111, 2) := by decide +kernel
theorem dX12_init_322 : decode cX12_init 322 = .ok (.castore, 1) := by decide +kernel
theorem dX12_init_323 : decode cX12_init 323 = .ok (.dup, 1) := by decide +kernel
theorem dX12_init_324 : decode cX12_init 324 = .ok (.iconst 5, 1) := by decide +kernel
theorem dX12_init_325 : decode cX12_init 325 = .ok (.bipush 119, 2) := by decide +kernel
theorem dX12_init_327 : decode cX12_init 327 = .ok (.castore, 1) := by decide +kernel
theorem dX12_init_328 : decode cX12_init 328 = .ok (.putfield 51, 3) := by decide +kernel
theorem dX12_init_331 : decode cX12_init 331 = .ok (.aload_n 0, 1) := by decide +kernel
theorem dX12_init_332 : decode cX12_init 332 = .ok (.bipush 6, 2) := by decide +kernel
theorem dX12_init_334 : decode cX12_init 334 = .ok (.newarray .char, 2) := by decide +kernel
theorem dX12_init_336 : decode cX12_init 336 = .ok (.dup, 1) := by decide +kernel
theorem dX12_init_337 : decode cX12_init 337 = .ok (.iconst 0, 1) := by decide +kernel
theorem dX12_init_338 : decode cX12_init 338 = .ok (.bipush 100, 2) := by decide +kernel
theorem dX12_init_340 : decode cX12_init 340 = .ok (.castore, 1) := by decide +kernel
theorem dX12_init_341 : decode cX12_init 341 = .ok (.dup, 1) := by decide +kernel
theorem dX12_init_342 : decode cX12_init 342 = .ok (.iconst 1, 1) := by decide +kernel
theorem dX12_init_343 : decode cX12_init 343 = .ok (.bipush 114, 2) := by decide +kernel
theorem dX12_init_345 : decode cX12_init 345 = .ok (.castore, 1) := by decide +kernel
theorem dX12_init_346 : decode cX12_init 346 = .ok (.dup, 1) := by decide +kernel
theorem dX12_init_347 : decode cX12_init 347 = .ok (.iconst 2, 1) := by decide +kernel
theorem dX12_init_348 : decode cX12_init 348 = .ok (.bipush 97, 2) := by decide +kernel
theorem dX12_init_350 : decode cX12_init 350 = .ok (.castore, 1) := by decide +kernel
theorem dX12_init_351 : decode cX12_init 351 = .ok (.dup, 1) := by decide +kernel
theorem dX12_init_352 : decode cX12_init 352 = .ok (.iconst 3, 1) := by decide +kernel
theorem dX12_init_353 : decode cX12_init 353 = .ok (.bipush 102, 2) := by decide +kernel
theorem dX12_init_355 : decode cX12_init 355 = .ok (.castore, 1) := by decide +kernel
theorem dX12_init_356 : decode cX12_init 356 = .ok (.dup, 1) := by decide +kernel
theorem dX12_init_357 : decode cX12_init 357 = .ok (.iconst 4, 1) := by decide +kernel
theorem dX12_init_358 : decode cX12_init 358 = .ok (.bipush 116, 2) := by decide +kernel
theorem dX12_init_360 : decode cX12_init 360 = .ok (.castore, 1) := by decide +kernel
theorem dX12_init_361 : decode cX12_init 361 = .ok (.dup, 1) := by decide +kernel
theorem dX12_init_362 : decode cX12_init 362 = .ok (.iconst 5, 1) := by decide +kernel
theorem dX12_init_363 : decode cX12_init 363 = .ok (.bipush 115, 2) := by decide +kernel
theorem dX12_init_365 : decode cX12_init 365 = .ok (.castore, 1) := by decide +kernel
theorem dX12_init_366 : decode cX12_init 366 = .ok (.putfield 54, 3) := by decide +kernel
theorem dX12_init_369 : decode cX12_init 369 = .ok (.aload_n 0, 1) := by decide +kernel
theorem dX12_init_370 : decode cX12_init 370 = .ok (.iconst 5, 1) := by decide +kernel
theorem dX12_init_371 : decode cX12_init 371 = .ok (.newarray .char, 2) := by decide +kernel
theorem dX12_init_373 : decode cX12_init 373 = .ok (.dup, 1) := by decide +kernel
theorem dX12_init_374 : decode cX12_init 374 = .ok (.iconst 0, 1) := by decide +kernel
theorem dX12_init_375 : decode cX12_init 375 = .ok (.bipush 98, 2) := by decide +kernel
theorem dX12_init_377 : decode cX12_init 377 = .ok (.castore, 1) := by decide +kernel
theorem dX12_init_378 : decode cX12_init 378 = .ok (.dup, 1) := by decide +kernel
theorem dX12_init_379 : decode cX12_init 379 = .ok (.iconst 1, 1) := by decide +kernel
theorem dX12_init_380 : decode cX12_init 380 = .ok (.bipush 117, 2) := by decide +kernel
theorem dX12_init_382 : decode cX12_init 382 = .ok (.castore, 1) := by decide +kernel
theorem dX12_init_383 : decode cX12_init 383 = .ok (.dup, 1) := by decide +kernel
theorem dX12_init_384 : decode cX12_init 384 = .ok (.iconst 2, 1) := by decide +kernel
theorem dX12_init_385 : decode cX12_init 385 = .ok (.bipush 114, 2) := by decide +kernel
theorem dX12_init_387 : decode cX12_init 387 = .ok (.castore, 1) := by decide +kernel
theorem dX12_init_388 : decode cX12_init 388 = .ok (.dup, 1) := by decide +kernel
theorem dX12_init_389 : decode cX12_init 389 = .ok (.iconst 3, 1) := by decide +kernel
theorem dX12_init_390 : decode cX12_init 390 = .ok (.bipush 110, 2) := by decide +kernel
theorem dX12_init_392 : decode cX12_init 392 = .ok (.castore, 1) := by decide +kernel
theorem dX12_init_393 : decode cX12_init 393 = .ok (.dup, 1) := by decide +kernel
theorem dX12_init_394 : decode cX12_init 394 = .ok (.iconst 4, 1) := by decide +kernel
theorem dX12_init_395 : decode cX12_init 395 = .ok (.bipush 115, 2) := by decide +kernel
theorem dX12_init_397 : decode cX12_init 397 = .ok (.castore, 1) := by decide +kernel
theorem dX12_init_398 : decode cX12_init 398 = .ok (.putfield 57, 3) := by decide +kernel
theorem dX12_init_401 : decode cX12_init 401 = .ok (.aload_n 0, 1) := by decide +kernel
theorem dX12_init_402 : decode cX12_init 402 = .ok (.bipush 8, 2) := by decide +kernel
theorem dX12_init_404 : decode cX12_init 404 = .ok (.newarray .char, 2) := by decide +kernel
theorem dX12_init_406 : decode cX12_init 406 = .ok (.dup, 1) := by decide +kernel
theorem dX12_init_407 : decode cX12_init 407 = .ok (.iconst 0, 1) := by decide +kernel
theorem dX12_init_408 : decode cX12_init 408 = .ok (.bipush 98, 2) := by decide +kernel
theorem dX12_init_410 : decode cX12_init 410 = .ok (.castore, 1) := by decide +kernel
theorem dX12_init_411 : decode cX12_init 411 = .ok (.dup, 1) := by decide +kernel
theorem dX12_init_412 : decode cX12_init 412 = .ok (.iconst 1, 1) := by decide +kernel
theorem dX12_init_413 : decode cX12_init 413 = .ok (.bipush 101, 2) := by decide +kernel
theorem dX12_init_415 : decode cX12_init 415 = .ok (.castore, 1) := by decide +kernel
theorem dX12_init_416 : decode cX12_init 416 = .ok (.dup, 1) := by decide +kernel
theorem dX12_init_417 : decode cX12_init 417 = .ok (.iconst 2, 1) := by decide +kernel
theorem dX12_init_418 : decode cX12_init 418 = .ok (.bipush 108, 2) := by decide +kernel
theorem dX12_init_420 : decode cX12_init 420 = .ok (.castore, 1) := by decide +kernel
theorem dX12_init_421 : decode cX12_init 421 = .ok (.dup, 1) := by decide +kernel
theorem dX12_init_422 : decode cX12_init 422 = .ok (.iconst 3, 1) := by decide +kernel
theorem dX12_init_423 : decode cX12_init 423 = .ok (.bipush 105, 2) := by decide +kernel
theorem dX12_init_425 : decode cX12_init 425 = .ok (.castore, 1) := by decide +kernel
theorem dX12_init_426 : decode cX12_init 426 = .ok (.dup, 1) := by decide +kernel
theorem dX12_init_427 : decode cX12_init 427 = .ok (.iconst 4, 1) := by decide +kernel
theorem dX12_init_428 : decode cX12_init 428 = .ok (.bipush 101, 2) := by decide +kernel
theorem dX12_init_430 : decode cX12_init 430 = .ok (.castore, 1) := by decide +kernel
theorem dX12_init_431 : decode cX12_init 431 = .ok (.dup, 1) := by decide +kernel
theorem dX12_init_432 : decode cX12_init 432 = .ok (.iconst 5, 1) := by decide +kernel
theorem dX12_init_433 : decode cX12_init 433 = .ok (.bipush 118, 2) := by decide +kernel
theorem dX12_init_435 : decode cX12_init 435 = .ok (.castore, 1) := by decide +kernel
theorem dX12_init_436 : decode cX12_init 436 = .ok (.dup, 1) := by decide +kernel
theorem dX12_init_437 : decode cX12_init 437 = .ok (.bipush 6, 2) := by decide +kernel
theorem dX12_init_439 : decode cX12_init 439 = .ok (.bipush 101, 2) := by decide +kernel
theorem dX12_init_441 : decode cX12_init 441 = .ok (.castore, 1) := by decide +kernel
theorem dX12_init_442 : decode cX12_init 442 = .ok (.dup, 1) := by decide +kernel
theorem dX12_init_443 : decode cX12_init 443 = .ok (.bipush 7, 2) := by decide +kernel
theorem dX12_init_445 : decode cX12_init 445 = .ok (.bipush 115, 2) := by decide +kernel
theorem dX12_init_447 : decode cX12_init 447 = .ok (.castore, 1) := by decide +kernel
theorem dX12_init_448 : decode cX12_init 448 = .ok (.putfield 60, 3) := by decide +kernel
theorem dX12_init_451 : decode cX12_init 451 = .ok (.aload_n 0, 1) := by decide +kernel
theorem dX12_init_452 : decode cX12_init 452 = .ok (.iconst 4, 1) := by decide +kernel
theorem dX12_init_453 : decode cX12_init 453 = .ok (.newarray .char, 2) := by decide +kernel
theorem dX12_init_455 : decode cX12_init 455 = .ok (.dup, 1) := by decide +kernel
theorem dX12_init_456 : decode cX12_init 456 = .ok (.iconst 0, 1) := by decide +kernel
theorem dX12_init_457 : decode cX12_init 457 = .ok (.bipush 103, 2) := by decide +kernel
theorem dX12_init_459 : decode cX12_init 459 = .ok (.castore, 1) := by decide +kernel
theorem dX12_init_460 : decode cX12_init 460 = .ok (.dup, 1) := by decide +kernel
theorem dX12_init_461 : decode cX12_init 461 = .ok (.iconst 1, 1) := by decide +kernel
theorem dX12_init_462 : decode cX12_init 462 = .ok (.bipush 117, 2) := by decide +kernel
theorem dX12_init_464 : decode cX12_init 464 = .ok (.castore, 1) := by decide +kernel
theorem dX12_init_465 : decode cX12_init 465 = .ok (.dup, 1) := by decide +kernel
theorem dX12_init_466 : decode cX12_init 466 = .ok (.iconst 2, 1) := by decide +kernel
theorem dX12_init_467 : decode cX12_init 467 = .ok (.bipush 115, 2) := by decide +kernel
theorem dX12_init_469 : decode cX12_init 469 = .ok (.castore, 1) := by decide +kernel
theorem dX12_init_470 : decode cX12_init 470 = .ok (.dup, 1) := by decide +kernel
theorem dX12_init_471 : decode cX12_init 471 = .ok (.iconst 3, 1) := by decide +kernel
theorem dX12_init_472 : decode cX12_init 472 = .ok (.bipush 116, 2) := by decide +kernel
theorem dX12_init_474 : decode cX12_init 474 = .ok (.castore, 1) := by decide +kernel
theorem dX12_init_475 : decode cX12_init 475 = .ok (.putfield 63, 3) := by decide +kernel
theorem dX12_init_478 : decode cX12_init 478 = .ok (.aload_n 0, 1) := by decide +kernel
theorem dX12_init_479 : decode cX12_init 479 = .ok (.bipush 6, 2) := by decide +kernel
theorem dX12_init_481 : decode cX12_init 481 = .ok (.newarray .char, 2) := by decide +kernel
theorem dX12_init_483 : decode cX12_init 483 = .ok (.dup, 1) := by decide +kernel
theorem dX12_init_484 : decode cX12_init 484 = .ok (.iconst 0, 1) := by decide +kernel
theorem dX12_init_485 : decode cX12_init 485 = .ok (.bipush 105, 2) := by decide +kernel
theorem dX12_init_487 : decode cX12_init 487 = .ok (.castore, 1) := by decide +kernel
theorem dX12_init_488 : decode cX12_init 488 = .ok (.dup, 1) := by decide +kernel
theorem dX12_init_489 : decode cX12_init 489 = .ok (.iconst 1, 1) := by decide +kernel
theorem dX12_init_490 : decode cX12_init 490 = .ok (.bipush 110, 2) := by decide +kernel
theorem dX12_init_492 : decode cX12_init 492 = .ok (.castore, 1) := by decide +kernel
theorem dX12_init_493 : decode cX12_init 493 = .ok (.dup, 1) := by decide +kernel
theorem dX12_init_494 : decode cX12_init 494 = .ok (.iconst 2, 1) := by decide +kernel
theorem dX12_init_495 : decode cX12_init 495 = .ok (.bipush 99, 2) := by decide +kernel
theorem dX12_init_497 : decode cX12_init 497 = .ok (.castore, 1) := by decide +kernel
theorem dX12_init_498 : decode cX12_init 498 = .ok (.dup, 1) := by decide +kernel
theorem dX12_init_499 : decode cX12_init 499 = .ok (.iconst 3, 1) := by decide +kernel
theorem dX12_init_500 : decode cX12_init 500 = .ok (.bipush 104, 2) := by decide +kernel
theorem dX12_init_502 : decode cX12_init 502 = .ok (.castore, 1) := by decide +kernel
theorem dX12_init_503 : decode cX12_init 503 = .ok (.dup, 1) := by decide +kernel
theorem dX12_init_504 : decode cX12_init 504 = .ok (.iconst 4, 1) := by decide +kernel
theorem dX12_init_505 : decode cX12_init 505 = .ok (.bipush 101, 2) := by decide +kernel
theorem dX12_init_507 : decode cX12_init 507 = .ok (.castore, 1) := by decide +kernel
theorem dX12_init_508 : decode cX12_init 508 = .ok (.dup, 1) := by decide +kernel
theorem dX12_init_509 : decode cX12_init 509 = .ok (.iconst 5, 1) := by decide +kernel
theorem dX12_init_510 : decode cX12_init 510 = .ok (.bipush 115, 2) := by decide +kernel
theorem dX12_init_512 : decode cX12_init 512 = .ok (.castore, 1) := by decide +kernel
theorem dX12_init_513 : decode cX12_init 513 = .ok (.putfield 66, 3) := by decide +kernel
theorem dX12_init_516 : decode cX12_init 516 = .ok (.aload_n 0, 1) := by decide +kernel
theorem dX12_init_517 : decode cX12_init 517 = .ok (.iconst 4, 1) := by decide +kernel
theorem dX12_init_518 : decode cX12_init 518 = .ok (.newarray .char, 2) := by decide +kernel
theorem dX12_init_520 : decode cX12_init 520 = .ok (.dup, 1) := by decide +kernel
theorem dX12_init_521 : decode cX12_init 521 = .ok (.iconst 0, 1) := by decide +kernel
theorem dX12_init_522 : decode cX12_init 522 = .ok (.bipush 110, 2) := by decide +kernel
theorem dX12_init_524 : decode cX12_init 524 = .ok (.castore, 1) := by decide +kernel
theorem dX12_init_525 : decode cX12_init 525 = .ok (.dup, 1) := by decide +kernel
theorem dX12_init_526 : decode cX12_init 526 = .ok (.iconst 1, 1) := by decide +kernel
theorem dX12_init_527 : decode cX12_init 527 = .ok (.bipush 101, 2) := by decide +kernel
theorem dX12_init_529 : decode cX12_init 529 = .ok (.castore, 1) := by decide +kernel
theorem dX12_init_530 : decode cX12_init 530 = .ok (.dup, 1) := by decide +kernel
theorem dX12_init_531 : decode cX12_init 531 = .ok (.iconst 2, 1) := by decide +kernel
theorem dX12_init_532 : decode cX12_init 532 = .ok (.bipush 97, 2) := by decide +kernel
theorem dX12_init_534 : decode cX12_init 534 = .ok (.castore, 1) := by decide +kernel
theorem dX12_init_535 : decode cX12_init 535 = .ok (.dup, 1) := by decide +kernel
theorem dX12_init_536 : decode cX12_init 536 = .ok (.iconst 3, 1) := by decide +kernel
theorem dX12_init_537 : decode cX12_init 537 = .ok (.bipush 114, 2) := by decide +kernel
theorem dX12_init_539 : decode cX12_init 539 = .ok (.castore, 1) := by decide +kernel
theorem dX12_init_540 : decode cX12_init 540 = .ok (.putfield 69, 3) := by decide +kernel
theorem dX12_init_543 : decode cX12_init 543 = .ok (.aload_n 0, 1) := by decide +kernel
theorem dX12_init_544 : decode cX12_init 544 = .ok (.iconst 5, 1) := by decide +kernel
theorem dX12_init_545 : decode cX12_init 545 = .ok (.newarray .char, 2) := by decide +kernel
theorem dX12_init_547 : decode cX12_init 547 = .ok (.dup, 1) := by decide +kernel
theorem dX12_init_548 : decode cX12_init 548 = .ok (.iconst 0, 1) := by decide +kernel
theorem dX12_init_549 : decode cX12_init 549 = .ok (.bipush 100, 2) := by decide +kernel
theorem dX12_init_551 : decode cX12_init 551 = .ok (.castore, 1) := by decide +kernel
theorem dX12_init_552 : decode cX12_init 552 = .ok (.dup, 1) := by decide +kernel
theorem dX12_init_553 : decode cX12_init 553 = .ok (.iconst 1, 1) := by decide +kernel
theorem dX12_init_554 : decode cX12_init 554 = .ok (.bipush 114, 2) := by decide +kernel
theorem dX12_init_556 : decode cX12_init 556 = .ok (.castore, 1) := by decide +kernel
theorem dX12_init_557 : decode cX12_init 557 = .ok (.dup, 1) := by decide +kernel
theorem dX12_init_558 : decode cX12_init 558 = .ok (.iconst 2, 1) := by decide +kernel
theorem dX12_init_559 : decode cX12_init 559 = .ok (.bipush 97, 2) := by decide +kernel
theorem dX12_init_561 : decode cX12_init 561 = .ok (.castore, 1) := by decide +kernel
theorem dX12_init_562 : decode cX12_init 562 = .ok (.dup, 1) := by decide +kernel
theorem dX12_init_563 : decode cX12_init 563 = .ok (.iconst 3, 1) := by decide +kernel
theorem dX12_init_564 : decode cX12_init 564 = .ok (.bipush 102, 2) := by decide +kernel
theorem dX12_init_566 : decode cX12_init 566 = .ok (.castore, 1) := by decide +kernel
theorem dX12_init_567 : decode cX12_init 567 = .ok (.dup, 1) := by decide +kernel
theorem dX12_init_568 : decode cX12_init 568 = .ok (.iconst 4, 1) := by decide +kernel
theorem dX12_init_569 : decode cX12_init 569 = .ok (.bipush 116, 2) := by decide +kernel
theorem dX12_init_571 : decode cX12_init 571 = .ok (.castore, 1) := by decide +kernel
theorem dX12_init_572 : decode cX12_init 572 = .ok (.putfield 72, 3) := by decide +kernel
theorem dX12_init_575 : decode cX12_init 575 = .ok (.aload_n 0, 1) := by decide +kernel
theorem dX12_init_576 : decode cX12_init 576 = .ok (.iconst 4, 1) := by decide +kernel
theorem dX12_init_577 : decode cX12_init 577 = .ok (.newarray .char, 2) := by decide +kernel
theorem dX12_init_579 : decode cX12_init 579 = .ok (.dup, 1) := by decide +kernel
theorem dX12_init_580 : decode cX12_init 580 = .ok (.iconst 0, 1) := by decide +kernel
theorem dX12_init_581 : decode cX12_init 581 = .ok (.bipush 116, 2) := by decide +kernel
theorem dX12_init_583 : decode cX12_init 583 = .ok (.castore, 1) := by decide +kernel
theorem dX12_init_584 : decode cX12_init 584 = .ok (.dup, 1) := by decide +kernel
theorem dX12_init_585 : decode cX12_init 585 = .ok (.iconst 1, 1) := by decide +kernel
theorem dX12_init_586 : decode cX12_init 586 = .ok (.bipush 111, 2) := by decide +kernel
theorem dX12_init_588 : decode cX12_init 588 = .ok (.castore, 1) := by decide +kernel
theorem dX12_init_589 : decode cX12_init 589 = .ok (.dup, 1) := by decide +kernel
theorem dX12_init_590 : decode cX12_init 590 = .ok (.iconst 2, 1) := by decide +kernel
theorem dX12_init_591 : decode cX12_init 591 = .ok (.bipush 108, 2) := by decide +kernel
theorem dX12_init_593 : decode cX12_init 593 = .ok (.castore, 1) := by decide +kernel
theorem dX12_init_594 : decode cX12_init 594 = .ok (.dup, 1) := by decide +kernel
theorem dX12_init_595 : decode cX12_init 595 = .ok (.iconst 3, 1) := by decide +kernel
theorem dX12_init_596 : decode cX12_init 596 = .ok (.bipush 100, 2) := by decide +kernel
theorem dX12_init_598 : decode cX12_init 598 = .ok (.castore, 1) := by decide +kernel
theorem dX12_init_599 : decode cX12_init 599 = .ok (.putfield 75, 3) := by decide +kernel
theorem dX12_init_602 : decode cX12_init 602 = .ok (.aload_n 0, 1) := by decide +kernel
theorem dX12_init_603 : decode cX12_init 603 = .ok (.iconst 4, 1) := by decide +kernel
theorem dX12_init_604 : decode cX12_init 604 = .ok (.newarray .char, 2) := by decide +kernel
theorem dX12_init_606 : decode cX12_init 606 = .ok (.dup, 1) := by decide +kernel
theorem dX12_init_607 : decode cX12_init 607 = .ok (.iconst 0, 1) := by decide +kernel
theorem dX12_init_608 : decode cX12_init 608 = .ok (.bipush 104, 2) := by decide +kernel
theorem dX12_init_610 : decode cX12_init 610 = .ok (.castore, 1) := by decide +kernel
theorem dX12_init_611 : decode cX12_init 611 = .ok (.dup, 1) := by decide +kernel
theorem dX12_init_612 : decode cX12_init 612 = .ok (.iconst 1, 1) := by decide +kernel
theorem dX12_init_613 : decode cX12_init 613 = .ok (.bipush 111, 2) := by decide +kernel
theorem dX12_init_615 : decode cX12_init 615 = .ok (.castore, 1) := by decide +kernel
theorem dX12_init_616 : decode cX12_init 616 = .ok (.dup, 1) := by decide +kernel
theorem dX12_init_617 : decode cX12_init 617 = .ok (.iconst 2, 1) := by decide +kernel
theorem dX12_init_618 : decode cX12_init 618 = .ok (.bipush 117, 2) := by decide +kernel
theorem dX12_init_620 : decode cX12_init 620 = .ok (.castore, 1) := by decide +kernel
theorem dX12_init_621 : decode cX12_init 621 = .ok (.dup, 1) := by decide +kernel
theorem dX12_init_622 : decode cX12_init 622 = .ok (.iconst 3, 1) := by decide +kernel
theorem dX12_init_623 : decode cX12_init 623 = .ok (.bipush 114, 2) := by decide +kernel
theorem dX12_init_625 : decode cX12_init 625 = .ok (.castore, 1) := by decide +kernel
theorem dX12_init_626 : decode cX12_init 626 = .ok (.putfield 78, 3) := by decide +kernel
theorem dX12_init_629 : decode cX12_init 629 = .ok (.aload_n 0, 1) := by decide +kernel
theorem dX12_init_630 : decode cX12_init 630 = .ok (.iconst 5, 1) := by decide +kernel
theorem dX12_init_631 : decode cX12_init 631 = .ok (.newarray .char, 2) := by decide +kernel
theorem dX12_init_633 : decode cX12_init 633 = .ok (.dup, 1) := by decide +kernel
theorem dX12_init_634 : decode cX12_init 634 = .ok (.iconst 0, 1) := by decide +kernel
theorem dX12_init_635 : decode cX12_init 635 = .ok (.bipush 112, 2) := by decide +kernel
theorem dX12_init_637 : decode cX12_init 637 = .ok (.castore, 1) := by decide +kernel
theorem dX12_init_638 : decode cX12_init 638 = .ok (.dup, 1) := by decide +kernel
theorem dX12_init_639 : decode cX12_init 639 = .ok (.iconst 1, 1) := by decide +kernel
theorem dX12_init_640 : decode cX12_init 640 = .ok (.bipush 108, 2) := by decide +kernel
theorem dX12_init_642 : decode cX12_init 642 = .ok (.castore, 1) := by decide +kernel
theorem dX12_init_643 : decode cX12_init 643 = .ok (.dup, 1) := by decide +kernel
theorem dX12_init_644 : decode cX12_init 644 = .ok (.iconst 2, 1) := by decide +kernel
theorem dX12_init_645 : decode cX12_init 645 = .ok (.bipush 97, 2) := by decide +kernel
theorem dX12_init_647 : decode cX12_init 647 = .ok (.castore, 1) := by decide +kernel
theorem dX12_init_648 : decode cX12_init 648 = .ok (.dup, 1) := by decide +kernel
theorem dX12_init_649 : decode cX12_init 649 = .ok (.iconst 3, 1) := by decide +kernel
theorem dX12_init_650 : decode cX12_init 650 = .ok (.bipush 99, 2) := by decide +kernel
theorem dX12_init_652 : decode cX12_init 652 = .ok (.castore, 1) := by decide +kernel
theorem dX12_init_653 : decode cX12_init 653 = .ok (.dup, 1) := by decide +kernel
theorem dX12_init_654 : decode cX12_init 654 = .ok (.iconst 4, 1) := by decide +kernel
theorem dX12_init_655 : decode cX12_init 655 = .ok (.bipush 101, 2) := by decide +kernel
theorem dX12_init_657 : decode cX12_init 657 = .ok (.castore, 1) := by decide +kernel
theorem dX12_init_658 : decode cX12_init 658 = .ok (.putfield 81, 3) := by decide +kernel
theorem dX12_init_661 : decode cX12_init 661 = .ok (.aload_n 0, 1) := by decide +kernel
theorem dX12_init_662 : decode cX12_init 662 = .ok (.bipush 6, 2) := by decide +kernel
theorem dX12_init_664 : decode cX12_init 664 = .ok (.newarray .char, 2) := by decide +kernel
theorem dX12_init_666 : decode cX12_init 666 = .ok (.dup, 1) := by decide +kernel
theorem dX12_init_667 : decode cX12_init 667 = .ok (.iconst 0, 1) := by decide +kernel
theorem dX12_init_668 : decode cX12_init 668 = .ok (.bipush 110, 2) := by decide +kernel
theorem dX12_init_670 : decode cX12_init 670 = .ok (.castore, 1) := by decide +kernel
theorem dX12_init_671 : decode cX12_init 671 = .ok (.dup, 1) := by decide +kernel
theorem dX12_init_672 : decode cX12_init 672 = .ok (.iconst 1, 1) := by decide +kernel
theorem dX12_init_673 : decode cX12_init 673 = .ok (.bipush 117, 2) := by decide +kernel
theorem dX12_init_675 : decode cX12_init 675 = .ok (.castore, 1) := by decide +kernel
theorem dX12_init_676 : decode cX12_init 676 = .ok (.dup, 1) := by decide +kernel
theorem dX12_init_677 : decode cX12_init 677 = .ok (.iconst 2, 1) := by decide +kernel
theorem dX12_init_678 : decode cX12_init 678 = .ok (.bipush 109, 2) := by decide +kernel
theorem dX12_init_680 : decode cX12_init 680 = .ok (.castore, 1) := by decide +kernel
theorem dX12_init_681 : decode cX12_init 681 = .ok (.dup, 1) := by decide +kernel
theorem dX12_init_682 : decode cX12_init 682 = .ok (.iconst 3, 1) := by decide +kernel
theorem dX12_init_683 : decode cX12_init 683 = .ok (.bipush 98, 2) := by decide +kernel
theorem dX12_init_685 : decode cX12_init 685 = .ok (.castore, 1) := by decide +kernel
theorem dX12_init_686 : decode cX12_init 686 = .ok (.dup, 1) := by decide +kernel
theorem dX12_init_687 : decode cX12_init 687 = .ok (.iconst 4, 1) := by decide +kernel
theorem dX12_init_688 : decode cX12_init 688 = .ok (.bipush 101, 2) := by decide +kernel
theorem dX12_init_690 : decode cX12_init 690 = .ok (.castore, 1) := by decide +kernel
theorem dX12_init_691 : decode cX12_init 691 = .ok (.dup, 1) := by decide +kernel
theorem dX12_init_692 : decode cX12_init 692 = .ok (.iconst 5, 1) := by decide +kernel
theorem dX12_init_693 : decode cX12_init 693 = .ok (.bipush 114, 2) := by decide +kernel
theorem dX12_init_695 : decode cX12_init 695 = .ok (.castore, 1) := by decide +kernel
theorem dX12_init_696 : decode cX12_init 696 = .ok (.putfield 84, 3) := by decide +kernel
theorem dX12_init_699 : decode cX12_init 699 = .ok (.aload_n 0, 1) := by decide +kernel
theorem dX12_init_700 : decode cX12_init 700 = .ok (.iconst 3, 1) := by decide +kernel
theorem dX12_init_701 : decode cX12_init 701 = .ok (.newarray .char, 2) := by decide +kernel
theorem dX12_init_703 : decode cX12_init 703 = .ok (.dup, 1) := by decide +kernel
theorem dX12_init_704 : decode cX12_init 704 = .ok (.iconst 0, 1) := by decide +kernel
theorem dX12_init_705 : decode cX12_init 705 = .ok (.bipush 108, 2) := by decide +kernel
theorem dX12_init_707 : decode cX12_init 707 = .ok (.castore, 1) := by decide +kernel
theorem dX12_init_708 : decode cX12_init 708 = .ok (.dup, 1) := by decide +kernel
theorem dX12_init_709 : decode cX12_init 709 = .ok (.iconst 1, 1) := by decide +kernel
theorem dX12_init_710 : decode cX12_init 710 = .ok (.bipush 105, 2) := by decide +kernel
theorem dX12_init_712 : decode cX12_init 712 = .ok (.castore, 1) := by decide +kernel
theorem dX12_init_713 : decode cX12_init 713 = .ok (.dup, 1) := by decide +kernel
theorem dX12_init_714 : decode cX12_init 714 = .ok (.iconst 2, 1) := by decide +kernel
theorem dX12_init_715 : decode cX12_init 715 = .ok (.bipush 116, 2) := by decide +kernel
theorem dX12_init_717 : decode cX12_init 717 = .ok (.castore, 1) := by decide +kernel
theorem dX12_init_718 : decode cX12_init 718 = .ok (.putfield 87, 3) := by decide +kernel
theorem dX12_init_721 : decode cX12_init 721 = .ok (.aload_n 0, 1) := by decide +kernel
theorem dX12_init_722 : decode cX12_init 722 = .ok (.iconst 4, 1) := by decide +kernel
theorem dX12_init_723 : decode cX12_init 723 = .ok (.newarray .char, 2) := by decide +kernel
theorem dX12_init_725 : decode cX12_init 725 = .ok (.dup, 1) := by decide +kernel
theorem dX12_init_726 : decode cX12_init 726 = .ok (.iconst 0, 1) := by decide +kernel
theorem dX12_init_727 : decode cX12_init 727 = .ok (.bipush 104, 2) := by decide +kernel
theorem dX12_init_729 : decode cX12_init 729 = .ok (.castore, 1) := by decide +kernel
theorem dX12_init_730 : decode cX12_init 730 = .ok (.dup, 1) := by decide +kernel
theorem dX12_init_731 : decode cX12_init 731 = .ok (.iconst 1, 1) := by decide +kernel
theorem dX12_init_732 : decode cX12_init 732 = .ok (.bipush 101, 2) := by decide +kernel
theorem dX12_init_734 : decode cX12_init 734 = .ok (.castore, 1) := by decide +kernel
theorem dX12_init_735 : decode cX12_init 735 = .ok (.dup, 1) := by decide +kernel
theorem dX12_init_736 : decode cX12_init 736 = .ok (.iconst 2, 1) := by decide +kernel
theorem dX12_init_737 : decode cX12_init 737 = .ok (.bipush 108, 2) := by decide +kernel
theorem dX12_init_739 : decode cX12_init 739 = .ok (.castore, 1) := by decide +kernel
theorem dX12_init_740 : decode cX12_init 740 = .ok (.dup, 1) := by decide +kernel
theorem dX12_init_741 : decode cX12_init 741 = .ok (.iconst 3, 1) := by decide +kernel
theorem dX12_init_742 : decode cX12_init 742 = .ok (.bipush 100, 2) := by decide +kernel
theorem dX12_init_744 : decode cX12_init 744 = .ok (.castore, 1) := by decide +kernel
theorem dX12_init_745 : decode cX12_init 745 = .ok (.putfield 90, 3) := by decide +kernel
theorem dX12_init_748 : decode cX12_init 748 = .ok (.aload_n 0, 1) := by decide +kernel
theorem dX12_init_749 : decode cX12_init 749 = .ok (.iconst 3, 1) := by decide +kernel
theorem dX12_init_750 : decode cX12_init 750 = .ok (.newarray .char, 2) := by decide +kernel
theorem dX12_init_752 : decode cX12_init 752 = .ok (.dup, 1) := by decide +kernel
theorem dX12_init_753 : decode cX12_init 753 = .ok (.iconst 0, 1) := by decide +kernel
theorem dX12_init_754 : decode cX12_init 754 = .ok (.bipush 119, 2) := by decide +kernel
theorem dX12_init_756 : decode cX12_init 756 = .ok (.castore, 1) := by decide +kernel
theorem dX12_init_757 : decode cX12_init 757 = .ok (.dup, 1) := by decide +kernel
theorem dX12_init_758 : decode cX12_init 758 = .ok (.iconst 1, 1) := by decide +kernel
theorem dX12_init_759 : decode cX12_init 759 = .ok (.bipush 97, 2) := by decide +kernel
theorem dX12_init_761 : decode cX12_init 761 = .ok (.castore, 1) := by decide +kernel
theorem dX12_init_762 : decode cX12_init 762 = .ok (.dup, 1) := by decide +kernel
theorem dX12_init_763 : decode cX12_init 763 = .ok (.iconst 2, 1) := by decide +kernel
theorem dX12_init_764 : decode cX12_init 764 = .ok (.bipush 120, 2) := by decide +kernel
theorem dX12_init_766 : decode cX12_init 766 = .ok (.castore, 1) := by decide +kernel
theorem dX12_init_767 : decode cX12_init 767 = .ok (.putfield 93, 3) := by decide +kernel
theorem dX12_init_770 : decode cX12_init 770 = .ok (.aload_n 0, 1) := by decide +kernel
theorem dX12_init_771 : decode cX12_init 771 = .ok (.iconst 4, 1) := by decide +kernel
theorem dX12_init_772 : decode cX12_init 772 = .ok (.newarray .char, 2) := by decide +kernel
theorem dX12_init_774 : decode cX12_init 774 = .ok (.dup, 1) := by decide +kernel
theorem dX12_init_775 : decode cX12_init 775 = .ok (.iconst 0, 1) := by decide +kernel
theorem dX12_init_776 : decode cX12_init 776 = .ok (.bipush 103, 2) := by decide +kernel
theorem dX12_init_778 : decode cX12_init 778 = .ok (.castore, 1) := by decide +kernel
theorem dX12_init_779 : decode cX12_init 779 = .ok (.dup, 1) := by decide +kernel
theorem dX12_init_780 : decode cX12_init 780 = .ok (.iconst 1, 1) := by decide +kernel
theorem dX12_init_781 : decode cX12_init 781 = .ok (.bipush 108, 2) := by decide +kernel
theorem dX12_init_783 : decode cX12_init 783 = .ok (.castore, 1) := by decide +kernel
theorem dX12_init_784 : decode cX12_init 784 = .ok (.dup, 1) := by decide +kernel
theorem dX12_init_785 : decode cX12_init 785 = .ok (.iconst 2, 1) := by decide +kernel
theorem dX12_init_786 : decode cX12_init 786 = .ok (.bipush 111, 2) := by decide +kernel
theorem dX12_init_788 : decode cX12_init 788 = .ok (.castore, 1) := by decide +kernel
theorem dX12_init_789 : decode cX12_init 789 = .ok (.dup, 1) := by decide +kernel
theorem dX12_init_790 : decode cX12_init 790 = .ok (.iconst 3, 1) := by decide +kernel
theorem dX12_init_791 : decode cX12_init 791 = .ok (.bipush 119, 2) := by decide +kernel
theorem dX12_init_793 : decode cX12_init 793 = .ok (.castore, 1) := by decide +kernel
theorem dX12_init_794 : decode cX12_init 794 = .ok (.putfield 96, 3) := by decide +kernel
theorem dX12_init_797 : decode cX12_init 797 = .ok (.aload_n 0, 1) := by decide +kernel
theorem dX12_init_798 : decode cX12_init 798 = .ok (.iconst 2, 1) := by decide +kernel
theorem dX12_init_799 : decode cX12_init 799 = .ok (.newarray .char, 2) := by decide +kernel
theorem dX12_init_801 : decode cX12_init 801 = .ok (.dup, 1) := by decide +kernel
theorem dX12_init_802 : decode cX12_init 802 = .ok (.iconst 0, 1) := by decide +kernel
theorem dX12_init_803 : decode cX12_init 803 = .ok (.bipush 111, 2) := by decide +kernel
theorem dX12_init_805 : decode cX12_init 805 = .ok (.castore, 1) := by decide +kernel
theorem dX12_init_806 : decode cX12_init 806 = .ok (.dup, 1) := by decide +kernel
theorem dX12_init_807 : decode cX12_init 807 = .ok (.iconst 1, 1) := by decide +kernel
theorem dX12_init_808 : decode cX12_init 808 = .ok (.bipush 114, 2) := by decide +kernel
theorem dX12_init_810 : decode cX12_init 810 = .ok (.castore, 1) := by decide +kernel
theorem dX12_init_811 : decode cX12_init 811 = .ok (.putfield 99, 3) := by decide +kernel
theorem dX12_init_814 : decode cX12_init 814 = .ok (.aload_n 0, 1) := by decide +kernel
theorem dX12_init_815 : decode cX12_init 815 = .ok (.iconst 3, 1) := by decide +kernel
theorem dX12_init_816 : decode cX12_init 816 = .ok (.newarray .char, 2) := by decide +kernel
theorem dX12_init_818 : decode cX12_init 818 = .ok (.dup, 1) := by decide +kernel
theorem dX12_init_819 : decode cX12_init 819 = .ok (.iconst 0, 1) := by decide +kernel
theorem dX12_init_820 : decode cX12_init 820 = .ok (.bipush 97, 2) := by decide +kernel
theorem dX12_init_822 : decode cX12_init 822 = .ok (.castore, 1) := by decide +kernel
theorem dX12_init_823 : decode cX12_init 823 = .ok (.dup, 1) := by decide +kernel
theorem dX12_init_824 : decode cX12_init 824 = .ok (.iconst 1, 1) := by decide +kernel
theorem dX12_init_825 : decode cX12_init 825 = .ok (.bipush 110, 2) := by decide +kernel
theorem dX12_init_827 : decode cX12_init 827 = .ok (.castore, 1) := by decide +kernel
theorem dX12_init_828 : decode cX12_init 828 = .ok (.dup, 1) := by decide +kernel
theorem dX12_init_829 : decode cX12_init 829 = .ok (.iconst 2, 1) := by decide +kernel
theorem dX12_init_830 : decode cX12_init 830 = .ok (.bipush 100, 2) := by decide +kernel
theorem dX12_init_832 : decode cX12_init 832 = .ok (.castore, 1) := by decide +kernel
theorem dX12_init_833 : decode cX12_init 833 = .ok (.putfield 102, 3) := by decide +kernel
theorem dX12_init_836 : decode cX12_init 836 = .ok (.aload_n 0, 1) := by decide +kernel
theorem dX12_init_837 : decode cX12_init 837 = .ok (.iconst 3, 1) := by decide +kernel
theorem dX12_init_838 : decode cX12_init 838 = .ok (.newarray .char, 2) := by decide +kernel
theorem dX12_init_840 : decode cX12_init 840 = .ok (.dup, 1) := by decide +kernel
theorem dX12_init_841 : decode cX12_init 841 = .ok (.iconst 0, 1) := by decide +kernel
theorem dX12_init_842 : decode cX12_init 842 = .ok (.bipush 110, 2) := by decide +kernel
theorem dX12_init_844 : decode cX12_init 844 = .ok (.castore, 1) := by decide +kernel
theorem dX12_init_845 : decode cX12_init 845 = .ok (.dup, 1) := by decide +kernel
theorem dX12_init_846 : decode cX12_init 846 = .ok (.iconst 1, 1) := by decide +kernel
theorem dX12_init_847 : decode cX12_init 847 = .ok (.bipush 111, 2) := by decide +kernel
theorem dX12_init_849 : decode cX12_init 849 = .ok (.castore, 1) := by decide +kernel
theorem dX12_init_850 : decode cX12_init 850 = .ok (.dup, 1) := by decide +kernel
theorem dX12_init_851 : decode cX12_init 851 = .ok (.iconst 2, 1) := by decide +kernel
theorem dX12_init_852 : decode cX12_init 852 = .ok (.bipush 116, 2) := by decide +kernel
theorem dX12_init_854 : decode cX12_init 854 = .ok (.castore, 1) := by decide +kernel
theorem dX12_init_855 : decode cX12_init 855 = .ok (.putfield 105, 3) := by decide +kernel
theorem dX12_init_858 : decode cX12_init 858 = .ok (.aload_n 0, 1) := by decide +kernel
theorem dX12_init_859 : decode cX12_init 859 = .ok (.iconst 3, 1) := by decide +kernel
theorem dX12_init_860 : decode cX12_init 860 = .ok (.newarray .char, 2) := by decide +kernel
theorem dX12_init_862 : decode cX12_init 862 = .ok (.dup, 1) := by decide +kernel
theorem dX12_init_863 : decode cX12_init 863 = .ok (.iconst 0, 1) := by decide +kernel
theorem dX12_init_864 : decode cX12_init 864 = .ok (.bipush 97, 2) := by decide +kernel
theorem dX12_init_866 : decode cX12_init 866 = .ok (.castore, 1) := by decide +kernel
theorem dX12_init_867 : decode cX12_init 867 = .ok (.dup, 1) := by decide +kernel
theorem dX12_init_868 : decode cX12_init 868 = .ok (.iconst 1, 1) := by decide +kernel
theorem dX12_init_869 : decode cX12_init 869 = .ok (.bipush 108, 2) := by decide +kernel
theorem dX12_init_871 : decode cX12_init 871 = .ok (.castore, 1) := by decide +kernel
theorem dX12_init_872 : decode cX12_init 872 = .ok (.dup, 1) := by decide +kernel
theorem dX12_init_873 : decode cX12_init 873 = .ok (.iconst 2, 1) := by decide +kernel
theorem dX12_init_874 : decode cX12_init 874 = .ok (.bipush 108, 2) := by decide +kernel
theorem dX12_init_876 : decode cX12_init 876 = .ok (.castore, 1) := by decide +kernel
theorem dX12_init_877 : decode cX12_init 877 = .ok (.putfield 108, 3) := by decide +kernel
theorem dX12_init_880 : decode cX12_init 880 = .ok (.aload_n 0, 1) := by decide +kernel
theorem dX12_init_881 : decode cX12_init 881 = .ok (.iconst 3, 1) := by decide +kernel
theorem dX12_init_882 : decode cX12_init 882 = .ok (.newarray .char, 2) := by decide +kernel
theorem dX12_init_884 : decode cX12_init 884 = .ok (.dup, 1) := by decide +kernel
theorem dX12_init_885 : decode cX12_init 885 = .ok (.iconst 0, 1) := by decide +kernel
theorem dX12_init_886 : decode cX12_init 886 = .ok (.bipush 109, 2) := by decide +kernel
theorem dX12_init_888 : decode cX12_init 888 = .ok (.castore, 1) := by decide +kernel
theorem dX12_init_889 : decode cX12_init 889 = .ok (.dup, 1) := by decide +kernel
theorem dX12_init_890 : decode cX12_init 890 = .ok (.iconst 1, 1) := by decide +kernel
theorem dX12_init_891 : decode cX12_init 891 = .ok (.bipush 105, 2) := by decide +kernel
theorem dX12_init_893 : decode cX12_init 893 = .ok (.castore, 1) := by decide +kernel
theorem dX12_init_894 : decode cX12_init 894 = .ok (.dup, 1) := by decide +kernel
theorem dX12_init_895 : decode cX12_init 895 = .ok (.iconst 2, 1) := by decide +kernel
theorem dX12_init_896 : decode cX12_init 896 = .ok (.bipush 110, 2) := by decide +kernel
theorem dX12_init_898 : decode cX12_init 898 = .ok (.castore, 1) := by decide +kernel
theorem dX12_init_899 : decode cX12_init 899 = .ok (.putfield 111, 3) := by decide +kernel
theorem dX12_init_902 : decode cX12_init 902 = .ok (.aload_n 0, 1) := by decide +kernel
theorem dX12_init_903 : decode cX12_init 903 = .ok (.iconst 3, 1) := by decide +kernel
theorem dX12_init_904 : decode cX12_init 904 = .ok (.newarray .char, 2) := by decide +kernel
theorem dX12_init_906 : decode cX12_init 906 = .ok (.dup, 1) := by decide +kernel
theorem dX12_init_907 : decode cX12_init 907 = .ok (.iconst 0, 1) := by decide +kernel
theorem dX12_init_908 : decode cX12_init 908 = .ok (.bipush 109, 2) := by decide +kernel
theorem dX12_init_910 : decode cX12_init 910 = .ok (.castore, 1) := by decide +kernel
theorem dX12_init_911 : decode cX12_init 911 = .ok (.dup, 1) := by decide +kernel
theorem dX12_init_912 : decode cX12_init 912 = .ok (.iconst 1, 1) := by decide +kernel
theorem dX12_init_913 : decode cX12_init 913 = .ok (.bipush 97, 2) := by decide +kernel
theorem dX12_init_915 : decode cX12_init 915 = .ok (.castore, 1) := by decide +kernel
theorem dX12_init_916 : decode cX12_init 916 = .ok (.dup, 1) := by decide +kernel
theorem dX12_init_917 : decode cX12_init 917 = .ok (.iconst 2, 1) := by decide +kernel
theorem dX12_init_918 : decode cX12_init 918 = .ok (.bipush 120, 2) := by decide +kernel
theorem dX12_init_920 : decode cX12_init 920 = .ok (.castore, 1) := by decide +kernel
theorem dX12_init_921 : decode cX12_init 921 = .ok (.putfield 114, 3) := by decide +kernel
theorem dX12_init_924 : decode cX12_init 924 = .ok (.aload_n 0, 1) := by decide +kernel
theorem dX12_init_925 : decode cX12_init 925 = .ok (.bipush 12, 2) := by decide +kernel
theorem dX12_init_927 : decode cX12_init 927 = .ok (.newarray .int, 2) := by decide +kernel
theorem dX12_init_929 : decode cX12_init 929 = .ok (.putfield 117, 3) := by decide +kernel
theorem dX12_init_932 : decode cX12_init 932 = .ok (.aload_n 0, 1) := by decide +kernel
theorem dX12_init_933 : decode cX12_init 933 = .ok (.bipush 32, 2) := by decide +kernel
theorem dX12_init_935 : decode cX12_init 935 = .ok (.newarray .long, 2) := by decide +kernel
theorem dX12_init_937 : decode cX12_init 937 = .ok (.putfield 120, 3) := by decide +kernel
theorem dX12_init_940 : decode cX12_init 940 = .ok (.aload_n 0, 1) := by decide +kernel
theorem dX12_init_941 : decode cX12_init 941 = .ok (.bipush 24, 2) := by decide +kernel
theorem dX12_init_943 : decode cX12_init 943 = .ok (.newarray .int, 2) := by decide +kernel
theorem dX12_init_945 : decode cX12_init 945 = .ok (.putfield 124, 3) := by decide +kernel
theorem dX12_init_948 : decode cX12_init 948 = .ok (.aload_n 0, 1) := by decide +kernel
theorem dX12_init_949 : decode cX12_init 949 = .ok (.bipush 32, 2) := by decide +kernel
theorem dX12_init_951 : decode cX12_init 951 = .ok (.newarray .int, 2) := by decide +kernel
theorem dX12_init_953 : decode cX12_init 953 = .ok (.putfield 127, 3) := by decide +kernel
theorem dX12_init_956 : decode cX12_init 956 = .ok (.aload_n 0, 1) := by decide +kernel
theorem dX12_init_957 : decode cX12_init 957 = .ok (.bipush 96, 2) := by decide +kernel
theorem dX12_init_959 : decode cX12_init 959 = .ok (.newarray .int, 2) := by decide +kernel
theorem dX12_init_961 : decode cX12_init 961 = .ok (.putfield 130, 3) := by decide +kernel
theorem dX12_init_964 : decode cX12_init 964 = .ok (.aload_n 0, 1) := by decide +kernel
theorem dX12_init_965 : decode cX12_init 965 = .ok (.bipush 6, 2) := by decide +kernel
theorem dX12_init_967 : decode cX12_init 967 = .ok (.newarray .int, 2) := by decide +kernel
theorem dX12_init_969 : decode cX12_init 969 = .ok (.dup, 1) := by decide +kernel
theorem dX12_init_970 : decode cX12_init 970 = .ok (.iconst 0, 1) := by decide +kernel
theorem dX12_init_971 : decode cX12_init 971 = .ok (.iconst (-1), 1) := by decide +kernel
theorem dX12_init_972 : decode cX12_init 972 = .ok (.iastore, 1) := by decide +kernel
theorem dX12_init_973 : decode cX12_init 973 = .ok (.dup, 1) := by decide +kernel
theorem dX12_init_974 : decode cX12_init 974 = .ok (.iconst 1, 1) := by decide +kernel
theorem dX12_init_975 : decode cX12_init 975 = .ok (.iconst (-1), 1) := by decide +kernel
theorem dX12_init_976 : decode cX12_init 976 = .ok (.iastore, 1) := by decide +kernel
theorem dX12_init_977 : decode cX12_init 977 = .ok (.dup, 1) := by decide +kernel
theorem dX12_init_978 : decode cX12_init 978 = .ok (.iconst 2, 1) := by decide +kernel
theorem dX12_init_979 : decode cX12_init 979 = .ok (.iconst (-1), 1) := by decide +kernel
theorem dX12_init_980 : decode cX12_init 980 = .ok (.iastore, 1) := by decide +kernel
theorem dX12_init_981 : decode cX12_init 981 = .ok (.dup, 1) := by decide +kernel
theorem dX12_init_982 : decode cX12_init 982 = .ok (.iconst 3, 1) := by decide +kernel
theorem dX12_init_983 : decode cX12_init 983 = .ok (.iconst (-1), 1) := by decide +kernel
theorem dX12_init_984 : decode cX12_init 984 = .ok (.iastore, 1) := by decide +kernel
theorem dX12_init_985 : decode cX12_init 985 = .ok (.dup, 1) := by decide +kernel
theorem dX12_init_986 : decode cX12_init 986 = .ok (.iconst 4, 1) := by decide +kernel
theorem dX12_init_987 : decode cX12_init 987 = .ok (.iconst (-1), 1) := by decide +kernel
theorem dX12_init_988 : decode cX12_init 988 = .ok (.iastore, 1) := by decide +kernel
theorem dX12_init_989 : decode cX12_init 989 = .ok (.dup, 1) := by decide +kernel
theorem dX12_init_990 : decode cX12_init 990 = .ok (.iconst 5, 1) := by decide +kernel
theorem dX12_init_991 : decode cX12_init 991 = .ok (.iconst (-1), 1) := by decide +kernel
theorem dX12_init_992 : decode cX12_init 992 = .ok (.iastore, 1) := by decide +kernel
theorem dX12_init_993 : decode cX12_init 993 = .ok (.putfield 133, 3) := by decide +kernel
theorem dX12_init_996 : decode cX12_init 996 = .ok (.aload_n 0, 1) := by decide +kernel
theorem dX12_init_997 : decode cX12_init 997 = .ok (.bipush 6, 2) := by decide +kernel
theorem dX12_init_999 : decode cX12_init 999 = .ok (.newarray .int, 2) := by decide +kernel
theorem dX12_init_1001 : decode cX12_init 1001 = .ok (.putfield 136, 3) := by decide +kernel
theorem dX12_init_1004 : decode cX12_init 1004 = .ok (.aload_n 0, 1) := by decide +kernel
theorem dX12_init_1005 : decode cX12_init 1005 = .ok (.sipush 3200, 3) := by decide +kernel
theorem dX12_init_1008 : decode cX12_init 1008 = .ok (.newarray .int, 2) := by decide +kernel
theorem dX12_init_1010 : decode cX12_init 1010 = .ok (.putfield 139, 3) := by decide +kernel
theorem dX12_init_1013 : decode cX12_init 1013 = .ok (.aload_n 0, 1) := by decide +kernel
theorem dX12_init_1014 : decode cX12_init 1014 = .ok (.bipush 105, 2) := by decide +kernel
theorem dX12_init_1016 : decode cX12_init 1016 = .ok (.newarray .int, 2) := by decide +kernel
theorem dX12_init_1018 : decode cX12_init 1018 = .ok (.putfield 142, 3) := by decide +kernel
theorem dX12_init_1021 : decode cX12_init 1021 = .ok (.aload_n 0, 1) := by decide +kernel
theorem dX12_init_1022 : decode cX12_init 1022 = .ok (.bipush 30, 2) := by decide +kernel
theorem dX12_init_1024 : decode cX12_init 1024 = .ok (.newarray .int, 2) := by decide +kernel
theorem dX12_init_1026 : decode cX12_init 1026 = .ok (.putfield 145, 3) := by decide +kernel
theorem dX12_init_1029 : decode cX12_init 1029 = .ok (.aload_n 0, 1) := by decide +kernel
theorem dX12_init_1030 : decode cX12_init 1030 = .ok (.bipush 8, 2) := by decide +kernel
theorem dX12_init_1032 : decode cX12_init 1032 = .ok (.newarray .int, 2) := by decide +kernel
theorem dX12_init_1034 : decode cX12_init 1034 = .ok (.putfield 148, 3) := by decide +kernel
theorem dX12_init_1037 : decode cX12_init 1037 = .ok (.aload_n 0, 1) := by decide +kernel
theorem dX12_init_1038 : decode cX12_init 1038 = .ok (.bipush 24, 2) := by decide +kernel
theorem dX12_init_1040 : decode cX12_init 1040 = .ok (.newarray .int, 2) := by decide +kernel
theorem dX12_init_1042 : decode cX12_init 1042 = .ok (.putfield 151, 3) := by decide +kernel
theorem dX12_init_1045 : decode cX12_init 1045 = .ok (.aload_n 0, 1) := by decide +kernel
theorem dX12_init_1046 : decode cX12_init 1046 = .ok (.bipush 48, 2) := by decide +kernel
theorem dX12_init_1048 : decode cX12_init 1048 = .ok (.newarray .int, 2) := by decide +kernel
theorem dX12_init_1050 : decode cX12_init 1050 = .ok (.putfield 154, 3) := by decide +kernel
theorem dX12_init_1053 : decode cX12_init 1053 = .ok (.aload_n 0, 1) := by decide +kernel
theorem dX12_init_1054 : decode cX12_init 1054 = .ok (.bipush 100, 2) := by decide +kernel
theorem dX12_init_1056 : decode cX12_init 1056 = .ok (.newarray .boolean, 2) := by decide +kernel
theorem dX12_init_1058 : decode cX12_init 1058 = .ok (.putfield 157, 3) := by decide +kernel
theorem dX12_init_1061 : decode cX12_init 1061 = .ok (.aload_n 0, 1) := by decide +kernel
theorem dX12_init_1062 : decode cX12_init 1062 = .ok (.ldc 161, 2) := by decide +kernel
theorem dX12_init_1064 : decode cX12_init 1064 = .ok (.newarray .int, 2) := by decide +kernel
theorem dX12_init_1066 : decode cX12_init 1066 = .ok (.putfield 162, 3) := by decide +kernel
theorem dX12_init_1069 : decode cX12_init 1069 = .ok (.aload_n 0, 1) := by decide +kernel
theorem dX12_init_1070 : decode cX12_init 1070 = .ok (.bipush 9, 2) := by decide +kernel
theorem dX12_init_1072 : decode cX12_init 1072 = .ok (.newarray .int, 2) := by decide +kernel
theorem dX12_init_1074 : decode cX12_init 1074 = .ok (.putfield 165, 3) := by decide +kernel
theorem dX12_init_1077 : decode cX12_init 1077 = .ok (.aload_n 0, 1) := by decide +kernel
theorem dX12_init_1078 : decode cX12_init 1078 = .ok (.sipush 2100, 3) := by decide +kernel
theorem dX12_init_1081 : decode cX12_init 1081 = .ok (.newarray .int, 2) := by decide +kernel
theorem dX12_init_1083 : decode cX12_init 1083 = .ok (.putfield 168, 3) := by decide +kernel
theorem dX12_init_1086 : decode cX12_init 1086 = .ok (.aload_n 0, 1) := by decide +kernel
theorem dX12_init_1087 : decode cX12_init 1087 = .ok (.lconst 1, 1) := by decide +kernel
theorem dX12_init_1088 : decode cX12_init 1088 = .ok (.putfield 171, 3) := by decide +kernel
theorem dX12_init_1091 : decode cX12_init 1091 = .ok (.aload_n 0, 1) := by decide +kernel
theorem dX12_init_1092 : decode cX12_init 1092 = .ok (.iconst 5, 1) := by decide +kernel
theorem dX12_init_1093 : decode cX12_init 1093 = .ok (.newarray .char, 2) := by decide +kernel
theorem dX12_init_1095 : decode cX12_init 1095 = .ok (.dup, 1) := by decide +kernel
theorem dX12_init_1096 : decode cX12_init 1096 = .ok (.iconst 0, 1) := by decide +kernel
theorem dX12_init_1097 : decode cX12_init 1097 = .ok (.bipush 102, 2) := by decide +kernel
theorem dX12_init_1099 : decode cX12_init 1099 = .ok (.castore, 1) := by decide +kernel
theorem dX12_init_1100 : decode cX12_init 1100 = .ok (.dup, 1) := by decide +kernel
theorem dX12_init_1101 : decode cX12_init 1101 = .ok (.iconst 1, 1) := by decide +kernel
theorem dX12_init_1102 : decode cX12_init 1102 = .ok (.bipush 105, 2) := by decide +kernel
theorem dX12_init_1104 : decode cX12_init 1104 = .ok (.castore, 1) := by decide +kernel
theorem dX12_init_1105 : decode cX12_init 1105 = .ok (.dup, 1) := by decide +kernel
theorem dX12_init_1106 : decode cX12_init 1106 = .ok (.iconst 2, 1) := by decide +kernel
theorem dX12_init_1107 : decode cX12_init 1107 = .ok (.bipush 114, 2) := by decide +kernel
theorem dX12_init_1109 : decode cX12_init 1109 = .ok (.castore, 1) := by decide +kernel
theorem dX12_init_1110 : decode cX12_init 1110 = .ok (.dup, 1) := by decide +kernel
theorem dX12_init_1111 : decode cX12_init 1111 = .ok (.iconst 3, 1) := by decide +kernel
theorem dX12_init_1112 : decode cX12_init 1112 = .ok (.bipush 115, 2) := by decide +kernel
theorem dX12_init_1114 : decode cX12_init 1114 = .ok (.castore, 1) := by decide +kernel
theorem dX12_init_1115 : decode cX12_init 1115 = .ok (.dup, 1) := by decide +kernel
theorem dX12_init_1116 : decode cX12_init 1116 = .ok (.iconst 4, 1) := by decide +kernel
theorem dX12_init_1117 : decode cX12_init 1117 = .ok (.bipush 116, 2) := by decide +kernel
theorem dX12_init_1119 : decode cX12_init 1119 = .ok (.castore, 1) := by decide +kernel
theorem dX12_init_1120 : decode cX12_init 1120 = .ok (.putfield 175, 3) := by decide +kernel
theorem dX12_init_1123 : decode cX12_init 1123 = .ok (.aload_n 0, 1) := by decide +kernel
theorem dX12_init_1124 : decode cX12_init 1124 = .ok (.iconst 4, 1) := by decide +kernel
theorem dX12_init_1125 : decode cX12_init 1125 = .ok (.newarray .char, 2) := by decide +kernel
theorem dX12_init_1127 : decode cX12_init 1127 = .ok (.dup, 1) := by decide +kernel
theorem dX12_init_1128 : decode cX12_init 1128 = .ok (.iconst 0, 1) := by decide +kernel
theorem dX12_init_1129 : decode cX12_init 1129 = .ok (.bipush 108, 2) := by decide +kernel
theorem dX12_init_1131 : decode cX12_init 1131 = .ok (.castore, 1) := by decide +kernel
theorem dX12_init_1132 : decode cX12_init 1132 = .ok (.dup, 1) := by decide +kernel
theorem dX12_init_1133 : decode cX12_init 1133 = .ok (.iconst 1, 1) := by decide +kernel
theorem dX12_init_1134 : decode cX12_init 1134 = .ok (.bipush 97, 2) := by decide +kernel
theorem dX12_init_1136 : decode cX12_init 1136 = .ok (.castore, 1) := by decide +kernel
theorem dX12_init_1137 : decode cX12_init 1137 = .ok (.dup, 1) := by decide +kernel
theorem dX12_init_1138 : decode cX12_init 1138 = .ok (.iconst 2, 1) := by decide +kernel
theorem dX12_init_1139 : decode cX12_init 1139 = .ok (.bipush 115, 2) := by decide +kernel
theorem dX12_init_1141 : decode cX12_init 1141 = .ok (.castore, 1) := by decide +kernel
theorem dX12_init_1142 : decode cX12_init 1142 = .ok (.dup, 1) := by decide +kernel
theorem dX12_init_1143 : decode cX12_init 1143 = .ok (.iconst 3, 1) := by decide +kernel
theorem dX12_init_1144 : decode cX12_init 1144 = .ok (.bipush 116, 2) := by decide +kernel
theorem dX12_init_1146 : decode cX12_init 1146 = .ok (.castore, 1) := by decide +kernel
theorem dX12_init_1147 : decode cX12_init 1147 = .ok (.putfield 178, 3) := by decide +kernel
theorem dX12_init_1150 : decode cX12_init 1150 = .ok (.aload_n 0, 1) := by decide +kernel
theorem dX12_init_1151 : decode cX12_init 1151 = .ok (.iconst 5, 1) := by decide +kernel
theorem dX12_init_1152 : decode cX12_init 1152 = .ok (.newarray .char, 2) := by decide +kernel
theorem dX12_init_1154 : decode cX12_init 1154 = .ok (.dup, 1) := by decide +kernel
theorem dX12_init_1155 : decode cX12_init 1155 = .ok (.iconst 0, 1) := by decide +kernel
theorem dX12_init_1156 : decode cX12_init 1156 = .ok (.bipush 111, 2) := by decide +kernel
theorem dX12_init_1158 : decode cX12_init 1158 = .ok (.castore, 1) := by decide +kernel
theorem dX12_init_1159 : decode cX12_init 1159 = .ok (.dup, 1) := by decide +kernel
theorem dX12_init_1160 : decode cX12_init 1160 = .ok (.iconst 1, 1) := by decide +kernel
theorem dX12_init_1161 : decode cX12_init 1161 = .ok (.bipush 102, 2) := by decide +kernel
theorem dX12_init_1163 : decode cX12_init 1163 = .ok (.castore, 1) := by decide +kernel
theorem dX12_init_1164 : decode cX12_init 1164 = .ok (.dup, 1) := by decide +kernel
theorem dX12_init_1165 : decode cX12_init 1165 = .ok (.iconst 2, 1) := by decide +kernel
theorem dX12_init_1166 : decode cX12_init 1166 = .ok (.bipush 116, 2) := by decide +kernel
theorem dX12_init_1168 : decode cX12_init 1168 = .ok (.castore, 1) := by decide +kernel
theorem dX12_init_1169 : decode cX12_init 1169 = .ok (.dup, 1) := by decide +kernel
theorem dX12_init_1170 : decode cX12_init 1170 = .ok (.iconst 3, 1) := by decide +kernel
theorem dX12_init_1171 : decode cX12_init 1171 = .ok (.bipush 101, 2) := by decide +kernel
theorem dX12_init_1173 : decode cX12_init 1173 = .ok (.castore, 1) := by decide +kernel
theorem dX12_init_1174 : decode cX12_init 1174 = .ok (.dup, 1) := by decide +kernel
theorem dX12_init_1175 : decode cX12_init 1175 = .ok (.iconst 4, 1) := by decide +kernel
theorem dX12_init_1176 : decode cX12_init 1176 = .ok (.bipush 110, 2) := by decide +kernel
theorem dX12_init_1178 : decode cX12_init 1178 = .ok (.castore, 1) := by decide +kernel
theorem dX12_init_1179 : decode cX12_init 1179 = .ok (.putfield 181, 3) := by decide +kernel
theorem dX12_init_1182 : decode cX12_init 1182 = .ok (.aload_n 0, 1) := by decide +kernel
theorem dX12_init_1183 : decode cX12_init 1183 = .ok (.iconst 5, 1) := by decide +kernel
theorem dX12_init_1184 : decode cX12_init 1184 = .ok (.newarray .char, 2) := by decide +kernel
theorem dX12_init_1186 : decode cX12_init 1186 = .ok (.dup, 1) := by decide +kernel
theorem dX12_init_1187 : decode cX12_init 1187 = .ok (.iconst 0, 1) := by decide +kernel
theorem dX12_init_1188 : decode cX12_init 1188 = .ok (.bipush 116, 2) := by decide +kernel
theorem dX12_init_1190 : decode cX12_init 1190 = .ok (.castore, 1) := by decide +kernel
theorem dX12_init_1191 : decode cX12_init 1191 = .ok (.dup, 1) := by decide +kernel
theorem dX12_init_1192 : decode cX12_init 1192 = .ok (.iconst 1, 1) := by decide +kernel
theorem dX12_init_1193 : decode cX12_init 1193 = .ok (.bipush 111, 2) := by decide +kernel
theorem dX12_init_1195 : decode cX12_init 1195 = .ok (.castore, 1) := by decide +kernel
theorem dX12_init_1196 : decode cX12_init 1196 = .ok (.dup, 1) := by decide +kernel
theorem dX12_init_1197 : decode cX12_init 1197 = .ok (.iconst 2, 1) := by decide +kernel
theorem dX12_init_1198 : decode cX12_init 1198 = .ok (.bipush 116, 2) := by decide +kernel
theorem dX12_init_1200 : decode cX12_init 1200 = .ok (.castore, 1) := by decide +kernel
theorem dX12_init_1201 : decode cX12_init 1201 = .ok (.dup, 1) := by decide +kernel
theorem dX12_init_1202 : decode cX12_init 1202 = .ok (.iconst 3, 1) := by decide +kernel
theorem dX12_init_1203 : decode cX12_init 1203 = .ok (.bipush 97, 2) := by decide +kernel
theorem dX12_init_1205 : decode cX12_init 1205 = .ok (.castore, 1) := by decide +kernel
theorem dX12_init_1206 : decode cX12_init 1206 = .ok (.dup, 1) := by decide +kernel
theorem dX12_init_1207 : decode cX12_init 1207 = .ok (.iconst 4, 1) := by decide +kernel
theorem dX12_init_1208 : decode cX12_init 1208 = .ok (.bipush 108, 2) := by decide +kernel
theorem dX12_init_1210 : decode cX12_init 1210 = .ok (.castore, 1) := by decide +kernel
theorem dX12_init_1211 : decode cX12_init 1211 = .ok (.putfield 184, 3) := by decide +kernel
theorem dX12_init_1214 : decode cX12_init 1214 = .ok (.aload_n 0, 1) := by decide +kernel
theorem dX12_init_1215 : decode cX12_init 1215 = .ok (.iconst 4, 1) := by decide +kernel
theorem dX12_init_1216 : decode cX12_init 1216 = .ok (.newarray .char, 2) := by decide +kernel
theorem dX12_init_1218 : decode cX12_init 1218 = .ok (.dup, 1) := by decide +kernel
theorem dX12_init_1219 : decode cX12_init 1219 = .ok (.iconst 0, 1) := by decide +kernel
theorem dX12_init_1220 : decode cX12_init 1220 = .ok (.bipush 109, 2) := by decide +kernel
theorem dX12_init_1222 : decode cX12_init 1222 = .ok (.castore, 1) := by decide +kernel
theorem dX12_init_1223 : decode cX12_init 1223 = .ok (.dup, 1) := by decide +kernel
theorem dX12_init_1224 : decode cX12_init 1224 = .ok (.iconst 1, 1) := by decide +kernel
theorem dX12_init_1225 : decode cX12_init 1225 = .ok (.bipush 111, 2) := by decide +kernel
theorem dX12_init_1227 : decode cX12_init 1227 = .ok (.castore, 1) := by decide +kernel
theorem dX12_init_1228 : decode cX12_init 1228 = .ok (.dup, 1) := by decide +kernel
theorem dX12_init_1229 : decode cX12_init 1229 = .ok (.iconst 2, 1) := by decide +kernel
theorem dX12_init_1230 : decode cX12_init 1230 = .ok (.bipush 115, 2) := by decide +kernel
theorem dX12_init_1232 : decode cX12_init 1232 = .ok (.castore, 1) := by decide +kernel
theorem dX12_init_1233 : decode cX12_init 1233 = .ok (.dup, 1) := by decide +kernel
theorem dX12_init_1234 : decode cX12_init 1234 = .ok (.iconst 3, 1) := by decide +kernel
theorem dX12_init_1235 : decode cX12_init 1235 = .ok (.bipush 116, 2) := by decide +kernel
theorem dX12_init_1237 : decode cX12_init 1237 = .ok (.castore, 1) := by decide +kernel
theorem dX12_init_1238 : decode cX12_init 1238 = .ok (.putfield 187, 3) := by decide +kernel
theorem dX12_init_1241 : decode cX12_init 1241 = .ok (.aload_n 0, 1) := by decide +kernel
theorem dX12_init_1242 : decode cX12_init 1242 = .ok (.iconst 5, 1) := by decide +kernel
theorem dX12_init_1243 : decode cX12_init 1243 = .ok (.newarray .char, 2) := by decide +kernel
theorem dX12_init_1245 : decode cX12_init 1245 = .ok (.dup, 1) := by decide +kernel
theorem dX12_init_1246 : decode cX12_init 1246 = .ok (.iconst 0, 1) := by decide +kernel
theorem dX12_init_1247 : decode cX12_init 1247 = .ok (.bipush 108, 2) := by decide +kernel
theorem dX12_init_1249 : decode cX12_init 1249 = .ok (.castore, 1) := by decide +kernel
theorem dX12_init_1250 : decode cX12_init 1250 = .ok (.dup, 1) := by decide +kernel
theorem dX12_init_1251 : decode cX12_init 1251 = .ok (.iconst 1, 1) := by decide +kernel
theorem dX12_init_1252 : decode cX12_init 1252 = .ok (.bipush 101, 2) := by decide +kernel
theorem dX12_init_1254 : decode cX12_init 1254 = .ok (.castore, 1) := by decide +kernel
theorem dX12_init_1255 : decode cX12_init 1255 = .ok (.dup, 1) := by decide +kernel
theorem dX12_init_1256 : decode cX12_init 1256 = .ok (.iconst 2, 1) := by decide +kernel
theorem dX12_init_1257 : decode cX12_init 1257 = .ok (.bipush 97, 2) := by decide +kernel
theorem dX12_init_1259 : decode cX12_init 1259 = .ok (.castore, 1) := by decide +kernel
theorem dX12_init_1260 : decode cX12_init 1260 = .ok (.dup, 1) := by decide +kernel
theorem dX12_init_1261 : decode cX12_init 1261 = .ok (.iconst 3, 1) := by decide +kernel
theorem dX12_init_1262 : decode cX12_init 1262 = .ok (.bipush 115, 2) := by decide +kernel
theorem dX12_init_1264 : decode cX12_init 1264 = .ok (.castore, 1) := by decide +kernel
theorem dX12_init_1265 : decode cX12_init 1265 = .ok (.dup, 1) := by decide +kernel
theorem dX12_init_1266 : decode cX12_init 1266 = .ok (.iconst 4, 1) := by decide +kernel
theorem dX12_init_1267 : decode cX12_init 1267 = .ok (.bipush 116, 2) := by decide +kernel
theorem dX12_init_1269 : decode cX12_init 1269 = .ok (.castore, 1) := by decide +kernel
theorem dX12_init_1270 : decode cX12_init 1270 = .ok (.putfield 190, 3) := by decide +kernel
theorem dX12_init_1273 : decode cX12_init 1273 = .ok (.aload_n 0, 1) := by decide +kernel
theorem dX12_init_1274 : decode cX12_init 1274 = .ok (.iconst 3, 1) := by decide +kernel
theorem dX12_init_1275 : decode cX12_init 1275 = .ok (.newarray .char, 2) := by decide +kernel
theorem dX12_init_1277 : decode cX12_init 1277 = .ok (.dup, 1) := by decide +kernel
theorem dX12_init_1278 : decode cX12_init 1278 = .ok (.iconst 0, 1) := by decide +kernel
theorem dX12_init_1279 : decode cX12_init 1279 = .ok (.bipush 110, 2) := by decide +kernel
theorem dX12_init_1281 : decode cX12_init 1281 = .ok (.castore, 1) := by decide +kernel
theorem dX12_init_1282 : decode cX12_init 1282 = .ok (.dup, 1) := by decide +kernel
theorem dX12_init_1283 : decode cX12_init 1283 = .ok (.iconst 1, 1) := by decide +kernel
theorem dX12_init_1284 : decode cX12_init 1284 = .ok (.bipush 111, 2) := by decide +kernel
theorem dX12_init_1286 : decode cX12_init 1286 = .ok (.castore, 1) := by decide +kernel
theorem dX12_init_1287 : decode cX12_init 1287 = .ok (.dup, 1) := by decide +kernel
theorem dX12_init_1288 : decode cX12_init 1288 = .ok (.iconst 2, 1) := by decide +kernel
theorem dX12_init_1289 : decode cX12_init 1289 = .ok (.bipush 116, 2) := by decide +kernel
theorem dX12_init_1291 : decode cX12_init 1291 = .ok (.castore, 1) := by decide +kernel
theorem dX12_init_1292 : decode cX12_init 1292 = .ok (.putfield 193, 3) := by decide +kernel
theorem dX12_init_1295 : decode cX12_init 1295 = .ok (.aload_n 0, 1) := by decide +kernel
theorem dX12_init_1296 : decode cX12_init 1296 = .ok (.iconst 3, 1) := by decide +kernel
theorem dX12_init_1297 : decode cX12_init 1297 = .ok (.newarray .char, 2) := by decide +kernel
theorem dX12_init_1299 : decode cX12_init 1299 = .ok (.dup, 1) := by decide +kernel
theorem dX12_init_1300 : decode cX12_init 1300 = .ok (.iconst 0, 1) := by decide +kernel
theorem dX12_init_1301 : decode cX12_init 1301 = .ok (.bipush 97, 2) := by decide +kernel
theorem dX12_init_1303 : decode cX12_init 1303 = .ok (.castore, 1) := by decide +kernel
theorem dX12_init_1304 : decode cX12_init 1304 = .ok (.dup, 1) := by decide +kernel
theorem dX12_init_1305 : decode cX12_init 1305 = .ok (.iconst 1, 1) := by decide +kernel
theorem dX12_init_1306 : decode cX12_init 1306 = .ok (.bipush 110, 2) := by decide +kernel
theorem dX12_init_1308 : decode cX12_init 1308 = .ok (.castore, 1) := by decide +kernel
theorem dX12_init_1309 : decode cX12_init 1309 = .ok (.dup, 1) := by decide +kernel
theorem dX12_init_1310 : decode cX12_init 1310 = .ok (.iconst 2, 1) := by decide +kernel
theorem dX12_init_1311 : decode cX12_init 1311 = .ok (.bipush 100, 2) := by decide +kernel
theorem dX12_init_1313 : decode cX12_init 1313 = .ok (.castore, 1) := by decide +kernel
theorem dX12_init_1314 : decode cX12_init 1314 = .ok (.putfield 196, 3) := by decide +kernel
theorem dX12_init_1317 : decode cX12_init 1317 = .ok (.aload_n 0, 1) := by decide +kernel
theorem dX12_init_1318 : decode cX12_init 1318 = .ok (.iconst 2, 1) := by decide +kernel
theorem dX12_init_1319 : decode cX12_init 1319 = .ok (.newarray .char, 2) := by decide +kernel
theorem dX12_init_1321 : decode cX12_init 1321 = .ok (.dup, 1) := by decide +kernel
theorem dX12_init_1322 : decode cX12_init 1322 = .ok (.iconst 0, 1) := by decide +kernel
theorem dX12_init_1323 : decode cX12_init 1323 = .ok (.bipush 111, 2) := by decide +kernel
theorem dX12_init_1325 : decode cX12_init 1325 = .ok (.castore, 1) := by decide +kernel
theorem dX12_init_1326 : decode cX12_init 1326 = .ok (.dup, 1) := by decide +kernel
theorem dX12_init_1327 : decode cX12_init 1327 = .ok (.iconst 1, 1) := by decide +kernel
theorem dX12_init_1328 : decode cX12_init 1328 = .ok (.bipush 114, 2) := by decide +kernel
theorem dX12_init_1330 : decode cX12_init 1330 = .ok (.castore, 1) := by decide +kernel
theorem dX12_init_1331 : decode cX12_init 1331 = .ok (.putfield 199, 3) := by decide +kernel
theorem dX12_init_1334 : decode cX12_init 1334 = .ok (.aload_n 0, 1) := by decide +kernel
theorem dX12_init_1335 : decode cX12_init 1335 = .ok (.iconst 3, 1) := by decide +kernel
theorem dX12_init_1336 : decode cX12_init 1336 = .ok (.newarray .char, 2) := by decide +kernel
theorem dX12_init_1338 : decode cX12_init 1338 = .ok (.dup, 1) := by decide +kernel
theorem dX12_init_1339 : decode cX12_init 1339 = .ok (.iconst 0, 1) := by decide +kernel
theorem dX12_init_1340 : decode cX12_init 1340 = .ok (.bipush 97, 2) := by decide +kernel
theorem dX12_init_1342 : decode cX12_init 1342 = .ok (.castore, 1) := by decide +kernel
theorem dX12_init_1343 : decode cX12_init 1343 = .ok (.dup, 1) := by decide +kernel
theorem dX12_init_1344 : decode cX12_init 1344 = .ok (.iconst 1, 1) := by decide +kernel
theorem dX12_init_1345 : decode cX12_init 1345 = .ok (.bipush 108, 2) := by decide +kernel
theorem dX12_init_1347 : decode cX12_init 1347 = .ok (.castore, 1) := by decide +kernel
theorem dX12_init_1348 : decode cX12_init 1348 = .ok (.dup, 1) := by decide +kernel
theorem dX12_init_1349 : decode cX12_init 1349 = .ok (.iconst 2, 1) := by decide +kernel
theorem dX12_init_1350 : decode cX12_init 1350 = .ok (.bipush 108, 2) := by decide +kernel
theorem dX12_init_1352 : decode cX12_init 1352 = .ok (.castore, 1) := by decide +kernel
theorem dX12_init_1353 : decode cX12_init 1353 = .ok (.putfield 202, 3) := by decide +kernel
theorem dX12_init_1356 : decode cX12_init 1356 = .ok (.aload_n 0, 1) := by decide +kernel
theorem dX12_init_1357 : decode cX12_init 1357 = .ok (.iconst 3, 1) := by decide +kernel
theorem dX12_init_1358 : decode cX12_init 1358 = .ok (.newarray .char, 2) := by decide +kernel
theorem dX12_init_1360 : decode cX12_init 1360 = .ok (.dup, 1) := by decide +kernel
theorem dX12_init_1361 : decode cX12_init 1361 = .ok (.iconst 0, 1) := by decide +kernel
theorem dX12_init_1362 : decode cX12_init 1362 = .ok (.bipush 109, 2) := by decide +kernel
theorem dX12_init_1364 : decode cX12_init 1364 = .ok (.castore, 1) := by decide +kernel
theorem dX12_init_1365 : decode cX12_init 1365 = .ok (.dup, 1) := by decide +kernel
theorem dX12_init_1366 : decode cX12_init 1366 = .ok (.iconst 1, 1) := by decide +kernel
theorem dX12_init_1367 : decode cX12_init 1367 = .ok (.bipush 105, 2) := by decide +kernel
theorem dX12_init_1369 : decode cX12_init 1369 = .ok (.castore, 1) := by decide +kernel
theorem dX12_init_1370 : decode cX12_init 1370 = .ok (.dup, 1) := by decide +kernel
theorem dX12_init_1371 : decode cX12_init 1371 = .ok (.iconst 2, 1) := by decide +kernel
theorem dX12_init_1372 : decode cX12_init 1372 = .ok (.bipush 110, 2) := by decide +kernel
theorem dX12_init_1374 : decode cX12_init 1374 = .ok (.castore, 1) := by decide +kernel
theorem dX12_init_1375 : decode cX12_init 1375 = .ok (.putfield 205, 3) := by decide +kernel
theorem dX12_init_1378 : decode cX12_init 1378 = .ok (.aload_n 0, 1) := by decide +kernel
theorem dX12_init_1379 : decode cX12_init 1379 = .ok (.iconst 3, 1) := by decide +kernel
theorem dX12_init_1380 : decode cX12_init 1380 = .ok (.newarray .char, 2) := by decide +kernel
theorem dX12_init_1382 : decode cX12_init 1382 = .ok (.dup, 1) := by decide +kernel
theorem dX12_init_1383 : decode cX12_init 1383 = .ok (.iconst 0, 1) := by decide +kernel
theorem dX12_init_1384 : decode cX12_init 1384 = .ok (.bipush 109, 2) := by decide +kernel
theorem dX12_init_1386 : decode cX12_init 1386 = .ok (.castore, 1) := by decide +kernel
theorem dX12_init_1387 : decode cX12_init 1387 = .ok (.dup, 1) := by decide +kernel
theorem dX12_init_1388 : decode cX12_init 1388 = .ok (.iconst 1, 1) := by decide +kernel
theorem dX12_init_1389 : decode cX12_init 1389 = .ok (.bipush 97, 2) := by decide +kernel
theorem dX12_init_1391 : decode cX12_init 1391 = .ok (.castore, 1) := by decide +kernel
theorem dX12_init_1392 : decode cX12_init 1392 = .ok (.dup, 1) := by decide +kernel
theorem dX12_init_1393 : decode cX12_init 1393 = .ok (.iconst 2, 1) := by decide +kernel
theorem dX12_init_1394 : decode cX12_init 1394 = .ok (.bipush 120, 2) := by decide +kernel
theorem dX12_init_1396 : decode cX12_init 1396 = .ok (.castore, 1) := by decide +kernel
theorem dX12_init_1397 : decode cX12_init 1397 = .ok (.putfield 208, 3) := by decide +kernel
theorem dX12_init_1400 : decode cX12_init 1400 = .ok (.aload_n 0, 1) := by decide +kernel
theorem dX12_init_1401 : decode cX12_init 1401 = .ok (.iconst 4, 1) := by decide +kernel
theorem dX12_init_1402 : decode cX12_init 1402 = .ok (.newarray .char, 2) := by decide +kernel
theorem dX12_init_1404 : decode cX12_init 1404 = .ok (.dup, 1) := by decide +kernel
theorem dX12_init_1405 : decode cX12_init 1405 = .ok (.iconst 0, 1) := by decide +kernel
theorem dX12_init_1406 : decode cX12_init 1406 = .ok (.bipush 104, 2) := by decide +kernel
theorem dX12_init_1408 : decode cX12_init 1408 = .ok (.castore, 1) := by decide +kernel
theorem dX12_init_1409 : decode cX12_init 1409 = .ok (.dup, 1) := by decide +kernel
theorem dX12_init_1410 : decode cX12_init 1410 = .ok (.iconst 1, 1) := by decide +kernel
theorem dX12_init_1411 : decode cX12_init 1411 = .ok (.bipush 111, 2) := by decide +kernel
theorem dX12_init_1413 : decode cX12_init 1413 = .ok (.castore, 1) := by decide +kernel
theorem dX12_init_1414 : decode cX12_init 1414 = .ok (.dup, 1) := by decide +kernel
theorem dX12_init_1415 : decode cX12_init 1415 = .ok (.iconst 2, 1) := by decide +kernel
theorem dX12_init_1416 : decode cX12_init 1416 = .ok (.bipush 117, 2) := by decide +kernel
theorem dX12_init_1418 : decode cX12_init 1418 = .ok (.castore, 1) := by decide +kernel
theorem dX12_init_1419 : decode cX12_init 1419 = .ok (.dup, 1) := by decide +kernel
theorem dX12_init_1420 : decode cX12_init 1420 = .ok (.iconst 3, 1) := by decide +kernel
theorem dX12_init_1421 : decode cX12_init 1421 = .ok (.bipush 114, 2) := by decide +kernel
theorem dX12_init_1423 : decode cX12_init 1423 = .ok (.castore, 1) := by decide +kernel
theorem dX12_init_1424 : decode cX12_init 1424 = .ok (.putfield 211, 3) := by decide +kernel
theorem dX12_init_1427 : decode cX12_init 1427 = .ok (.aload_n 0, 1) := by decide +kernel
theorem dX12_init_1428 : decode cX12_init 1428 = .ok (.iconst 5, 1) := by decide +kernel
theorem dX12_init_1429 : decode cX12_init 1429 = .ok (.newarray .char, 2) := by decide +kernel
theorem dX12_init_1431 : decode cX12_init 1431 = .ok (.dup, 1) := by decide +kernel
theorem dX12_init_1432 : decode cX12_init 1432 = .ok (.iconst 0, 1) := by decide +kernel
theorem dX12_init_1433 : decode cX12_init 1433 = .ok (.bipush 112, 2) := by decide +kernel
theorem dX12_init_1435 : decode cX12_init 1435 = .ok (.castore, 1) := by decide +kernel
theorem dX12_init_1436 : decode cX12_init 1436 = .ok (.dup, 1) := by decide +kernel
theorem dX12_init_1437 : decode cX12_init 1437 = .ok (.iconst 1, 1) := by decide +kernel
theorem dX12_init_1438 : decode cX12_init 1438 = .ok (.bipush 108, 2) := by decide +kernel
theorem dX12_init_1440 : decode cX12_init 1440 = .ok (.castore, 1) := by decide +kernel
theorem dX12_init_1441 : decode cX12_init 1441 = .ok (.dup, 1) := by decide +kernel
theorem dX12_init_1442 : decode cX12_init 1442 = .ok (.iconst 2, 1) := by decide +kernel
theorem dX12_init_1443 : decode cX12_init 1443 = .ok (.bipush 97, 2) := by decide +kernel
theorem dX12_init_1445 : decode cX12_init 1445 = .ok (.castore, 1) := by decide +kernel
theorem dX12_init_1446 : decode cX12_init 1446 = .ok (.dup, 1) := by decide +kernel
theorem dX12_init_1447 : decode cX12_init 1447 = .ok (.iconst 3, 1) := by decide +kernel
theorem dX12_init_1448 : decode cX12_init 1448 = .ok (.bipush 99, 2) := by decide +kernel
theorem dX12_init_1450 : decode cX12_init 1450 = .ok (.castore, 1) := by decide +kernel
theorem dX12_init_1451 : decode cX12_init 1451 = .ok (.dup, 1) := by decide +kernel
theorem dX12_init_1452 : decode cX12_init 1452 = .ok (.iconst 4, 1) := by decide +kernel
theorem dX12_init_1453 : decode cX12_init 1453 = .ok (.bipush 101, 2) := by decide +kernel
theorem dX12_init_1455 : decode cX12_init 1455 = .ok (.castore, 1) := by decide +kernel
theorem dX12_init_1456 : decode cX12_init 1456 = .ok (.putfield 214, 3) := by decide +kernel
theorem dX12_init_1459 : decode cX12_init 1459 = .ok (.aload_n 0, 1) := by decide +kernel
theorem dX12_init_1460 : decode cX12_init 1460 = .ok (.bipush 6, 2) := by decide +kernel
theorem dX12_init_1462 : decode cX12_init 1462 = .ok (.newarray .char, 2) := by decide +kernel
theorem dX12_init_1464 : decode cX12_init 1464 = .ok (.dup, 1) := by decide +kernel
theorem dX12_init_1465 : decode cX12_init 1465 = .ok (.iconst 0, 1) := by decide +kernel
theorem dX12_init_1466 : decode cX12_init 1466 = .ok (.bipush 105, 2) := by decide +kernel
theorem dX12_init_1468 : decode cX12_init 1468 = .ok (.castore, 1) := by decide +kernel
theorem dX12_init_1469 : decode cX12_init 1469 = .ok (.dup, 1) := by decide +kernel
theorem dX12_init_1470 : decode cX12_init 1470 = .ok (.iconst 1, 1) := by decide +kernel
theorem dX12_init_1471 : decode cX12_init 1471 = .ok (.bipush 110, 2) := by decide +kernel
theorem dX12_init_1473 : decode cX12_init 1473 = .ok (.castore, 1) := by decide +kernel
theorem dX12_init_1474 : decode cX12_init 1474 = .ok (.dup, 1) := by decide +kernel
theorem dX12_init_1475 : decode cX12_init 1475 = .ok (.iconst 2, 1) := by decide +kernel
theorem dX12_init_1476 : decode cX12_init 1476 = .ok (.bipush 99, 2) := by decide +kernel
theorem dX12_init_1478 : decode cX12_init 1478 = .ok (.castore, 1) := by decide +kernel
theorem dX12_init_1479 : decode cX12_init 1479 = .ok (.dup, 1) := by decide +kernel
theorem dX12_init_1480 : decode cX12_init 1480 = .ok (.iconst 3, 1) := by decide +kernel
theorem dX12_init_1481 : decode cX12_init 1481 = .ok (.bipush 104, 2) := by decide +kernel
theorem dX12_init_1483 : decode cX12_init 1483 = .ok (.castore, 1) := by decide +kernel
theorem dX12_init_1484 : decode cX12_init 1484 = .ok (.dup, 1) := by decide +kernel
theorem dX12_init_1485 : decode cX12_init 1485 = .ok (.iconst 4, 1) := by decide +kernel
theorem dX12_init_1486 : decode cX12_init 1486 = .ok (.bipush 101, 2) := by decide +kernel
theorem dX12_init_1488 : decode cX12_init 1488 = .ok (.castore, 1) := by decide +kernel
theorem dX12_init_1489 : decode cX12_init 1489 = .ok (.dup, 1) := by decide +kernel
theorem dX12_init_1490 : decode cX12_init 1490 = .ok (.iconst 5, 1) := by decide +kernel
theorem dX12_init_1491 : decode cX12_init 1491 = .ok (.bipush 115, 2) := by decide +kernel
theorem dX12_init_1493 : decode cX12_init 1493 = .ok (.castore, 1) := by decide +kernel
theorem dX12_init_1494 : decode cX12_init 1494 = .ok (.putfield 217, 3) := by decide +kernel
theorem dX12_init_1497 : decode cX12_init 1497 = .ok (.aload_n 0, 1) := by decide +kernel
theorem dX12_init_1498 : decode cX12_init 1498 = .ok (.iconst 4, 1) := by decide +kernel
theorem dX12_init_1499 : decode cX12_init 1499 = .ok (.newarray .char, 2) := by decide +kernel
theorem dX12_init_1501 : decode cX12_init 1501 = .ok (.dup, 1) := by decide +kernel
theorem dX12_init_1502 : decode cX12_init 1502 = .ok (.iconst 0, 1) := by decide +kernel
theorem dX12_init_1503 : decode cX12_init 1503 = .ok (.bipush 110, 2) := by decide +kernel
theorem dX12_init_1505 : decode cX12_init 1505 = .ok (.castore, 1) := by decide +kernel
theorem dX12_init_1506 : decode cX12_init 1506 = .ok (.dup, 1) := by decide +kernel
theorem dX12_init_1507 : decode cX12_init 1507 = .ok (.iconst 1, 1) := by decide +kernel
theorem dX12_init_1508 : decode cX12_init 1508 = .ok (.bipush 101, 2) := by decide +kernel
theorem dX12_init_1510 : decode cX12_init 1510 = .ok (.castore, 1) := by decide +kernel
theorem dX12_init_1511 : decode cX12_init 1511 = .ok (.dup, 1) := by decide +kernel
theorem dX12_init_1512 : decode cX12_init 1512 = .ok (.iconst 2, 1) := by decide +kernel
theorem dX12_init_1513 : decode cX12_init 1513 = .ok (.bipush 97, 2) := by decide +kernel
theorem dX12_init_1515 : decode cX12_init 1515 = .ok (.castore, 1) := by decide +kernel
theorem dX12_init_1516 : decode cX12_init 1516 = .ok (.dup, 1) := by decide +kernel
theorem dX12_init_1517 : decode cX12_init 1517 = .ok (.iconst 3, 1) := by decide +kernel
theorem dX12_init_1518 : decode cX12_init 1518 = .ok (.bipush 114, 2) := by decide +kernel
theorem dX12_init_1520 : decode cX12_init 1520 = .ok (.castore, 1) := by decide +kernel
theorem dX12_init_1521 : decode cX12_init 1521 = .ok (.putfield 220, 3) := by decide +kernel
theorem dX12_init_1524 : decode cX12_init 1524 = .ok (.aload_n 0, 1) := by decide +kernel
theorem dX12_init_1525 : decode cX12_init 1525 = .ok (.iconst 5, 1) := by decide +kernel
theorem dX12_init_1526 : decode cX12_init 1526 = .ok (.newarray .char, 2) := by decide +kernel
theorem dX12_init_1528 : decode cX12_init 1528 = .ok (.dup, 1) := by decide +kernel
theorem dX12_init_1529 : decode cX12_init 1529 = .ok (.iconst 0, 1) := by decide +kernel
theorem dX12_init_1530 : decode cX12_init 1530 = .ok (.bipush 100, 2) := by decide +kernel
theorem dX12_init_1532 : decode cX12_init 1532 = .ok (.castore, 1) := by decide +kernel
theorem dX12_init_1533 : decode cX12_init 1533 = .ok (.dup, 1) := by decide +kernel
theorem dX12_init_1534 : decode cX12_init 1534 = .ok (.iconst 1, 1) := by decide +kernel
theorem dX12_init_1535 : decode cX12_init 1535 = .ok (.bipush 114, 2) := by decide +kernel
theorem dX12_init_1537 : decode cX12_init 1537 = .ok (.castore, 1) := by decide +kernel
theorem dX12_init_1538 : decode cX12_init 1538 = .ok (.dup, 1) := by decide +kernel
theorem dX12_init_1539 : decode cX12_init 1539 = .ok (.iconst 2, 1) := by decide +kernel
theorem dX12_init_1540 : decode cX12_init 1540 = .ok (.bipush 97, 2) := by decide +kernel
theorem dX12_init_1542 : decode cX12_init 1542 = .ok (.castore, 1) := by decide +kernel
theorem dX12_init_1543 : decode cX12_init 1543 = .ok (.dup, 1) := by decide +kernel
theorem dX12_init_1544 : decode cX12_init 1544 = .ok (.iconst 3, 1) := by decide +kernel
theorem dX12_init_1545 : decode cX12_init 1545 = .ok (.bipush 102, 2) := by decide +kernel
theorem dX12_init_1547 : decode cX12_init 1547 = .ok (.castore, 1) := by decide +kernel
theorem dX12_init_1548 : decode cX12_init 1548 = .ok (.dup, 1) := by decide +kernel
theorem dX12_init_1549 : decode cX12_init 1549 = .ok (.iconst 4, 1) := by decide +kernel
theorem dX12_init_1550 : decode cX12_init 1550 = .ok (.bipush 116, 2) := by decide +kernel
theorem dX12_init_1552 : decode cX12_init 1552 = .ok (.castore, 1) := by decide +kernel
theorem dX12_init_1553 : decode cX12_init 1553 = .ok (.putfield 223, 3) := by decide +kernel
theorem dX12_init_1556 : decode cX12_init 1556 = .ok (.aload_n 0, 1) := by decide +kernel
theorem dX12_init_1557 : decode cX12_init 1557 = .ok (.iconst 4, 1) := by decide +kernel
theorem dX12_init_1558 : decode cX12_init 1558 = .ok (.newarray .char, 2) := by decide +kernel
theorem dX12_init_1560 : decode cX12_init 1560 = .ok (.dup, 1) := by decide +kernel
theorem dX12_init_1561 : decode cX12_init 1561 = .ok (.iconst 0, 1) := by decide +kernel
theorem dX12_init_1562 : decode cX12_init 1562 = .ok (.bipush 116, 2) := by decide +kernel
theorem dX12_init_1564 : decode cX12_init 1564 = .ok (.castore, 1) := by decide +kernel
theorem dX12_init_1565 : decode cX12_init 1565 = .ok (.dup, 1) := by decide +kernel
theorem dX12_init_1566 : decode cX12_init 1566 = .ok (.iconst 1, 1) := by decide +kernel
theorem dX12_init_1567 : decode cX12_init 1567 = .ok (.bipush 111, 2) := by decide +kernel
theorem dX12_init_1569 : decode cX12_init 1569 = .ok (.castore, 1) := by decide +kernel
theorem dX12_init_1570 : decode cX12_init 1570 = .ok (.dup, 1) := by decide +kernel
theorem dX12_init_1571 : decode cX12_init 1571 = .ok (.iconst 2, 1) := by decide +kernel
theorem dX12_init_1572 : decode cX12_init 1572 = .ok (.bipush 108, 2) := by decide +kernel
theorem dX12_init_1574 : decode cX12_init 1574 = .ok (.castore, 1) := by decide +kernel
theorem dX12_init_1575 : decode cX12_init 1575 = .ok (.dup, 1) := by decide +kernel
theorem dX12_init_1576 : decode cX12_init 1576 = .ok (.iconst 3, 1) := by decide +kernel
theorem dX12_init_1577 : decode cX12_init 1577 = .ok (.bipush 100, 2) := by decide +kernel
theorem dX12_init_1579 : decode cX12_init 1579 = .ok (.castore, 1) := by decide +kernel
theorem dX12_init_1580 : decode cX12_init 1580 = .ok (.putfield 226, 3) := by decide +kernel
theorem dX12_init_1583 : decode cX12_init 1583 = .ok (.aload_n 0, 1) := by decide +kernel
theorem dX12_init_1584 : decode cX12_init 1584 = .ok (.iconst 5, 1) := by decide +kernel
theorem dX12_init_1585 : decode cX12_init 1585 = .ok (.newarray .char, 2) := by decide +kernel
theorem dX12_init_1587 : decode cX12_init 1587 = .ok (.dup, 1) := by decide +kernel
theorem dX12_init_1588 : decode cX12_init 1588 = .ok (.iconst 0, 1) := by decide +kernel
theorem dX12_init_1589 : decode cX12_init 1589 = .ok (.bipush 116, 2) := by decide +kernel
theorem dX12_init_1591 : decode cX12_init 1591 = .ok (.castore, 1) := by decide +kernel
theorem dX12_init_1592 : decode cX12_init 1592 = .ok (.dup, 1) := by decide +kernel
theorem dX12_init_1593 : decode cX12_init 1593 = .ok (.iconst 1, 1) := by decide +kernel
theorem dX12_init_1594 : decode cX12_init 1594 = .ok (.bipush 114, 2) := by decide +kernel
theorem dX12_init_1596 : decode cX12_init 1596 = .ok (.castore, 1) := by decide +kernel
theorem dX12_init_1597 : decode cX12_init 1597 = .ok (.dup, 1) := by decide +kernel
theorem dX12_init_1598 : decode cX12_init 1598 = .ok (.iconst 2, 1) := by decide +kernel
theorem dX12_init_1599 : decode cX12_init 1599 = .ok (.bipush 117, 2) := by decide +kernel
theorem dX12_init_1601 : decode cX12_init 1601 = .ok (.castore, 1) := by decide +kernel
theorem dX12_init_1602 : decode cX12_init 1602 = .ok (.dup, 1) := by decide +kernel
theorem dX12_init_1603 : decode cX12_init 1603 = .ok (.iconst 3, 1) := by decide +kernel
theorem dX12_init_1604 : decode cX12_init 1604 = .ok (.bipush 115, 2) := by decide +kernel
theorem dX12_init_1606 : decode cX12_init 1606 = .ok (.castore, 1) := by decide +kernel
theorem dX12_init_1607 : decode cX12_init 1607 = .ok (.dup, 1) := by decide +kernel
theorem dX12_init_1608 : decode cX12_init 1608 = .ok (.iconst 4, 1) := by decide +kernel
theorem dX12_init_1609 : decode cX12_init 1609 = .ok (.bipush 116, 2) := by decide +kernel
theorem dX12_init_1611 : decode cX12_init 1611 = .ok (.castore, 1) := by decide +kernel
theorem dX12_init_1612 : decode cX12_init 1612 = .ok (.putfield 229, 3) := by decide +kernel
theorem dX12_init_1615 : decode cX12_init 1615 = .ok (.aload_n 0, 1) := by decide +kernel
theorem dX12_init_1616 : decode cX12_init 1616 = .ok (.bipush 6, 2) := by decide +kernel
theorem dX12_init_1618 : decode cX12_init 1618 = .ok (.newarray .char, 2) := by decide +kernel
theorem dX12_init_1620 : decode cX12_init 1620 = .ok (.dup, 1) := by decide +kernel
theorem dX12_init_1621 : decode cX12_init 1621 = .ok (.iconst 0, 1) := by decide +kernel
theorem dX12_init_1622 : decode cX12_init 1622 = .ok (.bipush 110, 2) := by decide +kernel
theorem dX12_init_1624 : decode cX12_init 1624 = .ok (.castore, 1) := by decide +kernel
theorem dX12_init_1625 : decode cX12_init 1625 = .ok (.dup, 1) := by decide +kernel
theorem dX12_init_1626 : decode cX12_init 1626 = .ok (.iconst 1, 1) := by decide +kernel
theorem dX12_init_1627 : decode cX12_init 1627 = .ok (.bipush 117, 2) := by decide +kernel
theorem dX12_init_1629 : decode cX12_init 1629 = .ok (.castore, 1) := by decide +kernel
theorem dX12_init_1630 : decode cX12_init 1630 = .ok (.dup, 1) := by decide +kernel
theorem dX12_init_1631 : decode cX12_init 1631 = .ok (.iconst 2, 1) := by decide +kernel
theorem dX12_init_1632 : decode cX12_init 1632 = .ok (.bipush 109, 2) := by decide +kernel
theorem dX12_init_1634 : decode cX12_init 1634 = .ok (.castore, 1) := by decide +kernel
theorem dX12_init_1635 : decode cX12_init 1635 = .ok (.dup, 1) := by decide +kernel
theorem dX12_init_1636 : decode cX12_init 1636 = .ok (.iconst 3, 1) := by decide +kernel
theorem dX12_init_1637 : decode cX12_init 1637 = .ok (.bipush 98, 2) := by decide +kernel
theorem dX12_init_1639 : decode cX12_init 1639 = .ok (.castore, 1) := by decide +kernel
theorem dX12_init_1640 : decode cX12_init 1640 = .ok (.dup, 1) := by decide +kernel
theorem dX12_init_1641 : decode cX12_init 1641 = .ok (.iconst 4, 1) := by decide +kernel
theorem dX12_init_1642 : decode cX12_init 1642 = .ok (.bipush 101, 2) := by decide +kernel
theorem dX12_init_1644 : decode cX12_init 1644 = .ok (.castore, 1) := by decide +kernel
theorem dX12_init_1645 : decode cX12_init 1645 = .ok (.dup, 1) := by decide +kernel
theorem dX12_init_1646 : decode cX12_init 1646 = .ok (.iconst 5, 1) := by decide +kernel
theorem dX12_init_1647 : decode cX12_init 1647 = .ok (.bipush 114, 2) := by decide +kernel
theorem dX12_init_1649 : decode cX12_init 1649 = .ok (.castore, 1) := by decide +kernel
theorem dX12_init_1650 : decode cX12_init 1650 = .ok (.putfield 232, 3) := by decide +kernel
theorem dX12_init_1653 : decode cX12_init 1653 = .ok (.aload_n 0, 1) := by decide +kernel
theorem dX12_init_1654 : decode cX12_init 1654 = .ok (.iconst 3, 1) := by decide +kernel
theorem dX12_init_1655 : decode cX12_init 1655 = .ok (.newarray .char, 2) := by decide +kernel
theorem dX12_init_1657 : decode cX12_init 1657 = .ok (.dup, 1) := by decide +kernel
theorem dX12_init_1658 : decode cX12_init 1658 = .ok (.iconst 0, 1) := by decide +kernel
theorem dX12_init_1659 : decode cX12_init 1659 = .ok (.bipush 108, 2) := by decide +kernel
theorem dX12_init_1661 : decode cX12_init 1661 = .ok (.castore, 1) := by decide +kernel
theorem dX12_init_1662 : decode cX12_init 1662 = .ok (.dup, 1) := by decide +kernel
theorem dX12_init_1663 : decode cX12_init 1663 = .ok (.iconst 1, 1) := by decide +kernel
theorem dX12_init_1664 : decode cX12_init 1664 = .ok (.bipush 105, 2) := by decide +kernel
theorem dX12_init_1666 : decode cX12_init 1666 = .ok (.castore, 1) := by decide +kernel
theorem dX12_init_1667 : decode cX12_init 1667 = .ok (.dup, 1) := by decide +kernel
theorem dX12_init_1668 : decode cX12_init 1668 = .ok (.iconst 2, 1) := by decide +kernel
theorem dX12_init_1669 : decode cX12_init 1669 = .ok (.bipush 116, 2) := by decide +kernel
theorem dX12_init_1671 : decode cX12_init 1671 = .ok (.castore, 1) := by decide +kernel
theorem dX12_init_1672 : decode cX12_init 1672 = .ok (.putfield 235, 3) := by decide +kernel
theorem dX12_init_1675 : decode cX12_init 1675 = .ok (.aload_n 0, 1) := by decide +kernel
theorem dX12_init_1676 : decode cX12_init 1676 = .ok (.iconst 4, 1) := by decide +kernel
theorem dX12_init_1677 : decode cX12_init 1677 = .ok (.newarray .char, 2) := by decide +kernel
theorem dX12_init_1679 : decode cX12_init 1679 = .ok (.dup, 1) := by decide +kernel
theorem dX12_init_1680 : decode cX12_init 1680 = .ok (.iconst 0, 1) := by decide +kernel
theorem dX12_init_1681 : decode cX12_init 1681 = .ok (.bipush 104, 2) := by decide +kernel
theorem dX12_init_1683 : decode cX12_init 1683 = .ok (.castore, 1) := by decide +kernel
theorem dX12_init_1684 : decode cX12_init 1684 = .ok (.dup, 1) := by decide +kernel
theorem dX12_init_1685 : decode cX12_init 1685 = .ok (.iconst 1, 1) := by decide +kernel
theorem dX12_init_1686 : decode cX12_init 1686 = .ok (.bipush 101, 2) := by decide +kernel
theorem dX12_init_1688 : decode cX12_init 1688 = .ok (.castore, 1) := by decide +kernel
theorem dX12_init_1689 : decode cX12_init 1689 = .ok (.dup, 1) := by decide +kernel
theorem dX12_init_1690 : decode cX12_init 1690 = .ok (.iconst 2, 1) := by decide +kernel
theorem dX12_init_1691 : decode cX12_init 1691 = .ok (.bipush 108, 2) := by decide +kernel
theorem dX12_init_1693 : decode cX12_init 1693 = .ok (.castore, 1) := by decide +kernel
theorem dX12_init_1694 : decode cX12_init 1694 = .ok (.dup, 1) := by decide +kernel
theorem dX12_init_1695 : decode cX12_init 1695 = .ok (.iconst 3, 1) := by decide +kernel
theorem dX12_init_1696 : decode cX12_init 1696 = .ok (.bipush 100, 2) := by decide +kernel
theorem dX12_init_1698 : decode cX12_init 1698 = .ok (.castore, 1) := by decide +kernel
theorem dX12_init_1699 : decode cX12_init 1699 = .ok (.putfield 238, 3) := by decide +kernel
theorem dX12_init_1702 : decode cX12_init 1702 = .ok (.aload_n 0, 1) := by decide +kernel
theorem dX12_init_1703 : decode cX12_init 1703 = .ok (.iconst 3, 1) := by decide +kernel
theorem dX12_init_1704 : decode cX12_init 1704 = .ok (.newarray .char, 2) := by decide +kernel
theorem dX12_init_1706 : decode cX12_init 1706 = .ok (.dup, 1) := by decide +kernel
theorem dX12_init_1707 : decode cX12_init 1707 = .ok (.iconst 0, 1) := by decide +kernel
theorem dX12_init_1708 : decode cX12_init 1708 = .ok (.bipush 119, 2) := by decide +kernel
theorem dX12_init_1710 : decode cX12_init 1710 = .ok (.castore, 1) := by decide +kernel
theorem dX12_init_1711 : decode cX12_init 1711 = .ok (.dup, 1) := by decide +kernel
theorem dX12_init_1712 : decode cX12_init 1712 = .ok (.iconst 1, 1) := by decide +kernel
theorem dX12_init_1713 : decode cX12_init 1713 = .ok (.bipush 97, 2) := by decide +kernel
theorem dX12_init_1715 : decode cX12_init 1715 = .ok (.castore, 1) := by decide +kernel
theorem dX12_init_1716 : decode cX12_init 1716 = .ok (.dup, 1) := by decide +kernel
theorem dX12_init_1717 : decode cX12_init 1717 = .ok (.iconst 2, 1) := by decide +kernel
theorem dX12_init_1718 : decode cX12_init 1718 = .ok (.bipush 120, 2) := by decide +kernel
theorem dX12_init_1720 : decode cX12_init 1720 = .ok (.castore, 1) := by decide +kernel
theorem dX12_init_1721 : decode cX12_init 1721 = .ok (.putfield 241, 3) := by decide +kernel
theorem dX12_init_1724 : decode cX12_init 1724 = .ok (.aload_n 0, 1) := by decide +kernel
theorem dX12_init_1725 : decode cX12_init 1725 = .ok (.iconst 4, 1) := by decide +kernel
theorem dX12_init_1726 : decode cX12_init 1726 = .ok (.newarray .char, 2) := by decide +kernel
theorem dX12_init_1728 : decode cX12_init 1728 = .ok (.dup, 1) := by decide +kernel
theorem dX12_init_1729 : decode cX12_init 1729 = .ok (.iconst 0, 1) := by decide +kernel
theorem dX12_init_1730 : decode cX12_init 1730 = .ok (.bipush 103, 2) := by decide +kernel
theorem dX12_init_1732 : decode cX12_init 1732 = .ok (.castore, 1) := by decide +kernel
theorem dX12_init_1733 : decode cX12_init 1733 = .ok (.dup, 1) := by decide +kernel
theorem dX12_init_1734 : decode cX12_init 1734 = .ok (.iconst 1, 1) := by decide +kernel
theorem dX12_init_1735 : decode cX12_init 1735 = .ok (.bipush 108, 2) := by decide +kernel
theorem dX12_init_1737 : decode cX12_init 1737 = .ok (.castore, 1) := by decide +kernel
theorem dX12_init_1738 : decode cX12_init 1738 = .ok (.dup, 1) := by decide +kernel
theorem dX12_init_1739 : decode cX12_init 1739 = .ok (.iconst 2, 1) := by decide +kernel
theorem dX12_init_1740 : decode cX12_init 1740 = .ok (.bipush 111, 2) := by decide +kernel
theorem dX12_init_1742 : decode cX12_init 1742 = .ok (.castore, 1) := by decide +kernel
theorem dX12_init_1743 : decode cX12_init 1743 = .ok (.dup, 1) := by decide +kernel
theorem dX12_init_1744 : decode cX12_init 1744 = .ok (.iconst 3, 1) := by decide +kernel
theorem dX12_init_1745 : decode cX12_init 1745 = .ok (.bipush 119, 2) := by decide +kernel
theorem dX12_init_1747 : decode cX12_init 1747 = .ok (.castore, 1) := by decide +kernel
theorem dX12_init_1748 : decode cX12_init 1748 = .ok (.putfield 244, 3) := by decide +kernel
theorem dX12_init_1751 : decode cX12_init 1751 = .ok (.aload_n 0, 1) := by decide +kernel
theorem dX12_init_1752 : decode cX12_init 1752 = .ok (.sipush 1700, 3) := by decide +kernel
theorem dX12_init_1755 : decode cX12_init 1755 = .ok (.newarray .int, 2) := by decide +kernel
theorem dX12_init_1757 : decode cX12_init 1757 = .ok (.putfield 247, 3) := by decide +kernel
theorem dX12_init_1760 : decode cX12_init 1760 = .ok (.aload_n 0, 1) := by decide +kernel
theorem dX12_init_1761 : decode cX12_init 1761 = .ok (.sipush 1700, 3) := by decide +kernel
theorem dX12_init_1764 : decode cX12_init 1764 = .ok (.newarray .int, 2) := by decide +kernel
theorem dX12_init_1766 : decode cX12_init 1766 = .ok (.putfield 250, 3) := by decide +kernel
theorem dX12_init_1769 : decode cX12_init 1769 = .ok (.aload_n 0, 1) := by decide +kernel
theorem dX12_init_1770 : decode cX12_init 1770 = .ok (.sipush 1700, 3) := by decide +kernel
theorem dX12_init_1773 : decode cX12_init 1773 = .ok (.newarray .long, 2) := by decide +kernel
theorem dX12_init_1775 : decode cX12_init 1775 = .ok (.putfield 253, 3) := by decide +kernel
theorem dX12_init_1778 : decode cX12_init 1778 = .ok (.aload_n 0, 1) := by decide +kernel
theorem dX12_init_1779 : decode cX12_init 1779 = .ok (.bipush 27, 2) := by decide +kernel
theorem dX12_init_1781 : decode cX12_init 1781 = .ok (.newarray .int, 2) := by decide +kernel
theorem dX12_init_1783 : decode cX12_init 1783 = .ok (.putfield 256, 3) := by decide +kernel
theorem dX12_init_1786 : decode cX12_init 1786 = .ok (.return_, 1) := by decide +kernel
theorem dX12_isIn_0 : decode cX12_isIn 0 = .ok (.lload_n 0, 1) := by decide +kernel
theorem dX12_isIn_1 : decode cX12_isIn 1 = .ok (.lload_n 2, 1) := by decide +kernel
theorem dX12_isIn_2 : decode cX12_isIn 2 = .ok (.lcmp, 1) := by decide +kernel
theorem dX12_isIn_3 : decode cX12_isIn 3 = .ok (.ifCond .lt 14, 3) := by decide +kernel
theorem dX12_isIn_6 : decode cX12_isIn 6 = .ok (.lload_n 0, 1) := by decide +kernel
theorem dX12_isIn_7 : decode cX12_isIn 7 = .ok (.lload 4, 2) := by decide +kernel
theorem dX12_isIn_9 : decode cX12_isIn 9 = .ok (.lcmp, 1) := by decide +kernel
theorem dX12_isIn_10 : decode cX12_isIn 10 = .ok (.ifCond .gt 7, 3) := by decide +kernel
theorem dX12_isIn_13 : decode cX12_isIn 13 = .ok (.iconst 1, 1) := by decide +kernel
theorem dX12_isIn_14 : decode cX12_isIn 14 = .ok (.goto 4, 3) := by decide +kernel
theorem dX12_isIn_17 : decode cX12_isIn 17 = .ok (.iconst 0, 1) := by decide +kernel
theorem dX12_isIn_18 : decode cX12_isIn 18 = .ok (.ireturn, 1) := by decide +kernel
theorem dX12_clamp_0 : decode cX12_clamp 0 = .ok (.lload_n 0, 1) := by decide +kernel
theorem dX12_clamp_1 : decode cX12_clamp 1 = .ok (.lconst 0, 1) := by decide +kernel
theorem dX12_clamp_2 : decode cX12_clamp 2 = .ok (.lcmp, 1) := by decide +kernel
theorem dX12_clamp_3 : decode cX12_clamp 3 = .ok (.ifCond .ge 7, 3) := by decide +kernel
theorem dX12_clamp_6 : decode cX12_clamp 6 = .ok (.iconst 0, 1) := by decide +kernel
theorem dX12_clamp_7 : decode cX12_clamp 7 = .ok (.goto 16, 3) := by decide +kernel
theorem dX12_clamp_10 : decode cX12_clamp 10 = .ok (.lload_n 0, 1) := by decide +kernel
theorem dX12_clamp_11 : decode cX12_clamp 11 = .ok (.iload_n 2, 1) := by decide +kernel
theorem dX12_clamp_12 : decode cX12_clamp 12 = .ok (.i2l, 1) := by decide +kernel
theorem dX12_clamp_13 : decode cX12_clamp 13 = .ok (.lcmp, 1) := by decide +kernel
theorem dX12_clamp_14 : decode cX12_clamp 14 = .ok (.ifCond .le 7, 3) := by decide +kernel
theorem dX12_clamp_17 : decode cX12_clamp 17 = .ok (.iload_n 2, 1) := by decide +kernel
theorem dX12_clamp_18 : decode cX12_clamp 18 = .ok (.goto 5, 3) := by decide +kernel
theorem dX12_clamp_21 : decode cX12_clamp 21 = .ok (.lload_n 0, 1) := by decide +kernel
theorem dX12_clamp_22 : decode cX12_clamp 22 = .ok (.l2i, 1) := by decide +kernel
theorem dX12_clamp_23 : decode cX12_clamp 23 = .ok (.ireturn, 1) := by decide +kernel
theorem dX12_feed_0 : decode cX12_feed 0 = .ok (.aload_n 0, 1) := by decide +kernel
theorem dX12_feed_1 : decode cX12_feed 1 = .ok (.getfield 259, 3) := by decide +kernel
theorem dX12_feed_4 : decode cX12_feed 4 = .ok (.bipush 20, 2) := by decide +kernel
theorem dX12_feed_6 : decode cX12_feed 6 = .ok (.iadd, 1) := by decide +kernel
theorem dX12_feed_7 : decode cX12_feed 7 = .ok (.sipush 1600, 3) := by decide +kernel
theorem dX12_feed_10 : decode cX12_feed 10 = .ok (.if_icmp .le 15, 3) := by decide +kernel
theorem dX12_feed_13 : decode cX12_feed 13 = .ok (.aload_n 0, 1) := by decide +kernel
theorem dX12_feed_14 : decode cX12_feed 14 = .ok (.getfield 17, 3) := by decide +kernel
theorem dX12_feed_17 : decode cX12_feed 17 = .ok (.iconst 0, 1) := by decide +kernel
theorem dX12_feed_18 : decode cX12_feed 18 = .ok (.dup2, 1) := by decide +kernel
theorem dX12_feed_19 : decode cX12_feed 19 = .ok (.iaload, 1) := by decide +kernel
theorem dX12_feed_20 : decode cX12_feed 20 = .ok (.iconst 1, 1) := by decide +kernel
theorem dX12_feed_21 : decode cX12_feed 21 = .ok (.iadd, 1) := by decide +kernel
theorem dX12_feed_22 : decode cX12_feed 22 = .ok (.iastore, 1) := by decide +kernel
theorem dX12_feed_23 : decode cX12_feed 23 = .ok (.iconst (-1), 1) := by decide +kernel
theorem dX12_feed_24 : decode cX12_feed 24 = .ok (.ireturn, 1) := by decide +kernel
theorem dX12_feed_25 : decode cX12_feed 25 = .ok (.iconst 0, 1) := by decide +kernel
theorem dX12_feed_26 : decode cX12_feed 26 = .ok (.istore 6, 2) := by decide +kernel
theorem dX12_feed_28 : decode cX12_feed 28 = .ok (.iload 6, 2) := by decide +kernel
theorem dX12_feed_30 : decode cX12_feed 30 = .ok (.bipush 20, 2) := by decide +kernel
theorem dX12_feed_32 : decode cX12_feed 32 = .ok (.if_icmp .ge 92, 3) := by decide +kernel
theorem dX12_feed_35 : decode cX12_feed 35 = .ok (.iload 6, 2) := by decide +kernel
theorem dX12_feed_37 : decode cX12_feed 37 = .ok (.iconst 4, 1) := by decide +kernel
theorem dX12_feed_38 : decode cX12_feed 38 = .ok (.if_icmp .ge 7, 3) := by decide +kernel
theorem dX12_feed_41 : decode cX12_feed 41 = .ok (.iload_n 1, 1) := by decide +kernel
theorem dX12_feed_42 : decode cX12_feed 42 = .ok (.goto 39, 3) := by decide +kernel
theorem dX12_feed_45 : decode cX12_feed 45 = .ok (.iload 6, 2) := by decide +kernel
theorem dX12_feed_47 : decode cX12_feed 47 = .ok (.bipush 8, 2) := by decide +kernel
theorem dX12_feed_49 : decode cX12_feed 49 = .ok (.if_icmp .ge 7, 3) := by decide +kernel
theorem dX12_feed_52 : decode cX12_feed 52 = .ok (.iload_n 2, 1) := by decide +kernel
theorem dX12_feed_53 : decode cX12_feed 53 = .ok (.goto 28, 3) := by decide +kernel
theorem dX12_feed_56 : decode cX12_feed 56 = .ok (.iload 6, 2) := by decide +kernel
theorem dX12_feed_58 : decode cX12_feed 58 = .ok (.bipush 12, 2) := by decide +kernel
theorem dX12_feed_60 : decode cX12_feed 60 = .ok (.if_icmp .ge 7, 3) := by decide +kernel
theorem dX12_feed_63 : decode cX12_feed 63 = .ok (.iload_n 3, 1) := by decide +kernel
theorem dX12_feed_64 : decode cX12_feed 64 = .ok (.goto 17, 3) := by decide +kernel
theorem dX12_feed_67 : decode cX12_feed 67 = .ok (.iload 6, 2) := by decide +kernel
theorem dX12_feed_69 : decode cX12_feed 69 = .ok (.bipush 16, 2) := by decide +kernel
theorem dX12_feed_71 : decode cX12_feed 71 = .ok (.if_icmp .ge 8, 3) := by decide +kernel
theorem dX12_feed_74 : decode cX12_feed 74 = .ok (.iload 4, 2) := by decide +kernel
theorem dX12_feed_76 : decode cX12_feed 76 = .ok (.goto 5, 3) := by decide +kernel
theorem dX12_feed_79 : decode cX12_feed 79 = .ok (.iload 5, 2) := by decide +kernel
theorem dX12_feed_81 : decode cX12_feed 81 = .ok (.istore 7, 2) := by decide +kernel
theorem dX12_feed_83 : decode cX12_feed 83 = .ok (.aload_n 0, 1) := by decide +kernel
theorem dX12_feed_84 : decode cX12_feed 84 = .ok (.getfield 7, 3) := by decide +kernel
theorem dX12_feed_87 : decode cX12_feed 87 = .ok (.aload_n 0, 1) := by decide +kernel
theorem dX12_feed_88 : decode cX12_feed 88 = .ok (.getfield 259, 3) := by decide +kernel
theorem dX12_feed_91 : decode cX12_feed 91 = .ok (.iload 7, 2) := by decide +kernel
theorem dX12_feed_93 : decode cX12_feed 93 = .ok (.bipush 8, 2) := by decide +kernel
theorem dX12_feed_95 : decode cX12_feed 95 = .ok (.iconst 3, 1) := by decide +kernel
theorem dX12_feed_96 : decode cX12_feed 96 = .ok (.iload 6, 2) := by decide +kernel
theorem dX12_feed_98 : decode cX12_feed 98 = .ok (.iconst 4, 1) := by decide +kernel
theorem dX12_feed_99 : decode cX12_feed 99 = .ok (.irem, 1) := by decide +kernel
theorem dX12_feed_100 : decode cX12_feed 100 = .ok (.isub, 1) := by decide +kernel
theorem dX12_feed_101 : decode cX12_feed 101 = .ok (.imul, 1) := by decide +kernel
theorem dX12_feed_102 : decode cX12_feed 102 = .ok (.ishr, 1) := by decide +kernel
theorem dX12_feed_103 : decode cX12_feed 103 = .ok (.sipush 255, 3) := by decide +kernel
theorem dX12_feed_106 : decode cX12_feed 106 = .ok (.iand, 1) := by decide +kernel
theorem dX12_feed_107 : decode cX12_feed 107 = .ok (.iastore, 1) := by decide +kernel
theorem dX12_feed_108 : decode cX12_feed 108 = .ok (.aload_n 0, 1) := by decide +kernel
theorem dX12_feed_109 : decode cX12_feed 109 = .ok (.dup, 1) := by decide +kernel
theorem dX12_feed_110 : decode cX12_feed 110 = .ok (.getfield 259, 3) := by decide +kernel
theorem dX12_feed_113 : decode cX12_feed 113 = .ok (.iconst 1, 1) := by decide +kernel
theorem dX12_feed_114 : decode cX12_feed 114 = .ok (.iadd, 1) := by decide +kernel
theorem dX12_feed_115 : decode cX12_feed 115 = .ok (.putfield 259, 3) := by decide +kernel
theorem dX12_feed_118 : decode cX12_feed 118 = .ok (.iinc 6 1, 3) := by decide +kernel
theorem dX12_feed_121 : decode cX12_feed 121 = .ok (.goto (-93), 3) := by decide +kernel
theorem dX12_feed_124 : decode cX12_feed 124 = .ok (.aload_n 0, 1) := by decide +kernel
theorem dX12_feed_125 : decode cX12_feed 125 = .ok (.getfield 259, 3) := by decide +kernel
theorem dX12_feed_128 : decode cX12_feed 128 = .ok (.ireturn, 1) := by decide +kernel
theorem dX12_end_0 : decode cX12_end 0 = .ok (.iload_n 1, 1) := by decide +kernel
theorem dX12_end_1 : decode cX12_end 1 = .ok (.ifCond .lt 11, 3) := by decide +kernel
theorem dX12_end_4 : decode cX12_end 4 = .ok (.iload_n 1, 1) := by decide +kernel
theorem dX12_end_5 : decode cX12_end 5 = .ok (.aload_n 0, 1) := by decide +kernel
theorem dX12_end_6 : decode cX12_end 6 = .ok (.getfield 259, 3) := by decide +kernel
theorem dX12_end_9 : decode cX12_end 9 = .ok (.if_icmp .le 15, 3) := by decide +kernel
theorem dX12_end_12 : decode cX12_end 12 = .ok (.aload_n 0, 1) := by decide +kernel
theorem dX12_end_13 : decode cX12_end 13 = .ok (.getfield 17, 3) := by decide +kernel
theorem dX12_end_16 : decode cX12_end 16 = .ok (.iconst 0, 1) := by decide +kernel
theorem dX12_end_17 : decode cX12_end 17 = .ok (.dup2, 1) := by decide +kernel
theorem dX12_end_18 : decode cX12_end 18 = .ok (.iaload, 1) := by decide +kernel
theorem dX12_end_19 : decode cX12_end 19 = .ok (.iconst 1, 1) := by decide +kernel
theorem dX12_end_20 : decode cX12_end 20 = .ok (.iadd, 1) := by decide +kernel
theorem dX12_end_21 : decode cX12_end 21 = .ok (.iastore, 1) := by decide +kernel
theorem dX12_end_22 : decode cX12_end 22 = .ok (.iconst 0, 1) := by decide +kernel
theorem dX12_end_23 : decode cX12_end 23 = .ok (.ireturn, 1) := by decide +kernel
theorem dX12_end_24 : decode cX12_end 24 = .ok (.aload_n 0, 1) := by decide +kernel
theorem dX12_end_25 : decode cX12_end 25 = .ok (.iload_n 1, 1) := by decide +kernel
theorem dX12_end_26 : decode cX12_end 26 = .ok (.putfield 259, 3) := by decide +kernel
theorem dX12_end_29 : decode cX12_end 29 = .ok (.iconst 1, 1) := by decide +kernel
theorem dX12_end_30 : decode cX12_end 30 = .ok (.ireturn, 1) := by decide +kernel
theorem dX12_fail_0 : decode cX12_fail 0 = .ok (.aload_n 0, 1) := by decide +kernel
theorem dX12_fail_1 : decode cX12_fail 1 = .ok (.getfield 262, 3) := by decide +kernel
theorem dX12_fail_4 : decode cX12_fail 4 = .ok (.ifCond .eq 4, 3) := by decide +kernel
theorem dX12_fail_7 : decode cX12_fail 7 = .ok (.return_, 1) := by decide +kernel
theorem dX12_fail_8 : decode cX12_fail 8 = .ok (.aload_n 0, 1) := by decide +kernel
theorem dX12_fail_9 : decode cX12_fail 9 = .ok (.iload_n 1, 1) := by decide +kernel
theorem dX12_fail_10 : decode cX12_fail 10 = .ok (.putfield 262, 3) := by decide +kernel
theorem dX12_fail_13 : decode cX12_fail 13 = .ok (.aload_n 0, 1) := by decide +kernel
theorem dX12_fail_14 : decode cX12_fail 14 = .ok (.iload_n 2, 1) := by decide +kernel
theorem dX12_fail_15 : decode cX12_fail 15 = .ok (.putfield 265, 3) := by decide +kernel
theorem dX12_fail_18 : decode cX12_fail 18 = .ok (.return_, 1) := by decide +kernel
theorem dX12_isLetter_0 : decode cX12_isLetter 0 = .ok (.iload_n 0, 1) := by decide +kernel
theorem dX12_isLetter_1 : decode cX12_isLetter 1 = .ok (.bipush 97, 2) := by decide +kernel
theorem dX12_isLetter_3 : decode cX12_isLetter 3 = .ok (.if_icmp .lt 13, 3) := by decide +kernel
theorem dX12_isLetter_6 : decode cX12_isLetter 6 = .ok (.iload_n 0, 1) := by decide +kernel
theorem dX12_isLetter_7 : decode cX12_isLetter 7 = .ok (.bipush 122, 2) := by decide +kernel
theorem dX12_isLetter_9 : decode cX12_isLetter 9 = .ok (.if_icmp .gt 7, 3) := by decide +kernel
theorem dX12_isLetter_12 : decode cX12_isLetter 12 = .ok (.iconst 1, 1) := by decide +kernel
theorem dX12_isLetter_13 : decode cX12_isLetter 13 = .ok (.goto 4, 3) := by decide +kernel
theorem dX12_isLetter_16 : decode cX12_isLetter 16 = .ok (.iconst 0, 1) := by decide +kernel
theorem dX12_isLetter_17 : decode cX12_isLetter 17 = .ok (.ireturn, 1) := by decide +kernel
theorem dX12_isDigit_0 : decode cX12_isDigit 0 = .ok (.iload_n 0, 1) := by decide +kernel
theorem dX12_isDigit_1 : decode cX12_isDigit 1 = .ok (.bipush 48, 2) := by decide +kernel
theorem dX12_isDigit_3 : decode cX12_isDigit 3 = .ok (.if_icmp .lt 13, 3) := by decide +kernel
theorem dX12_isDigit_6 : decode cX12_isDigit 6 = .ok (.iload_n 0, 1) := by decide +kernel
theorem dX12_isDigit_7 : decode cX12_isDigit 7 = .ok (.bipush 57, 2) := by decide +kernel
theorem dX12_isDigit_9 : decode cX12_isDigit 9 = .ok (.if_icmp .gt 7, 3) := by decide +kernel
theorem dX12_isDigit_12 : decode cX12_isDigit 12 = .ok (.iconst 1, 1) := by decide +kernel
theorem dX12_isDigit_13 : decode cX12_isDigit 13 = .ok (.goto 4, 3) := by decide +kernel
theorem dX12_isDigit_16 : decode cX12_isDigit 16 = .ok (.iconst 0, 1) := by decide +kernel
theorem dX12_isDigit_17 : decode cX12_isDigit 17 = .ok (.ireturn, 1) := by decide +kernel
theorem dX12_look_0 : decode cX12_look 0 = .ok (.aload_n 0, 1) := by decide +kernel
theorem dX12_look_1 : decode cX12_look 1 = .ok (.getfield 268, 3) := by decide +kernel
theorem dX12_look_4 : decode cX12_look 4 = .ok (.aload_n 0, 1) := by decide +kernel
theorem dX12_look_5 : decode cX12_look 5 = .ok (.getfield 271, 3) := by decide +kernel
theorem dX12_look_8 : decode cX12_look 8 = .ok (.if_icmp .ge 44, 3) := by decide +kernel
theorem dX12_look_11 : decode cX12_look 11 = .ok (.aload_n 0, 1) := by decide +kernel
theorem dX12_look_12 : decode cX12_look 12 = .ok (.getfield 7, 3) := by decide +kernel
theorem dX12_look_15 : decode cX12_look 15 = .ok (.aload_n 0, 1) := by decide +kernel
theorem dX12_look_16 : decode cX12_look 16 = .ok (.getfield 268, 3) := by decide +kernel
theorem dX12_look_19 : decode cX12_look 19 = .ok (.iaload, 1) := by decide +kernel
theorem dX12_look_20 : decode cX12_look 20 = .ok (.bipush 10, 2) := by decide +kernel
theorem dX12_look_22 : decode cX12_look 22 = .ok (.if_icmp .eq 17, 3) := by decide +kernel
theorem dX12_look_25 : decode cX12_look 25 = .ok (.aload_n 0, 1) := by decide +kernel
theorem dX12_look_26 : decode cX12_look 26 = .ok (.getfield 7, 3) := by decide +kernel
theorem dX12_look_29 : decode cX12_look 29 = .ok (.aload_n 0, 1) := by decide +kernel
theorem dX12_look_30 : decode cX12_look 30 = .ok (.getfield 268, 3) := by decide +kernel
theorem dX12_look_33 : decode cX12_look 33 = .ok (.iaload, 1) := by decide +kernel
theorem dX12_look_34 : decode cX12_look 34 = .ok (.bipush 32, 2) := by decide +kernel
theorem dX12_look_36 : decode cX12_look 36 = .ok (.if_icmp .ne 16, 3) := by decide +kernel
theorem dX12_look_39 : decode cX12_look 39 = .ok (.aload_n 0, 1) := by decide +kernel
theorem dX12_look_40 : decode cX12_look 40 = .ok (.dup, 1) := by decide +kernel
theorem dX12_look_41 : decode cX12_look 41 = .ok (.getfield 268, 3) := by decide +kernel
theorem dX12_look_44 : decode cX12_look 44 = .ok (.iconst 1, 1) := by decide +kernel
theorem dX12_look_45 : decode cX12_look 45 = .ok (.iadd, 1) := by decide +kernel
theorem dX12_look_46 : decode cX12_look 46 = .ok (.putfield 268, 3) := by decide +kernel
theorem dX12_look_49 : decode cX12_look 49 = .ok (.goto (-49), 3) := by decide +kernel
theorem dX12_look_52 : decode cX12_look 52 = .ok (.aload_n 0, 1) := by decide +kernel
theorem dX12_look_53 : decode cX12_look 53 = .ok (.getfield 268, 3) := by decide +kernel
theorem dX12_look_56 : decode cX12_look 56 = .ok (.aload_n 0, 1) := by decide +kernel
theorem dX12_look_57 : decode cX12_look 57 = .ok (.getfield 271, 3) := by decide +kernel
theorem dX12_look_60 : decode cX12_look 60 = .ok (.if_icmp .ge 15, 3) := by decide +kernel
theorem dX12_look_63 : decode cX12_look 63 = .ok (.aload_n 0, 1) := by decide +kernel
theorem dX12_look_64 : decode cX12_look 64 = .ok (.getfield 7, 3) := by decide +kernel
theorem dX12_look_67 : decode cX12_look 67 = .ok (.aload_n 0, 1) := by decide +kernel
theorem dX12_look_68 : decode cX12_look 68 = .ok (.getfield 268, 3) := by decide +kernel
theorem dX12_look_71 : decode cX12_look 71 = .ok (.iaload, 1) := by decide +kernel
theorem dX12_look_72 : decode cX12_look 72 = .ok (.goto 4, 3) := by decide +kernel
theorem dX12_look_75 : decode cX12_look 75 = .ok (.iconst (-1), 1) := by decide +kernel
theorem dX12_look_76 : decode cX12_look 76 = .ok (.ireturn, 1) := by decide +kernel
theorem dX12_isHere_0 : decode cX12_isHere 0 = .ok (.aload_n 0, 1) := by decide +kernel
theorem dX12_isHere_1 : decode cX12_isHere 1 = .ok (.getfield 262, 3) := by decide +kernel
theorem dX12_isHere_4 : decode cX12_isHere 4 = .ok (.ifCond .ne 24, 3) := by decide +kernel
theorem dX12_isHere_7 : decode cX12_isHere 7 = .ok (.aload_n 0, 1) := by decide +kernel
theorem dX12_isHere_8 : decode cX12_isHere 8 = .ok (.invokevirtual 274, 3) := by decide +kernel
theorem dX12_isHere_11 : decode cX12_isHere 11 = .ok (.invokestatic 278, 3) := by decide +kernel
theorem dX12_isHere_14 : decode cX12_isHere 14 = .ok (.ifCond .eq 14, 3) := by decide +kernel
theorem dX12_isHere_17 : decode cX12_isHere 17 = .ok (.aload_n 0, 1) := by decide +kernel
theorem dX12_isHere_18 : decode cX12_isHere 18 = .ok (.getfield 268, 3) := by decide +kernel
theorem dX12_isHere_21 : decode cX12_isHere 21 = .ok (.aload_n 0, 1) := by decide +kernel
theorem dX12_isHere_22 : decode cX12_isHere 22 = .ok (.getfield 282, 3) := by decide +kernel
theorem dX12_isHere_25 : decode cX12_isHere 25 = .ok (.if_icmp .ne 5, 3) := by decide +kernel
theorem dX12_isHere_28 : decode cX12_isHere 28 = .ok (.iconst 0, 1) := by decide +kernel
theorem dX12_isHere_29 : decode cX12_isHere 29 = .ok (.ireturn, 1) := by decide +kernel
theorem dX12_isHere_30 : decode cX12_isHere 30 = .ok (.aload_n 0, 1) := by decide +kernel
theorem dX12_isHere_31 : decode cX12_isHere 31 = .ok (.getfield 268, 3) := by decide +kernel
theorem dX12_isHere_34 : decode cX12_isHere 34 = .ok (.istore_n 2, 1) := by decide +kernel
theorem dX12_isHere_35 : decode cX12_isHere 35 = .ok (.iload_n 2, 1) := by decide +kernel
theorem dX12_isHere_36 : decode cX12_isHere 36 = .ok (.aload_n 0, 1) := by decide +kernel
theorem dX12_isHere_37 : decode cX12_isHere 37 = .ok (.getfield 271, 3) := by decide +kernel
theorem dX12_isHere_40 : decode cX12_isHere 40 = .ok (.if_icmp .ge 21, 3) := by decide +kernel
theorem dX12_isHere_43 : decode cX12_isHere 43 = .ok (.aload_n 0, 1) := by decide +kernel
theorem dX12_isHere_44 : decode cX12_isHere 44 = .ok (.getfield 7, 3) := by decide +kernel
theorem dX12_isHere_47 : decode cX12_isHere 47 = .ok (.iload_n 2, 1) := by decide +kernel
theorem dX12_isHere_48 : decode cX12_isHere 48 = .ok (.iaload, 1) := by decide +kernel
theorem dX12_isHere_49 : decode cX12_isHere 49 = .ok (.invokestatic 278, 3) := by decide +kernel
theorem dX12_isHere_52 : decode cX12_isHere 52 = .ok (.ifCond .eq 9, 3) := by decide +kernel
theorem dX12_isHere_55 : decode cX12_isHere 55 = .ok (.iinc 2 1, 3) := by decide +kernel
theorem dX12_isHere_58 : decode cX12_isHere 58 = .ok (.goto (-23), 3) := by decide +kernel
theorem dX12_isHere_61 : decode cX12_isHere 61 = .ok (.iload_n 2, 1) := by decide +kernel
theorem dX12_isHere_62 : decode cX12_isHere 62 = .ok (.aload_n 0, 1) := by decide +kernel
theorem dX12_isHere_63 : decode cX12_isHere 63 = .ok (.getfield 268, 3) := by decide +kernel
theorem dX12_isHere_66 : decode cX12_isHere 66 = .ok (.isub, 1) := by decide +kernel
theorem dX12_isHere_67 : decode cX12_isHere 67 = .ok (.aload_n 1, 1) := by decide +kernel
theorem dX12_isHere_68 : decode cX12_isHere 68 = .ok (.arraylength, 1) := by decide +kernel
theorem dX12_isHere_69 : decode cX12_isHere 69 = .ok (.if_icmp .eq 5, 3) := by decide +kernel
theorem dX12_isHere_72 : decode cX12_isHere 72 = .ok (.iconst 0, 1) := by decide +kernel
theorem dX12_isHere_73 : decode cX12_isHere 73 = .ok (.ireturn, 1) := by decide +kernel
theorem dX12_isHere_74 : decode cX12_isHere 74 = .ok (.iconst 0, 1) := by decide +kernel
theorem dX12_isHere_75 : decode cX12_isHere 75 = .ok (.istore_n 3, 1) := by decide +kernel
theorem dX12_isHere_76 : decode cX12_isHere 76 = .ok (.iload_n 3, 1) := by decide +kernel
theorem dX12_isHere_77 : decode cX12_isHere 77 = .ok (.aload_n 1, 1) := by decide +kernel
theorem dX12_isHere_78 : decode cX12_isHere 78 = .ok (.arraylength, 1) := by decide +kernel
theorem dX12_isHere_79 : decode cX12_isHere 79 = .ok (.if_icmp .ge 28, 3) := by decide +kernel
theorem dX12_isHere_82 : decode cX12_isHere 82 = .ok (.aload_n 0, 1) := by decide +kernel
theorem dX12_isHere_83 : decode cX12_isHere 83 = .ok (.getfield 7, 3) := by decide +kernel
theorem dX12_isHere_86 : decode cX12_isHere 86 = .ok (.aload_n 0, 1) := by decide +kernel
theorem dX12_isHere_87 : decode cX12_isHere 87 = .ok (.getfield 268, 3) := by decide +kernel
theorem dX12_isHere_90 : decode cX12_isHere 90 = .ok (.iload_n 3, 1) := by decide +kernel
theorem dX12_isHere_91 : decode cX12_isHere 91 = .ok (.iadd, 1) := by decide +kernel
theorem dX12_isHere_92 : decode cX12_isHere 92 = .ok (.iaload, 1) := by decide +kernel
theorem dX12_isHere_93 : decode cX12_isHere 93 = .ok (.aload_n 1, 1) := by decide +kernel
theorem dX12_isHere_94 : decode cX12_isHere 94 = .ok (.iload_n 3, 1) := by decide +kernel
theorem dX12_isHere_95 : decode cX12_isHere 95 = .ok (.caload, 1) := by decide +kernel
theorem dX12_isHere_96 : decode cX12_isHere 96 = .ok (.if_icmp .eq 5, 3) := by decide +kernel
theorem dX12_isHere_99 : decode cX12_isHere 99 = .ok (.iconst 0, 1) := by decide +kernel
theorem dX12_isHere_100 : decode cX12_isHere 100 = .ok (.ireturn, 1) := by decide +kernel
theorem dX12_isHere_101 : decode cX12_isHere 101 = .ok (.iinc 3 1, 3) := by decide +kernel
theorem dX12_isHere_104 : decode cX12_isHere 104 = .ok (.goto (-28), 3) := by decide +kernel
theorem dX12_isHere_107 : decode cX12_isHere 107 = .ok (.iconst 1, 1) := by decide +kernel
theorem dX12_isHere_108 : decode cX12_isHere 108 = .ok (.ireturn, 1) := by decide +kernel
theorem dX12_takes_0 : decode cX12_takes 0 = .ok (.aload_n 0, 1) := by decide +kernel
theorem dX12_takes_1 : decode cX12_takes 1 = .ok (.aload_n 1, 1) := by decide +kernel
theorem dX12_takes_2 : decode cX12_takes 2 = .ok (.invokevirtual 285, 3) := by decide +kernel
theorem dX12_takes_5 : decode cX12_takes 5 = .ok (.ifCond .ne 5, 3) := by decide +kernel
theorem dX12_takes_8 : decode cX12_takes 8 = .ok (.iconst 0, 1) := by decide +kernel
theorem dX12_takes_9 : decode cX12_takes 9 = .ok (.ireturn, 1) := by decide +kernel
theorem dX12_takes_10 : decode cX12_takes 10 = .ok (.aload_n 0, 1) := by decide +kernel
theorem dX12_takes_11 : decode cX12_takes 11 = .ok (.dup, 1) := by decide +kernel
theorem dX12_takes_12 : decode cX12_takes 12 = .ok (.getfield 268, 3) := by decide +kernel
theorem dX12_takes_15 : decode cX12_takes 15 = .ok (.aload_n 1, 1) := by decide +kernel
theorem dX12_takes_16 : decode cX12_takes 16 = .ok (.arraylength, 1) := by decide +kernel
theorem dX12_takes_17 : decode cX12_takes 17 = .ok (.iadd, 1) := by decide +kernel
theorem dX12_takes_18 : decode cX12_takes 18 = .ok (.putfield 268, 3) := by decide +kernel
theorem dX12_takes_21 : decode cX12_takes 21 = .ok (.aload_n 0, 1) := by decide +kernel
theorem dX12_takes_22 : decode cX12_takes 22 = .ok (.aload_n 0, 1) := by decide +kernel
theorem dX12_takes_23 : decode cX12_takes 23 = .ok (.getfield 268, 3) := by decide +kernel
theorem dX12_takes_26 : decode cX12_takes 26 = .ok (.putfield 282, 3) := by decide +kernel
theorem dX12_takes_29 : decode cX12_takes 29 = .ok (.iconst 1, 1) := by decide +kernel
theorem dX12_takes_30 : decode cX12_takes 30 = .ok (.ireturn, 1) := by decide +kernel
theorem dX12_asks_0 : decode cX12_asks 0 = .ok (.aload_n 0, 1) := by decide +kernel
theorem dX12_asks_1 : decode cX12_asks 1 = .ok (.getfield 262, 3) := by decide +kernel
theorem dX12_asks_4 : decode cX12_asks 4 = .ok (.ifCond .ne 20, 3) := by decide +kernel
theorem dX12_asks_7 : decode cX12_asks 7 = .ok (.aload_n 0, 1) := by decide +kernel
theorem dX12_asks_8 : decode cX12_asks 8 = .ok (.aload_n 1, 1) := by decide +kernel
theorem dX12_asks_9 : decode cX12_asks 9 = .ok (.invokevirtual 289, 3) := by decide +kernel
theorem dX12_asks_12 : decode cX12_asks 12 = .ok (.ifCond .ne 12, 3) := by decide +kernel
theorem dX12_asks_15 : decode cX12_asks 15 = .ok (.aload_n 0, 1) := by decide +kernel
theorem dX12_asks_16 : decode cX12_asks 16 = .ok (.iconst 1, 1) := by decide +kernel
theorem dX12_asks_17 : decode cX12_asks 17 = .ok (.aload_n 0, 1) := by decide +kernel
theorem dX12_asks_18 : decode cX12_asks 18 = .ok (.getfield 268, 3) := by decide +kernel
theorem dX12_asks_21 : decode cX12_asks 21 = .ok (.invokevirtual 292, 3) := by decide +kernel
theorem dX12_asks_24 : decode cX12_asks 24 = .ok (.return_, 1) := by decide +kernel
theorem dX12_takesSign_0 : decode cX12_takesSign 0 = .ok (.aload_n 0, 1) := by decide +kernel
theorem dX12_takesSign_1 : decode cX12_takesSign 1 = .ok (.getfield 262, 3) := by decide +kernel
theorem dX12_takesSign_4 : decode cX12_takesSign 4 = .ok (.ifCond .ne 11, 3) := by decide +kernel
theorem dX12_takesSign_7 : decode cX12_takesSign 7 = .ok (.aload_n 0, 1) := by decide +kernel
theorem dX12_takesSign_8 : decode cX12_takesSign 8 = .ok (.invokevirtual 274, 3) := by decide +kernel
theorem dX12_takesSign_11 : decode cX12_takesSign 11 = .ok (.iload_n 1, 1) := by decide +kernel
theorem dX12_takesSign_12 : decode cX12_takesSign 12 = .ok (.if_icmp .eq 5, 3) := by decide +kernel
theorem dX12_takesSign_15 : decode cX12_takesSign 15 = .ok (.iconst 0, 1) := by decide +kernel
theorem dX12_takesSign_16 : decode cX12_takesSign 16 = .ok (.ireturn, 1) := by decide +kernel
theorem dX12_takesSign_17 : decode cX12_takesSign 17 = .ok (.aload_n 0, 1) := by decide +kernel
theorem dX12_takesSign_18 : decode cX12_takesSign 18 = .ok (.dup, 1) := by decide +kernel
theorem dX12_takesSign_19 : decode cX12_takesSign 19 = .ok (.getfield 268, 3) := by decide +kernel
theorem dX12_takesSign_22 : decode cX12_takesSign 22 = .ok (.iconst 1, 1) := by decide +kernel
theorem dX12_takesSign_23 : decode cX12_takesSign 23 = .ok (.iadd, 1) := by decide +kernel
theorem dX12_takesSign_24 : decode cX12_takesSign 24 = .ok (.putfield 268, 3) := by decide +kernel
theorem dX12_takesSign_27 : decode cX12_takesSign 27 = .ok (.iconst 1, 1) := by decide +kernel
theorem dX12_takesSign_28 : decode cX12_takesSign 28 = .ok (.ireturn, 1) := by decide +kernel
theorem dX12_asksSign_0 : decode cX12_asksSign 0 = .ok (.aload_n 0, 1) := by decide +kernel
theorem dX12_asksSign_1 : decode cX12_asksSign 1 = .ok (.getfield 262, 3) := by decide +kernel
theorem dX12_asksSign_4 : decode cX12_asksSign 4 = .ok (.ifCond .ne 20, 3) := by decide +kernel
theorem dX12_asksSign_7 : decode cX12_asksSign 7 = .ok (.aload_n 0, 1) := by decide +kernel
theorem dX12_asksSign_8 : decode cX12_asksSign 8 = .ok (.iload_n 1, 1) := by decide +kernel
theorem dX12_asksSign_9 : decode cX12_asksSign 9 = .ok (.invokevirtual 296, 3) := by decide +kernel
theorem dX12_asksSign_12 : decode cX12_asksSign 12 = .ok (.ifCond .ne 12, 3) := by decide +kernel
theorem dX12_asksSign_15 : decode cX12_asksSign 15 = .ok (.aload_n 0, 1) := by decide +kernel
theorem dX12_asksSign_16 : decode cX12_asksSign 16 = .ok (.iconst 1, 1) := by decide +kernel
theorem dX12_asksSign_17 : decode cX12_asksSign 17 = .ok (.aload_n 0, 1) := by decide +kernel
theorem dX12_asksSign_18 : decode cX12_asksSign 18 = .ok (.getfield 268, 3) := by decide +kernel
theorem dX12_asksSign_21 : decode cX12_asksSign 21 = .ok (.invokevirtual 292, 3) := by decide +kernel
theorem dX12_asksSign_24 : decode cX12_asksSign 24 = .ok (.return_, 1) := by decide +kernel
theorem dX12_number_0 : decode cX12_number 0 = .ok (.aload_n 0, 1) := by decide +kernel
theorem dX12_number_1 : decode cX12_number 1 = .ok (.getfield 262, 3) := by decide +kernel
theorem dX12_number_4 : decode cX12_number 4 = .ok (.ifCond .eq 5, 3) := by decide +kernel
theorem dX12_number_7 : decode cX12_number 7 = .ok (.iconst 0, 1) := by decide +kernel
theorem dX12_number_8 : decode cX12_number 8 = .ok (.ireturn, 1) := by decide +kernel
theorem dX12_number_9 : decode cX12_number 9 = .ok (.aload_n 0, 1) := by decide +kernel
theorem dX12_number_10 : decode cX12_number 10 = .ok (.invokevirtual 274, 3) := by decide +kernel
theorem dX12_number_13 : decode cX12_number 13 = .ok (.invokestatic 299, 3) := by decide +kernel
theorem dX12_number_16 : decode cX12_number 16 = .ok (.ifCond .eq 14, 3) := by decide +kernel
theorem dX12_number_19 : decode cX12_number 19 = .ok (.aload_n 0, 1) := by decide +kernel
theorem dX12_number_20 : decode cX12_number 20 = .ok (.getfield 268, 3) := by decide +kernel
theorem dX12_number_23 : decode cX12_number 23 = .ok (.aload_n 0, 1) := by decide +kernel
theorem dX12_number_24 : decode cX12_number 24 = .ok (.getfield 282, 3) := by decide +kernel
theorem dX12_number_27 : decode cX12_number 27 = .ok (.if_icmp .ne 14, 3) := by decide +kernel
theorem dX12_number_30 : decode cX12_number 30 = .ok (.aload_n 0, 1) := by decide +kernel
theorem dX12_number_31 : decode cX12_number 31 = .ok (.iconst 1, 1) := by decide +kernel
theorem dX12_number_32 : decode cX12_number 32 = .ok (.aload_n 0, 1) := by decide +kernel
theorem dX12_number_33 : decode cX12_number 33 = .ok (.getfield 268, 3) := by decide +kernel
theorem dX12_number_36 : decode cX12_number 36 = .ok (.invokevirtual 292, 3) := by decide +kernel
theorem dX12_number_39 : decode cX12_number 39 = .ok (.iconst 0, 1) := by decide +kernel
theorem dX12_number_40 : decode cX12_number 40 = .ok (.ireturn, 1) := by decide +kernel
theorem dX12_number_41 : decode cX12_number 41 = .ok (.aload_n 0, 1) := by decide +kernel
theorem dX12_number_42 : decode cX12_number 42 = .ok (.getfield 268, 3) := by decide +kernel
theorem dX12_number_45 : decode cX12_number 45 = .ok (.istore_n 3, 1) := by decide +kernel
theorem dX12_number_46 : decode cX12_number 46 = .ok (.iconst 0, 1) := by decide +kernel
theorem dX12_number_47 : decode cX12_number 47 = .ok (.istore 4, 2) := by decide +kernel
theorem dX12_number_49 : decode cX12_number 49 = .ok (.aload_n 0, 1) := by decide +kernel
theorem dX12_number_50 : decode cX12_number 50 = .ok (.getfield 268, 3) := by decide +kernel
theorem dX12_number_53 : decode cX12_number 53 = .ok (.aload_n 0, 1) := by decide +kernel
theorem dX12_number_54 : decode cX12_number 54 = .ok (.getfield 271, 3) := by decide +kernel
theorem dX12_number_57 : decode cX12_number 57 = .ok (.if_icmp .ge 72, 3) := by decide +kernel
theorem dX12_number_60 : decode cX12_number 60 = .ok (.aload_n 0, 1) := by decide +kernel
theorem dX12_number_61 : decode cX12_number 61 = .ok (.getfield 7, 3) := by decide +kernel
theorem dX12_number_64 : decode cX12_number 64 = .ok (.aload_n 0, 1) := by decide +kernel
theorem dX12_number_65 : decode cX12_number 65 = .ok (.getfield 268, 3) := by decide +kernel
theorem dX12_number_68 : decode cX12_number 68 = .ok (.iaload, 1) := by decide +kernel
theorem dX12_number_69 : decode cX12_number 69 = .ok (.invokestatic 299, 3) := by decide +kernel
theorem dX12_number_72 : decode cX12_number 72 = .ok (.ifCond .eq 57, 3) := by decide +kernel
theorem dX12_number_75 : decode cX12_number 75 = .ok (.aload_n 0, 1) := by decide +kernel
theorem dX12_number_76 : decode cX12_number 76 = .ok (.getfield 268, 3) := by decide +kernel
theorem dX12_number_79 : decode cX12_number 79 = .ok (.iload_n 3, 1) := by decide +kernel
theorem dX12_number_80 : decode cX12_number 80 = .ok (.isub, 1) := by decide +kernel
theorem dX12_number_81 : decode cX12_number 81 = .ok (.iconst 4, 1) := by decide +kernel
theorem dX12_number_82 : decode cX12_number 82 = .ok (.if_icmp .ne 14, 3) := by decide +kernel
theorem dX12_number_85 : decode cX12_number 85 = .ok (.aload_n 0, 1) := by decide +kernel
theorem dX12_number_86 : decode cX12_number 86 = .ok (.iconst 1, 1) := by decide +kernel
theorem dX12_number_87 : decode cX12_number 87 = .ok (.aload_n 0, 1) := by decide +kernel
theorem dX12_number_88 : decode cX12_number 88 = .ok (.getfield 268, 3) := by decide +kernel
theorem dX12_number_91 : decode cX12_number 91 = .ok (.invokevirtual 292, 3) := by decide +kernel
theorem dX12_number_94 : decode cX12_number 94 = .ok (.iconst 0, 1) := by decide +kernel
theorem dX12_number_95 : decode cX12_number 95 = .ok (.ireturn, 1) := by decide +kernel
theorem dX12_number_96 : decode cX12_number 96 = .ok (.bipush 10, 2) := by decide +kernel
theorem dX12_number_98 : decode cX12_number 98 = .ok (.iload 4, 2) := by decide +kernel
theorem dX12_number_100 : decode cX12_number 100 = .ok (.imul, 1) := by decide +kernel
theorem dX12_number_101 : decode cX12_number 101 = .ok (.aload_n 0, 1) := by decide +kernel
theorem dX12_number_102 : decode cX12_number 102 = .ok (.getfield 7, 3) := by decide +kernel
theorem dX12_number_105 : decode cX12_number 105 = .ok (.aload_n 0, 1) := by decide +kernel
theorem dX12_number_106 : decode cX12_number 106 = .ok (.getfield 268, 3) := by decide +kernel
theorem dX12_number_109 : decode cX12_number 109 = .ok (.iaload, 1) := by decide +kernel
theorem dX12_number_110 : decode cX12_number 110 = .ok (.iadd, 1) := by decide +kernel
theorem dX12_number_111 : decode cX12_number 111 = .ok (.bipush 48, 2) := by decide +kernel
theorem dX12_number_113 : decode cX12_number 113 = .ok (.isub, 1) := by decide +kernel
theorem dX12_number_114 : decode cX12_number 114 = .ok (.istore 4, 2) := by decide +kernel
theorem dX12_number_116 : decode cX12_number 116 = .ok (.aload_n 0, 1) := by decide +kernel
theorem dX12_number_117 : decode cX12_number 117 = .ok (.dup, 1) := by decide +kernel
theorem dX12_number_118 : decode cX12_number 118 = .ok (.getfield 268, 3) := by decide +kernel
theorem dX12_number_121 : decode cX12_number 121 = .ok (.iconst 1, 1) := by decide +kernel
theorem dX12_number_122 : decode cX12_number 122 = .ok (.iadd, 1) := by decide +kernel
theorem dX12_number_123 : decode cX12_number 123 = .ok (.putfield 268, 3) := by decide +kernel
theorem dX12_number_126 : decode cX12_number 126 = .ok (.goto (-77), 3) := by decide +kernel
theorem dX12_number_129 : decode cX12_number 129 = .ok (.aload_n 0, 1) := by decide +kernel
theorem dX12_number_130 : decode cX12_number 130 = .ok (.aload_n 0, 1) := by decide +kernel
theorem dX12_number_131 : decode cX12_number 131 = .ok (.getfield 268, 3) := by decide +kernel
theorem dX12_number_134 : decode cX12_number 134 = .ok (.putfield 282, 3) := by decide +kernel
theorem dX12_number_137 : decode cX12_number 137 = .ok (.aload_n 0, 1) := by decide +kernel
theorem dX12_number_138 : decode cX12_number 138 = .ok (.iload_n 3, 1) := by decide +kernel
theorem dX12_number_139 : decode cX12_number 139 = .ok (.putfield 302, 3) := by decide +kernel
theorem dX12_number_142 : decode cX12_number 142 = .ok (.iload 4, 2) := by decide +kernel
theorem dX12_number_144 : decode cX12_number 144 = .ok (.i2l, 1) := by decide +kernel
theorem dX12_number_145 : decode cX12_number 145 = .ok (.iload_n 1, 1) := by decide +kernel
theorem dX12_number_146 : decode cX12_number 146 = .ok (.i2l, 1) := by decide +kernel
theorem dX12_number_147 : decode cX12_number 147 = .ok (.iload_n 2, 1) := by decide +kernel
theorem dX12_number_148 : decode cX12_number 148 = .ok (.i2l, 1) := by decide +kernel
theorem dX12_number_149 : decode cX12_number 149 = .ok (.invokestatic 305, 3) := by decide +kernel
theorem dX12_number_152 : decode cX12_number 152 = .ok (.ifCond .ne 12, 3) := by decide +kernel
theorem dX12_number_155 : decode cX12_number 155 = .ok (.aload_n 0, 1) := by decide +kernel
theorem dX12_number_156 : decode cX12_number 156 = .ok (.iconst 2, 1) := by decide +kernel
theorem dX12_number_157 : decode cX12_number 157 = .ok (.aload_n 0, 1) := by decide +kernel
theorem dX12_number_158 : decode cX12_number 158 = .ok (.getfield 302, 3) := by decide +kernel
theorem dX12_number_161 : decode cX12_number 161 = .ok (.invokevirtual 292, 3) := by decide +kernel
theorem dX12_number_164 : decode cX12_number 164 = .ok (.iload 4, 2) := by decide +kernel
theorem dX12_number_166 : decode cX12_number 166 = .ok (.ireturn, 1) := by decide +kernel
theorem dX12_isOwnHere_0 : decode cX12_isOwnHere 0 = .ok (.aload_n 0, 1) := by decide +kernel
theorem dX12_isOwnHere_1 : decode cX12_isOwnHere 1 = .ok (.aload_n 0, 1) := by decide +kernel
theorem dX12_isOwnHere_2 : decode cX12_isOwnHere 2 = .ok (.getfield 20, 3) := by decide +kernel
theorem dX12_isOwnHere_5 : decode cX12_isOwnHere 5 = .ok (.invokevirtual 285, 3) := by decide +kernel
theorem dX12_isOwnHere_8 : decode cX12_isOwnHere 8 = .ok (.ifCond .ne 58, 3) := by decide +kernel
theorem dX12_isOwnHere_11 : decode cX12_isOwnHere 11 = .ok (.aload_n 0, 1) := by decide +kernel
theorem dX12_isOwnHere_12 : decode cX12_isOwnHere 12 = .ok (.aload_n 0, 1) := by decide +kernel
theorem dX12_isOwnHere_13 : decode cX12_isOwnHere 13 = .ok (.getfield 24, 3) := by decide +kernel
theorem dX12_isOwnHere_16 : decode cX12_isOwnHere 16 = .ok (.invokevirtual 285, 3) := by decide +kernel
theorem dX12_isOwnHere_19 : decode cX12_isOwnHere 19 = .ok (.ifCond .ne 47, 3) := by decide +kernel
theorem dX12_isOwnHere_22 : decode cX12_isOwnHere 22 = .ok (.aload_n 0, 1) := by decide +kernel
theorem dX12_isOwnHere_23 : decode cX12_isOwnHere 23 = .ok (.aload_n 0, 1) := by decide +kernel
theorem dX12_isOwnHere_24 : decode cX12_isOwnHere 24 = .ok (.getfield 27, 3) := by decide +kernel
theorem dX12_isOwnHere_27 : decode cX12_isOwnHere 27 = .ok (.invokevirtual 285, 3) := by decide +kernel
theorem dX12_isOwnHere_30 : decode cX12_isOwnHere 30 = .ok (.ifCond .ne 36, 3) := by decide +kernel
theorem dX12_isOwnHere_33 : decode cX12_isOwnHere 33 = .ok (.aload_n 0, 1) := by decide +kernel
theorem dX12_isOwnHere_34 : decode cX12_isOwnHere 34 = .ok (.aload_n 0, 1) := by decide +kernel
theorem dX12_isOwnHere_35 : decode cX12_isOwnHere 35 = .ok (.getfield 30, 3) := by decide +kernel
theorem dX12_isOwnHere_38 : decode cX12_isOwnHere 38 = .ok (.invokevirtual 285, 3) := by decide +kernel
theorem dX12_isOwnHere_41 : decode cX12_isOwnHere 41 = .ok (.ifCond .ne 25, 3) := by decide +kernel
theorem dX12_isOwnHere_44 : decode cX12_isOwnHere 44 = .ok (.aload_n 0, 1) := by decide +kernel
theorem dX12_isOwnHere_45 : decode cX12_isOwnHere 45 = .ok (.aload_n 0, 1) := by decide +kernel
theorem dX12_isOwnHere_46 : decode cX12_isOwnHere 46 = .ok (.getfield 33, 3) := by decide +kernel
theorem dX12_isOwnHere_49 : decode cX12_isOwnHere 49 = .ok (.invokevirtual 285, 3) := by decide +kernel
theorem dX12_isOwnHere_52 : decode cX12_isOwnHere 52 = .ok (.ifCond .ne 14, 3) := by decide +kernel
theorem dX12_isOwnHere_55 : decode cX12_isOwnHere 55 = .ok (.aload_n 0, 1) := by decide +kernel
theorem dX12_isOwnHere_56 : decode cX12_isOwnHere 56 = .ok (.aload_n 0, 1) := by decide +kernel
theorem dX12_isOwnHere_57 : decode cX12_isOwnHere 57 = .ok (.getfield 36, 3) := by decide +kernel
theorem dX12_isOwnHere_60 : decode cX12_isOwnHere 60 = .ok (.invokevirtual 285, 3) := by decide +kernel
theorem dX12_isOwnHere_63 : decode cX12_isOwnHere 63 = .ok (.ifCond .eq 7, 3) := by decide +kernel
theorem dX12_isOwnHere_66 : decode cX12_isOwnHere 66 = .ok (.iconst 1, 1) := by decide +kernel
theorem dX12_isOwnHere_67 : decode cX12_isOwnHere 67 = .ok (.goto 4, 3) := by decide +kernel
theorem dX12_isOwnHere_70 : decode cX12_isOwnHere 70 = .ok (.iconst 0, 1) := by decide +kernel
theorem dX12_isOwnHere_71 : decode cX12_isOwnHere 71 = .ok (.istore_n 1, 1) := by decide +kernel
theorem dX12_isOwnHere_72 : decode cX12_isOwnHere 72 = .ok (.iload_n 1, 1) := by decide +kernel
theorem dX12_isOwnHere_73 : decode cX12_isOwnHere 73 = .ok (.ifCond .ne 69, 3) := by decide +kernel
theorem dX12_isOwnHere_76 : decode cX12_isOwnHere 76 = .ok (.aload_n 0, 1) := by decide +kernel
theorem dX12_isOwnHere_77 : decode cX12_isOwnHere 77 = .ok (.aload_n 0, 1) := by decide +kernel
theorem dX12_isOwnHere_78 : decode cX12_isOwnHere 78 = .ok (.getfield 39, 3) := by decide +kernel
theorem dX12_isOwnHere_81 : decode cX12_isOwnHere 81 = .ok (.invokevirtual 285, 3) := by decide +kernel
theorem dX12_isOwnHere_84 : decode cX12_isOwnHere 84 = .ok (.ifCond .ne 58, 3) := by decide +kernel
theorem dX12_isOwnHere_87 : decode cX12_isOwnHere 87 = .ok (.aload_n 0, 1) := by decide +kernel
theorem dX12_isOwnHere_88 : decode cX12_isOwnHere 88 = .ok (.aload_n 0, 1) := by decide +kernel
theorem dX12_isOwnHere_89 : decode cX12_isOwnHere 89 = .ok (.getfield 42, 3) := by decide +kernel
theorem dX12_isOwnHere_92 : decode cX12_isOwnHere 92 = .ok (.invokevirtual 285, 3) := by decide +kernel
theorem dX12_isOwnHere_95 : decode cX12_isOwnHere 95 = .ok (.ifCond .ne 47, 3) := by decide +kernel
theorem dX12_isOwnHere_98 : decode cX12_isOwnHere 98 = .ok (.aload_n 0, 1) := by decide +kernel
theorem dX12_isOwnHere_99 : decode cX12_isOwnHere 99 = .ok (.aload_n 0, 1) := by decide +kernel
theorem dX12_isOwnHere_100 : decode cX12_isOwnHere 100 = .ok (.getfield 45, 3) := by decide +kernel
theorem dX12_isOwnHere_103 : decode cX12_isOwnHere 103 = .ok (.invokevirtual 285, 3) := by decide +kernel
theorem dX12_isOwnHere_106 : decode cX12_isOwnHere 106 = .ok (.ifCond .ne 36, 3) := by decide +kernel
theorem dX12_isOwnHere_109 : decode cX12_isOwnHere 109 = .ok (.aload_n 0, 1) := by decide +kernel
theorem dX12_isOwnHere_110 : decode cX12_isOwnHere 110 = .ok (.aload_n 0, 1) := by decide +kernel
theorem dX12_isOwnHere_111 : decode cX12_isOwnHere 111 = .ok (.getfield 48, 3) := by decide +kernel
theorem dX12_isOwnHere_114 : decode cX12_isOwnHere 114 = .ok (.invokevirtual 285, 3) := by decide +kernel
theorem dX12_isOwnHere_117 : decode cX12_isOwnHere 117 = .ok (.ifCond .ne 25, 3) := by decide +kernel
theorem dX12_isOwnHere_120 : decode cX12_isOwnHere 120 = .ok (.aload_n 0, 1) := by decide +kernel
theorem dX12_isOwnHere_121 : decode cX12_isOwnHere 121 = .ok (.aload_n 0, 1) := by decide +kernel
theorem dX12_isOwnHere_122 : decode cX12_isOwnHere 122 = .ok (.getfield 51, 3) := by decide +kernel
theorem dX12_isOwnHere_125 : decode cX12_isOwnHere 125 = .ok (.invokevirtual 285, 3) := by decide +kernel
theorem dX12_isOwnHere_128 : decode cX12_isOwnHere 128 = .ok (.ifCond .ne 14, 3) := by decide +kernel
theorem dX12_isOwnHere_131 : decode cX12_isOwnHere 131 = .ok (.aload_n 0, 1) := by decide +kernel
theorem dX12_isOwnHere_132 : decode cX12_isOwnHere 132 = .ok (.aload_n 0, 1) := by decide +kernel
theorem dX12_isOwnHere_133 : decode cX12_isOwnHere 133 = .ok (.getfield 54, 3) := by decide +kernel
theorem dX12_isOwnHere_136 : decode cX12_isOwnHere 136 = .ok (.invokevirtual 285, 3) := by decide +kernel
theorem dX12_isOwnHere_139 : decode cX12_isOwnHere 139 = .ok (.ifCond .eq 7, 3) := by decide +kernel
theorem dX12_isOwnHere_142 : decode cX12_isOwnHere 142 = .ok (.iconst 1, 1) := by decide +kernel
theorem dX12_isOwnHere_143 : decode cX12_isOwnHere 143 = .ok (.goto 4, 3) := by decide +kernel
theorem dX12_isOwnHere_146 : decode cX12_isOwnHere 146 = .ok (.iconst 0, 1) := by decide +kernel
theorem dX12_isOwnHere_147 : decode cX12_isOwnHere 147 = .ok (.istore_n 1, 1) := by decide +kernel
theorem dX12_isOwnHere_148 : decode cX12_isOwnHere 148 = .ok (.iload_n 1, 1) := by decide +kernel
theorem dX12_isOwnHere_149 : decode cX12_isOwnHere 149 = .ok (.ifCond .ne 69, 3) := by decide +kernel
theorem dX12_isOwnHere_152 : decode cX12_isOwnHere 152 = .ok (.aload_n 0, 1) := by decide +kernel
theorem dX12_isOwnHere_153 : decode cX12_isOwnHere 153 = .ok (.aload_n 0, 1) := by decide +kernel
theorem dX12_isOwnHere_154 : decode cX12_isOwnHere 154 = .ok (.getfield 57, 3) := by decide +kernel
theorem dX12_isOwnHere_157 : decode cX12_isOwnHere 157 = .ok (.invokevirtual 285, 3) := by decide +kernel
theorem dX12_isOwnHere_160 : decode cX12_isOwnHere 160 = .ok (.ifCond .ne 58, 3) := by decide +kernel
theorem dX12_isOwnHere_163 : decode cX12_isOwnHere 163 = .ok (.aload_n 0, 1) := by decide +kernel
theorem dX12_isOwnHere_164 : decode cX12_isOwnHere 164 = .ok (.aload_n 0, 1) := by decide +kernel
theorem dX12_isOwnHere_165 : decode cX12_isOwnHere 165 = .ok (.getfield 60, 3) := by decide +kernel
theorem dX12_isOwnHere_168 : decode cX12_isOwnHere 168 = .ok (.invokevirtual 285, 3) := by decide +kernel
theorem dX12_isOwnHere_171 : decode cX12_isOwnHere 171 = .ok (.ifCond .ne 47, 3) := by decide +kernel
theorem dX12_isOwnHere_174 : decode cX12_isOwnHere 174 = .ok (.aload_n 0, 1) := by decide +kernel
theorem dX12_isOwnHere_175 : decode cX12_isOwnHere 175 = .ok (.aload_n 0, 1) := by decide +kernel
theorem dX12_isOwnHere_176 : decode cX12_isOwnHere 176 = .ok (.getfield 63, 3) := by decide +kernel
theorem dX12_isOwnHere_179 : decode cX12_isOwnHere 179 = .ok (.invokevirtual 285, 3) := by decide +kernel
theorem dX12_isOwnHere_182 : decode cX12_isOwnHere 182 = .ok (.ifCond .ne 36, 3) := by decide +kernel
theorem dX12_isOwnHere_185 : decode cX12_isOwnHere 185 = .ok (.aload_n 0, 1) := by decide +kernel
theorem dX12_isOwnHere_186 : decode cX12_isOwnHere 186 = .ok (.aload_n 0, 1) := by decide +kernel
theorem dX12_isOwnHere_187 : decode cX12_isOwnHere 187 = .ok (.getfield 66, 3) := by decide +kernel
theorem dX12_isOwnHere_190 : decode cX12_isOwnHere 190 = .ok (.invokevirtual 285, 3) := by decide +kernel
theorem dX12_isOwnHere_193 : decode cX12_isOwnHere 193 = .ok (.ifCond .ne 25, 3) := by decide +kernel
theorem dX12_isOwnHere_196 : decode cX12_isOwnHere 196 = .ok (.aload_n 0, 1) := by decide +kernel
theorem dX12_isOwnHere_197 : decode cX12_isOwnHere 197 = .ok (.aload_n 0, 1) := by decide +kernel
theorem dX12_isOwnHere_198 : decode cX12_isOwnHere 198 = .ok (.getfield 69, 3) := by decide +kernel
theorem dX12_isOwnHere_201 : decode cX12_isOwnHere 201 = .ok (.invokevirtual 285, 3) := by decide +kernel
theorem dX12_isOwnHere_204 : decode cX12_isOwnHere 204 = .ok (.ifCond .ne 14, 3) := by decide +kernel
theorem dX12_isOwnHere_207 : decode cX12_isOwnHere 207 = .ok (.aload_n 0, 1) := by decide +kernel
theorem dX12_isOwnHere_208 : decode cX12_isOwnHere 208 = .ok (.aload_n 0, 1) := by decide +kernel
theorem dX12_isOwnHere_209 : decode cX12_isOwnHere 209 = .ok (.getfield 72, 3) := by decide +kernel
theorem dX12_isOwnHere_212 : decode cX12_isOwnHere 212 = .ok (.invokevirtual 285, 3) := by decide +kernel
theorem dX12_isOwnHere_215 : decode cX12_isOwnHere 215 = .ok (.ifCond .eq 7, 3) := by decide +kernel
theorem dX12_isOwnHere_218 : decode cX12_isOwnHere 218 = .ok (.iconst 1, 1) := by decide +kernel
theorem dX12_isOwnHere_219 : decode cX12_isOwnHere 219 = .ok (.goto 4, 3) := by decide +kernel
theorem dX12_isOwnHere_222 : decode cX12_isOwnHere 222 = .ok (.iconst 0, 1) := by decide +kernel
theorem dX12_isOwnHere_223 : decode cX12_isOwnHere 223 = .ok (.istore_n 1, 1) := by decide +kernel
theorem dX12_isOwnHere_224 : decode cX12_isOwnHere 224 = .ok (.iload_n 1, 1) := by decide +kernel
theorem dX12_isOwnHere_225 : decode cX12_isOwnHere 225 = .ok (.ifCond .ne 69, 3) := by decide +kernel
theorem dX12_isOwnHere_228 : decode cX12_isOwnHere 228 = .ok (.aload_n 0, 1) := by decide +kernel
theorem dX12_isOwnHere_229 : decode cX12_isOwnHere 229 = .ok (.aload_n 0, 1) := by decide +kernel
theorem dX12_isOwnHere_230 : decode cX12_isOwnHere 230 = .ok (.getfield 75, 3) := by decide +kernel
theorem dX12_isOwnHere_233 : decode cX12_isOwnHere 233 = .ok (.invokevirtual 285, 3) := by decide +kernel
theorem dX12_isOwnHere_236 : decode cX12_isOwnHere 236 = .ok (.ifCond .ne 58, 3) := by decide +kernel
theorem dX12_isOwnHere_239 : decode cX12_isOwnHere 239 = .ok (.aload_n 0, 1) := by decide +kernel
theorem dX12_isOwnHere_240 : decode cX12_isOwnHere 240 = .ok (.aload_n 0, 1) := by decide +kernel
theorem dX12_isOwnHere_241 : decode cX12_isOwnHere 241 = .ok (.getfield 78, 3) := by decide +kernel
theorem dX12_isOwnHere_244 : decode cX12_isOwnHere 244 = .ok (.invokevirtual 285, 3) := by decide +kernel
theorem dX12_isOwnHere_247 : decode cX12_isOwnHere 247 = .ok (.ifCond .ne 47, 3) := by decide +kernel
theorem dX12_isOwnHere_250 : decode cX12_isOwnHere 250 = .ok (.aload_n 0, 1) := by decide +kernel
theorem dX12_isOwnHere_251 : decode cX12_isOwnHere 251 = .ok (.aload_n 0, 1) := by decide +kernel
theorem dX12_isOwnHere_252 : decode cX12_isOwnHere 252 = .ok (.getfield 81, 3) := by decide +kernel
theorem dX12_isOwnHere_255 : decode cX12_isOwnHere 255 = .ok (.invokevirtual 285, 3) := by decide +kernel
theorem dX12_isOwnHere_258 : decode cX12_isOwnHere 258 = .ok (.ifCond .ne 36, 3) := by decide +kernel
theorem dX12_isOwnHere_261 : decode cX12_isOwnHere 261 = .ok (.aload_n 0, 1) := by decide +kernel
theorem dX12_isOwnHere_262 : decode cX12_isOwnHere 262 = .ok (.aload_n 0, 1) := by decide +kernel
theorem dX12_isOwnHere_263 : decode cX12_isOwnHere 263 = .ok (.getfield 84, 3) := by decide +kernel
theorem dX12_isOwnHere_266 : decode cX12_isOwnHere 266 = .ok (.invokevirtual 285, 3) := by decide +kernel
theorem dX12_isOwnHere_269 : decode cX12_isOwnHere 269 = .ok (.ifCond .ne 25, 3) := by decide +kernel
theorem dX12_isOwnHere_272 : decode cX12_isOwnHere 272 = .ok (.aload_n 0, 1) := by decide +kernel
theorem dX12_isOwnHere_273 : decode cX12_isOwnHere 273 = .ok (.aload_n 0, 1) := by decide +kernel
theorem dX12_isOwnHere_274 : decode cX12_isOwnHere 274 = .ok (.getfield 87, 3) := by decide +kernel
theorem dX12_isOwnHere_277 : decode cX12_isOwnHere 277 = .ok (.invokevirtual 285, 3) := by decide +kernel
theorem dX12_isOwnHere_280 : decode cX12_isOwnHere 280 = .ok (.ifCond .ne 14, 3) := by decide +kernel
theorem dX12_isOwnHere_283 : decode cX12_isOwnHere 283 = .ok (.aload_n 0, 1) := by decide +kernel
theorem dX12_isOwnHere_284 : decode cX12_isOwnHere 284 = .ok (.aload_n 0, 1) := by decide +kernel
theorem dX12_isOwnHere_285 : decode cX12_isOwnHere 285 = .ok (.getfield 90, 3) := by decide +kernel
theorem dX12_isOwnHere_288 : decode cX12_isOwnHere 288 = .ok (.invokevirtual 285, 3) := by decide +kernel
theorem dX12_isOwnHere_291 : decode cX12_isOwnHere 291 = .ok (.ifCond .eq 7, 3) := by decide +kernel
theorem dX12_isOwnHere_294 : decode cX12_isOwnHere 294 = .ok (.iconst 1, 1) := by decide +kernel
theorem dX12_isOwnHere_295 : decode cX12_isOwnHere 295 = .ok (.goto 4, 3) := by decide +kernel
theorem dX12_isOwnHere_298 : decode cX12_isOwnHere 298 = .ok (.iconst 0, 1) := by decide +kernel
theorem dX12_isOwnHere_299 : decode cX12_isOwnHere 299 = .ok (.istore_n 1, 1) := by decide +kernel
theorem dX12_isOwnHere_300 : decode cX12_isOwnHere 300 = .ok (.iload_n 1, 1) := by decide +kernel
theorem dX12_isOwnHere_301 : decode cX12_isOwnHere 301 = .ok (.ifCond .ne 69, 3) := by decide +kernel
theorem dX12_isOwnHere_304 : decode cX12_isOwnHere 304 = .ok (.aload_n 0, 1) := by decide +kernel
theorem dX12_isOwnHere_305 : decode cX12_isOwnHere 305 = .ok (.aload_n 0, 1) := by decide +kernel
theorem dX12_isOwnHere_306 : decode cX12_isOwnHere 306 = .ok (.getfield 93, 3) := by decide +kernel
theorem dX12_isOwnHere_309 : decode cX12_isOwnHere 309 = .ok (.invokevirtual 285, 3) := by decide +kernel
theorem dX12_isOwnHere_312 : decode cX12_isOwnHere 312 = .ok (.ifCond .ne 58, 3) := by decide +kernel
theorem dX12_isOwnHere_315 : decode cX12_isOwnHere 315 = .ok (.aload_n 0, 1) := by decide +kernel
theorem dX12_isOwnHere_316 : decode cX12_isOwnHere 316 = .ok (.aload_n 0, 1) := by decide +kernel
theorem dX12_isOwnHere_317 : decode cX12_isOwnHere 317 = .ok (.getfield 96, 3) := by decide +kernel
theorem dX12_isOwnHere_320 : decode cX12_isOwnHere 320 = .ok (.invokevirtual 285, 3) := by decide +kernel
theorem dX12_isOwnHere_323 : decode cX12_isOwnHere 323 = .ok (.ifCond .ne 47, 3) := by decide +kernel
theorem dX12_isOwnHere_326 : decode cX12_isOwnHere 326 = .ok (.aload_n 0, 1) := by decide +kernel
theorem dX12_isOwnHere_327 : decode cX12_isOwnHere 327 = .ok (.aload_n 0, 1) := by decide +kernel
theorem dX12_isOwnHere_328 : decode cX12_isOwnHere 328 = .ok (.getfield 99, 3) := by decide +kernel
theorem dX12_isOwnHere_331 : decode cX12_isOwnHere 331 = .ok (.invokevirtual 285, 3) := by decide +kernel
theorem dX12_isOwnHere_334 : decode cX12_isOwnHere 334 = .ok (.ifCond .ne 36, 3) := by decide +kernel
theorem dX12_isOwnHere_337 : decode cX12_isOwnHere 337 = .ok (.aload_n 0, 1) := by decide +kernel
theorem dX12_isOwnHere_338 : decode cX12_isOwnHere 338 = .ok (.aload_n 0, 1) := by decide +kernel
theorem dX12_isOwnHere_339 : decode cX12_isOwnHere 339 = .ok (.getfield 102, 3) := by decide +kernel
theorem dX12_isOwnHere_342 : decode cX12_isOwnHere 342 = .ok (.invokevirtual 285, 3) := by decide +kernel
theorem dX12_isOwnHere_345 : decode cX12_isOwnHere 345 = .ok (.ifCond .ne 25, 3) := by decide +kernel
theorem dX12_isOwnHere_348 : decode cX12_isOwnHere 348 = .ok (.aload_n 0, 1) := by decide +kernel
theorem dX12_isOwnHere_349 : decode cX12_isOwnHere 349 = .ok (.aload_n 0, 1) := by decide +kernel
theorem dX12_isOwnHere_350 : decode cX12_isOwnHere 350 = .ok (.getfield 105, 3) := by decide +kernel
theorem dX12_isOwnHere_353 : decode cX12_isOwnHere 353 = .ok (.invokevirtual 285, 3) := by decide +kernel
theorem dX12_isOwnHere_356 : decode cX12_isOwnHere 356 = .ok (.ifCond .ne 14, 3) := by decide +kernel
theorem dX12_isOwnHere_359 : decode cX12_isOwnHere 359 = .ok (.aload_n 0, 1) := by decide +kernel
theorem dX12_isOwnHere_360 : decode cX12_isOwnHere 360 = .ok (.aload_n 0, 1) := by decide +kernel
theorem dX12_isOwnHere_361 : decode cX12_isOwnHere 361 = .ok (.getfield 108, 3) := by decide +kernel
theorem dX12_isOwnHere_364 : decode cX12_isOwnHere 364 = .ok (.invokevirtual 285, 3) := by decide +kernel
theorem dX12_isOwnHere_367 : decode cX12_isOwnHere 367 = .ok (.ifCond .eq 7, 3) := by decide +kernel
theorem dX12_isOwnHere_370 : decode cX12_isOwnHere 370 = .ok (.iconst 1, 1) := by decide +kernel
theorem dX12_isOwnHere_371 : decode cX12_isOwnHere 371 = .ok (.goto 4, 3) := by decide +kernel
theorem dX12_isOwnHere_374 : decode cX12_isOwnHere 374 = .ok (.iconst 0, 1) := by decide +kernel
theorem dX12_isOwnHere_375 : decode cX12_isOwnHere 375 = .ok (.istore_n 1, 1) := by decide +kernel
theorem dX12_isOwnHere_376 : decode cX12_isOwnHere 376 = .ok (.iload_n 1, 1) := by decide +kernel
theorem dX12_isOwnHere_377 : decode cX12_isOwnHere 377 = .ok (.ifCond .ne 25, 3) := by decide +kernel
theorem dX12_isOwnHere_380 : decode cX12_isOwnHere 380 = .ok (.aload_n 0, 1) := by decide +kernel
theorem dX12_isOwnHere_381 : decode cX12_isOwnHere 381 = .ok (.aload_n 0, 1) := by decide +kernel
theorem dX12_isOwnHere_382 : decode cX12_isOwnHere 382 = .ok (.getfield 111, 3) := by decide +kernel
theorem dX12_isOwnHere_385 : decode cX12_isOwnHere 385 = .ok (.invokevirtual 285, 3) := by decide +kernel
theorem dX12_isOwnHere_388 : decode cX12_isOwnHere 388 = .ok (.ifCond .ne 14, 3) := by decide +kernel
theorem dX12_isOwnHere_391 : decode cX12_isOwnHere 391 = .ok (.aload_n 0, 1) := by decide +kernel
theorem dX12_isOwnHere_392 : decode cX12_isOwnHere 392 = .ok (.aload_n 0, 1) := by decide +kernel
theorem dX12_isOwnHere_393 : decode cX12_isOwnHere 393 = .ok (.getfield 114, 3) := by decide +kernel
theorem dX12_isOwnHere_396 : decode cX12_isOwnHere 396 = .ok (.invokevirtual 285, 3) := by decide +kernel
theorem dX12_isOwnHere_399 : decode cX12_isOwnHere 399 = .ok (.ifCond .eq 7, 3) := by decide +kernel
theorem dX12_isOwnHere_402 : decode cX12_isOwnHere 402 = .ok (.iconst 1, 1) := by decide +kernel
theorem dX12_isOwnHere_403 : decode cX12_isOwnHere 403 = .ok (.goto 4, 3) := by decide +kernel
theorem dX12_isOwnHere_406 : decode cX12_isOwnHere 406 = .ok (.iconst 0, 1) := by decide +kernel
theorem dX12_isOwnHere_407 : decode cX12_isOwnHere 407 = .ok (.istore_n 1, 1) := by decide +kernel
theorem dX12_isOwnHere_408 : decode cX12_isOwnHere 408 = .ok (.iload_n 1, 1) := by decide +kernel
theorem dX12_isOwnHere_409 : decode cX12_isOwnHere 409 = .ok (.ireturn, 1) := by decide +kernel
theorem dX12_name_0 : decode cX12_name 0 = .ok (.aload_n 0, 1) := by decide +kernel
theorem dX12_name_1 : decode cX12_name 1 = .ok (.getfield 262, 3) := by decide +kernel
theorem dX12_name_4 : decode cX12_name 4 = .ok (.ifCond .eq 5, 3) := by decide +kernel
theorem dX12_name_7 : decode cX12_name 7 = .ok (.lconst 0, 1) := by decide +kernel
theorem dX12_name_8 : decode cX12_name 8 = .ok (.lreturn, 1) := by decide +kernel
theorem dX12_name_9 : decode cX12_name 9 = .ok (.aload_n 0, 1) := by decide +kernel
theorem dX12_name_10 : decode cX12_name 10 = .ok (.invokevirtual 274, 3) := by decide +kernel
theorem dX12_name_13 : decode cX12_name 13 = .ok (.invokestatic 278, 3) := by decide +kernel
theorem dX12_name_16 : decode cX12_name 16 = .ok (.ifCond .eq 21, 3) := by decide +kernel
theorem dX12_name_19 : decode cX12_name 19 = .ok (.aload_n 0, 1) := by decide +kernel
theorem dX12_name_20 : decode cX12_name 20 = .ok (.getfield 268, 3) := by decide +kernel
theorem dX12_name_23 : decode cX12_name 23 = .ok (.aload_n 0, 1) := by decide +kernel
theorem dX12_name_24 : decode cX12_name 24 = .ok (.getfield 282, 3) := by decide +kernel
theorem dX12_name_27 : decode cX12_name 27 = .ok (.if_icmp .eq 10, 3) := by decide +kernel
theorem dX12_name_30 : decode cX12_name 30 = .ok (.aload_n 0, 1) := by decide +kernel
theorem dX12_name_31 : decode cX12_name 31 = .ok (.invokevirtual 309, 3) := by decide +kernel
theorem dX12_name_34 : decode cX12_name 34 = .ok (.ifCond .eq 14, 3) := by decide +kernel
theorem dX12_name_37 : decode cX12_name 37 = .ok (.aload_n 0, 1) := by decide +kernel
theorem dX12_name_38 : decode cX12_name 38 = .ok (.iconst 1, 1) := by decide +kernel
theorem dX12_name_39 : decode cX12_name 39 = .ok (.aload_n 0, 1) := by decide +kernel
theorem dX12_name_40 : decode cX12_name 40 = .ok (.getfield 268, 3) := by decide +kernel
theorem dX12_name_43 : decode cX12_name 43 = .ok (.invokevirtual 292, 3) := by decide +kernel
theorem dX12_name_46 : decode cX12_name 46 = .ok (.lconst 0, 1) := by decide +kernel
theorem dX12_name_47 : decode cX12_name 47 = .ok (.lreturn, 1) := by decide +kernel
theorem dX12_name_48 : decode cX12_name 48 = .ok (.aload_n 0, 1) := by decide +kernel
theorem dX12_name_49 : decode cX12_name 49 = .ok (.aload_n 0, 1) := by decide +kernel
theorem dX12_name_50 : decode cX12_name 50 = .ok (.getfield 268, 3) := by decide +kernel
theorem dX12_name_53 : decode cX12_name 53 = .ok (.putfield 313, 3) := by decide +kernel
theorem dX12_name_56 : decode cX12_name 56 = .ok (.lconst 0, 1) := by decide +kernel
theorem dX12_name_57 : decode cX12_name 57 = .ok (.lstore_n 1, 1) := by decide +kernel
theorem dX12_name_58 : decode cX12_name 58 = .ok (.aload_n 0, 1) := by decide +kernel
theorem dX12_name_59 : decode cX12_name 59 = .ok (.getfield 268, 3) := by decide +kernel
theorem dX12_name_62 : decode cX12_name 62 = .ok (.aload_n 0, 1) := by decide +kernel
theorem dX12_name_63 : decode cX12_name 63 = .ok (.getfield 271, 3) := by decide +kernel
theorem dX12_name_66 : decode cX12_name 66 = .ok (.if_icmp .ge 79, 3) := by decide +kernel
theorem dX12_name_69 : decode cX12_name 69 = .ok (.aload_n 0, 1) := by decide +kernel
theorem dX12_name_70 : decode cX12_name 70 = .ok (.getfield 7, 3) := by decide +kernel
theorem dX12_name_73 : decode cX12_name 73 = .ok (.aload_n 0, 1) := by decide +kernel
theorem dX12_name_74 : decode cX12_name 74 = .ok (.getfield 268, 3) := by decide +kernel
theorem dX12_name_77 : decode cX12_name 77 = .ok (.iaload, 1) := by decide +kernel
theorem dX12_name_78 : decode cX12_name 78 = .ok (.invokestatic 278, 3) := by decide +kernel
theorem dX12_name_81 : decode cX12_name 81 = .ok (.ifCond .eq 64, 3) := by decide +kernel
theorem dX12_name_84 : decode cX12_name 84 = .ok (.aload_n 0, 1) := by decide +kernel
theorem dX12_name_85 : decode cX12_name 85 = .ok (.getfield 268, 3) := by decide +kernel
theorem dX12_name_88 : decode cX12_name 88 = .ok (.aload_n 0, 1) := by decide +kernel
theorem dX12_name_89 : decode cX12_name 89 = .ok (.getfield 313, 3) := by decide +kernel
theorem dX12_name_92 : decode cX12_name 92 = .ok (.isub, 1) := by decide +kernel
theorem dX12_name_93 : decode cX12_name 93 = .ok (.bipush 6, 2) := by decide +kernel
theorem dX12_name_95 : decode cX12_name 95 = .ok (.if_icmp .ne 14, 3) := by decide +kernel
theorem dX12_name_98 : decode cX12_name 98 = .ok (.aload_n 0, 1) := by decide +kernel
theorem dX12_name_99 : decode cX12_name 99 = .ok (.iconst 1, 1) := by decide +kernel
theorem dX12_name_100 : decode cX12_name 100 = .ok (.aload_n 0, 1) := by decide +kernel
theorem dX12_name_101 : decode cX12_name 101 = .ok (.getfield 268, 3) := by decide +kernel
theorem dX12_name_104 : decode cX12_name 104 = .ok (.invokevirtual 292, 3) := by decide +kernel
theorem dX12_name_107 : decode cX12_name 107 = .ok (.lconst 0, 1) := by decide +kernel
theorem dX12_name_108 : decode cX12_name 108 = .ok (.lreturn, 1) := by decide +kernel
theorem dX12_name_109 : decode cX12_name 109 = .ok (.ldc2_w 316, 3) := by decide +kernel
theorem dX12_name_112 : decode cX12_name 112 = .ok (.lload_n 1, 1) := by decide +kernel
theorem dX12_name_113 : decode cX12_name 113 = .ok (.lmul, 1) := by decide +kernel
theorem dX12_name_114 : decode cX12_name 114 = .ok (.aload_n 0, 1) := by decide +kernel
theorem dX12_name_115 : decode cX12_name 115 = .ok (.getfield 7, 3) := by decide +kernel
theorem dX12_name_118 : decode cX12_name 118 = .ok (.aload_n 0, 1) := by decide +kernel
theorem dX12_name_119 : decode cX12_name 119 = .ok (.getfield 268, 3) := by decide +kernel
theorem dX12_name_122 : decode cX12_name 122 = .ok (.iaload, 1) := by decide +kernel
theorem dX12_name_123 : decode cX12_name 123 = .ok (.i2l, 1) := by decide +kernel
theorem dX12_name_124 : decode cX12_name 124 = .ok (.ladd, 1) := by decide +kernel
theorem dX12_name_125 : decode cX12_name 125 = .ok (.ldc2_w 318, 3) := by decide +kernel
theorem dX12_name_128 : decode cX12_name 128 = .ok (.lsub, 1) := by decide +kernel
theorem dX12_name_129 : decode cX12_name 129 = .ok (.lconst 1, 1) := by decide +kernel
theorem dX12_name_130 : decode cX12_name 130 = .ok (.ladd, 1) := by decide +kernel
theorem dX12_name_131 : decode cX12_name 131 = .ok (.lstore_n 1, 1) := by decide +kernel
theorem dX12_name_132 : decode cX12_name 132 = .ok (.aload_n 0, 1) := by decide +kernel
theorem dX12_name_133 : decode cX12_name 133 = .ok (.dup, 1) := by decide +kernel
theorem dX12_name_134 : decode cX12_name 134 = .ok (.getfield 268, 3) := by decide +kernel
theorem dX12_name_137 : decode cX12_name 137 = .ok (.iconst 1, 1) := by decide +kernel
theorem dX12_name_138 : decode cX12_name 138 = .ok (.iadd, 1) := by decide +kernel
theorem dX12_name_139 : decode cX12_name 139 = .ok (.putfield 268, 3) := by decide +kernel
theorem dX12_name_142 : decode cX12_name 142 = .ok (.goto (-84), 3) := by decide +kernel
theorem dX12_name_145 : decode cX12_name 145 = .ok (.aload_n 0, 1) := by decide +kernel
theorem dX12_name_146 : decode cX12_name 146 = .ok (.aload_n 0, 1) := by decide +kernel
theorem dX12_name_147 : decode cX12_name 147 = .ok (.getfield 268, 3) := by decide +kernel
theorem dX12_name_150 : decode cX12_name 150 = .ok (.putfield 282, 3) := by decide +kernel
theorem dX12_name_153 : decode cX12_name 153 = .ok (.lload_n 1, 1) := by decide +kernel
theorem dX12_name_154 : decode cX12_name 154 = .ok (.lreturn, 1) := by decide +kernel
theorem dX12_isAllowed_0 : decode cX12_isAllowed 0 = .ok (.aload_n 0, 1) := by decide +kernel
theorem dX12_isAllowed_1 : decode cX12_isAllowed 1 = .ok (.getfield 320, 3) := by decide +kernel
theorem dX12_isAllowed_4 : decode cX12_isAllowed 4 = .ok (.tableswitch 87 0 2 #[28, 39, 63], 28) := by decide +kernel
theorem dX12_isAllowed_32 : decode cX12_isAllowed 32 = .ok (.iload_n 1, 1) := by decide +kernel
theorem dX12_isAllowed_33 : decode cX12_isAllowed 33 = .ok (.iconst 2, 1) := by decide +kernel
theorem dX12_isAllowed_34 : decode cX12_isAllowed 34 = .ok (.if_icmp .ge 7, 3) := by decide +kernel
theorem dX12_isAllowed_37 : decode cX12_isAllowed 37 = .ok (.iconst 1, 1) := by decide +kernel
theorem dX12_isAllowed_38 : decode cX12_isAllowed 38 = .ok (.goto 4, 3) := by decide +kernel
theorem dX12_isAllowed_41 : decode cX12_isAllowed 41 = .ok (.iconst 0, 1) := by decide +kernel
theorem dX12_isAllowed_42 : decode cX12_isAllowed 42 = .ok (.ireturn, 1) := by decide +kernel
theorem dX12_isAllowed_43 : decode cX12_isAllowed 43 = .ok (.iload_n 1, 1) := by decide +kernel
theorem dX12_isAllowed_44 : decode cX12_isAllowed 44 = .ok (.ifCond .eq 17, 3) := by decide +kernel
theorem dX12_isAllowed_47 : decode cX12_isAllowed 47 = .ok (.iload_n 1, 1) := by decide +kernel
theorem dX12_isAllowed_48 : decode cX12_isAllowed 48 = .ok (.i2l, 1) := by decide +kernel
theorem dX12_isAllowed_49 : decode cX12_isAllowed 49 = .ok (.ldc2_w 323, 3) := by decide +kernel
theorem dX12_isAllowed_52 : decode cX12_isAllowed 52 = .ok (.ldc2_w 325, 3) := by decide +kernel
theorem dX12_isAllowed_55 : decode cX12_isAllowed 55 = .ok (.invokestatic 305, 3) := by decide +kernel
theorem dX12_isAllowed_58 : decode cX12_isAllowed 58 = .ok (.ifCond .eq 7, 3) := by decide +kernel
theorem dX12_isAllowed_61 : decode cX12_isAllowed 61 = .ok (.iconst 1, 1) := by decide +kernel
theorem dX12_isAllowed_62 : decode cX12_isAllowed 62 = .ok (.goto 4, 3) := by decide +kernel
theorem dX12_isAllowed_65 : decode cX12_isAllowed 65 = .ok (.iconst 0, 1) := by decide +kernel
theorem dX12_isAllowed_66 : decode cX12_isAllowed 66 = .ok (.ireturn, 1) := by decide +kernel
theorem dX12_isAllowed_67 : decode cX12_isAllowed 67 = .ok (.iload_n 1, 1) := by decide +kernel
theorem dX12_isAllowed_68 : decode cX12_isAllowed 68 = .ok (.ifCond .eq 17, 3) := by decide +kernel
theorem dX12_isAllowed_71 : decode cX12_isAllowed 71 = .ok (.iload_n 1, 1) := by decide +kernel
theorem dX12_isAllowed_72 : decode cX12_isAllowed 72 = .ok (.i2l, 1) := by decide +kernel
theorem dX12_isAllowed_73 : decode cX12_isAllowed 73 = .ok (.ldc2_w 323, 3) := by decide +kernel
theorem dX12_isAllowed_76 : decode cX12_isAllowed 76 = .ok (.ldc2_w 327, 3) := by decide +kernel
theorem dX12_isAllowed_79 : decode cX12_isAllowed 79 = .ok (.invokestatic 305, 3) := by decide +kernel
theorem dX12_isAllowed_82 : decode cX12_isAllowed 82 = .ok (.ifCond .eq 7, 3) := by decide +kernel
theorem dX12_isAllowed_85 : decode cX12_isAllowed 85 = .ok (.iconst 1, 1) := by decide +kernel
theorem dX12_isAllowed_86 : decode cX12_isAllowed 86 = .ok (.goto 4, 3) := by decide +kernel
theorem dX12_isAllowed_89 : decode cX12_isAllowed 89 = .ok (.iconst 0, 1) := by decide +kernel
theorem dX12_isAllowed_90 : decode cX12_isAllowed 90 = .ok (.ireturn, 1) := by decide +kernel
theorem dX12_isAllowed_91 : decode cX12_isAllowed 91 = .ok (.iconst 1, 1) := by decide +kernel
theorem dX12_isAllowed_92 : decode cX12_isAllowed 92 = .ok (.ireturn, 1) := by decide +kernel
theorem dX12_isFull_0 : decode cX12_isFull 0 = .ok (.aload_n 0, 1) := by decide +kernel
theorem dX12_isFull_1 : decode cX12_isFull 1 = .ok (.getfield 262, 3) := by decide +kernel
theorem dX12_isFull_4 : decode cX12_isFull 4 = .ok (.ifCond .ne 19, 3) := by decide +kernel
theorem dX12_isFull_7 : decode cX12_isFull 7 = .ok (.aload_n 0, 1) := by decide +kernel
theorem dX12_isFull_8 : decode cX12_isFull 8 = .ok (.getfield 117, 3) := by decide +kernel
theorem dX12_isFull_11 : decode cX12_isFull 11 = .ok (.iload_n 1, 1) := by decide +kernel
theorem dX12_isFull_12 : decode cX12_isFull 12 = .ok (.iaload, 1) := by decide +kernel
theorem dX12_isFull_13 : decode cX12_isFull 13 = .ok (.iload_n 2, 1) := by decide +kernel
theorem dX12_isFull_14 : decode cX12_isFull 14 = .ok (.if_icmp .ne 9, 3) := by decide +kernel
theorem dX12_isFull_17 : decode cX12_isFull 17 = .ok (.aload_n 0, 1) := by decide +kernel
theorem dX12_isFull_18 : decode cX12_isFull 18 = .ok (.iconst 5, 1) := by decide +kernel
theorem dX12_isFull_19 : decode cX12_isFull 19 = .ok (.iload_n 3, 1) := by decide +kernel
theorem dX12_isFull_20 : decode cX12_isFull 20 = .ok (.invokevirtual 292, 3) := by decide +kernel
theorem dX12_isFull_23 : decode cX12_isFull 23 = .ok (.aload_n 0, 1) := by decide +kernel
theorem dX12_isFull_24 : decode cX12_isFull 24 = .ok (.getfield 262, 3) := by decide +kernel
theorem dX12_isFull_27 : decode cX12_isFull 27 = .ok (.ifCond .eq 7, 3) := by decide +kernel
theorem dX12_isFull_30 : decode cX12_isFull 30 = .ok (.iconst 1, 1) := by decide +kernel
theorem dX12_isFull_31 : decode cX12_isFull 31 = .ok (.goto 4, 3) := by decide +kernel
theorem dX12_isFull_34 : decode cX12_isFull 34 = .ok (.iconst 0, 1) := by decide +kernel
theorem dX12_isFull_35 : decode cX12_isFull 35 = .ok (.ireturn, 1) := by decide +kernel
theorem dX12_streetTold_0 : decode cX12_streetTold 0 = .ok (.aload_n 0, 1) := by decide +kernel
theorem dX12_streetTold_1 : decode cX12_streetTold 1 = .ok (.aload_n 0, 1) := by decide +kernel
theorem dX12_streetTold_2 : decode cX12_streetTold 2 = .ok (.getfield 20, 3) := by decide +kernel
theorem dX12_streetTold_5 : decode cX12_streetTold 5 = .ok (.invokevirtual 329, 3) := by decide +kernel
theorem dX12_streetTold_8 : decode cX12_streetTold 8 = .ok (.aload_n 0, 1) := by decide +kernel
theorem dX12_streetTold_9 : decode cX12_streetTold 9 = .ok (.getfield 117, 3) := by decide +kernel
theorem dX12_streetTold_12 : decode cX12_streetTold 12 = .ok (.iconst 0, 1) := by decide +kernel
theorem dX12_streetTold_13 : decode cX12_streetTold 13 = .ok (.aload_n 0, 1) := by decide +kernel
theorem dX12_streetTold_14 : decode cX12_streetTold 14 = .ok (.iconst 2, 1) := by decide +kernel
theorem dX12_streetTold_15 : decode cX12_streetTold 15 = .ok (.bipush 30, 2) := by decide +kernel
theorem dX12_streetTold_17 : decode cX12_streetTold 17 = .ok (.invokevirtual 333, 3) := by decide +kernel
theorem dX12_streetTold_20 : decode cX12_streetTold 20 = .ok (.iastore, 1) := by decide +kernel
theorem dX12_streetTold_21 : decode cX12_streetTold 21 = .ok (.aload_n 0, 1) := by decide +kernel
theorem dX12_streetTold_22 : decode cX12_streetTold 22 = .ok (.bipush 59, 2) := by decide +kernel
theorem dX12_streetTold_24 : decode cX12_streetTold 24 = .ok (.invokevirtual 337, 3) := by decide +kernel
theorem dX12_streetTold_27 : decode cX12_streetTold 27 = .ok (.return_, 1) := by decide +kernel
theorem dX12_newName_0 : decode cX12_newName 0 = .ok (.aload_n 0, 1) := by decide +kernel
theorem dX12_newName_1 : decode cX12_newName 1 = .ok (.invokevirtual 341, 3) := by decide +kernel
theorem dX12_newName_4 : decode cX12_newName 4 = .ok (.lstore_n 1, 1) := by decide +kernel
theorem dX12_newName_5 : decode cX12_newName 5 = .ok (.iconst 0, 1) := by decide +kernel
theorem dX12_newName_6 : decode cX12_newName 6 = .ok (.istore_n 3, 1) := by decide +kernel
theorem dX12_newName_7 : decode cX12_newName 7 = .ok (.iload_n 3, 1) := by decide +kernel
theorem dX12_newName_8 : decode cX12_newName 8 = .ok (.iconst 2, 1) := by decide +kernel
theorem dX12_newName_9 : decode cX12_newName 9 = .ok (.if_icmp .ge 64, 3) := by decide +kernel
theorem dX12_newName_12 : decode cX12_newName 12 = .ok (.iconst 0, 1) := by decide +kernel
theorem dX12_newName_13 : decode cX12_newName 13 = .ok (.istore 4, 2) := by decide +kernel
theorem dX12_newName_15 : decode cX12_newName 15 = .ok (.iload 4, 2) := by decide +kernel
theorem dX12_newName_17 : decode cX12_newName 17 = .ok (.aload_n 0, 1) := by decide +kernel
theorem dX12_newName_18 : decode cX12_newName 18 = .ok (.getfield 117, 3) := by decide +kernel
theorem dX12_newName_21 : decode cX12_newName 21 = .ok (.iconst 1, 1) := by decide +kernel
theorem dX12_newName_22 : decode cX12_newName 22 = .ok (.iload_n 3, 1) := by decide +kernel
theorem dX12_newName_23 : decode cX12_newName 23 = .ok (.iadd, 1) := by decide +kernel
theorem dX12_newName_24 : decode cX12_newName 24 = .ok (.iaload, 1) := by decide +kernel
theorem dX12_newName_25 : decode cX12_newName 25 = .ok (.if_icmp .ge 42, 3) := by decide +kernel
theorem dX12_newName_28 : decode cX12_newName 28 = .ok (.aload_n 0, 1) := by decide +kernel
theorem dX12_newName_29 : decode cX12_newName 29 = .ok (.getfield 262, 3) := by decide +kernel
theorem dX12_newName_32 : decode cX12_newName 32 = .ok (.ifCond .ne 29, 3) := by decide +kernel
theorem dX12_newName_35 : decode cX12_newName 35 = .ok (.aload_n 0, 1) := by decide +kernel
theorem dX12_newName_36 : decode cX12_newName 36 = .ok (.getfield 120, 3) := by decide +kernel
theorem dX12_newName_39 : decode cX12_newName 39 = .ok (.bipush 8, 2) := by decide +kernel
theorem dX12_newName_41 : decode cX12_newName 41 = .ok (.iload_n 3, 1) := by decide +kernel
theorem dX12_newName_42 : decode cX12_newName 42 = .ok (.imul, 1) := by decide +kernel
theorem dX12_newName_43 : decode cX12_newName 43 = .ok (.iload 4, 2) := by decide +kernel
theorem dX12_newName_45 : decode cX12_newName 45 = .ok (.iadd, 1) := by decide +kernel
theorem dX12_newName_46 : decode cX12_newName 46 = .ok (.laload, 1) := by decide +kernel
theorem dX12_newName_47 : decode cX12_newName 47 = .ok (.lload_n 1, 1) := by decide +kernel
theorem dX12_newName_48 : decode cX12_newName 48 = .ok (.lcmp, 1) := by decide +kernel
theorem dX12_newName_49 : decode cX12_newName 49 = .ok (.ifCond .ne 12, 3) := by decide +kernel
theorem dX12_newName_52 : decode cX12_newName 52 = .ok (.aload_n 0, 1) := by decide +kernel
theorem dX12_newName_53 : decode cX12_newName 53 = .ok (.iconst 3, 1) := by decide +kernel
theorem dX12_newName_54 : decode cX12_newName 54 = .ok (.aload_n 0, 1) := by decide +kernel
theorem dX12_newName_55 : decode cX12_newName 55 = .ok (.getfield 313, 3) := by decide +kernel
theorem dX12_newName_58 : decode cX12_newName 58 = .ok (.invokevirtual 292, 3) := by decide +kernel
theorem dX12_newName_61 : decode cX12_newName 61 = .ok (.iinc 4 1, 3) := by decide +kernel
theorem dX12_newName_64 : decode cX12_newName 64 = .ok (.goto (-49), 3) := by decide +kernel
theorem dX12_newName_67 : decode cX12_newName 67 = .ok (.iinc 3 1, 3) := by decide +kernel
theorem dX12_newName_70 : decode cX12_newName 70 = .ok (.goto (-63), 3) := by decide +kernel
theorem dX12_newName_73 : decode cX12_newName 73 = .ok (.lload_n 1, 1) := by decide +kernel
theorem dX12_newName_74 : decode cX12_newName 74 = .ok (.lreturn, 1) := by decide +kernel
theorem dX12_named_0 : decode cX12_named 0 = .ok (.aload_n 0, 1) := by decide +kernel
theorem dX12_named_1 : decode cX12_named 1 = .ok (.invokevirtual 341, 3) := by decide +kernel
theorem dX12_named_4 : decode cX12_named 4 = .ok (.lstore_n 2, 1) := by decide +kernel
theorem dX12_named_5 : decode cX12_named 5 = .ok (.iconst 0, 1) := by decide +kernel
theorem dX12_named_6 : decode cX12_named 6 = .ok (.istore 4, 2) := by decide +kernel
theorem dX12_named_8 : decode cX12_named 8 = .ok (.iload 4, 2) := by decide +kernel
theorem dX12_named_10 : decode cX12_named 10 = .ok (.aload_n 0, 1) := by decide +kernel
theorem dX12_named_11 : decode cX12_named 11 = .ok (.getfield 117, 3) := by decide +kernel
theorem dX12_named_14 : decode cX12_named 14 = .ok (.iconst 1, 1) := by decide +kernel
theorem dX12_named_15 : decode cX12_named 15 = .ok (.iload_n 1, 1) := by decide +kernel
theorem dX12_named_16 : decode cX12_named 16 = .ok (.iadd, 1) := by decide +kernel
theorem dX12_named_17 : decode cX12_named 17 = .ok (.iaload, 1) := by decide +kernel
theorem dX12_named_18 : decode cX12_named 18 = .ok (.if_icmp .ge 29, 3) := by decide +kernel
theorem dX12_named_21 : decode cX12_named 21 = .ok (.aload_n 0, 1) := by decide +kernel
theorem dX12_named_22 : decode cX12_named 22 = .ok (.getfield 120, 3) := by decide +kernel
theorem dX12_named_25 : decode cX12_named 25 = .ok (.bipush 8, 2) := by decide +kernel
theorem dX12_named_27 : decode cX12_named 27 = .ok (.iload_n 1, 1) := by decide +kernel
theorem dX12_named_28 : decode cX12_named 28 = .ok (.imul, 1) := by decide +kernel
theorem dX12_named_29 : decode cX12_named 29 = .ok (.iload 4, 2) := by decide +kernel
theorem dX12_named_31 : decode cX12_named 31 = .ok (.iadd, 1) := by decide +kernel
theorem dX12_named_32 : decode cX12_named 32 = .ok (.laload, 1) := by decide +kernel
theorem dX12_named_33 : decode cX12_named 33 = .ok (.lload_n 2, 1) := by decide +kernel
theorem dX12_named_34 : decode cX12_named 34 = .ok (.lcmp, 1) := by decide +kernel
theorem dX12_named_35 : decode cX12_named 35 = .ok (.ifCond .ne 6, 3) := by decide +kernel
theorem dX12_named_38 : decode cX12_named 38 = .ok (.iload 4, 2) := by decide +kernel
theorem dX12_named_40 : decode cX12_named 40 = .ok (.ireturn, 1) := by decide +kernel
theorem dX12_named_41 : decode cX12_named 41 = .ok (.iinc 4 1, 3) := by decide +kernel
theorem dX12_named_44 : decode cX12_named 44 = .ok (.goto (-36), 3) := by decide +kernel
theorem dX12_named_47 : decode cX12_named 47 = .ok (.aload_n 0, 1) := by decide +kernel
theorem dX12_named_48 : decode cX12_named 48 = .ok (.getfield 262, 3) := by decide +kernel
theorem dX12_named_51 : decode cX12_named 51 = .ok (.ifCond .ne 12, 3) := by decide +kernel
theorem dX12_named_54 : decode cX12_named 54 = .ok (.aload_n 0, 1) := by decide +kernel
theorem dX12_named_55 : decode cX12_named 55 = .ok (.iconst 3, 1) := by decide +kernel
theorem dX12_named_56 : decode cX12_named 56 = .ok (.aload_n 0, 1) := by decide +kernel
theorem dX12_named_57 : decode cX12_named 57 = .ok (.getfield 313, 3) := by decide +kernel
theorem dX12_named_60 : decode cX12_named 60 = .ok (.invokevirtual 292, 3) := by decide +kernel
theorem dX12_named_63 : decode cX12_named 63 = .ok (.iconst 0, 1) := by decide +kernel
theorem dX12_named_64 : decode cX12_named 64 = .ok (.ireturn, 1) := by decide +kernel
theorem dX12_personTold_0 : decode cX12_personTold 0 = .ok (.aload_n 0, 1) := by decide +kernel
theorem dX12_personTold_1 : decode cX12_personTold 1 = .ok (.iconst 1, 1) := by decide +kernel
theorem dX12_personTold_2 : decode cX12_personTold 2 = .ok (.bipush 6, 2) := by decide +kernel
theorem dX12_personTold_4 : decode cX12_personTold 4 = .ok (.iload_n 1, 1) := by decide +kernel
theorem dX12_personTold_5 : decode cX12_personTold 5 = .ok (.invokevirtual 345, 3) := by decide +kernel
theorem dX12_personTold_8 : decode cX12_personTold 8 = .ok (.ifCond .eq 4, 3) := by decide +kernel
theorem dX12_personTold_11 : decode cX12_personTold 11 = .ok (.return_, 1) := by decide +kernel
theorem dX12_personTold_12 : decode cX12_personTold 12 = .ok (.aload_n 0, 1) := by decide +kernel
theorem dX12_personTold_13 : decode cX12_personTold 13 = .ok (.invokevirtual 349, 3) := by decide +kernel
theorem dX12_personTold_16 : decode cX12_personTold 16 = .ok (.lstore_n 2, 1) := by decide +kernel
theorem dX12_personTold_17 : decode cX12_personTold 17 = .ok (.aload_n 0, 1) := by decide +kernel
theorem dX12_personTold_18 : decode cX12_personTold 18 = .ok (.aload_n 0, 1) := by decide +kernel
theorem dX12_personTold_19 : decode cX12_personTold 19 = .ok (.getfield 27, 3) := by decide +kernel
theorem dX12_personTold_22 : decode cX12_personTold 22 = .ok (.invokevirtual 329, 3) := by decide +kernel
theorem dX12_personTold_25 : decode cX12_personTold 25 = .ok (.aload_n 0, 1) := by decide +kernel
theorem dX12_personTold_26 : decode cX12_personTold 26 = .ok (.iconst 0, 1) := by decide +kernel
theorem dX12_personTold_27 : decode cX12_personTold 27 = .ok (.aload_n 0, 1) := by decide +kernel
theorem dX12_personTold_28 : decode cX12_personTold 28 = .ok (.getfield 117, 3) := by decide +kernel
theorem dX12_personTold_31 : decode cX12_personTold 31 = .ok (.iconst 0, 1) := by decide +kernel
theorem dX12_personTold_32 : decode cX12_personTold 32 = .ok (.iaload, 1) := by decide +kernel
theorem dX12_personTold_33 : decode cX12_personTold 33 = .ok (.iconst 1, 1) := by decide +kernel
theorem dX12_personTold_34 : decode cX12_personTold 34 = .ok (.isub, 1) := by decide +kernel
theorem dX12_personTold_35 : decode cX12_personTold 35 = .ok (.invokevirtual 333, 3) := by decide +kernel
theorem dX12_personTold_38 : decode cX12_personTold 38 = .ok (.istore 4, 2) := by decide +kernel
theorem dX12_personTold_40 : decode cX12_personTold 40 = .ok (.aload_n 0, 1) := by decide +kernel
theorem dX12_personTold_41 : decode cX12_personTold 41 = .ok (.aload_n 0, 1) := by decide +kernel
theorem dX12_personTold_42 : decode cX12_personTold 42 = .ok (.getfield 30, 3) := by decide +kernel
theorem dX12_personTold_45 : decode cX12_personTold 45 = .ok (.invokevirtual 329, 3) := by decide +kernel
theorem dX12_personTold_48 : decode cX12_personTold 48 = .ok (.aload_n 0, 1) := by decide +kernel
theorem dX12_personTold_49 : decode cX12_personTold 49 = .ok (.iconst 0, 1) := by decide +kernel
theorem dX12_personTold_50 : decode cX12_personTold 50 = .ok (.bipush 9, 2) := by decide +kernel
theorem dX12_personTold_52 : decode cX12_personTold 52 = .ok (.invokevirtual 333, 3) := by decide +kernel
theorem dX12_personTold_55 : decode cX12_personTold 55 = .ok (.istore 5, 2) := by decide +kernel
theorem dX12_personTold_57 : decode cX12_personTold 57 = .ok (.aload_n 0, 1) := by decide +kernel
theorem dX12_personTold_58 : decode cX12_personTold 58 = .ok (.getfield 262, 3) := by decide +kernel
theorem dX12_personTold_61 : decode cX12_personTold 61 = .ok (.ifCond .eq 4, 3) := by decide +kernel
theorem dX12_personTold_64 : decode cX12_personTold 64 = .ok (.return_, 1) := by decide +kernel
theorem dX12_personTold_65 : decode cX12_personTold 65 = .ok (.aload_n 0, 1) := by decide +kernel
theorem dX12_personTold_66 : decode cX12_personTold 66 = .ok (.getfield 117, 3) := by decide +kernel
theorem dX12_personTold_69 : decode cX12_personTold 69 = .ok (.iconst 1, 1) := by decide +kernel
theorem dX12_personTold_70 : decode cX12_personTold 70 = .ok (.iaload, 1) := by decide +kernel
theorem dX12_personTold_71 : decode cX12_personTold 71 = .ok (.istore 6, 2) := by decide +kernel
theorem dX12_personTold_73 : decode cX12_personTold 73 = .ok (.aload_n 0, 1) := by decide +kernel
theorem dX12_personTold_74 : decode cX12_personTold 74 = .ok (.getfield 120, 3) := by decide +kernel
theorem dX12_personTold_77 : decode cX12_personTold 77 = .ok (.iload 6, 2) := by decide +kernel
theorem dX12_personTold_79 : decode cX12_personTold 79 = .ok (.lload_n 2, 1) := by decide +kernel
theorem dX12_personTold_80 : decode cX12_personTold 80 = .ok (.lastore, 1) := by decide +kernel
theorem dX12_personTold_81 : decode cX12_personTold 81 = .ok (.aload_n 0, 1) := by decide +kernel
theorem dX12_personTold_82 : decode cX12_personTold 82 = .ok (.getfield 124, 3) := by decide +kernel
theorem dX12_personTold_85 : decode cX12_personTold 85 = .ok (.iconst 2, 1) := by decide +kernel
theorem dX12_personTold_86 : decode cX12_personTold 86 = .ok (.iload 6, 2) := by decide +kernel
theorem dX12_personTold_88 : decode cX12_personTold 88 = .ok (.imul, 1) := by decide +kernel
theorem dX12_personTold_89 : decode cX12_personTold 89 = .ok (.iload 4, 2) := by decide +kernel
theorem dX12_personTold_91 : decode cX12_personTold 91 = .ok (.iastore, 1) := by decide +kernel
theorem dX12_personTold_92 : decode cX12_personTold 92 = .ok (.aload_n 0, 1) := by decide +kernel
theorem dX12_personTold_93 : decode cX12_personTold 93 = .ok (.getfield 124, 3) := by decide +kernel
theorem dX12_personTold_96 : decode cX12_personTold 96 = .ok (.iconst 2, 1) := by decide +kernel
theorem dX12_personTold_97 : decode cX12_personTold 97 = .ok (.iload 6, 2) := by decide +kernel
theorem dX12_personTold_99 : decode cX12_personTold 99 = .ok (.imul, 1) := by decide +kernel
theorem dX12_personTold_100 : decode cX12_personTold 100 = .ok (.iconst 1, 1) := by decide +kernel
theorem dX12_personTold_101 : decode cX12_personTold 101 = .ok (.iadd, 1) := by decide +kernel
theorem dX12_personTold_102 : decode cX12_personTold 102 = .ok (.iload 5, 2) := by decide +kernel
theorem dX12_personTold_104 : decode cX12_personTold 104 = .ok (.iastore, 1) := by decide +kernel
theorem dX12_personTold_105 : decode cX12_personTold 105 = .ok (.aload_n 0, 1) := by decide +kernel
theorem dX12_personTold_106 : decode cX12_personTold 106 = .ok (.getfield 117, 3) := by decide +kernel
theorem dX12_personTold_109 : decode cX12_personTold 109 = .ok (.iconst 1, 1) := by decide +kernel
theorem dX12_personTold_110 : decode cX12_personTold 110 = .ok (.dup2, 1) := by decide +kernel
theorem dX12_personTold_111 : decode cX12_personTold 111 = .ok (.iaload, 1) := by decide +kernel
theorem dX12_personTold_112 : decode cX12_personTold 112 = .ok (.iconst 1, 1) := by decide +kernel
theorem dX12_personTold_113 : decode cX12_personTold 113 = .ok (.iadd, 1) := by decide +kernel
theorem dX12_personTold_114 : decode cX12_personTold 114 = .ok (.iastore, 1) := by decide +kernel
theorem dX12_personTold_115 : decode cX12_personTold 115 = .ok (.return_, 1) := by decide +kernel
theorem dX12_lieTold_0 : decode cX12_lieTold 0 = .ok (.aload_n 0, 1) := by decide +kernel
theorem dX12_lieTold_1 : decode cX12_lieTold 1 = .ok (.iconst 2, 1) := by decide +kernel
theorem dX12_lieTold_2 : decode cX12_lieTold 2 = .ok (.bipush 8, 2) := by decide +kernel
theorem dX12_lieTold_4 : decode cX12_lieTold 4 = .ok (.iload_n 1, 1) := by decide +kernel
theorem dX12_lieTold_5 : decode cX12_lieTold 5 = .ok (.invokevirtual 345, 3) := by decide +kernel
theorem dX12_lieTold_8 : decode cX12_lieTold 8 = .ok (.ifCond .eq 4, 3) := by decide +kernel
theorem dX12_lieTold_11 : decode cX12_lieTold 11 = .ok (.return_, 1) := by decide +kernel
theorem dX12_lieTold_12 : decode cX12_lieTold 12 = .ok (.aload_n 0, 1) := by decide +kernel
theorem dX12_lieTold_13 : decode cX12_lieTold 13 = .ok (.invokevirtual 349, 3) := by decide +kernel
theorem dX12_lieTold_16 : decode cX12_lieTold 16 = .ok (.lstore_n 2, 1) := by decide +kernel
theorem dX12_lieTold_17 : decode cX12_lieTold 17 = .ok (.aload_n 0, 1) := by decide +kernel
theorem dX12_lieTold_18 : decode cX12_lieTold 18 = .ok (.aload_n 0, 1) := by decide +kernel
theorem dX12_lieTold_19 : decode cX12_lieTold 19 = .ok (.getfield 36, 3) := by decide +kernel
theorem dX12_lieTold_22 : decode cX12_lieTold 22 = .ok (.invokevirtual 329, 3) := by decide +kernel
theorem dX12_lieTold_25 : decode cX12_lieTold 25 = .ok (.aload_n 0, 1) := by decide +kernel
theorem dX12_lieTold_26 : decode cX12_lieTold 26 = .ok (.iconst 0, 1) := by decide +kernel
theorem dX12_lieTold_27 : decode cX12_lieTold 27 = .ok (.invokevirtual 352, 3) := by decide +kernel
theorem dX12_lieTold_30 : decode cX12_lieTold 30 = .ok (.istore 4, 2) := by decide +kernel
theorem dX12_lieTold_32 : decode cX12_lieTold 32 = .ok (.aload_n 0, 1) := by decide +kernel
theorem dX12_lieTold_33 : decode cX12_lieTold 33 = .ok (.getfield 262, 3) := by decide +kernel
theorem dX12_lieTold_36 : decode cX12_lieTold 36 = .ok (.ifCond .eq 4, 3) := by decide +kernel
theorem dX12_lieTold_39 : decode cX12_lieTold 39 = .ok (.return_, 1) := by decide +kernel
theorem dX12_lieTold_40 : decode cX12_lieTold 40 = .ok (.aload_n 0, 1) := by decide +kernel
theorem dX12_lieTold_41 : decode cX12_lieTold 41 = .ok (.getfield 117, 3) := by decide +kernel
theorem dX12_lieTold_44 : decode cX12_lieTold 44 = .ok (.iconst 2, 1) := by decide +kernel
theorem dX12_lieTold_45 : decode cX12_lieTold 45 = .ok (.iaload, 1) := by decide +kernel
theorem dX12_lieTold_46 : decode cX12_lieTold 46 = .ok (.istore 5, 2) := by decide +kernel
theorem dX12_lieTold_48 : decode cX12_lieTold 48 = .ok (.aload_n 0, 1) := by decide +kernel
theorem dX12_lieTold_49 : decode cX12_lieTold 49 = .ok (.getfield 120, 3) := by decide +kernel
theorem dX12_lieTold_52 : decode cX12_lieTold 52 = .ok (.bipush 8, 2) := by decide +kernel
theorem dX12_lieTold_54 : decode cX12_lieTold 54 = .ok (.iload 5, 2) := by decide +kernel
theorem dX12_lieTold_56 : decode cX12_lieTold 56 = .ok (.iadd, 1) := by decide +kernel
theorem dX12_lieTold_57 : decode cX12_lieTold 57 = .ok (.lload_n 2, 1) := by decide +kernel
theorem dX12_lieTold_58 : decode cX12_lieTold 58 = .ok (.lastore, 1) := by decide +kernel
theorem dX12_lieTold_59 : decode cX12_lieTold 59 = .ok (.aload_n 0, 1) := by decide +kernel
theorem dX12_lieTold_60 : decode cX12_lieTold 60 = .ok (.getfield 127, 3) := by decide +kernel
theorem dX12_lieTold_63 : decode cX12_lieTold 63 = .ok (.iconst 2, 1) := by decide +kernel
theorem dX12_lieTold_64 : decode cX12_lieTold 64 = .ok (.iload 5, 2) := by decide +kernel
theorem dX12_lieTold_66 : decode cX12_lieTold 66 = .ok (.imul, 1) := by decide +kernel
theorem dX12_lieTold_67 : decode cX12_lieTold 67 = .ok (.iload 4, 2) := by decide +kernel
theorem dX12_lieTold_69 : decode cX12_lieTold 69 = .ok (.iastore, 1) := by decide +kernel
theorem dX12_lieTold_70 : decode cX12_lieTold 70 = .ok (.aload_n 0, 1) := by decide +kernel
theorem dX12_lieTold_71 : decode cX12_lieTold 71 = .ok (.getfield 127, 3) := by decide +kernel
theorem dX12_lieTold_74 : decode cX12_lieTold 74 = .ok (.iconst 2, 1) := by decide +kernel
theorem dX12_lieTold_75 : decode cX12_lieTold 75 = .ok (.iload 5, 2) := by decide +kernel
theorem dX12_lieTold_77 : decode cX12_lieTold 77 = .ok (.imul, 1) := by decide +kernel
theorem dX12_lieTold_78 : decode cX12_lieTold 78 = .ok (.iconst 1, 1) := by decide +kernel
theorem dX12_lieTold_79 : decode cX12_lieTold 79 = .ok (.iadd, 1) := by decide +kernel
theorem dX12_lieTold_80 : decode cX12_lieTold 80 = .ok (.iconst (-1), 1) := by decide +kernel
theorem dX12_lieTold_81 : decode cX12_lieTold 81 = .ok (.iastore, 1) := by decide +kernel
theorem dX12_lieTold_82 : decode cX12_lieTold 82 = .ok (.aload_n 0, 1) := by decide +kernel
theorem dX12_lieTold_83 : decode cX12_lieTold 83 = .ok (.getfield 117, 3) := by decide +kernel
theorem dX12_lieTold_86 : decode cX12_lieTold 86 = .ok (.iconst 2, 1) := by decide +kernel
theorem dX12_lieTold_87 : decode cX12_lieTold 87 = .ok (.dup2, 1) := by decide +kernel
theorem dX12_lieTold_88 : decode cX12_lieTold 88 = .ok (.iaload, 1) := by decide +kernel
theorem dX12_lieTold_89 : decode cX12_lieTold 89 = .ok (.iconst 1, 1) := by decide +kernel
theorem dX12_lieTold_90 : decode cX12_lieTold 90 = .ok (.iadd, 1) := by decide +kernel
theorem dX12_lieTold_91 : decode cX12_lieTold 91 = .ok (.iastore, 1) := by decide +kernel
theorem dX12_lieTold_92 : decode cX12_lieTold 92 = .ok (.return_, 1) := by decide +kernel
theorem dX12_hangsTold_0 : decode cX12_hangsTold 0 = .ok (.aload_n 0, 1) := by decide +kernel
theorem dX12_hangsTold_1 : decode cX12_hangsTold 1 = .ok (.iconst 1, 1) := by decide +kernel
theorem dX12_hangsTold_2 : decode cX12_hangsTold 2 = .ok (.invokevirtual 352, 3) := by decide +kernel
theorem dX12_hangsTold_5 : decode cX12_hangsTold 5 = .ok (.istore_n 1, 1) := by decide +kernel
theorem dX12_hangsTold_6 : decode cX12_hangsTold 6 = .ok (.aload_n 0, 1) := by decide +kernel
theorem dX12_hangsTold_7 : decode cX12_hangsTold 7 = .ok (.getfield 262, 3) := by decide +kernel
theorem dX12_hangsTold_10 : decode cX12_hangsTold 10 = .ok (.ifCond .ne 26, 3) := by decide +kernel
theorem dX12_hangsTold_13 : decode cX12_hangsTold 13 = .ok (.aload_n 0, 1) := by decide +kernel
theorem dX12_hangsTold_14 : decode cX12_hangsTold 14 = .ok (.getfield 127, 3) := by decide +kernel
theorem dX12_hangsTold_17 : decode cX12_hangsTold 17 = .ok (.iconst 2, 1) := by decide +kernel
theorem dX12_hangsTold_18 : decode cX12_hangsTold 18 = .ok (.iload_n 1, 1) := by decide +kernel
theorem dX12_hangsTold_19 : decode cX12_hangsTold 19 = .ok (.imul, 1) := by decide +kernel
theorem dX12_hangsTold_20 : decode cX12_hangsTold 20 = .ok (.iconst 1, 1) := by decide +kernel
theorem dX12_hangsTold_21 : decode cX12_hangsTold 21 = .ok (.iadd, 1) := by decide +kernel
theorem dX12_hangsTold_22 : decode cX12_hangsTold 22 = .ok (.iaload, 1) := by decide +kernel
theorem dX12_hangsTold_23 : decode cX12_hangsTold 23 = .ok (.iconst (-1), 1) := by decide +kernel
theorem dX12_hangsTold_24 : decode cX12_hangsTold 24 = .ok (.if_icmp .eq 12, 3) := by decide +kernel
theorem dX12_hangsTold_27 : decode cX12_hangsTold 27 = .ok (.aload_n 0, 1) := by decide +kernel
theorem dX12_hangsTold_28 : decode cX12_hangsTold 28 = .ok (.iconst 3, 1) := by decide +kernel
theorem dX12_hangsTold_29 : decode cX12_hangsTold 29 = .ok (.aload_n 0, 1) := by decide +kernel
theorem dX12_hangsTold_30 : decode cX12_hangsTold 30 = .ok (.getfield 313, 3) := by decide +kernel
theorem dX12_hangsTold_33 : decode cX12_hangsTold 33 = .ok (.invokevirtual 292, 3) := by decide +kernel
theorem dX12_hangsTold_36 : decode cX12_hangsTold 36 = .ok (.aload_n 0, 1) := by decide +kernel
theorem dX12_hangsTold_37 : decode cX12_hangsTold 37 = .ok (.aload_n 0, 1) := by decide +kernel
theorem dX12_hangsTold_38 : decode cX12_hangsTold 38 = .ok (.getfield 42, 3) := by decide +kernel
theorem dX12_hangsTold_41 : decode cX12_hangsTold 41 = .ok (.invokevirtual 329, 3) := by decide +kernel
theorem dX12_hangsTold_44 : decode cX12_hangsTold 44 = .ok (.aload_n 0, 1) := by decide +kernel
theorem dX12_hangsTold_45 : decode cX12_hangsTold 45 = .ok (.iconst 1, 1) := by decide +kernel
theorem dX12_hangsTold_46 : decode cX12_hangsTold 46 = .ok (.invokevirtual 352, 3) := by decide +kernel
theorem dX12_hangsTold_49 : decode cX12_hangsTold 49 = .ok (.istore_n 2, 1) := by decide +kernel
theorem dX12_hangsTold_50 : decode cX12_hangsTold 50 = .ok (.aload_n 0, 1) := by decide +kernel
theorem dX12_hangsTold_51 : decode cX12_hangsTold 51 = .ok (.getfield 262, 3) := by decide +kernel
theorem dX12_hangsTold_54 : decode cX12_hangsTold 54 = .ok (.ifCond .ne 17, 3) := by decide +kernel
theorem dX12_hangsTold_57 : decode cX12_hangsTold 57 = .ok (.iload_n 2, 1) := by decide +kernel
theorem dX12_hangsTold_58 : decode cX12_hangsTold 58 = .ok (.iload_n 1, 1) := by decide +kernel
theorem dX12_hangsTold_59 : decode cX12_hangsTold 59 = .ok (.if_icmp .lt 12, 3) := by decide +kernel
theorem dX12_hangsTold_62 : decode cX12_hangsTold 62 = .ok (.aload_n 0, 1) := by decide +kernel
theorem dX12_hangsTold_63 : decode cX12_hangsTold 63 = .ok (.iconst 3, 1) := by decide +kernel
theorem dX12_hangsTold_64 : decode cX12_hangsTold 64 = .ok (.aload_n 0, 1) := by decide +kernel
theorem dX12_hangsTold_65 : decode cX12_hangsTold 65 = .ok (.getfield 313, 3) := by decide +kernel
theorem dX12_hangsTold_68 : decode cX12_hangsTold 68 = .ok (.invokevirtual 292, 3) := by decide +kernel
theorem dX12_hangsTold_71 : decode cX12_hangsTold 71 = .ok (.aload_n 0, 1) := by decide +kernel
theorem dX12_hangsTold_72 : decode cX12_hangsTold 72 = .ok (.getfield 262, 3) := by decide +kernel
theorem dX12_hangsTold_75 : decode cX12_hangsTold 75 = .ok (.ifCond .ne 14, 3) := by decide +kernel
theorem dX12_hangsTold_78 : decode cX12_hangsTold 78 = .ok (.aload_n 0, 1) := by decide +kernel
theorem dX12_hangsTold_79 : decode cX12_hangsTold 79 = .ok (.getfield 127, 3) := by decide +kernel
theorem dX12_hangsTold_82 : decode cX12_hangsTold 82 = .ok (.iconst 2, 1) := by decide +kernel
theorem dX12_hangsTold_83 : decode cX12_hangsTold 83 = .ok (.iload_n 1, 1) := by decide +kernel
theorem dX12_hangsTold_84 : decode cX12_hangsTold 84 = .ok (.imul, 1) := by decide +kernel
theorem dX12_hangsTold_85 : decode cX12_hangsTold 85 = .ok (.iconst 1, 1) := by decide +kernel
theorem dX12_hangsTold_86 : decode cX12_hangsTold 86 = .ok (.iadd, 1) := by decide +kernel
theorem dX12_hangsTold_87 : decode cX12_hangsTold 87 = .ok (.iload_n 2, 1) := by decide +kernel
theorem dX12_hangsTold_88 : decode cX12_hangsTold 88 = .ok (.iastore, 1) := by decide +kernel
theorem dX12_hangsTold_89 : decode cX12_hangsTold 89 = .ok (.return_, 1) := by decide +kernel
theorem dX12_lightTold_0 : decode cX12_lightTold 0 = .ok (.aload_n 0, 1) := by decide +kernel
theorem dX12_lightTold_1 : decode cX12_lightTold 1 = .ok (.iconst 3, 1) := by decide +kernel
theorem dX12_lightTold_2 : decode cX12_lightTold 2 = .ok (.bipush 16, 2) := by decide +kernel
theorem dX12_lightTold_4 : decode cX12_lightTold 4 = .ok (.iload_n 1, 1) := by decide +kernel
theorem dX12_lightTold_5 : decode cX12_lightTold 5 = .ok (.invokevirtual 345, 3) := by decide +kernel
theorem dX12_lightTold_8 : decode cX12_lightTold 8 = .ok (.ifCond .eq 4, 3) := by decide +kernel
theorem dX12_lightTold_11 : decode cX12_lightTold 11 = .ok (.return_, 1) := by decide +kernel
theorem dX12_lightTold_12 : decode cX12_lightTold 12 = .ok (.aload_n 0, 1) := by decide +kernel
theorem dX12_lightTold_13 : decode cX12_lightTold 13 = .ok (.iconst 1, 1) := by decide +kernel
theorem dX12_lightTold_14 : decode cX12_lightTold 14 = .ok (.invokevirtual 352, 3) := by decide +kernel
theorem dX12_lightTold_17 : decode cX12_lightTold 17 = .ok (.istore_n 2, 1) := by decide +kernel
theorem dX12_lightTold_18 : decode cX12_lightTold 18 = .ok (.aload_n 0, 1) := by decide +kernel
theorem dX12_lightTold_19 : decode cX12_lightTold 19 = .ok (.aload_n 0, 1) := by decide +kernel
theorem dX12_lightTold_20 : decode cX12_lightTold 20 = .ok (.getfield 27, 3) := by decide +kernel
theorem dX12_lightTold_23 : decode cX12_lightTold 23 = .ok (.invokevirtual 329, 3) := by decide +kernel
theorem dX12_lightTold_26 : decode cX12_lightTold 26 = .ok (.aload_n 0, 1) := by decide +kernel
theorem dX12_lightTold_27 : decode cX12_lightTold 27 = .ok (.iconst 0, 1) := by decide +kernel
theorem dX12_lightTold_28 : decode cX12_lightTold 28 = .ok (.sipush 999, 3) := by decide +kernel
theorem dX12_lightTold_31 : decode cX12_lightTold 31 = .ok (.invokevirtual 333, 3) := by decide +kernel
theorem dX12_lightTold_34 : decode cX12_lightTold 34 = .ok (.istore_n 3, 1) := by decide +kernel
theorem dX12_lightTold_35 : decode cX12_lightTold 35 = .ok (.aload_n 0, 1) := by decide +kernel
theorem dX12_lightTold_36 : decode cX12_lightTold 36 = .ok (.aload_n 0, 1) := by decide +kernel
theorem dX12_lightTold_37 : decode cX12_lightTold 37 = .ok (.getfield 48, 3) := by decide +kernel
theorem dX12_lightTold_40 : decode cX12_lightTold 40 = .ok (.invokevirtual 329, 3) := by decide +kernel
theorem dX12_lightTold_43 : decode cX12_lightTold 43 = .ok (.aload_n 0, 1) := by decide +kernel
theorem dX12_lightTold_44 : decode cX12_lightTold 44 = .ok (.iconst 1, 1) := by decide +kernel
theorem dX12_lightTold_45 : decode cX12_lightTold 45 = .ok (.bipush 99, 2) := by decide +kernel
theorem dX12_lightTold_47 : decode cX12_lightTold 47 = .ok (.invokevirtual 333, 3) := by decide +kernel
theorem dX12_lightTold_50 : decode cX12_lightTold 50 = .ok (.istore 4, 2) := by decide +kernel
theorem dX12_lightTold_52 : decode cX12_lightTold 52 = .ok (.aload_n 0, 1) := by decide +kernel
theorem dX12_lightTold_53 : decode cX12_lightTold 53 = .ok (.getfield 262, 3) := by decide +kernel
theorem dX12_lightTold_56 : decode cX12_lightTold 56 = .ok (.ifCond .eq 4, 3) := by decide +kernel
theorem dX12_lightTold_59 : decode cX12_lightTold 59 = .ok (.return_, 1) := by decide +kernel
theorem dX12_lightTold_60 : decode cX12_lightTold 60 = .ok (.iconst 3, 1) := by decide +kernel
theorem dX12_lightTold_61 : decode cX12_lightTold 61 = .ok (.aload_n 0, 1) := by decide +kernel
theorem dX12_lightTold_62 : decode cX12_lightTold 62 = .ok (.getfield 117, 3) := by decide +kernel
theorem dX12_lightTold_65 : decode cX12_lightTold 65 = .ok (.iconst 3, 1) := by decide +kernel
theorem dX12_lightTold_66 : decode cX12_lightTold 66 = .ok (.iaload, 1) := by decide +kernel
theorem dX12_lightTold_67 : decode cX12_lightTold 67 = .ok (.imul, 1) := by decide +kernel
theorem dX12_lightTold_68 : decode cX12_lightTold 68 = .ok (.istore 5, 2) := by decide +kernel
theorem dX12_lightTold_70 : decode cX12_lightTold 70 = .ok (.aload_n 0, 1) := by decide +kernel
theorem dX12_lightTold_71 : decode cX12_lightTold 71 = .ok (.getfield 130, 3) := by decide +kernel
theorem dX12_lightTold_74 : decode cX12_lightTold 74 = .ok (.iload 5, 2) := by decide +kernel
theorem dX12_lightTold_76 : decode cX12_lightTold 76 = .ok (.iload_n 2, 1) := by decide +kernel
theorem dX12_lightTold_77 : decode cX12_lightTold 77 = .ok (.iastore, 1) := by decide +kernel
theorem dX12_lightTold_78 : decode cX12_lightTold 78 = .ok (.aload_n 0, 1) := by decide +kernel
theorem dX12_lightTold_79 : decode cX12_lightTold 79 = .ok (.getfield 130, 3) := by decide +kernel
theorem dX12_lightTold_82 : decode cX12_lightTold 82 = .ok (.iload 5, 2) := by decide +kernel
theorem dX12_lightTold_84 : decode cX12_lightTold 84 = .ok (.iconst 1, 1) := by decide +kernel
theorem dX12_lightTold_85 : decode cX12_lightTold 85 = .ok (.iadd, 1) := by decide +kernel
theorem dX12_lightTold_86 : decode cX12_lightTold 86 = .ok (.iload_n 3, 1) := by decide +kernel
theorem dX12_lightTold_87 : decode cX12_lightTold 87 = .ok (.iastore, 1) := by decide +kernel
theorem dX12_lightTold_88 : decode cX12_lightTold 88 = .ok (.aload_n 0, 1) := by decide +kernel
theorem dX12_lightTold_89 : decode cX12_lightTold 89 = .ok (.getfield 130, 3) := by decide +kernel
theorem dX12_lightTold_92 : decode cX12_lightTold 92 = .ok (.iload 5, 2) := by decide +kernel
theorem dX12_lightTold_94 : decode cX12_lightTold 94 = .ok (.iconst 2, 1) := by decide +kernel
theorem dX12_lightTold_95 : decode cX12_lightTold 95 = .ok (.iadd, 1) := by decide +kernel
theorem dX12_lightTold_96 : decode cX12_lightTold 96 = .ok (.iload 4, 2) := by decide +kernel
theorem dX12_lightTold_98 : decode cX12_lightTold 98 = .ok (.iastore, 1) := by decide +kernel
theorem dX12_lightTold_99 : decode cX12_lightTold 99 = .ok (.aload_n 0, 1) := by decide +kernel
theorem dX12_lightTold_100 : decode cX12_lightTold 100 = .ok (.getfield 117, 3) := by decide +kernel
theorem dX12_lightTold_103 : decode cX12_lightTold 103 = .ok (.iconst 3, 1) := by decide +kernel
theorem dX12_lightTold_104 : decode cX12_lightTold 104 = .ok (.dup2, 1) := by decide +kernel
theorem dX12_lightTold_105 : decode cX12_lightTold 105 = .ok (.iaload, 1) := by decide +kernel
theorem dX12_lightTold_106 : decode cX12_lightTold 106 = .ok (.iconst 1, 1) := by decide +kernel
theorem dX12_lightTold_107 : decode cX12_lightTold 107 = .ok (.iadd, 1) := by decide +kernel
theorem dX12_lightTold_108 : decode cX12_lightTold 108 = .ok (.iastore, 1) := by decide +kernel
theorem dX12_lightTold_109 : decode cX12_lightTold 109 = .ok (.return_, 1) := by decide +kernel
theorem dX12_codesTold_0 : decode cX12_codesTold 0 = .ok (.aload_n 0, 1) := by decide +kernel
theorem dX12_codesTold_1 : decode cX12_codesTold 1 = .ok (.getfield 262, 3) := by decide +kernel
theorem dX12_codesTold_4 : decode cX12_codesTold 4 = .ok (.ifCond .ne 19, 3) := by decide +kernel
theorem dX12_codesTold_7 : decode cX12_codesTold 7 = .ok (.aload_n 0, 1) := by decide +kernel
theorem dX12_codesTold_8 : decode cX12_codesTold 8 = .ok (.getfield 133, 3) := by decide +kernel
theorem dX12_codesTold_11 : decode cX12_codesTold 11 = .ok (.iload_n 1, 1) := by decide +kernel
theorem dX12_codesTold_12 : decode cX12_codesTold 12 = .ok (.iaload, 1) := by decide +kernel
theorem dX12_codesTold_13 : decode cX12_codesTold 13 = .ok (.iconst (-1), 1) := by decide +kernel
theorem dX12_codesTold_14 : decode cX12_codesTold 14 = .ok (.if_icmp .eq 9, 3) := by decide +kernel
theorem dX12_codesTold_17 : decode cX12_codesTold 17 = .ok (.aload_n 0, 1) := by decide +kernel
theorem dX12_codesTold_18 : decode cX12_codesTold 18 = .ok (.iconst 5, 1) := by decide +kernel
theorem dX12_codesTold_19 : decode cX12_codesTold 19 = .ok (.iload_n 2, 1) := by decide +kernel
theorem dX12_codesTold_20 : decode cX12_codesTold 20 = .ok (.invokevirtual 292, 3) := by decide +kernel
theorem dX12_codesTold_23 : decode cX12_codesTold 23 = .ok (.aload_n 0, 1) := by decide +kernel
theorem dX12_codesTold_24 : decode cX12_codesTold 24 = .ok (.getfield 262, 3) := by decide +kernel
theorem dX12_codesTold_27 : decode cX12_codesTold 27 = .ok (.ifCond .eq 4, 3) := by decide +kernel
theorem dX12_codesTold_30 : decode cX12_codesTold 30 = .ok (.return_, 1) := by decide +kernel
theorem dX12_codesTold_31 : decode cX12_codesTold 31 = .ok (.aload_n 0, 1) := by decide +kernel
theorem dX12_codesTold_32 : decode cX12_codesTold 32 = .ok (.iload_n 1, 1) := by decide +kernel
theorem dX12_codesTold_33 : decode cX12_codesTold 33 = .ok (.putfield 320, 3) := by decide +kernel
theorem dX12_codesTold_36 : decode cX12_codesTold 36 = .ok (.aload_n 0, 1) := by decide +kernel
theorem dX12_codesTold_37 : decode cX12_codesTold 37 = .ok (.iconst 0, 1) := by decide +kernel
theorem dX12_codesTold_38 : decode cX12_codesTold 38 = .ok (.putfield 356, 3) := by decide +kernel
theorem dX12_codesTold_41 : decode cX12_codesTold 41 = .ok (.aload_n 0, 1) := by decide +kernel
theorem dX12_codesTold_42 : decode cX12_codesTold 42 = .ok (.iconst 0, 1) := by decide +kernel
theorem dX12_codesTold_43 : decode cX12_codesTold 43 = .ok (.putfield 359, 3) := by decide +kernel
theorem dX12_codesTold_46 : decode cX12_codesTold 46 = .ok (.aload_n 0, 1) := by decide +kernel
theorem dX12_codesTold_47 : decode cX12_codesTold 47 = .ok (.iconst 0, 1) := by decide +kernel
theorem dX12_codesTold_48 : decode cX12_codesTold 48 = .ok (.putfield 362, 3) := by decide +kernel
theorem dX12_codesTold_51 : decode cX12_codesTold 51 = .ok (.aload_n 0, 1) := by decide +kernel
theorem dX12_codesTold_52 : decode cX12_codesTold 52 = .ok (.iconst 0, 1) := by decide +kernel
theorem dX12_codesTold_53 : decode cX12_codesTold 53 = .ok (.putfield 365, 3) := by decide +kernel
theorem dX12_codesTold_56 : decode cX12_codesTold 56 = .ok (.iload_n 1, 1) := by decide +kernel
theorem dX12_codesTold_57 : decode cX12_codesTold 57 = .ok (.iconst 2, 1) := by decide +kernel
theorem dX12_codesTold_58 : decode cX12_codesTold 58 = .ok (.if_icmp .ne 10, 3) := by decide +kernel
theorem dX12_codesTold_61 : decode cX12_codesTold 61 = .ok (.aload_n 0, 1) := by decide +kernel
theorem dX12_codesTold_62 : decode cX12_codesTold 62 = .ok (.invokevirtual 368, 3) := by decide +kernel
theorem dX12_codesTold_65 : decode cX12_codesTold 65 = .ok (.goto 7, 3) := by decide +kernel
theorem dX12_codesTold_68 : decode cX12_codesTold 68 = .ok (.aload_n 0, 1) := by decide +kernel
theorem dX12_codesTold_69 : decode cX12_codesTold 69 = .ok (.invokevirtual 371, 3) := by decide +kernel
theorem dX12_codesTold_72 : decode cX12_codesTold 72 = .ok (.aload_n 0, 1) := by decide +kernel
theorem dX12_codesTold_73 : decode cX12_codesTold 73 = .ok (.getfield 262, 3) := by decide +kernel
theorem dX12_codesTold_76 : decode cX12_codesTold 76 = .ok (.ifCond .eq 4, 3) := by decide +kernel
theorem dX12_codesTold_79 : decode cX12_codesTold 79 = .ok (.return_, 1) := by decide +kernel
theorem dX12_codesTold_80 : decode cX12_codesTold 80 = .ok (.aload_n 0, 1) := by decide +kernel
theorem dX12_codesTold_81 : decode cX12_codesTold 81 = .ok (.getfield 133, 3) := by decide +kernel
theorem dX12_codesTold_84 : decode cX12_codesTold 84 = .ok (.iload_n 1, 1) := by decide +kernel
theorem dX12_codesTold_85 : decode cX12_codesTold 85 = .ok (.aload_n 0, 1) := by decide +kernel
theorem dX12_codesTold_86 : decode cX12_codesTold 86 = .ok (.getfield 374, 3) := by decide +kernel
theorem dX12_codesTold_89 : decode cX12_codesTold 89 = .ok (.iastore, 1) := by decide +kernel
theorem dX12_codesTold_90 : decode cX12_codesTold 90 = .ok (.iconst 0, 1) := by decide +kernel
theorem dX12_codesTold_91 : decode cX12_codesTold 91 = .ok (.istore_n 3, 1) := by decide +kernel
theorem dX12_codesTold_92 : decode cX12_codesTold 92 = .ok (.iload_n 3, 1) := by decide +kernel
theorem dX12_codesTold_93 : decode cX12_codesTold 93 = .ok (.aload_n 0, 1) := by decide +kernel
theorem dX12_codesTold_94 : decode cX12_codesTold 94 = .ok (.getfield 356, 3) := by decide +kernel
theorem dX12_codesTold_97 : decode cX12_codesTold 97 = .ok (.if_icmp .ge 34, 3) := by decide +kernel
theorem dX12_codesTold_100 : decode cX12_codesTold 100 = .ok (.aload_n 0, 1) := by decide +kernel
theorem dX12_codesTold_101 : decode cX12_codesTold 101 = .ok (.getfield 139, 3) := by decide +kernel
theorem dX12_codesTold_104 : decode cX12_codesTold 104 = .ok (.aload_n 0, 1) := by decide +kernel
theorem dX12_codesTold_105 : decode cX12_codesTold 105 = .ok (.getfield 374, 3) := by decide +kernel
theorem dX12_codesTold_108 : decode cX12_codesTold 108 = .ok (.aload_n 0, 1) := by decide +kernel
theorem dX12_codesTold_109 : decode cX12_codesTold 109 = .ok (.getfield 247, 3) := by decide +kernel
theorem dX12_codesTold_112 : decode cX12_codesTold 112 = .ok (.iload_n 3, 1) := by decide +kernel
theorem dX12_codesTold_113 : decode cX12_codesTold 113 = .ok (.iaload, 1) := by decide +kernel
theorem dX12_codesTold_114 : decode cX12_codesTold 114 = .ok (.iastore, 1) := by decide +kernel
theorem dX12_codesTold_115 : decode cX12_codesTold 115 = .ok (.aload_n 0, 1) := by decide +kernel
theorem dX12_codesTold_116 : decode cX12_codesTold 116 = .ok (.dup, 1) := by decide +kernel
theorem dX12_codesTold_117 : decode cX12_codesTold 117 = .ok (.getfield 374, 3) := by decide +kernel
theorem dX12_codesTold_120 : decode cX12_codesTold 120 = .ok (.iconst 1, 1) := by decide +kernel
theorem dX12_codesTold_121 : decode cX12_codesTold 121 = .ok (.iadd, 1) := by decide +kernel
theorem dX12_codesTold_122 : decode cX12_codesTold 122 = .ok (.putfield 374, 3) := by decide +kernel
theorem dX12_codesTold_125 : decode cX12_codesTold 125 = .ok (.iinc 3 1, 3) := by decide +kernel
theorem dX12_codesTold_128 : decode cX12_codesTold 128 = .ok (.goto (-36), 3) := by decide +kernel
theorem dX12_codesTold_131 : decode cX12_codesTold 131 = .ok (.aload_n 0, 1) := by decide +kernel
theorem dX12_codesTold_132 : decode cX12_codesTold 132 = .ok (.getfield 136, 3) := by decide +kernel
theorem dX12_codesTold_135 : decode cX12_codesTold 135 = .ok (.iload_n 1, 1) := by decide +kernel
theorem dX12_codesTold_136 : decode cX12_codesTold 136 = .ok (.aload_n 0, 1) := by decide +kernel
theorem dX12_codesTold_137 : decode cX12_codesTold 137 = .ok (.getfield 374, 3) := by decide +kernel
theorem dX12_codesTold_140 : decode cX12_codesTold 140 = .ok (.iastore, 1) := by decide +kernel
theorem dX12_codesTold_141 : decode cX12_codesTold 141 = .ok (.return_, 1) := by decide +kernel
theorem dX12_statementTold_0 : decode cX12_statementTold 0 = .ok (.aload_n 0, 1) := by decide +kernel
theorem dX12_statementTold_1 : decode cX12_statementTold 1 = .ok (.getfield 268, 3) := by decide +kernel
theorem dX12_statementTold_4 : decode cX12_statementTold 4 = .ok (.istore_n 1, 1) := by decide +kernel
theorem dX12_statementTold_5 : decode cX12_statementTold 5 = .ok (.aload_n 0, 1) := by decide +kernel
theorem dX12_statementTold_6 : decode cX12_statementTold 6 = .ok (.getfield 377, 3) := by decide +kernel
theorem dX12_statementTold_9 : decode cX12_statementTold 9 = .ok (.bipush 60, 2) := by decide +kernel
theorem dX12_statementTold_11 : decode cX12_statementTold 11 = .ok (.if_icmp .ne 10, 3) := by decide +kernel
theorem dX12_statementTold_14 : decode cX12_statementTold 14 = .ok (.aload_n 0, 1) := by decide +kernel
theorem dX12_statementTold_15 : decode cX12_statementTold 15 = .ok (.iconst 5, 1) := by decide +kernel
theorem dX12_statementTold_16 : decode cX12_statementTold 16 = .ok (.iload_n 1, 1) := by decide +kernel
theorem dX12_statementTold_17 : decode cX12_statementTold 17 = .ok (.invokevirtual 292, 3) := by decide +kernel
theorem dX12_statementTold_20 : decode cX12_statementTold 20 = .ok (.return_, 1) := by decide +kernel
theorem dX12_statementTold_21 : decode cX12_statementTold 21 = .ok (.aload_n 0, 1) := by decide +kernel
theorem dX12_statementTold_22 : decode cX12_statementTold 22 = .ok (.aload_n 0, 1) := by decide +kernel
theorem dX12_statementTold_23 : decode cX12_statementTold 23 = .ok (.getfield 24, 3) := by decide +kernel
theorem dX12_statementTold_26 : decode cX12_statementTold 26 = .ok (.invokevirtual 289, 3) := by decide +kernel
theorem dX12_statementTold_29 : decode cX12_statementTold 29 = .ok (.ifCond .eq 11, 3) := by decide +kernel
theorem dX12_statementTold_32 : decode cX12_statementTold 32 = .ok (.aload_n 0, 1) := by decide +kernel
theorem dX12_statementTold_33 : decode cX12_statementTold 33 = .ok (.iload_n 1, 1) := by decide +kernel
theorem dX12_statementTold_34 : decode cX12_statementTold 34 = .ok (.invokevirtual 380, 3) := by decide +kernel
theorem dX12_statementTold_37 : decode cX12_statementTold 37 = .ok (.goto 168, 3) := by decide +kernel
theorem dX12_statementTold_40 : decode cX12_statementTold 40 = .ok (.aload_n 0, 1) := by decide +kernel
theorem dX12_statementTold_41 : decode cX12_statementTold 41 = .ok (.aload_n 0, 1) := by decide +kernel
theorem dX12_statementTold_42 : decode cX12_statementTold 42 = .ok (.getfield 33, 3) := by decide +kernel
theorem dX12_statementTold_45 : decode cX12_statementTold 45 = .ok (.invokevirtual 289, 3) := by decide +kernel
theorem dX12_statementTold_48 : decode cX12_statementTold 48 = .ok (.ifCond .eq 11, 3) := by decide +kernel
theorem dX12_statementTold_51 : decode cX12_statementTold 51 = .ok (.aload_n 0, 1) := by decide +kernel
theorem dX12_statementTold_52 : decode cX12_statementTold 52 = .ok (.iload_n 1, 1) := by decide +kernel
theorem dX12_statementTold_53 : decode cX12_statementTold 53 = .ok (.invokevirtual 383, 3) := by decide +kernel
theorem dX12_statementTold_56 : decode cX12_statementTold 56 = .ok (.goto 149, 3) := by decide +kernel
theorem dX12_statementTold_59 : decode cX12_statementTold 59 = .ok (.aload_n 0, 1) := by decide +kernel
theorem dX12_statementTold_60 : decode cX12_statementTold 60 = .ok (.aload_n 0, 1) := by decide +kernel
theorem dX12_statementTold_61 : decode cX12_statementTold 61 = .ok (.getfield 39, 3) := by decide +kernel
theorem dX12_statementTold_64 : decode cX12_statementTold 64 = .ok (.invokevirtual 289, 3) := by decide +kernel
theorem dX12_statementTold_67 : decode cX12_statementTold 67 = .ok (.ifCond .eq 10, 3) := by decide +kernel
theorem dX12_statementTold_70 : decode cX12_statementTold 70 = .ok (.aload_n 0, 1) := by decide +kernel
theorem dX12_statementTold_71 : decode cX12_statementTold 71 = .ok (.invokevirtual 386, 3) := by decide +kernel
theorem dX12_statementTold_74 : decode cX12_statementTold 74 = .ok (.goto 131, 3) := by decide +kernel
theorem dX12_statementTold_77 : decode cX12_statementTold 77 = .ok (.aload_n 0, 1) := by decide +kernel
theorem dX12_statementTold_78 : decode cX12_statementTold 78 = .ok (.aload_n 0, 1) := by decide +kernel
theorem dX12_statementTold_79 : decode cX12_statementTold 79 = .ok (.getfield 45, 3) := by decide +kernel
theorem dX12_statementTold_82 : decode cX12_statementTold 82 = .ok (.invokevirtual 289, 3) := by decide +kernel
theorem dX12_statementTold_85 : decode cX12_statementTold 85 = .ok (.ifCond .eq 11, 3) := by decide +kernel
theorem dX12_statementTold_88 : decode cX12_statementTold 88 = .ok (.aload_n 0, 1) := by decide +kernel
theorem dX12_statementTold_89 : decode cX12_statementTold 89 = .ok (.iload_n 1, 1) := by decide +kernel
theorem dX12_statementTold_90 : decode cX12_statementTold 90 = .ok (.invokevirtual 389, 3) := by decide +kernel
theorem dX12_statementTold_93 : decode cX12_statementTold 93 = .ok (.goto 112, 3) := by decide +kernel
theorem dX12_statementTold_96 : decode cX12_statementTold 96 = .ok (.aload_n 0, 1) := by decide +kernel
theorem dX12_statementTold_97 : decode cX12_statementTold 97 = .ok (.aload_n 0, 1) := by decide +kernel
theorem dX12_statementTold_98 : decode cX12_statementTold 98 = .ok (.getfield 51, 3) := by decide +kernel
theorem dX12_statementTold_101 : decode cX12_statementTold 101 = .ok (.invokevirtual 289, 3) := by decide +kernel
theorem dX12_statementTold_104 : decode cX12_statementTold 104 = .ok (.ifCond .eq 20, 3) := by decide +kernel
theorem dX12_statementTold_107 : decode cX12_statementTold 107 = .ok (.aload_n 0, 1) := by decide +kernel
theorem dX12_statementTold_108 : decode cX12_statementTold 108 = .ok (.getfield 117, 3) := by decide +kernel
theorem dX12_statementTold_111 : decode cX12_statementTold 111 = .ok (.iconst 4, 1) := by decide +kernel
theorem dX12_statementTold_112 : decode cX12_statementTold 112 = .ok (.aload_n 0, 1) := by decide +kernel
theorem dX12_statementTold_113 : decode cX12_statementTold 113 = .ok (.iconst 0, 1) := by decide +kernel
theorem dX12_statementTold_114 : decode cX12_statementTold 114 = .ok (.sipush 999, 3) := by decide +kernel
theorem dX12_statementTold_117 : decode cX12_statementTold 117 = .ok (.invokevirtual 333, 3) := by decide +kernel
theorem dX12_statementTold_120 : decode cX12_statementTold 120 = .ok (.iastore, 1) := by decide +kernel
theorem dX12_statementTold_121 : decode cX12_statementTold 121 = .ok (.goto 84, 3) := by decide +kernel
theorem dX12_statementTold_124 : decode cX12_statementTold 124 = .ok (.aload_n 0, 1) := by decide +kernel
theorem dX12_statementTold_125 : decode cX12_statementTold 125 = .ok (.aload_n 0, 1) := by decide +kernel
theorem dX12_statementTold_126 : decode cX12_statementTold 126 = .ok (.getfield 54, 3) := by decide +kernel
theorem dX12_statementTold_129 : decode cX12_statementTold 129 = .ok (.invokevirtual 289, 3) := by decide +kernel
theorem dX12_statementTold_132 : decode cX12_statementTold 132 = .ok (.ifCond .eq 12, 3) := by decide +kernel
theorem dX12_statementTold_135 : decode cX12_statementTold 135 = .ok (.aload_n 0, 1) := by decide +kernel
theorem dX12_statementTold_136 : decode cX12_statementTold 136 = .ok (.iconst 0, 1) := by decide +kernel
theorem dX12_statementTold_137 : decode cX12_statementTold 137 = .ok (.iload_n 1, 1) := by decide +kernel
theorem dX12_statementTold_138 : decode cX12_statementTold 138 = .ok (.invokevirtual 392, 3) := by decide +kernel
theorem dX12_statementTold_141 : decode cX12_statementTold 141 = .ok (.goto 64, 3) := by decide +kernel
theorem dX12_statementTold_144 : decode cX12_statementTold 144 = .ok (.aload_n 0, 1) := by decide +kernel
theorem dX12_statementTold_145 : decode cX12_statementTold 145 = .ok (.aload_n 0, 1) := by decide +kernel
theorem dX12_statementTold_146 : decode cX12_statementTold 146 = .ok (.getfield 57, 3) := by decide +kernel
theorem dX12_statementTold_149 : decode cX12_statementTold 149 = .ok (.invokevirtual 289, 3) := by decide +kernel
theorem dX12_statementTold_152 : decode cX12_statementTold 152 = .ok (.ifCond .eq 12, 3) := by decide +kernel
theorem dX12_statementTold_155 : decode cX12_statementTold 155 = .ok (.aload_n 0, 1) := by decide +kernel
theorem dX12_statementTold_156 : decode cX12_statementTold 156 = .ok (.iconst 1, 1) := by decide +kernel
theorem dX12_statementTold_157 : decode cX12_statementTold 157 = .ok (.iload_n 1, 1) := by decide +kernel
theorem dX12_statementTold_158 : decode cX12_statementTold 158 = .ok (.invokevirtual 392, 3) := by decide +kernel
theorem dX12_statementTold_161 : decode cX12_statementTold 161 = .ok (.goto 44, 3) := by decide +kernel
theorem dX12_statementTold_164 : decode cX12_statementTold 164 = .ok (.aload_n 0, 1) := by decide +kernel
theorem dX12_statementTold_165 : decode cX12_statementTold 165 = .ok (.aload_n 0, 1) := by decide +kernel
theorem dX12_statementTold_166 : decode cX12_statementTold 166 = .ok (.getfield 60, 3) := by decide +kernel
theorem dX12_statementTold_169 : decode cX12_statementTold 169 = .ok (.invokevirtual 289, 3) := by decide +kernel
theorem dX12_statementTold_172 : decode cX12_statementTold 172 = .ok (.ifCond .eq 12, 3) := by decide +kernel
theorem dX12_statementTold_175 : decode cX12_statementTold 175 = .ok (.aload_n 0, 1) := by decide +kernel
theorem dX12_statementTold_176 : decode cX12_statementTold 176 = .ok (.iconst 2, 1) := by decide +kernel
theorem dX12_statementTold_177 : decode cX12_statementTold 177 = .ok (.iload_n 1, 1) := by decide +kernel
theorem dX12_statementTold_178 : decode cX12_statementTold 178 = .ok (.invokevirtual 392, 3) := by decide +kernel
theorem dX12_statementTold_181 : decode cX12_statementTold 181 = .ok (.goto 24, 3) := by decide +kernel
theorem dX12_statementTold_184 : decode cX12_statementTold 184 = .ok (.aload_n 0, 1) := by decide +kernel
theorem dX12_statementTold_185 : decode cX12_statementTold 185 = .ok (.aload_n 0, 1) := by decide +kernel
theorem dX12_statementTold_186 : decode cX12_statementTold 186 = .ok (.getfield 63, 3) := by decide +kernel
theorem dX12_statementTold_189 : decode cX12_statementTold 189 = .ok (.invokevirtual 329, 3) := by decide +kernel
theorem dX12_statementTold_192 : decode cX12_statementTold 192 = .ok (.aload_n 0, 1) := by decide +kernel
theorem dX12_statementTold_193 : decode cX12_statementTold 193 = .ok (.getfield 117, 3) := by decide +kernel
theorem dX12_statementTold_196 : decode cX12_statementTold 196 = .ok (.iconst 5, 1) := by decide +kernel
theorem dX12_statementTold_197 : decode cX12_statementTold 197 = .ok (.aload_n 0, 1) := by decide +kernel
theorem dX12_statementTold_198 : decode cX12_statementTold 198 = .ok (.iconst 0, 1) := by decide +kernel
theorem dX12_statementTold_199 : decode cX12_statementTold 199 = .ok (.bipush 100, 2) := by decide +kernel
theorem dX12_statementTold_201 : decode cX12_statementTold 201 = .ok (.invokevirtual 333, 3) := by decide +kernel
theorem dX12_statementTold_204 : decode cX12_statementTold 204 = .ok (.iastore, 1) := by decide +kernel
theorem dX12_statementTold_205 : decode cX12_statementTold 205 = .ok (.aload_n 0, 1) := by decide +kernel
theorem dX12_statementTold_206 : decode cX12_statementTold 206 = .ok (.bipush 59, 2) := by decide +kernel
theorem dX12_statementTold_208 : decode cX12_statementTold 208 = .ok (.invokevirtual 337, 3) := by decide +kernel
theorem dX12_statementTold_211 : decode cX12_statementTold 211 = .ok (.aload_n 0, 1) := by decide +kernel
theorem dX12_statementTold_212 : decode cX12_statementTold 212 = .ok (.dup, 1) := by decide +kernel
theorem dX12_statementTold_213 : decode cX12_statementTold 213 = .ok (.getfield 377, 3) := by decide +kernel
theorem dX12_statementTold_216 : decode cX12_statementTold 216 = .ok (.iconst 1, 1) := by decide +kernel
theorem dX12_statementTold_217 : decode cX12_statementTold 217 = .ok (.iadd, 1) := by decide +kernel
theorem dX12_statementTold_218 : decode cX12_statementTold 218 = .ok (.putfield 377, 3) := by decide +kernel
theorem dX12_statementTold_221 : decode cX12_statementTold 221 = .ok (.return_, 1) := by decide +kernel
theorem dX12_street_0 : decode cX12_street 0 = .ok (.aload_n 0, 1) := by decide +kernel
theorem dX12_street_1 : decode cX12_street 1 = .ok (.aload_n 0, 1) := by decide +kernel
theorem dX12_street_2 : decode cX12_street 2 = .ok (.getfield 259, 3) := by decide +kernel
theorem dX12_street_5 : decode cX12_street 5 = .ok (.putfield 271, 3) := by decide +kernel
theorem dX12_street_8 : decode cX12_street 8 = .ok (.aload_n 0, 1) := by decide +kernel
theorem dX12_street_9 : decode cX12_street 9 = .ok (.iconst 0, 1) := by decide +kernel
theorem dX12_street_10 : decode cX12_street 10 = .ok (.putfield 259, 3) := by decide +kernel
theorem dX12_street_13 : decode cX12_street 13 = .ok (.aload_n 0, 1) := by decide +kernel
theorem dX12_street_14 : decode cX12_street 14 = .ok (.iconst 0, 1) := by decide +kernel
theorem dX12_street_15 : decode cX12_street 15 = .ok (.putfield 268, 3) := by decide +kernel
theorem dX12_street_18 : decode cX12_street 18 = .ok (.aload_n 0, 1) := by decide +kernel
theorem dX12_street_19 : decode cX12_street 19 = .ok (.iconst (-1), 1) := by decide +kernel
theorem dX12_street_20 : decode cX12_street 20 = .ok (.putfield 282, 3) := by decide +kernel
theorem dX12_street_23 : decode cX12_street 23 = .ok (.aload_n 0, 1) := by decide +kernel
theorem dX12_street_24 : decode cX12_street 24 = .ok (.iconst 0, 1) := by decide +kernel
theorem dX12_street_25 : decode cX12_street 25 = .ok (.putfield 262, 3) := by decide +kernel
theorem dX12_street_28 : decode cX12_street 28 = .ok (.aload_n 0, 1) := by decide +kernel
theorem dX12_street_29 : decode cX12_street 29 = .ok (.iconst (-1), 1) := by decide +kernel
theorem dX12_street_30 : decode cX12_street 30 = .ok (.putfield 265, 3) := by decide +kernel
theorem dX12_street_33 : decode cX12_street 33 = .ok (.aload_n 0, 1) := by decide +kernel
theorem dX12_street_34 : decode cX12_street 34 = .ok (.iconst 0, 1) := by decide +kernel
theorem dX12_street_35 : decode cX12_street 35 = .ok (.putfield 374, 3) := by decide +kernel
theorem dX12_street_38 : decode cX12_street 38 = .ok (.iconst 0, 1) := by decide +kernel
theorem dX12_street_39 : decode cX12_street 39 = .ok (.istore_n 1, 1) := by decide +kernel
theorem dX12_street_40 : decode cX12_street 40 = .ok (.iload_n 1, 1) := by decide +kernel
theorem dX12_street_41 : decode cX12_street 41 = .ok (.bipush 6, 2) := by decide +kernel
theorem dX12_street_43 : decode cX12_street 43 = .ok (.if_icmp .ge 26, 3) := by decide +kernel
theorem dX12_street_46 : decode cX12_street 46 = .ok (.aload_n 0, 1) := by decide +kernel
theorem dX12_street_47 : decode cX12_street 47 = .ok (.getfield 117, 3) := by decide +kernel
theorem dX12_street_50 : decode cX12_street 50 = .ok (.iload_n 1, 1) := by decide +kernel
theorem dX12_street_51 : decode cX12_street 51 = .ok (.iload_n 1, 1) := by decide +kernel
theorem dX12_street_52 : decode cX12_street 52 = .ok (.iconst 4, 1) := by decide +kernel
theorem dX12_street_53 : decode cX12_street 53 = .ok (.if_icmp .ne 8, 3) := by decide +kernel
theorem dX12_street_56 : decode cX12_street 56 = .ok (.bipush 100, 2) := by decide +kernel
theorem dX12_street_58 : decode cX12_street 58 = .ok (.goto 4, 3) := by decide +kernel
theorem dX12_street_61 : decode cX12_street 61 = .ok (.iconst 0, 1) := by decide +kernel
theorem dX12_street_62 : decode cX12_street 62 = .ok (.iastore, 1) := by decide +kernel
theorem dX12_street_63 : decode cX12_street 63 = .ok (.iinc 1 1, 3) := by decide +kernel
theorem dX12_street_66 : decode cX12_street 66 = .ok (.goto (-26), 3) := by decide +kernel
theorem dX12_street_69 : decode cX12_street 69 = .ok (.iconst 0, 1) := by decide +kernel
theorem dX12_street_70 : decode cX12_street 70 = .ok (.istore_n 1, 1) := by decide +kernel
theorem dX12_street_71 : decode cX12_street 71 = .ok (.iload_n 1, 1) := by decide +kernel
theorem dX12_street_72 : decode cX12_street 72 = .ok (.iconst 3, 1) := by decide +kernel
theorem dX12_street_73 : decode cX12_street 73 = .ok (.if_icmp .ge 16, 3) := by decide +kernel
theorem dX12_street_76 : decode cX12_street 76 = .ok (.aload_n 0, 1) := by decide +kernel
theorem dX12_street_77 : decode cX12_street 77 = .ok (.getfield 133, 3) := by decide +kernel
theorem dX12_street_80 : decode cX12_street 80 = .ok (.iload_n 1, 1) := by decide +kernel
theorem dX12_street_81 : decode cX12_street 81 = .ok (.iconst (-1), 1) := by decide +kernel
theorem dX12_street_82 : decode cX12_street 82 = .ok (.iastore, 1) := by decide +kernel
theorem dX12_street_83 : decode cX12_street 83 = .ok (.iinc 1 1, 3) := by decide +kernel
theorem dX12_street_86 : decode cX12_street 86 = .ok (.goto (-15), 3) := by decide +kernel
theorem dX12_street_89 : decode cX12_street 89 = .ok (.aload_n 0, 1) := by decide +kernel
theorem dX12_street_90 : decode cX12_street 90 = .ok (.invokevirtual 395, 3) := by decide +kernel
theorem dX12_street_93 : decode cX12_street 93 = .ok (.aload_n 0, 1) := by decide +kernel
theorem dX12_street_94 : decode cX12_street 94 = .ok (.iconst 1, 1) := by decide +kernel
theorem dX12_street_95 : decode cX12_street 95 = .ok (.putfield 377, 3) := by decide +kernel
theorem dX12_street_98 : decode cX12_street 98 = .ok (.aload_n 0, 1) := by decide +kernel
theorem dX12_street_99 : decode cX12_street 99 = .ok (.getfield 262, 3) := by decide +kernel
theorem dX12_street_102 : decode cX12_street 102 = .ok (.ifCond .ne 18, 3) := by decide +kernel
theorem dX12_street_105 : decode cX12_street 105 = .ok (.aload_n 0, 1) := by decide +kernel
theorem dX12_street_106 : decode cX12_street 106 = .ok (.invokevirtual 274, 3) := by decide +kernel
theorem dX12_street_109 : decode cX12_street 109 = .ok (.iconst (-1), 1) := by decide +kernel
theorem dX12_street_110 : decode cX12_street 110 = .ok (.if_icmp .eq 10, 3) := by decide +kernel
theorem dX12_street_113 : decode cX12_street 113 = .ok (.aload_n 0, 1) := by decide +kernel
theorem dX12_street_114 : decode cX12_street 114 = .ok (.invokevirtual 398, 3) := by decide +kernel
theorem dX12_street_117 : decode cX12_street 117 = .ok (.goto (-19), 3) := by decide +kernel
theorem dX12_street_120 : decode cX12_street 120 = .ok (.aload_n 0, 1) := by decide +kernel
theorem dX12_street_121 : decode cX12_street 121 = .ok (.aload_n 0, 1) := by decide +kernel
theorem dX12_street_122 : decode cX12_street 122 = .ok (.getfield 262, 3) := by decide +kernel
theorem dX12_street_125 : decode cX12_street 125 = .ok (.putfield 401, 3) := by decide +kernel
theorem dX12_street_128 : decode cX12_street 128 = .ok (.aload_n 0, 1) := by decide +kernel
theorem dX12_street_129 : decode cX12_street 129 = .ok (.aload_n 0, 1) := by decide +kernel
theorem dX12_street_130 : decode cX12_street 130 = .ok (.getfield 265, 3) := by decide +kernel
theorem dX12_street_133 : decode cX12_street 133 = .ok (.putfield 13, 3) := by decide +kernel
theorem dX12_street_136 : decode cX12_street 136 = .ok (.aload_n 0, 1) := by decide +kernel
theorem dX12_street_137 : decode cX12_street 137 = .ok (.getfield 262, 3) := by decide +kernel
theorem dX12_street_140 : decode cX12_street 140 = .ok (.ifCond .eq 9, 3) := by decide +kernel
theorem dX12_street_143 : decode cX12_street 143 = .ok (.aload_n 0, 1) := by decide +kernel
theorem dX12_street_144 : decode cX12_street 144 = .ok (.iconst 1, 1) := by decide +kernel
theorem dX12_street_145 : decode cX12_street 145 = .ok (.invokevirtual 404, 3) := by decide +kernel
theorem dX12_street_148 : decode cX12_street 148 = .ok (.ireturn, 1) := by decide +kernel
theorem dX12_street_149 : decode cX12_street 149 = .ok (.aload_n 0, 1) := by decide +kernel
theorem dX12_street_150 : decode cX12_street 150 = .ok (.invokevirtual 407, 3) := by decide +kernel
theorem dX12_street_153 : decode cX12_street 153 = .ok (.aload_n 0, 1) := by decide +kernel
theorem dX12_street_154 : decode cX12_street 154 = .ok (.getfield 377, 3) := by decide +kernel
theorem dX12_street_157 : decode cX12_street 157 = .ok (.ireturn, 1) := by decide +kernel
theorem dX12_stands_0 : decode cX12_stands 0 = .ok (.aload_n 0, 1) := by decide +kernel
theorem dX12_stands_1 : decode cX12_stands 1 = .ok (.iconst 1, 1) := by decide +kernel
theorem dX12_stands_2 : decode cX12_stands 2 = .ok (.putfield 410, 3) := by decide +kernel
theorem dX12_stands_5 : decode cX12_stands 5 = .ok (.iconst 0, 1) := by decide +kernel
theorem dX12_stands_6 : decode cX12_stands 6 = .ok (.istore_n 1, 1) := by decide +kernel
theorem dX12_stands_7 : decode cX12_stands 7 = .ok (.iload_n 1, 1) := by decide +kernel
theorem dX12_stands_8 : decode cX12_stands 8 = .ok (.bipush 6, 2) := by decide +kernel
theorem dX12_stands_10 : decode cX12_stands 10 = .ok (.if_icmp .ge 24, 3) := by decide +kernel
theorem dX12_stands_13 : decode cX12_stands 13 = .ok (.aload_n 0, 1) := by decide +kernel
theorem dX12_stands_14 : decode cX12_stands 14 = .ok (.getfield 117, 3) := by decide +kernel
theorem dX12_stands_17 : decode cX12_stands 17 = .ok (.bipush 6, 2) := by decide +kernel
theorem dX12_stands_19 : decode cX12_stands 19 = .ok (.iload_n 1, 1) := by decide +kernel
theorem dX12_stands_20 : decode cX12_stands 20 = .ok (.iadd, 1) := by decide +kernel
theorem dX12_stands_21 : decode cX12_stands 21 = .ok (.aload_n 0, 1) := by decide +kernel
theorem dX12_stands_22 : decode cX12_stands 22 = .ok (.getfield 117, 3) := by decide +kernel
theorem dX12_stands_25 : decode cX12_stands 25 = .ok (.iload_n 1, 1) := by decide +kernel
theorem dX12_stands_26 : decode cX12_stands 26 = .ok (.iaload, 1) := by decide +kernel
theorem dX12_stands_27 : decode cX12_stands 27 = .ok (.iastore, 1) := by decide +kernel
theorem dX12_stands_28 : decode cX12_stands 28 = .ok (.iinc 1 1, 3) := by decide +kernel
theorem dX12_stands_31 : decode cX12_stands 31 = .ok (.goto (-24), 3) := by decide +kernel
theorem dX12_stands_34 : decode cX12_stands 34 = .ok (.iconst 0, 1) := by decide +kernel
theorem dX12_stands_35 : decode cX12_stands 35 = .ok (.istore_n 1, 1) := by decide +kernel
theorem dX12_stands_36 : decode cX12_stands 36 = .ok (.iload_n 1, 1) := by decide +kernel
theorem dX12_stands_37 : decode cX12_stands 37 = .ok (.iconst 3, 1) := by decide +kernel
theorem dX12_stands_38 : decode cX12_stands 38 = .ok (.if_icmp .ge 37, 3) := by decide +kernel
theorem dX12_stands_41 : decode cX12_stands 41 = .ok (.aload_n 0, 1) := by decide +kernel
theorem dX12_stands_42 : decode cX12_stands 42 = .ok (.getfield 133, 3) := by decide +kernel
theorem dX12_stands_45 : decode cX12_stands 45 = .ok (.iconst 3, 1) := by decide +kernel
theorem dX12_stands_46 : decode cX12_stands 46 = .ok (.iload_n 1, 1) := by decide +kernel
theorem dX12_stands_47 : decode cX12_stands 47 = .ok (.iadd, 1) := by decide +kernel
theorem dX12_stands_48 : decode cX12_stands 48 = .ok (.aload_n 0, 1) := by decide +kernel
theorem dX12_stands_49 : decode cX12_stands 49 = .ok (.getfield 133, 3) := by decide +kernel
theorem dX12_stands_52 : decode cX12_stands 52 = .ok (.iload_n 1, 1) := by decide +kernel
theorem dX12_stands_53 : decode cX12_stands 53 = .ok (.iaload, 1) := by decide +kernel
theorem dX12_stands_54 : decode cX12_stands 54 = .ok (.iastore, 1) := by decide +kernel
theorem dX12_stands_55 : decode cX12_stands 55 = .ok (.aload_n 0, 1) := by decide +kernel
theorem dX12_stands_56 : decode cX12_stands 56 = .ok (.getfield 136, 3) := by decide +kernel
theorem dX12_stands_59 : decode cX12_stands 59 = .ok (.iconst 3, 1) := by decide +kernel
theorem dX12_stands_60 : decode cX12_stands 60 = .ok (.iload_n 1, 1) := by decide +kernel
theorem dX12_stands_61 : decode cX12_stands 61 = .ok (.iadd, 1) := by decide +kernel
theorem dX12_stands_62 : decode cX12_stands 62 = .ok (.aload_n 0, 1) := by decide +kernel
theorem dX12_stands_63 : decode cX12_stands 63 = .ok (.getfield 136, 3) := by decide +kernel
theorem dX12_stands_66 : decode cX12_stands 66 = .ok (.iload_n 1, 1) := by decide +kernel
theorem dX12_stands_67 : decode cX12_stands 67 = .ok (.iaload, 1) := by decide +kernel
theorem dX12_stands_68 : decode cX12_stands 68 = .ok (.iastore, 1) := by decide +kernel
theorem dX12_stands_69 : decode cX12_stands 69 = .ok (.iinc 1 1, 3) := by decide +kernel
theorem dX12_stands_72 : decode cX12_stands 72 = .ok (.goto (-36), 3) := by decide +kernel
theorem dX12_stands_75 : decode cX12_stands 75 = .ok (.iconst 0, 1) := by decide +kernel
theorem dX12_stands_76 : decode cX12_stands 76 = .ok (.istore_n 1, 1) := by decide +kernel
theorem dX12_stands_77 : decode cX12_stands 77 = .ok (.iload_n 1, 1) := by decide +kernel
theorem dX12_stands_78 : decode cX12_stands 78 = .ok (.bipush 16, 2) := by decide +kernel
theorem dX12_stands_80 : decode cX12_stands 80 = .ok (.if_icmp .ge 39, 3) := by decide +kernel
theorem dX12_stands_83 : decode cX12_stands 83 = .ok (.aload_n 0, 1) := by decide +kernel
theorem dX12_stands_84 : decode cX12_stands 84 = .ok (.getfield 120, 3) := by decide +kernel
theorem dX12_stands_87 : decode cX12_stands 87 = .ok (.bipush 16, 2) := by decide +kernel
theorem dX12_stands_89 : decode cX12_stands 89 = .ok (.iload_n 1, 1) := by decide +kernel
theorem dX12_stands_90 : decode cX12_stands 90 = .ok (.iadd, 1) := by decide +kernel
theorem dX12_stands_91 : decode cX12_stands 91 = .ok (.aload_n 0, 1) := by decide +kernel
theorem dX12_stands_92 : decode cX12_stands 92 = .ok (.getfield 120, 3) := by decide +kernel
theorem dX12_stands_95 : decode cX12_stands 95 = .ok (.iload_n 1, 1) := by decide +kernel
theorem dX12_stands_96 : decode cX12_stands 96 = .ok (.laload, 1) := by decide +kernel
theorem dX12_stands_97 : decode cX12_stands 97 = .ok (.lastore, 1) := by decide +kernel
theorem dX12_stands_98 : decode cX12_stands 98 = .ok (.aload_n 0, 1) := by decide +kernel
theorem dX12_stands_99 : decode cX12_stands 99 = .ok (.getfield 127, 3) := by decide +kernel
theorem dX12_stands_102 : decode cX12_stands 102 = .ok (.bipush 16, 2) := by decide +kernel
theorem dX12_stands_104 : decode cX12_stands 104 = .ok (.iload_n 1, 1) := by decide +kernel
theorem dX12_stands_105 : decode cX12_stands 105 = .ok (.iadd, 1) := by decide +kernel
theorem dX12_stands_106 : decode cX12_stands 106 = .ok (.aload_n 0, 1) := by decide +kernel
theorem dX12_stands_107 : decode cX12_stands 107 = .ok (.getfield 127, 3) := by decide +kernel
theorem dX12_stands_110 : decode cX12_stands 110 = .ok (.iload_n 1, 1) := by decide +kernel
theorem dX12_stands_111 : decode cX12_stands 111 = .ok (.iaload, 1) := by decide +kernel
theorem dX12_stands_112 : decode cX12_stands 112 = .ok (.iastore, 1) := by decide +kernel
theorem dX12_stands_113 : decode cX12_stands 113 = .ok (.iinc 1 1, 3) := by decide +kernel
theorem dX12_stands_116 : decode cX12_stands 116 = .ok (.goto (-39), 3) := by decide +kernel
theorem dX12_stands_119 : decode cX12_stands 119 = .ok (.iconst 0, 1) := by decide +kernel
theorem dX12_stands_120 : decode cX12_stands 120 = .ok (.istore_n 1, 1) := by decide +kernel
theorem dX12_stands_121 : decode cX12_stands 121 = .ok (.iload_n 1, 1) := by decide +kernel
theorem dX12_stands_122 : decode cX12_stands 122 = .ok (.bipush 12, 2) := by decide +kernel
theorem dX12_stands_124 : decode cX12_stands 124 = .ok (.if_icmp .ge 24, 3) := by decide +kernel
theorem dX12_stands_127 : decode cX12_stands 127 = .ok (.aload_n 0, 1) := by decide +kernel
theorem dX12_stands_128 : decode cX12_stands 128 = .ok (.getfield 124, 3) := by decide +kernel
theorem dX12_stands_131 : decode cX12_stands 131 = .ok (.bipush 12, 2) := by decide +kernel
theorem dX12_stands_133 : decode cX12_stands 133 = .ok (.iload_n 1, 1) := by decide +kernel
theorem dX12_stands_134 : decode cX12_stands 134 = .ok (.iadd, 1) := by decide +kernel
theorem dX12_stands_135 : decode cX12_stands 135 = .ok (.aload_n 0, 1) := by decide +kernel
theorem dX12_stands_136 : decode cX12_stands 136 = .ok (.getfield 124, 3) := by decide +kernel
theorem dX12_stands_139 : decode cX12_stands 139 = .ok (.iload_n 1, 1) := by decide +kernel
theorem dX12_stands_140 : decode cX12_stands 140 = .ok (.iaload, 1) := by decide +kernel
theorem dX12_stands_141 : decode cX12_stands 141 = .ok (.iastore, 1) := by decide +kernel
theorem dX12_stands_142 : decode cX12_stands 142 = .ok (.iinc 1 1, 3) := by decide +kernel
theorem dX12_stands_145 : decode cX12_stands 145 = .ok (.goto (-24), 3) := by decide +kernel
theorem dX12_stands_148 : decode cX12_stands 148 = .ok (.iconst 0, 1) := by decide +kernel
theorem dX12_stands_149 : decode cX12_stands 149 = .ok (.istore_n 1, 1) := by decide +kernel
theorem dX12_stands_150 : decode cX12_stands 150 = .ok (.iload_n 1, 1) := by decide +kernel
theorem dX12_stands_151 : decode cX12_stands 151 = .ok (.bipush 48, 2) := by decide +kernel
theorem dX12_stands_153 : decode cX12_stands 153 = .ok (.if_icmp .ge 24, 3) := by decide +kernel
theorem dX12_stands_156 : decode cX12_stands 156 = .ok (.aload_n 0, 1) := by decide +kernel
theorem dX12_stands_157 : decode cX12_stands 157 = .ok (.getfield 130, 3) := by decide +kernel
theorem dX12_stands_160 : decode cX12_stands 160 = .ok (.bipush 48, 2) := by decide +kernel
theorem dX12_stands_162 : decode cX12_stands 162 = .ok (.iload_n 1, 1) := by decide +kernel
theorem dX12_stands_163 : decode cX12_stands 163 = .ok (.iadd, 1) := by decide +kernel
theorem dX12_stands_164 : decode cX12_stands 164 = .ok (.aload_n 0, 1) := by decide +kernel
theorem dX12_stands_165 : decode cX12_stands 165 = .ok (.getfield 130, 3) := by decide +kernel
theorem dX12_stands_168 : decode cX12_stands 168 = .ok (.iload_n 1, 1) := by decide +kernel
theorem dX12_stands_169 : decode cX12_stands 169 = .ok (.iaload, 1) := by decide +kernel
theorem dX12_stands_170 : decode cX12_stands 170 = .ok (.iastore, 1) := by decide +kernel
theorem dX12_stands_171 : decode cX12_stands 171 = .ok (.iinc 1 1, 3) := by decide +kernel
theorem dX12_stands_174 : decode cX12_stands 174 = .ok (.goto (-24), 3) := by decide +kernel
theorem dX12_stands_177 : decode cX12_stands 177 = .ok (.iconst 0, 1) := by decide +kernel
theorem dX12_stands_178 : decode cX12_stands 178 = .ok (.istore_n 1, 1) := by decide +kernel
theorem dX12_stands_179 : decode cX12_stands 179 = .ok (.iload_n 1, 1) := by decide +kernel
theorem dX12_stands_180 : decode cX12_stands 180 = .ok (.aload_n 0, 1) := by decide +kernel
theorem dX12_stands_181 : decode cX12_stands 181 = .ok (.getfield 374, 3) := by decide +kernel
theorem dX12_stands_184 : decode cX12_stands 184 = .ok (.if_icmp .ge 25, 3) := by decide +kernel
theorem dX12_stands_187 : decode cX12_stands 187 = .ok (.aload_n 0, 1) := by decide +kernel
theorem dX12_stands_188 : decode cX12_stands 188 = .ok (.getfield 139, 3) := by decide +kernel
theorem dX12_stands_191 : decode cX12_stands 191 = .ok (.sipush 1600, 3) := by decide +kernel
theorem dX12_stands_194 : decode cX12_stands 194 = .ok (.iload_n 1, 1) := by decide +kernel
theorem dX12_stands_195 : decode cX12_stands 195 = .ok (.iadd, 1) := by decide +kernel
theorem dX12_stands_196 : decode cX12_stands 196 = .ok (.aload_n 0, 1) := by decide +kernel
theorem dX12_stands_197 : decode cX12_stands 197 = .ok (.getfield 139, 3) := by decide +kernel
theorem dX12_stands_200 : decode cX12_stands 200 = .ok (.iload_n 1, 1) := by decide +kernel
theorem dX12_stands_201 : decode cX12_stands 201 = .ok (.iaload, 1) := by decide +kernel
theorem dX12_stands_202 : decode cX12_stands 202 = .ok (.iastore, 1) := by decide +kernel
theorem dX12_stands_203 : decode cX12_stands 203 = .ok (.iinc 1 1, 3) := by decide +kernel
theorem dX12_stands_206 : decode cX12_stands 206 = .ok (.goto (-27), 3) := by decide +kernel
theorem dX12_stands_209 : decode cX12_stands 209 = .ok (.iconst 0, 1) := by decide +kernel
theorem dX12_stands_210 : decode cX12_stands 210 = .ok (.istore_n 1, 1) := by decide +kernel
theorem dX12_stands_211 : decode cX12_stands 211 = .ok (.iload_n 1, 1) := by decide +kernel
theorem dX12_stands_212 : decode cX12_stands 212 = .ok (.bipush 105, 2) := by decide +kernel
theorem dX12_stands_214 : decode cX12_stands 214 = .ok (.if_icmp .ge 16, 3) := by decide +kernel
theorem dX12_stands_217 : decode cX12_stands 217 = .ok (.aload_n 0, 1) := by decide +kernel
theorem dX12_stands_218 : decode cX12_stands 218 = .ok (.getfield 142, 3) := by decide +kernel
theorem dX12_stands_221 : decode cX12_stands 221 = .ok (.iload_n 1, 1) := by decide +kernel
theorem dX12_stands_222 : decode cX12_stands 222 = .ok (.iconst 0, 1) := by decide +kernel
theorem dX12_stands_223 : decode cX12_stands 223 = .ok (.iastore, 1) := by decide +kernel
theorem dX12_stands_224 : decode cX12_stands 224 = .ok (.iinc 1 1, 3) := by decide +kernel
theorem dX12_stands_227 : decode cX12_stands 227 = .ok (.goto (-16), 3) := by decide +kernel
theorem dX12_stands_230 : decode cX12_stands 230 = .ok (.aload_n 0, 1) := by decide +kernel
theorem dX12_stands_231 : decode cX12_stands 231 = .ok (.getfield 142, 3) := by decide +kernel
theorem dX12_stands_234 : decode cX12_stands 234 = .ok (.iconst 1, 1) := by decide +kernel
theorem dX12_stands_235 : decode cX12_stands 235 = .ok (.aload_n 0, 1) := by decide +kernel
theorem dX12_stands_236 : decode cX12_stands 236 = .ok (.getfield 117, 3) := by decide +kernel
theorem dX12_stands_239 : decode cX12_stands 239 = .ok (.iconst 4, 1) := by decide +kernel
theorem dX12_stands_240 : decode cX12_stands 240 = .ok (.iaload, 1) := by decide +kernel
theorem dX12_stands_241 : decode cX12_stands 241 = .ok (.iastore, 1) := by decide +kernel
theorem dX12_stands_242 : decode cX12_stands 242 = .ok (.iconst 0, 1) := by decide +kernel
theorem dX12_stands_243 : decode cX12_stands 243 = .ok (.istore_n 1, 1) := by decide +kernel
theorem dX12_stands_244 : decode cX12_stands 244 = .ok (.iload_n 1, 1) := by decide +kernel
theorem dX12_stands_245 : decode cX12_stands 245 = .ok (.aload_n 0, 1) := by decide +kernel
theorem dX12_stands_246 : decode cX12_stands 246 = .ok (.getfield 117, 3) := by decide +kernel
theorem dX12_stands_249 : decode cX12_stands 249 = .ok (.iconst 1, 1) := by decide +kernel
theorem dX12_stands_250 : decode cX12_stands 250 = .ok (.iaload, 1) := by decide +kernel
theorem dX12_stands_251 : decode cX12_stands 251 = .ok (.if_icmp .ge 25, 3) := by decide +kernel
theorem dX12_stands_254 : decode cX12_stands 254 = .ok (.aload_n 0, 1) := by decide +kernel
theorem dX12_stands_255 : decode cX12_stands 255 = .ok (.getfield 142, 3) := by decide +kernel
theorem dX12_stands_258 : decode cX12_stands 258 = .ok (.iconst 2, 1) := by decide +kernel
theorem dX12_stands_259 : decode cX12_stands 259 = .ok (.iload_n 1, 1) := by decide +kernel
theorem dX12_stands_260 : decode cX12_stands 260 = .ok (.iadd, 1) := by decide +kernel
theorem dX12_stands_261 : decode cX12_stands 261 = .ok (.aload_n 0, 1) := by decide +kernel
theorem dX12_stands_262 : decode cX12_stands 262 = .ok (.getfield 124, 3) := by decide +kernel
theorem dX12_stands_265 : decode cX12_stands 265 = .ok (.iconst 2, 1) := by decide +kernel
theorem dX12_stands_266 : decode cX12_stands 266 = .ok (.iload_n 1, 1) := by decide +kernel
theorem dX12_stands_267 : decode cX12_stands 267 = .ok (.imul, 1) := by decide +kernel
theorem dX12_stands_268 : decode cX12_stands 268 = .ok (.iaload, 1) := by decide +kernel
theorem dX12_stands_269 : decode cX12_stands 269 = .ok (.iastore, 1) := by decide +kernel
theorem dX12_stands_270 : decode cX12_stands 270 = .ok (.iinc 1 1, 3) := by decide +kernel
theorem dX12_stands_273 : decode cX12_stands 273 = .ok (.goto (-29), 3) := by decide +kernel
theorem dX12_stands_276 : decode cX12_stands 276 = .ok (.aload_n 0, 1) := by decide +kernel
theorem dX12_stands_277 : decode cX12_stands 277 = .ok (.iconst 0, 1) := by decide +kernel
theorem dX12_stands_278 : decode cX12_stands 278 = .ok (.putfield 414, 3) := by decide +kernel
theorem dX12_stands_281 : decode cX12_stands 281 = .ok (.aload_n 0, 1) := by decide +kernel
theorem dX12_stands_282 : decode cX12_stands 282 = .ok (.iconst 0, 1) := by decide +kernel
theorem dX12_stands_283 : decode cX12_stands 283 = .ok (.putfield 417, 3) := by decide +kernel
theorem dX12_stands_286 : decode cX12_stands 286 = .ok (.return_, 1) := by decide +kernel
theorem dX12_fault_0 : decode cX12_fault 0 = .ok (.iload_n 1, 1) := by decide +kernel
theorem dX12_fault_1 : decode cX12_fault 1 = .ok (.ifCond .ne 10, 3) := by decide +kernel
theorem dX12_fault_4 : decode cX12_fault 4 = .ok (.aload_n 0, 1) := by decide +kernel
theorem dX12_fault_5 : decode cX12_fault 5 = .ok (.getfield 401, 3) := by decide +kernel
theorem dX12_fault_8 : decode cX12_fault 8 = .ok (.goto 16, 3) := by decide +kernel
theorem dX12_fault_11 : decode cX12_fault 11 = .ok (.iload_n 1, 1) := by decide +kernel
theorem dX12_fault_12 : decode cX12_fault 12 = .ok (.iconst 1, 1) := by decide +kernel
theorem dX12_fault_13 : decode cX12_fault 13 = .ok (.if_icmp .ne 10, 3) := by decide +kernel
theorem dX12_fault_16 : decode cX12_fault 16 = .ok (.aload_n 0, 1) := by decide +kernel
theorem dX12_fault_17 : decode cX12_fault 17 = .ok (.getfield 13, 3) := by decide +kernel
theorem dX12_fault_20 : decode cX12_fault 20 = .ok (.goto 4, 3) := by decide +kernel
theorem dX12_fault_23 : decode cX12_fault 23 = .ok (.iconst (-1), 1) := by decide +kernel
theorem dX12_fault_24 : decode cX12_fault 24 = .ok (.ireturn, 1) := by decide +kernel
theorem dX12_windowMany_0 : decode cX12_windowMany 0 = .ok (.aload_n 0, 1) := by decide +kernel
theorem dX12_windowMany_1 : decode cX12_windowMany 1 = .ok (.getfield 117, 3) := by decide +kernel
theorem dX12_windowMany_4 : decode cX12_windowMany 4 = .ok (.bipush 6, 2) := by decide +kernel
theorem dX12_windowMany_6 : decode cX12_windowMany 6 = .ok (.iaload, 1) := by decide +kernel
theorem dX12_windowMany_7 : decode cX12_windowMany 7 = .ok (.ireturn, 1) := by decide +kernel
theorem dX12_personMany_0 : decode cX12_personMany 0 = .ok (.aload_n 0, 1) := by decide +kernel
theorem dX12_personMany_1 : decode cX12_personMany 1 = .ok (.getfield 117, 3) := by decide +kernel
theorem dX12_personMany_4 : decode cX12_personMany 4 = .ok (.bipush 7, 2) := by decide +kernel
theorem dX12_personMany_6 : decode cX12_personMany 6 = .ok (.iaload, 1) := by decide +kernel
theorem dX12_personMany_7 : decode cX12_personMany 7 = .ok (.ireturn, 1) := by decide +kernel
theorem dX12_lieMany_0 : decode cX12_lieMany 0 = .ok (.aload_n 0, 1) := by decide +kernel
theorem dX12_lieMany_1 : decode cX12_lieMany 1 = .ok (.getfield 117, 3) := by decide +kernel
theorem dX12_lieMany_4 : decode cX12_lieMany 4 = .ok (.bipush 8, 2) := by decide +kernel
theorem dX12_lieMany_6 : decode cX12_lieMany 6 = .ok (.iaload, 1) := by decide +kernel
theorem dX12_lieMany_7 : decode cX12_lieMany 7 = .ok (.ireturn, 1) := by decide +kernel
theorem dX12_planMany_0 : decode cX12_planMany 0 = .ok (.aload_n 0, 1) := by decide +kernel
theorem dX12_planMany_1 : decode cX12_planMany 1 = .ok (.getfield 117, 3) := by decide +kernel
theorem dX12_planMany_4 : decode cX12_planMany 4 = .ok (.bipush 9, 2) := by decide +kernel
theorem dX12_planMany_6 : decode cX12_planMany 6 = .ok (.iaload, 1) := by decide +kernel
theorem dX12_planMany_7 : decode cX12_planMany 7 = .ok (.ireturn, 1) := by decide +kernel
theorem dX12_isWindow_0 : decode cX12_isWindow 0 = .ok (.lload_n 1, 1) := by decide +kernel
theorem dX12_isWindow_1 : decode cX12_isWindow 1 = .ok (.lconst 0, 1) := by decide +kernel
theorem dX12_isWindow_2 : decode cX12_isWindow 2 = .ok (.aload_n 0, 1) := by decide +kernel
theorem dX12_isWindow_3 : decode cX12_isWindow 3 = .ok (.invokevirtual 420, 3) := by decide +kernel
theorem dX12_isWindow_6 : decode cX12_isWindow 6 = .ok (.iconst 1, 1) := by decide +kernel
theorem dX12_isWindow_7 : decode cX12_isWindow 7 = .ok (.isub, 1) := by decide +kernel
theorem dX12_isWindow_8 : decode cX12_isWindow 8 = .ok (.i2l, 1) := by decide +kernel
theorem dX12_isWindow_9 : decode cX12_isWindow 9 = .ok (.invokestatic 305, 3) := by decide +kernel
theorem dX12_isWindow_12 : decode cX12_isWindow 12 = .ok (.ireturn, 1) := by decide +kernel
theorem dX12_isPerson_0 : decode cX12_isPerson 0 = .ok (.iload_n 1, 1) := by decide +kernel
theorem dX12_isPerson_1 : decode cX12_isPerson 1 = .ok (.i2l, 1) := by decide +kernel
theorem dX12_isPerson_2 : decode cX12_isPerson 2 = .ok (.lconst 0, 1) := by decide +kernel
theorem dX12_isPerson_3 : decode cX12_isPerson 3 = .ok (.aload_n 0, 1) := by decide +kernel
theorem dX12_isPerson_4 : decode cX12_isPerson 4 = .ok (.invokevirtual 423, 3) := by decide +kernel
theorem dX12_isPerson_7 : decode cX12_isPerson 7 = .ok (.iconst 1, 1) := by decide +kernel
theorem dX12_isPerson_8 : decode cX12_isPerson 8 = .ok (.isub, 1) := by decide +kernel
theorem dX12_isPerson_9 : decode cX12_isPerson 9 = .ok (.i2l, 1) := by decide +kernel
theorem dX12_isPerson_10 : decode cX12_isPerson 10 = .ok (.invokestatic 305, 3) := by decide +kernel
theorem dX12_isPerson_13 : decode cX12_isPerson 13 = .ok (.ireturn, 1) := by decide +kernel
theorem dX12_isLie_0 : decode cX12_isLie 0 = .ok (.lload_n 1, 1) := by decide +kernel
theorem dX12_isLie_1 : decode cX12_isLie 1 = .ok (.lconst 0, 1) := by decide +kernel
theorem dX12_isLie_2 : decode cX12_isLie 2 = .ok (.aload_n 0, 1) := by decide +kernel
theorem dX12_isLie_3 : decode cX12_isLie 3 = .ok (.invokevirtual 426, 3) := by decide +kernel
theorem dX12_isLie_6 : decode cX12_isLie 6 = .ok (.iconst 1, 1) := by decide +kernel
theorem dX12_isLie_7 : decode cX12_isLie 7 = .ok (.isub, 1) := by decide +kernel
theorem dX12_isLie_8 : decode cX12_isLie 8 = .ok (.i2l, 1) := by decide +kernel
theorem dX12_isLie_9 : decode cX12_isLie 9 = .ok (.invokestatic 305, 3) := by decide +kernel
theorem dX12_isLie_12 : decode cX12_isLie 12 = .ok (.ireturn, 1) := by decide +kernel
theorem dX12_personOf_0 : decode cX12_personOf 0 = .ok (.aload_n 0, 1) := by decide +kernel
theorem dX12_personOf_1 : decode cX12_personOf 1 = .ok (.getfield 127, 3) := by decide +kernel
theorem dX12_personOf_4 : decode cX12_personOf 4 = .ok (.bipush 16, 2) := by decide +kernel
theorem dX12_personOf_6 : decode cX12_personOf 6 = .ok (.iconst 2, 1) := by decide +kernel
theorem dX12_personOf_7 : decode cX12_personOf 7 = .ok (.iload_n 1, 1) := by decide +kernel
theorem dX12_personOf_8 : decode cX12_personOf 8 = .ok (.imul, 1) := by decide +kernel
theorem dX12_personOf_9 : decode cX12_personOf 9 = .ok (.iadd, 1) := by decide +kernel
theorem dX12_personOf_10 : decode cX12_personOf 10 = .ok (.iaload, 1) := by decide +kernel
theorem dX12_personOf_11 : decode cX12_personOf 11 = .ok (.ireturn, 1) := by decide +kernel
theorem dX12_hangsOn_0 : decode cX12_hangsOn 0 = .ok (.aload_n 0, 1) := by decide +kernel
theorem dX12_hangsOn_1 : decode cX12_hangsOn 1 = .ok (.getfield 127, 3) := by decide +kernel
theorem dX12_hangsOn_4 : decode cX12_hangsOn 4 = .ok (.bipush 17, 2) := by decide +kernel
theorem dX12_hangsOn_6 : decode cX12_hangsOn 6 = .ok (.iconst 2, 1) := by decide +kernel
theorem dX12_hangsOn_7 : decode cX12_hangsOn 7 = .ok (.iload_n 1, 1) := by decide +kernel
theorem dX12_hangsOn_8 : decode cX12_hangsOn 8 = .ok (.imul, 1) := by decide +kernel
theorem dX12_hangsOn_9 : decode cX12_hangsOn 9 = .ok (.iadd, 1) := by decide +kernel
theorem dX12_hangsOn_10 : decode cX12_hangsOn 10 = .ok (.iaload, 1) := by decide +kernel
theorem dX12_hangsOn_11 : decode cX12_hangsOn 11 = .ok (.ireturn, 1) := by decide +kernel
theorem dX12_windowOf_0 : decode cX12_windowOf 0 = .ok (.aload_n 0, 1) := by decide +kernel
theorem dX12_windowOf_1 : decode cX12_windowOf 1 = .ok (.getfield 142, 3) := by decide +kernel
theorem dX12_windowOf_4 : decode cX12_windowOf 4 = .ok (.iconst 2, 1) := by decide +kernel
theorem dX12_windowOf_5 : decode cX12_windowOf 5 = .ok (.aload_n 0, 1) := by decide +kernel
theorem dX12_windowOf_6 : decode cX12_windowOf 6 = .ok (.iload_n 1, 1) := by decide +kernel
theorem dX12_windowOf_7 : decode cX12_windowOf 7 = .ok (.invokevirtual 429, 3) := by decide +kernel
theorem dX12_windowOf_10 : decode cX12_windowOf 10 = .ok (.iadd, 1) := by decide +kernel
theorem dX12_windowOf_11 : decode cX12_windowOf 11 = .ok (.iaload, 1) := by decide +kernel
theorem dX12_windowOf_12 : decode cX12_windowOf 12 = .ok (.ireturn, 1) := by decide +kernel
theorem dX12_isLit_0 : decode cX12_isLit 0 = .ok (.aload_n 0, 1) := by decide +kernel
theorem dX12_isLit_1 : decode cX12_isLit 1 = .ok (.getfield 142, 3) := by decide +kernel
theorem dX12_isLit_4 : decode cX12_isLit 4 = .ok (.bipush 8, 2) := by decide +kernel
theorem dX12_isLit_6 : decode cX12_isLit 6 = .ok (.iload_n 1, 1) := by decide +kernel
theorem dX12_isLit_7 : decode cX12_isLit 7 = .ok (.iadd, 1) := by decide +kernel
theorem dX12_isLit_8 : decode cX12_isLit 8 = .ok (.iaload, 1) := by decide +kernel
theorem dX12_isLit_9 : decode cX12_isLit 9 = .ok (.ifCond .le 7, 3) := by decide +kernel
theorem dX12_isLit_12 : decode cX12_isLit 12 = .ok (.iconst 1, 1) := by decide +kernel
theorem dX12_isLit_13 : decode cX12_isLit 13 = .ok (.goto 4, 3) := by decide +kernel
theorem dX12_isLit_16 : decode cX12_isLit 16 = .ok (.iconst 0, 1) := by decide +kernel
theorem dX12_isLit_17 : decode cX12_isLit 17 = .ok (.ireturn, 1) := by decide +kernel
theorem dX12_litIn_0 : decode cX12_litIn 0 = .ok (.iconst 0, 1) := by decide +kernel
theorem dX12_litIn_1 : decode cX12_litIn 1 = .ok (.istore_n 2, 1) := by decide +kernel
theorem dX12_litIn_2 : decode cX12_litIn 2 = .ok (.iconst 0, 1) := by decide +kernel
theorem dX12_litIn_3 : decode cX12_litIn 3 = .ok (.istore_n 3, 1) := by decide +kernel
theorem dX12_litIn_4 : decode cX12_litIn 4 = .ok (.iload_n 3, 1) := by decide +kernel
theorem dX12_litIn_5 : decode cX12_litIn 5 = .ok (.aload_n 0, 1) := by decide +kernel
theorem dX12_litIn_6 : decode cX12_litIn 6 = .ok (.invokevirtual 426, 3) := by decide +kernel
theorem dX12_litIn_9 : decode cX12_litIn 9 = .ok (.if_icmp .ge 29, 3) := by decide +kernel
theorem dX12_litIn_12 : decode cX12_litIn 12 = .ok (.aload_n 0, 1) := by decide +kernel
theorem dX12_litIn_13 : decode cX12_litIn 13 = .ok (.iload_n 3, 1) := by decide +kernel
theorem dX12_litIn_14 : decode cX12_litIn 14 = .ok (.invokevirtual 432, 3) := by decide +kernel
theorem dX12_litIn_17 : decode cX12_litIn 17 = .ok (.ifCond .eq 15, 3) := by decide +kernel
theorem dX12_litIn_20 : decode cX12_litIn 20 = .ok (.aload_n 0, 1) := by decide +kernel
theorem dX12_litIn_21 : decode cX12_litIn 21 = .ok (.iload_n 3, 1) := by decide +kernel
theorem dX12_litIn_22 : decode cX12_litIn 22 = .ok (.invokevirtual 435, 3) := by decide +kernel
theorem dX12_litIn_25 : decode cX12_litIn 25 = .ok (.iload_n 1, 1) := by decide +kernel
theorem dX12_litIn_26 : decode cX12_litIn 26 = .ok (.if_icmp .ne 6, 3) := by decide +kernel
theorem dX12_litIn_29 : decode cX12_litIn 29 = .ok (.iinc 2 1, 3) := by decide +kernel
theorem dX12_litIn_32 : decode cX12_litIn 32 = .ok (.iinc 3 1, 3) := by decide +kernel
theorem dX12_litIn_35 : decode cX12_litIn 35 = .ok (.goto (-31), 3) := by decide +kernel
theorem dX12_litIn_38 : decode cX12_litIn 38 = .ok (.iload_n 2, 1) := by decide +kernel
theorem dX12_litIn_39 : decode cX12_litIn 39 = .ok (.ireturn, 1) := by decide +kernel
theorem dX12_nearTo_0 : decode cX12_nearTo 0 = .ok (.iconst 0, 1) := by decide +kernel
theorem dX12_nearTo_1 : decode cX12_nearTo 1 = .ok (.istore_n 2, 1) := by decide +kernel
theorem dX12_nearTo_2 : decode cX12_nearTo 2 = .ok (.iconst 0, 1) := by decide +kernel
theorem dX12_nearTo_3 : decode cX12_nearTo 3 = .ok (.istore_n 3, 1) := by decide +kernel
theorem dX12_nearTo_4 : decode cX12_nearTo 4 = .ok (.iload_n 3, 1) := by decide +kernel
theorem dX12_nearTo_5 : decode cX12_nearTo 5 = .ok (.aload_n 0, 1) := by decide +kernel
theorem dX12_nearTo_6 : decode cX12_nearTo 6 = .ok (.invokevirtual 426, 3) := by decide +kernel
theorem dX12_nearTo_9 : decode cX12_nearTo 9 = .ok (.if_icmp .ge 47, 3) := by decide +kernel
theorem dX12_nearTo_12 : decode cX12_nearTo 12 = .ok (.iload_n 3, 1) := by decide +kernel
theorem dX12_nearTo_13 : decode cX12_nearTo 13 = .ok (.iload_n 1, 1) := by decide +kernel
theorem dX12_nearTo_14 : decode cX12_nearTo 14 = .ok (.if_icmp .eq 36, 3) := by decide +kernel
theorem dX12_nearTo_17 : decode cX12_nearTo 17 = .ok (.aload_n 0, 1) := by decide +kernel
theorem dX12_nearTo_18 : decode cX12_nearTo 18 = .ok (.iload_n 3, 1) := by decide +kernel
theorem dX12_nearTo_19 : decode cX12_nearTo 19 = .ok (.invokevirtual 432, 3) := by decide +kernel
theorem dX12_nearTo_22 : decode cX12_nearTo 22 = .ok (.ifCond .eq 28, 3) := by decide +kernel
theorem dX12_nearTo_25 : decode cX12_nearTo 25 = .ok (.aload_n 0, 1) := by decide +kernel
theorem dX12_nearTo_26 : decode cX12_nearTo 26 = .ok (.iload_n 3, 1) := by decide +kernel
theorem dX12_nearTo_27 : decode cX12_nearTo 27 = .ok (.invokevirtual 435, 3) := by decide +kernel
theorem dX12_nearTo_30 : decode cX12_nearTo 30 = .ok (.aload_n 0, 1) := by decide +kernel
theorem dX12_nearTo_31 : decode cX12_nearTo 31 = .ok (.iload_n 1, 1) := by decide +kernel
theorem dX12_nearTo_32 : decode cX12_nearTo 32 = .ok (.invokevirtual 435, 3) := by decide +kernel
theorem dX12_nearTo_35 : decode cX12_nearTo 35 = .ok (.isub, 1) := by decide +kernel
theorem dX12_nearTo_36 : decode cX12_nearTo 36 = .ok (.i2l, 1) := by decide +kernel
theorem dX12_nearTo_37 : decode cX12_nearTo 37 = .ok (.ldc2_w 438, 3) := by decide +kernel
theorem dX12_nearTo_40 : decode cX12_nearTo 40 = .ok (.lconst 1, 1) := by decide +kernel
theorem dX12_nearTo_41 : decode cX12_nearTo 41 = .ok (.invokestatic 305, 3) := by decide +kernel
theorem dX12_nearTo_44 : decode cX12_nearTo 44 = .ok (.ifCond .eq 6, 3) := by decide +kernel
theorem dX12_nearTo_47 : decode cX12_nearTo 47 = .ok (.iinc 2 1, 3) := by decide +kernel
theorem dX12_nearTo_50 : decode cX12_nearTo 50 = .ok (.iinc 3 1, 3) := by decide +kernel
theorem dX12_nearTo_53 : decode cX12_nearTo 53 = .ok (.goto (-49), 3) := by decide +kernel
theorem dX12_nearTo_56 : decode cX12_nearTo 56 = .ok (.iload_n 2, 1) := by decide +kernel
theorem dX12_nearTo_57 : decode cX12_nearTo 57 = .ok (.ireturn, 1) := by decide +kernel
theorem dX12_isCoded_0 : decode cX12_isCoded 0 = .ok (.aload_n 0, 1) := by decide +kernel
theorem dX12_isCoded_1 : decode cX12_isCoded 1 = .ok (.getfield 133, 3) := by decide +kernel
theorem dX12_isCoded_4 : decode cX12_isCoded 4 = .ok (.iconst 3, 1) := by decide +kernel
theorem dX12_isCoded_5 : decode cX12_isCoded 5 = .ok (.iload_n 1, 1) := by decide +kernel
theorem dX12_isCoded_6 : decode cX12_isCoded 6 = .ok (.iadd, 1) := by decide +kernel
theorem dX12_isCoded_7 : decode cX12_isCoded 7 = .ok (.iaload, 1) := by decide +kernel
theorem dX12_isCoded_8 : decode cX12_isCoded 8 = .ok (.iconst (-1), 1) := by decide +kernel
theorem dX12_isCoded_9 : decode cX12_isCoded 9 = .ok (.if_icmp .eq 7, 3) := by decide +kernel
theorem dX12_isCoded_12 : decode cX12_isCoded 12 = .ok (.iconst 1, 1) := by decide +kernel
theorem dX12_isCoded_13 : decode cX12_isCoded 13 = .ok (.goto 4, 3) := by decide +kernel
theorem dX12_isCoded_16 : decode cX12_isCoded 16 = .ok (.iconst 0, 1) := by decide +kernel
theorem dX12_isCoded_17 : decode cX12_isCoded 17 = .ok (.ireturn, 1) := by decide +kernel
theorem dX12_codesTell_0 : decode cX12_codesTell 0 = .ok (.aload_n 0, 1) := by decide +kernel
theorem dX12_codesTell_1 : decode cX12_codesTell 1 = .ok (.iload_n 1, 1) := by decide +kernel
theorem dX12_codesTell_2 : decode cX12_codesTell 2 = .ok (.putfield 320, 3) := by decide +kernel
theorem dX12_codesTell_5 : decode cX12_codesTell 5 = .ok (.aload_n 0, 1) := by decide +kernel
theorem dX12_codesTell_6 : decode cX12_codesTell 6 = .ok (.iconst 0, 1) := by decide +kernel
theorem dX12_codesTell_7 : decode cX12_codesTell 7 = .ok (.putfield 440, 3) := by decide +kernel
theorem dX12_codesTell_10 : decode cX12_codesTell 10 = .ok (.aload_n 0, 1) := by decide +kernel
theorem dX12_codesTell_11 : decode cX12_codesTell 11 = .ok (.getfield 133, 3) := by decide +kernel
theorem dX12_codesTell_14 : decode cX12_codesTell 14 = .ok (.iconst 3, 1) := by decide +kernel
theorem dX12_codesTell_15 : decode cX12_codesTell 15 = .ok (.iload_n 1, 1) := by decide +kernel
theorem dX12_codesTell_16 : decode cX12_codesTell 16 = .ok (.iadd, 1) := by decide +kernel
theorem dX12_codesTell_17 : decode cX12_codesTell 17 = .ok (.iaload, 1) := by decide +kernel
theorem dX12_codesTell_18 : decode cX12_codesTell 18 = .ok (.istore_n 2, 1) := by decide +kernel
theorem dX12_codesTell_19 : decode cX12_codesTell 19 = .ok (.iload_n 2, 1) := by decide +kernel
theorem dX12_codesTell_20 : decode cX12_codesTell 20 = .ok (.aload_n 0, 1) := by decide +kernel
theorem dX12_codesTell_21 : decode cX12_codesTell 21 = .ok (.getfield 136, 3) := by decide +kernel
theorem dX12_codesTell_24 : decode cX12_codesTell 24 = .ok (.iconst 3, 1) := by decide +kernel
theorem dX12_codesTell_25 : decode cX12_codesTell 25 = .ok (.iload_n 1, 1) := by decide +kernel
theorem dX12_codesTell_26 : decode cX12_codesTell 26 = .ok (.iadd, 1) := by decide +kernel
theorem dX12_codesTell_27 : decode cX12_codesTell 27 = .ok (.iaload, 1) := by decide +kernel
theorem dX12_codesTell_28 : decode cX12_codesTell 28 = .ok (.if_icmp .ge 114, 3) := by decide +kernel
theorem dX12_codesTell_31 : decode cX12_codesTell 31 = .ok (.aload_n 0, 1) := by decide +kernel
theorem dX12_codesTell_32 : decode cX12_codesTell 32 = .ok (.getfield 139, 3) := by decide +kernel
theorem dX12_codesTell_35 : decode cX12_codesTell 35 = .ok (.sipush 1600, 3) := by decide +kernel
theorem dX12_codesTell_38 : decode cX12_codesTell 38 = .ok (.iload_n 2, 1) := by decide +kernel
theorem dX12_codesTell_39 : decode cX12_codesTell 39 = .ok (.iadd, 1) := by decide +kernel
theorem dX12_codesTell_40 : decode cX12_codesTell 40 = .ok (.iaload, 1) := by decide +kernel
theorem dX12_codesTell_41 : decode cX12_codesTell 41 = .ok (.istore_n 3, 1) := by decide +kernel
theorem dX12_codesTell_42 : decode cX12_codesTell 42 = .ok (.iload_n 3, 1) := by decide +kernel
theorem dX12_codesTell_43 : decode cX12_codesTell 43 = .ok (.sipush 1000, 3) := by decide +kernel
theorem dX12_codesTell_46 : decode cX12_codesTell 46 = .ok (.if_icmp .lt 16, 3) := by decide +kernel
theorem dX12_codesTell_49 : decode cX12_codesTell 49 = .ok (.aload_n 0, 1) := by decide +kernel
theorem dX12_codesTell_50 : decode cX12_codesTell 50 = .ok (.iload_n 3, 1) := by decide +kernel
theorem dX12_codesTell_51 : decode cX12_codesTell 51 = .ok (.sipush 1000, 3) := by decide +kernel
theorem dX12_codesTell_54 : decode cX12_codesTell 54 = .ok (.isub, 1) := by decide +kernel
theorem dX12_codesTell_55 : decode cX12_codesTell 55 = .ok (.i2l, 1) := by decide +kernel
theorem dX12_codesTell_56 : decode cX12_codesTell 56 = .ok (.invokevirtual 443, 3) := by decide +kernel
theorem dX12_codesTell_59 : decode cX12_codesTell 59 = .ok (.goto 77, 3) := by decide +kernel
theorem dX12_codesTell_62 : decode cX12_codesTell 62 = .ok (.iload_n 3, 1) := by decide +kernel
theorem dX12_codesTell_63 : decode cX12_codesTell 63 = .ok (.bipush 40, 2) := by decide +kernel
theorem dX12_codesTell_65 : decode cX12_codesTell 65 = .ok (.if_icmp .lt 19, 3) := by decide +kernel
theorem dX12_codesTell_68 : decode cX12_codesTell 68 = .ok (.aload_n 0, 1) := by decide +kernel
theorem dX12_codesTell_69 : decode cX12_codesTell 69 = .ok (.aload_n 0, 1) := by decide +kernel
theorem dX12_codesTell_70 : decode cX12_codesTell 70 = .ok (.iload_n 3, 1) := by decide +kernel
theorem dX12_codesTell_71 : decode cX12_codesTell 71 = .ok (.bipush 40, 2) := by decide +kernel
theorem dX12_codesTell_73 : decode cX12_codesTell 73 = .ok (.isub, 1) := by decide +kernel
theorem dX12_codesTell_74 : decode cX12_codesTell 74 = .ok (.iconst 0, 1) := by decide +kernel
theorem dX12_codesTell_75 : decode cX12_codesTell 75 = .ok (.invokevirtual 447, 3) := by decide +kernel
theorem dX12_codesTell_78 : decode cX12_codesTell 78 = .ok (.invokevirtual 443, 3) := by decide +kernel
theorem dX12_codesTell_81 : decode cX12_codesTell 81 = .ok (.goto 55, 3) := by decide +kernel
theorem dX12_codesTell_84 : decode cX12_codesTell 84 = .ok (.iload_n 3, 1) := by decide +kernel
theorem dX12_codesTell_85 : decode cX12_codesTell 85 = .ok (.bipush 13, 2) := by decide +kernel
theorem dX12_codesTell_87 : decode cX12_codesTell 87 = .ok (.if_icmp .ne 11, 3) := by decide +kernel
theorem dX12_codesTell_90 : decode cX12_codesTell 90 = .ok (.aload_n 0, 1) := by decide +kernel
theorem dX12_codesTell_91 : decode cX12_codesTell 91 = .ok (.lconst 1, 1) := by decide +kernel
theorem dX12_codesTell_92 : decode cX12_codesTell 92 = .ok (.invokevirtual 443, 3) := by decide +kernel
theorem dX12_codesTell_95 : decode cX12_codesTell 95 = .ok (.goto 41, 3) := by decide +kernel
theorem dX12_codesTell_98 : decode cX12_codesTell 98 = .ok (.iload_n 3, 1) := by decide +kernel
theorem dX12_codesTell_99 : decode cX12_codesTell 99 = .ok (.bipush 12, 2) := by decide +kernel
theorem dX12_codesTell_101 : decode cX12_codesTell 101 = .ok (.if_icmp .ne 30, 3) := by decide +kernel
theorem dX12_codesTell_104 : decode cX12_codesTell 104 = .ok (.aload_n 0, 1) := by decide +kernel
theorem dX12_codesTell_105 : decode cX12_codesTell 105 = .ok (.getfield 253, 3) := by decide +kernel
theorem dX12_codesTell_108 : decode cX12_codesTell 108 = .ok (.aload_n 0, 1) := by decide +kernel
theorem dX12_codesTell_109 : decode cX12_codesTell 109 = .ok (.getfield 440, 3) := by decide +kernel
theorem dX12_codesTell_112 : decode cX12_codesTell 112 = .ok (.iconst 1, 1) := by decide +kernel
theorem dX12_codesTell_113 : decode cX12_codesTell 113 = .ok (.isub, 1) := by decide +kernel
theorem dX12_codesTell_114 : decode cX12_codesTell 114 = .ok (.lconst 1, 1) := by decide +kernel
theorem dX12_codesTell_115 : decode cX12_codesTell 115 = .ok (.aload_n 0, 1) := by decide +kernel
theorem dX12_codesTell_116 : decode cX12_codesTell 116 = .ok (.getfield 253, 3) := by decide +kernel
theorem dX12_codesTell_119 : decode cX12_codesTell 119 = .ok (.aload_n 0, 1) := by decide +kernel
theorem dX12_codesTell_120 : decode cX12_codesTell 120 = .ok (.getfield 440, 3) := by decide +kernel
theorem dX12_codesTell_123 : decode cX12_codesTell 123 = .ok (.iconst 1, 1) := by decide +kernel
theorem dX12_codesTell_124 : decode cX12_codesTell 124 = .ok (.isub, 1) := by decide +kernel
theorem dX12_codesTell_125 : decode cX12_codesTell 125 = .ok (.laload, 1) := by decide +kernel
theorem dX12_codesTell_126 : decode cX12_codesTell 126 = .ok (.lsub, 1) := by decide +kernel
theorem dX12_codesTell_127 : decode cX12_codesTell 127 = .ok (.lastore, 1) := by decide +kernel
theorem dX12_codesTell_128 : decode cX12_codesTell 128 = .ok (.goto 8, 3) := by decide +kernel
theorem dX12_codesTell_131 : decode cX12_codesTell 131 = .ok (.aload_n 0, 1) := by decide +kernel
theorem dX12_codesTell_132 : decode cX12_codesTell 132 = .ok (.iload_n 3, 1) := by decide +kernel
theorem dX12_codesTell_133 : decode cX12_codesTell 133 = .ok (.invokevirtual 451, 3) := by decide +kernel
theorem dX12_codesTell_136 : decode cX12_codesTell 136 = .ok (.iinc 2 1, 3) := by decide +kernel
theorem dX12_codesTell_139 : decode cX12_codesTell 139 = .ok (.goto (-120), 3) := by decide +kernel
theorem dX12_codesTell_142 : decode cX12_codesTell 142 = .ok (.aload_n 0, 1) := by decide +kernel
theorem dX12_codesTell_143 : decode cX12_codesTell 143 = .ok (.getfield 253, 3) := by decide +kernel
theorem dX12_codesTell_146 : decode cX12_codesTell 146 = .ok (.iconst 0, 1) := by decide +kernel
theorem dX12_codesTell_147 : decode cX12_codesTell 147 = .ok (.laload, 1) := by decide +kernel
theorem dX12_codesTell_148 : decode cX12_codesTell 148 = .ok (.lreturn, 1) := by decide +kernel
theorem dX12_draftAt_0 : decode cX12_draftAt 0 = .ok (.aload_n 0, 1) := by decide +kernel
theorem dX12_draftAt_1 : decode cX12_draftAt 1 = .ok (.iconst 0, 1) := by decide +kernel
theorem dX12_draftAt_2 : decode cX12_draftAt 2 = .ok (.invokevirtual 454, 3) := by decide +kernel
theorem dX12_draftAt_5 : decode cX12_draftAt 5 = .ok (.ifCond .ne 5, 3) := by decide +kernel
theorem dX12_draftAt_8 : decode cX12_draftAt 8 = .ok (.iconst 0, 1) := by decide +kernel
theorem dX12_draftAt_9 : decode cX12_draftAt 9 = .ok (.ireturn, 1) := by decide +kernel
theorem dX12_draftAt_10 : decode cX12_draftAt 10 = .ok (.aload_n 0, 1) := by decide +kernel
theorem dX12_draftAt_11 : decode cX12_draftAt 11 = .ok (.iload_n 1, 1) := by decide +kernel
theorem dX12_draftAt_12 : decode cX12_draftAt 12 = .ok (.putfield 457, 3) := by decide +kernel
theorem dX12_draftAt_15 : decode cX12_draftAt 15 = .ok (.aload_n 0, 1) := by decide +kernel
theorem dX12_draftAt_16 : decode cX12_draftAt 16 = .ok (.iconst 0, 1) := by decide +kernel
theorem dX12_draftAt_17 : decode cX12_draftAt 17 = .ok (.invokevirtual 460, 3) := by decide +kernel
theorem dX12_draftAt_20 : decode cX12_draftAt 20 = .ok (.bipush 9, 2) := by decide +kernel
theorem dX12_draftAt_22 : decode cX12_draftAt 22 = .ok (.invokestatic 464, 3) := by decide +kernel
theorem dX12_draftAt_25 : decode cX12_draftAt 25 = .ok (.ireturn, 1) := by decide +kernel
theorem dX12_laysDrafts_0 : decode cX12_laysDrafts 0 = .ok (.iconst 0, 1) := by decide +kernel
theorem dX12_laysDrafts_1 : decode cX12_laysDrafts 1 = .ok (.istore_n 1, 1) := by decide +kernel
theorem dX12_laysDrafts_2 : decode cX12_laysDrafts 2 = .ok (.iload_n 1, 1) := by decide +kernel
theorem dX12_laysDrafts_3 : decode cX12_laysDrafts 3 = .ok (.aload_n 0, 1) := by decide +kernel
theorem dX12_laysDrafts_4 : decode cX12_laysDrafts 4 = .ok (.invokevirtual 420, 3) := by decide +kernel
theorem dX12_laysDrafts_7 : decode cX12_laysDrafts 7 = .ok (.if_icmp .ge 20, 3) := by decide +kernel
theorem dX12_laysDrafts_10 : decode cX12_laysDrafts 10 = .ok (.aload_n 0, 1) := by decide +kernel
theorem dX12_laysDrafts_11 : decode cX12_laysDrafts 11 = .ok (.getfield 145, 3) := by decide +kernel
theorem dX12_laysDrafts_14 : decode cX12_laysDrafts 14 = .ok (.iload_n 1, 1) := by decide +kernel
theorem dX12_laysDrafts_15 : decode cX12_laysDrafts 15 = .ok (.aload_n 0, 1) := by decide +kernel
theorem dX12_laysDrafts_16 : decode cX12_laysDrafts 16 = .ok (.iload_n 1, 1) := by decide +kernel
theorem dX12_laysDrafts_17 : decode cX12_laysDrafts 17 = .ok (.invokevirtual 468, 3) := by decide +kernel
theorem dX12_laysDrafts_20 : decode cX12_laysDrafts 20 = .ok (.iastore, 1) := by decide +kernel
theorem dX12_laysDrafts_21 : decode cX12_laysDrafts 21 = .ok (.iinc 1 1, 3) := by decide +kernel
theorem dX12_laysDrafts_24 : decode cX12_laysDrafts 24 = .ok (.goto (-22), 3) := by decide +kernel
theorem dX12_laysDrafts_27 : decode cX12_laysDrafts 27 = .ok (.return_, 1) := by decide +kernel
theorem dX12_laysHeld_0 : decode cX12_laysHeld 0 = .ok (.iconst 0, 1) := by decide +kernel
theorem dX12_laysHeld_1 : decode cX12_laysHeld 1 = .ok (.istore_n 1, 1) := by decide +kernel
theorem dX12_laysHeld_2 : decode cX12_laysHeld 2 = .ok (.aload_n 0, 1) := by decide +kernel
theorem dX12_laysHeld_3 : decode cX12_laysHeld 3 = .ok (.invokevirtual 471, 3) := by decide +kernel
theorem dX12_laysHeld_6 : decode cX12_laysHeld 6 = .ok (.iconst 0, 1) := by decide +kernel
theorem dX12_laysHeld_7 : decode cX12_laysHeld 7 = .ok (.istore_n 2, 1) := by decide +kernel
theorem dX12_laysHeld_8 : decode cX12_laysHeld 8 = .ok (.iload_n 2, 1) := by decide +kernel
theorem dX12_laysHeld_9 : decode cX12_laysHeld 9 = .ok (.aload_n 0, 1) := by decide +kernel
theorem dX12_laysHeld_10 : decode cX12_laysHeld 10 = .ok (.invokevirtual 426, 3) := by decide +kernel
theorem dX12_laysHeld_13 : decode cX12_laysHeld 13 = .ok (.if_icmp .ge 70, 3) := by decide +kernel
theorem dX12_laysHeld_16 : decode cX12_laysHeld 16 = .ok (.aload_n 0, 1) := by decide +kernel
theorem dX12_laysHeld_17 : decode cX12_laysHeld 17 = .ok (.iload_n 2, 1) := by decide +kernel
theorem dX12_laysHeld_18 : decode cX12_laysHeld 18 = .ok (.invokevirtual 432, 3) := by decide +kernel
theorem dX12_laysHeld_21 : decode cX12_laysHeld 21 = .ok (.ifCond .eq 56, 3) := by decide +kernel
theorem dX12_laysHeld_24 : decode cX12_laysHeld 24 = .ok (.aload_n 0, 1) := by decide +kernel
theorem dX12_laysHeld_25 : decode cX12_laysHeld 25 = .ok (.iload_n 2, 1) := by decide +kernel
theorem dX12_laysHeld_26 : decode cX12_laysHeld 26 = .ok (.invokevirtual 474, 3) := by decide +kernel
theorem dX12_laysHeld_29 : decode cX12_laysHeld 29 = .ok (.iconst (-1), 1) := by decide +kernel
theorem dX12_laysHeld_30 : decode cX12_laysHeld 30 = .ok (.if_icmp .eq 18, 3) := by decide +kernel
theorem dX12_laysHeld_33 : decode cX12_laysHeld 33 = .ok (.iload_n 1, 1) := by decide +kernel
theorem dX12_laysHeld_34 : decode cX12_laysHeld 34 = .ok (.aload_n 0, 1) := by decide +kernel
theorem dX12_laysHeld_35 : decode cX12_laysHeld 35 = .ok (.iload_n 2, 1) := by decide +kernel
theorem dX12_laysHeld_36 : decode cX12_laysHeld 36 = .ok (.invokevirtual 474, 3) := by decide +kernel
theorem dX12_laysHeld_39 : decode cX12_laysHeld 39 = .ok (.ishr, 1) := by decide +kernel
theorem dX12_laysHeld_40 : decode cX12_laysHeld 40 = .ok (.iconst 1, 1) := by decide +kernel
theorem dX12_laysHeld_41 : decode cX12_laysHeld 41 = .ok (.iand, 1) := by decide +kernel
theorem dX12_laysHeld_42 : decode cX12_laysHeld 42 = .ok (.ifCond .ne 6, 3) := by decide +kernel
theorem dX12_laysHeld_45 : decode cX12_laysHeld 45 = .ok (.goto 32, 3) := by decide +kernel
theorem dX12_laysHeld_48 : decode cX12_laysHeld 48 = .ok (.aload_n 0, 1) := by decide +kernel
theorem dX12_laysHeld_49 : decode cX12_laysHeld 49 = .ok (.iload_n 2, 1) := by decide +kernel
theorem dX12_laysHeld_50 : decode cX12_laysHeld 50 = .ok (.putfield 477, 3) := by decide +kernel
theorem dX12_laysHeld_53 : decode cX12_laysHeld 53 = .ok (.aload_n 0, 1) := by decide +kernel
theorem dX12_laysHeld_54 : decode cX12_laysHeld 54 = .ok (.iconst 2, 1) := by decide +kernel
theorem dX12_laysHeld_55 : decode cX12_laysHeld 55 = .ok (.invokevirtual 454, 3) := by decide +kernel
theorem dX12_laysHeld_58 : decode cX12_laysHeld 58 = .ok (.ifCond .eq 13, 3) := by decide +kernel
theorem dX12_laysHeld_61 : decode cX12_laysHeld 61 = .ok (.aload_n 0, 1) := by decide +kernel
theorem dX12_laysHeld_62 : decode cX12_laysHeld 62 = .ok (.iconst 2, 1) := by decide +kernel
theorem dX12_laysHeld_63 : decode cX12_laysHeld 63 = .ok (.invokevirtual 460, 3) := by decide +kernel
theorem dX12_laysHeld_66 : decode cX12_laysHeld 66 = .ok (.lconst 1, 1) := by decide +kernel
theorem dX12_laysHeld_67 : decode cX12_laysHeld 67 = .ok (.lcmp, 1) := by decide +kernel
theorem dX12_laysHeld_68 : decode cX12_laysHeld 68 = .ok (.ifCond .ne 9, 3) := by decide +kernel
theorem dX12_laysHeld_71 : decode cX12_laysHeld 71 = .ok (.iload_n 1, 1) := by decide +kernel
theorem dX12_laysHeld_72 : decode cX12_laysHeld 72 = .ok (.iconst 1, 1) := by decide +kernel
theorem dX12_laysHeld_73 : decode cX12_laysHeld 73 = .ok (.iload_n 2, 1) := by decide +kernel
theorem dX12_laysHeld_74 : decode cX12_laysHeld 74 = .ok (.ishl, 1) := by decide +kernel
theorem dX12_laysHeld_75 : decode cX12_laysHeld 75 = .ok (.ior, 1) := by decide +kernel
theorem dX12_laysHeld_76 : decode cX12_laysHeld 76 = .ok (.istore_n 1, 1) := by decide +kernel
theorem dX12_laysHeld_77 : decode cX12_laysHeld 77 = .ok (.iinc 2 1, 3) := by decide +kernel
theorem dX12_laysHeld_80 : decode cX12_laysHeld 80 = .ok (.goto (-72), 3) := by decide +kernel
theorem dX12_laysHeld_83 : decode cX12_laysHeld 83 = .ok (.iload_n 1, 1) := by decide +kernel
theorem dX12_laysHeld_84 : decode cX12_laysHeld 84 = .ok (.ireturn, 1) := by decide +kernel
theorem dX12_isHeld_0 : decode cX12_isHeld 0 = .ok (.aload_n 0, 1) := by decide +kernel
theorem dX12_isHeld_1 : decode cX12_isHeld 1 = .ok (.invokevirtual 480, 3) := by decide +kernel
theorem dX12_isHeld_4 : decode cX12_isHeld 4 = .ok (.iload_n 1, 1) := by decide +kernel
theorem dX12_isHeld_5 : decode cX12_isHeld 5 = .ok (.ishr, 1) := by decide +kernel
theorem dX12_isHeld_6 : decode cX12_isHeld 6 = .ok (.iconst 1, 1) := by decide +kernel
theorem dX12_isHeld_7 : decode cX12_isHeld 7 = .ok (.iand, 1) := by decide +kernel
theorem dX12_isHeld_8 : decode cX12_isHeld 8 = .ok (.iconst 1, 1) := by decide +kernel
theorem dX12_isHeld_9 : decode cX12_isHeld 9 = .ok (.if_icmp .ne 7, 3) := by decide +kernel
theorem dX12_isHeld_12 : decode cX12_isHeld 12 = .ok (.iconst 1, 1) := by decide +kernel
theorem dX12_isHeld_13 : decode cX12_isHeld 13 = .ok (.goto 4, 3) := by decide +kernel
theorem dX12_isHeld_16 : decode cX12_isHeld 16 = .ok (.iconst 0, 1) := by decide +kernel
theorem dX12_isHeld_17 : decode cX12_isHeld 17 = .ok (.ireturn, 1) := by decide +kernel
theorem dX12_bits_0 : decode cX12_bits 0 = .ok (.iconst 0, 1) := by decide +kernel
theorem dX12_bits_1 : decode cX12_bits 1 = .ok (.istore_n 1, 1) := by decide +kernel
theorem dX12_bits_2 : decode cX12_bits 2 = .ok (.iload_n 0, 1) := by decide +kernel
theorem dX12_bits_3 : decode cX12_bits 3 = .ok (.istore_n 2, 1) := by decide +kernel
theorem dX12_bits_4 : decode cX12_bits 4 = .ok (.iload_n 2, 1) := by decide +kernel
theorem dX12_bits_5 : decode cX12_bits 5 = .ok (.ifCond .eq 15, 3) := by decide +kernel
theorem dX12_bits_8 : decode cX12_bits 8 = .ok (.iinc 1 1, 3) := by decide +kernel
theorem dX12_bits_11 : decode cX12_bits 11 = .ok (.iload_n 2, 1) := by decide +kernel
theorem dX12_bits_12 : decode cX12_bits 12 = .ok (.iload_n 2, 1) := by decide +kernel
theorem dX12_bits_13 : decode cX12_bits 13 = .ok (.iconst 1, 1) := by decide +kernel
theorem dX12_bits_14 : decode cX12_bits 14 = .ok (.isub, 1) := by decide +kernel
theorem dX12_bits_15 : decode cX12_bits 15 = .ok (.iand, 1) := by decide +kernel
theorem dX12_bits_16 : decode cX12_bits 16 = .ok (.istore_n 2, 1) := by decide +kernel
theorem dX12_bits_17 : decode cX12_bits 17 = .ok (.goto (-13), 3) := by decide +kernel
theorem dX12_bits_20 : decode cX12_bits 20 = .ok (.iload_n 1, 1) := by decide +kernel
theorem dX12_bits_21 : decode cX12_bits 21 = .ok (.ireturn, 1) := by decide +kernel
theorem dX12_isKept_0 : decode cX12_isKept 0 = .ok (.aload_n 0, 1) := by decide +kernel
theorem dX12_isKept_1 : decode cX12_isKept 1 = .ok (.getfield 483, 3) := by decide +kernel
theorem dX12_isKept_4 : decode cX12_isKept 4 = .ok (.ifCond .eq 4, 3) := by decide +kernel
theorem dX12_isKept_7 : decode cX12_isKept 7 = .ok (.return_, 1) := by decide +kernel
theorem dX12_isKept_8 : decode cX12_isKept 8 = .ok (.aload_n 0, 1) := by decide +kernel
theorem dX12_isKept_9 : decode cX12_isKept 9 = .ok (.getfield 142, 3) := by decide +kernel
theorem dX12_isKept_12 : decode cX12_isKept 12 = .ok (.bipush 24, 2) := by decide +kernel
theorem dX12_isKept_14 : decode cX12_isKept 14 = .ok (.iaload, 1) := by decide +kernel
theorem dX12_isKept_15 : decode cX12_isKept 15 = .ok (.bipush 40, 2) := by decide +kernel
theorem dX12_isKept_17 : decode cX12_isKept 17 = .ok (.if_icmp .ne 35, 3) := by decide +kernel
theorem dX12_isKept_20 : decode cX12_isKept 20 = .ok (.bipush 25, 2) := by decide +kernel
theorem dX12_isKept_22 : decode cX12_isKept 22 = .ok (.istore_n 2, 1) := by decide +kernel
theorem dX12_isKept_23 : decode cX12_isKept 23 = .ok (.iload_n 2, 1) := by decide +kernel
theorem dX12_isKept_24 : decode cX12_isKept 24 = .ok (.bipush 103, 2) := by decide +kernel
theorem dX12_isKept_26 : decode cX12_isKept 26 = .ok (.if_icmp .ge 23, 3) := by decide +kernel
theorem dX12_isKept_29 : decode cX12_isKept 29 = .ok (.aload_n 0, 1) := by decide +kernel
theorem dX12_isKept_30 : decode cX12_isKept 30 = .ok (.getfield 142, 3) := by decide +kernel
theorem dX12_isKept_33 : decode cX12_isKept 33 = .ok (.iload_n 2, 1) := by decide +kernel
theorem dX12_isKept_34 : decode cX12_isKept 34 = .ok (.aload_n 0, 1) := by decide +kernel
theorem dX12_isKept_35 : decode cX12_isKept 35 = .ok (.getfield 142, 3) := by decide +kernel
theorem dX12_isKept_38 : decode cX12_isKept 38 = .ok (.iload_n 2, 1) := by decide +kernel
theorem dX12_isKept_39 : decode cX12_isKept 39 = .ok (.iconst 2, 1) := by decide +kernel
theorem dX12_isKept_40 : decode cX12_isKept 40 = .ok (.iadd, 1) := by decide +kernel
theorem dX12_isKept_41 : decode cX12_isKept 41 = .ok (.iaload, 1) := by decide +kernel
theorem dX12_isKept_42 : decode cX12_isKept 42 = .ok (.iastore, 1) := by decide +kernel
theorem dX12_isKept_43 : decode cX12_isKept 43 = .ok (.iinc 2 1, 3) := by decide +kernel
theorem dX12_isKept_46 : decode cX12_isKept 46 = .ok (.goto (-23), 3) := by decide +kernel
theorem dX12_isKept_49 : decode cX12_isKept 49 = .ok (.goto 14, 3) := by decide +kernel
theorem dX12_isKept_52 : decode cX12_isKept 52 = .ok (.aload_n 0, 1) := by decide +kernel
theorem dX12_isKept_53 : decode cX12_isKept 53 = .ok (.getfield 142, 3) := by decide +kernel
theorem dX12_isKept_56 : decode cX12_isKept 56 = .ok (.bipush 24, 2) := by decide +kernel
theorem dX12_isKept_58 : decode cX12_isKept 58 = .ok (.dup2, 1) := by decide +kernel
theorem dX12_isKept_59 : decode cX12_isKept 59 = .ok (.iaload, 1) := by decide +kernel
theorem dX12_isKept_60 : decode cX12_isKept 60 = .ok (.iconst 1, 1) := by decide +kernel
theorem dX12_isKept_61 : decode cX12_isKept 61 = .ok (.iadd, 1) := by decide +kernel
theorem dX12_isKept_62 : decode cX12_isKept 62 = .ok (.iastore, 1) := by decide +kernel
theorem dX12_isKept_63 : decode cX12_isKept 63 = .ok (.bipush 25, 2) := by decide +kernel
theorem dX12_isKept_65 : decode cX12_isKept 65 = .ok (.iconst 2, 1) := by decide +kernel
theorem dX12_isKept_66 : decode cX12_isKept 66 = .ok (.aload_n 0, 1) := by decide +kernel
theorem dX12_isKept_67 : decode cX12_isKept 67 = .ok (.getfield 142, 3) := by decide +kernel
theorem dX12_isKept_70 : decode cX12_isKept 70 = .ok (.bipush 24, 2) := by decide +kernel
theorem dX12_isKept_72 : decode cX12_isKept 72 = .ok (.iaload, 1) := by decide +kernel
theorem dX12_isKept_73 : decode cX12_isKept 73 = .ok (.imul, 1) := by decide +kernel
theorem dX12_isKept_74 : decode cX12_isKept 74 = .ok (.iadd, 1) := by decide +kernel
theorem dX12_isKept_75 : decode cX12_isKept 75 = .ok (.iconst 2, 1) := by decide +kernel
theorem dX12_isKept_76 : decode cX12_isKept 76 = .ok (.isub, 1) := by decide +kernel
theorem dX12_isKept_77 : decode cX12_isKept 77 = .ok (.istore_n 2, 1) := by decide +kernel
theorem dX12_isKept_78 : decode cX12_isKept 78 = .ok (.aload_n 0, 1) := by decide +kernel
theorem dX12_isKept_79 : decode cX12_isKept 79 = .ok (.getfield 142, 3) := by decide +kernel
theorem dX12_isKept_82 : decode cX12_isKept 82 = .ok (.iload_n 2, 1) := by decide +kernel
theorem dX12_isKept_83 : decode cX12_isKept 83 = .ok (.aload_n 0, 1) := by decide +kernel
theorem dX12_isKept_84 : decode cX12_isKept 84 = .ok (.getfield 142, 3) := by decide +kernel
theorem dX12_isKept_87 : decode cX12_isKept 87 = .ok (.iconst 0, 1) := by decide +kernel
theorem dX12_isKept_88 : decode cX12_isKept 88 = .ok (.iaload, 1) := by decide +kernel
theorem dX12_isKept_89 : decode cX12_isKept 89 = .ok (.iastore, 1) := by decide +kernel
theorem dX12_isKept_90 : decode cX12_isKept 90 = .ok (.aload_n 0, 1) := by decide +kernel
theorem dX12_isKept_91 : decode cX12_isKept 91 = .ok (.getfield 142, 3) := by decide +kernel
theorem dX12_isKept_94 : decode cX12_isKept 94 = .ok (.iload_n 2, 1) := by decide +kernel
theorem dX12_isKept_95 : decode cX12_isKept 95 = .ok (.iconst 1, 1) := by decide +kernel
theorem dX12_isKept_96 : decode cX12_isKept 96 = .ok (.iadd, 1) := by decide +kernel
theorem dX12_isKept_97 : decode cX12_isKept 97 = .ok (.iload_n 1, 1) := by decide +kernel
theorem dX12_isKept_98 : decode cX12_isKept 98 = .ok (.iastore, 1) := by decide +kernel
theorem dX12_isKept_99 : decode cX12_isKept 99 = .ok (.return_, 1) := by decide +kernel
theorem dX12_darkens_0 : decode cX12_darkens 0 = .ok (.aload_n 0, 1) := by decide +kernel
theorem dX12_darkens_1 : decode cX12_darkens 1 = .ok (.getfield 142, 3) := by decide +kernel
theorem dX12_darkens_4 : decode cX12_darkens 4 = .ok (.bipush 8, 2) := by decide +kernel
theorem dX12_darkens_6 : decode cX12_darkens 6 = .ok (.iload_n 1, 1) := by decide +kernel
theorem dX12_darkens_7 : decode cX12_darkens 7 = .ok (.iadd, 1) := by decide +kernel
theorem dX12_darkens_8 : decode cX12_darkens 8 = .ok (.iconst 0, 1) := by decide +kernel
theorem dX12_darkens_9 : decode cX12_darkens 9 = .ok (.iastore, 1) := by decide +kernel
theorem dX12_darkens_10 : decode cX12_darkens 10 = .ok (.aload_n 0, 1) := by decide +kernel
theorem dX12_darkens_11 : decode cX12_darkens 11 = .ok (.getfield 142, 3) := by decide +kernel
theorem dX12_darkens_14 : decode cX12_darkens 14 = .ok (.bipush 16, 2) := by decide +kernel
theorem dX12_darkens_16 : decode cX12_darkens 16 = .ok (.iload_n 1, 1) := by decide +kernel
theorem dX12_darkens_17 : decode cX12_darkens 17 = .ok (.iadd, 1) := by decide +kernel
theorem dX12_darkens_18 : decode cX12_darkens 18 = .ok (.iconst 0, 1) := by decide +kernel
theorem dX12_darkens_19 : decode cX12_darkens 19 = .ok (.iastore, 1) := by decide +kernel
theorem dX12_darkens_20 : decode cX12_darkens 20 = .ok (.return_, 1) := by decide +kernel
theorem dX12_goesOut_0 : decode cX12_goesOut 0 = .ok (.aload_n 0, 1) := by decide +kernel
theorem dX12_goesOut_1 : decode cX12_goesOut 1 = .ok (.iload_n 1, 1) := by decide +kernel
theorem dX12_goesOut_2 : decode cX12_goesOut 2 = .ok (.invokevirtual 486, 3) := by decide +kernel
theorem dX12_goesOut_5 : decode cX12_goesOut 5 = .ok (.aload_n 0, 1) := by decide +kernel
theorem dX12_goesOut_6 : decode cX12_goesOut 6 = .ok (.iload_n 1, 1) := by decide +kernel
theorem dX12_goesOut_7 : decode cX12_goesOut 7 = .ok (.invokevirtual 489, 3) := by decide +kernel
theorem dX12_goesOut_10 : decode cX12_goesOut 10 = .ok (.aload_n 0, 1) := by decide +kernel
theorem dX12_goesOut_11 : decode cX12_goesOut 11 = .ok (.dup, 1) := by decide +kernel
theorem dX12_goesOut_12 : decode cX12_goesOut 12 = .ok (.getfield 492, 3) := by decide +kernel
theorem dX12_goesOut_15 : decode cX12_goesOut 15 = .ok (.iconst 1, 1) := by decide +kernel
theorem dX12_goesOut_16 : decode cX12_goesOut 16 = .ok (.iadd, 1) := by decide +kernel
theorem dX12_goesOut_17 : decode cX12_goesOut 17 = .ok (.putfield 492, 3) := by decide +kernel
theorem dX12_goesOut_20 : decode cX12_goesOut 20 = .ok (.return_, 1) := by decide +kernel
theorem dX12_planGoes_0 : decode cX12_planGoes 0 = .ok (.iconst 0, 1) := by decide +kernel
theorem dX12_planGoes_1 : decode cX12_planGoes 1 = .ok (.istore_n 1, 1) := by decide +kernel
theorem dX12_planGoes_2 : decode cX12_planGoes 2 = .ok (.iload_n 1, 1) := by decide +kernel
theorem dX12_planGoes_3 : decode cX12_planGoes 3 = .ok (.aload_n 0, 1) := by decide +kernel
theorem dX12_planGoes_4 : decode cX12_planGoes 4 = .ok (.invokevirtual 495, 3) := by decide +kernel
theorem dX12_planGoes_7 : decode cX12_planGoes 7 = .ok (.if_icmp .ge 102, 3) := by decide +kernel
theorem dX12_planGoes_10 : decode cX12_planGoes 10 = .ok (.bipush 48, 2) := by decide +kernel
theorem dX12_planGoes_12 : decode cX12_planGoes 12 = .ok (.iconst 3, 1) := by decide +kernel
theorem dX12_planGoes_13 : decode cX12_planGoes 13 = .ok (.iload_n 1, 1) := by decide +kernel
theorem dX12_planGoes_14 : decode cX12_planGoes 14 = .ok (.imul, 1) := by decide +kernel
theorem dX12_planGoes_15 : decode cX12_planGoes 15 = .ok (.iadd, 1) := by decide +kernel
theorem dX12_planGoes_16 : decode cX12_planGoes 16 = .ok (.istore_n 2, 1) := by decide +kernel
theorem dX12_planGoes_17 : decode cX12_planGoes 17 = .ok (.aload_n 0, 1) := by decide +kernel
theorem dX12_planGoes_18 : decode cX12_planGoes 18 = .ok (.getfield 130, 3) := by decide +kernel
theorem dX12_planGoes_21 : decode cX12_planGoes 21 = .ok (.iload_n 2, 1) := by decide +kernel
theorem dX12_planGoes_22 : decode cX12_planGoes 22 = .ok (.iaload, 1) := by decide +kernel
theorem dX12_planGoes_23 : decode cX12_planGoes 23 = .ok (.istore_n 3, 1) := by decide +kernel
theorem dX12_planGoes_24 : decode cX12_planGoes 24 = .ok (.aload_n 0, 1) := by decide +kernel
theorem dX12_planGoes_25 : decode cX12_planGoes 25 = .ok (.getfield 130, 3) := by decide +kernel
theorem dX12_planGoes_28 : decode cX12_planGoes 28 = .ok (.iload_n 2, 1) := by decide +kernel
theorem dX12_planGoes_29 : decode cX12_planGoes 29 = .ok (.iconst 1, 1) := by decide +kernel
theorem dX12_planGoes_30 : decode cX12_planGoes 30 = .ok (.iadd, 1) := by decide +kernel
theorem dX12_planGoes_31 : decode cX12_planGoes 31 = .ok (.iaload, 1) := by decide +kernel
theorem dX12_planGoes_32 : decode cX12_planGoes 32 = .ok (.aload_n 0, 1) := by decide +kernel
theorem dX12_planGoes_33 : decode cX12_planGoes 33 = .ok (.getfield 142, 3) := by decide +kernel
theorem dX12_planGoes_36 : decode cX12_planGoes 36 = .ok (.iconst 0, 1) := by decide +kernel
theorem dX12_planGoes_37 : decode cX12_planGoes 37 = .ok (.iaload, 1) := by decide +kernel
theorem dX12_planGoes_38 : decode cX12_planGoes 38 = .ok (.if_icmp .ne 65, 3) := by decide +kernel
theorem dX12_planGoes_41 : decode cX12_planGoes 41 = .ok (.aload_n 0, 1) := by decide +kernel
theorem dX12_planGoes_42 : decode cX12_planGoes 42 = .ok (.iload_n 3, 1) := by decide +kernel
theorem dX12_planGoes_43 : decode cX12_planGoes 43 = .ok (.invokevirtual 432, 3) := by decide +kernel
theorem dX12_planGoes_46 : decode cX12_planGoes 46 = .ok (.ifCond .ne 57, 3) := by decide +kernel
theorem dX12_planGoes_49 : decode cX12_planGoes 49 = .ok (.aload_n 0, 1) := by decide +kernel
theorem dX12_planGoes_50 : decode cX12_planGoes 50 = .ok (.getfield 142, 3) := by decide +kernel
theorem dX12_planGoes_53 : decode cX12_planGoes 53 = .ok (.iconst 1, 1) := by decide +kernel
theorem dX12_planGoes_54 : decode cX12_planGoes 54 = .ok (.iaload, 1) := by decide +kernel
theorem dX12_planGoes_55 : decode cX12_planGoes 55 = .ok (.aload_n 0, 1) := by decide +kernel
theorem dX12_planGoes_56 : decode cX12_planGoes 56 = .ok (.getfield 130, 3) := by decide +kernel
theorem dX12_planGoes_59 : decode cX12_planGoes 59 = .ok (.iload_n 2, 1) := by decide +kernel
theorem dX12_planGoes_60 : decode cX12_planGoes 60 = .ok (.iconst 2, 1) := by decide +kernel
theorem dX12_planGoes_61 : decode cX12_planGoes 61 = .ok (.iadd, 1) := by decide +kernel
theorem dX12_planGoes_62 : decode cX12_planGoes 62 = .ok (.iaload, 1) := by decide +kernel
theorem dX12_planGoes_63 : decode cX12_planGoes 63 = .ok (.if_icmp .ge 6, 3) := by decide +kernel
theorem dX12_planGoes_66 : decode cX12_planGoes 66 = .ok (.goto 37, 3) := by decide +kernel
theorem dX12_planGoes_69 : decode cX12_planGoes 69 = .ok (.aload_n 0, 1) := by decide +kernel
theorem dX12_planGoes_70 : decode cX12_planGoes 70 = .ok (.getfield 142, 3) := by decide +kernel
theorem dX12_planGoes_73 : decode cX12_planGoes 73 = .ok (.bipush 8, 2) := by decide +kernel
theorem dX12_planGoes_75 : decode cX12_planGoes 75 = .ok (.iload_n 3, 1) := by decide +kernel
theorem dX12_planGoes_76 : decode cX12_planGoes 76 = .ok (.iadd, 1) := by decide +kernel
theorem dX12_planGoes_77 : decode cX12_planGoes 77 = .ok (.aload_n 0, 1) := by decide +kernel
theorem dX12_planGoes_78 : decode cX12_planGoes 78 = .ok (.getfield 130, 3) := by decide +kernel
theorem dX12_planGoes_81 : decode cX12_planGoes 81 = .ok (.iload_n 2, 1) := by decide +kernel
theorem dX12_planGoes_82 : decode cX12_planGoes 82 = .ok (.iconst 2, 1) := by decide +kernel
theorem dX12_planGoes_83 : decode cX12_planGoes 83 = .ok (.iadd, 1) := by decide +kernel
theorem dX12_planGoes_84 : decode cX12_planGoes 84 = .ok (.iaload, 1) := by decide +kernel
theorem dX12_planGoes_85 : decode cX12_planGoes 85 = .ok (.iastore, 1) := by decide +kernel
theorem dX12_planGoes_86 : decode cX12_planGoes 86 = .ok (.aload_n 0, 1) := by decide +kernel
theorem dX12_planGoes_87 : decode cX12_planGoes 87 = .ok (.getfield 142, 3) := by decide +kernel
theorem dX12_planGoes_90 : decode cX12_planGoes 90 = .ok (.iconst 1, 1) := by decide +kernel
theorem dX12_planGoes_91 : decode cX12_planGoes 91 = .ok (.dup2, 1) := by decide +kernel
theorem dX12_planGoes_92 : decode cX12_planGoes 92 = .ok (.iaload, 1) := by decide +kernel
theorem dX12_planGoes_93 : decode cX12_planGoes 93 = .ok (.aload_n 0, 1) := by decide +kernel
theorem dX12_planGoes_94 : decode cX12_planGoes 94 = .ok (.getfield 130, 3) := by decide +kernel
theorem dX12_planGoes_97 : decode cX12_planGoes 97 = .ok (.iload_n 2, 1) := by decide +kernel
theorem dX12_planGoes_98 : decode cX12_planGoes 98 = .ok (.iconst 2, 1) := by decide +kernel
theorem dX12_planGoes_99 : decode cX12_planGoes 99 = .ok (.iadd, 1) := by decide +kernel
theorem dX12_planGoes_100 : decode cX12_planGoes 100 = .ok (.iaload, 1) := by decide +kernel
theorem dX12_planGoes_101 : decode cX12_planGoes 101 = .ok (.isub, 1) := by decide +kernel
theorem dX12_planGoes_102 : decode cX12_planGoes 102 = .ok (.iastore, 1) := by decide +kernel
theorem dX12_planGoes_103 : decode cX12_planGoes 103 = .ok (.iinc 1 1, 3) := by decide +kernel
theorem dX12_planGoes_106 : decode cX12_planGoes 106 = .ok (.goto (-104), 3) := by decide +kernel
theorem dX12_planGoes_109 : decode cX12_planGoes 109 = .ok (.return_, 1) := by decide +kernel
theorem dX12_burnt_0 : decode cX12_burnt 0 = .ok (.aload_n 0, 1) := by decide +kernel
theorem dX12_burnt_1 : decode cX12_burnt 1 = .ok (.iload_n 1, 1) := by decide +kernel
theorem dX12_burnt_2 : decode cX12_burnt 2 = .ok (.putfield 477, 3) := by decide +kernel
theorem dX12_burnt_5 : decode cX12_burnt 5 = .ok (.aload_n 0, 1) := by decide +kernel
theorem dX12_burnt_6 : decode cX12_burnt 6 = .ok (.iconst 1, 1) := by decide +kernel
theorem dX12_burnt_7 : decode cX12_burnt 7 = .ok (.invokevirtual 454, 3) := by decide +kernel
theorem dX12_burnt_10 : decode cX12_burnt 10 = .ok (.ifCond .eq 11, 3) := by decide +kernel
theorem dX12_burnt_13 : decode cX12_burnt 13 = .ok (.aload_n 0, 1) := by decide +kernel
theorem dX12_burnt_14 : decode cX12_burnt 14 = .ok (.iconst 1, 1) := by decide +kernel
theorem dX12_burnt_15 : decode cX12_burnt 15 = .ok (.invokevirtual 460, 3) := by decide +kernel
theorem dX12_burnt_18 : decode cX12_burnt 18 = .ok (.goto 11, 3) := by decide +kernel
theorem dX12_burnt_21 : decode cX12_burnt 21 = .ok (.lconst 1, 1) := by decide +kernel
theorem dX12_burnt_22 : decode cX12_burnt 22 = .ok (.aload_n 0, 1) := by decide +kernel
theorem dX12_burnt_23 : decode cX12_burnt 23 = .ok (.iload_n 1, 1) := by decide +kernel
theorem dX12_burnt_24 : decode cX12_burnt 24 = .ok (.invokevirtual 498, 3) := by decide +kernel
theorem dX12_burnt_27 : decode cX12_burnt 27 = .ok (.i2l, 1) := by decide +kernel
theorem dX12_burnt_28 : decode cX12_burnt 28 = .ok (.ladd, 1) := by decide +kernel
theorem dX12_burnt_29 : decode cX12_burnt 29 = .ok (.aload_n 0, 1) := by decide +kernel
theorem dX12_burnt_30 : decode cX12_burnt 30 = .ok (.getfield 142, 3) := by decide +kernel
theorem dX12_burnt_33 : decode cX12_burnt 33 = .ok (.bipush 8, 2) := by decide +kernel
theorem dX12_burnt_35 : decode cX12_burnt 35 = .ok (.iload_n 1, 1) := by decide +kernel
theorem dX12_burnt_36 : decode cX12_burnt 36 = .ok (.iadd, 1) := by decide +kernel
theorem dX12_burnt_37 : decode cX12_burnt 37 = .ok (.iaload, 1) := by decide +kernel
theorem dX12_burnt_38 : decode cX12_burnt 38 = .ok (.invokestatic 464, 3) := by decide +kernel
theorem dX12_burnt_41 : decode cX12_burnt 41 = .ok (.ireturn, 1) := by decide +kernel
theorem dX12_hourGoes_0 : decode cX12_hourGoes 0 = .ok (.aload_n 0, 1) := by decide +kernel
theorem dX12_hourGoes_1 : decode cX12_hourGoes 1 = .ok (.invokevirtual 471, 3) := by decide +kernel
theorem dX12_hourGoes_4 : decode cX12_hourGoes 4 = .ok (.aload_n 0, 1) := by decide +kernel
theorem dX12_hourGoes_5 : decode cX12_hourGoes 5 = .ok (.invokevirtual 501, 3) := by decide +kernel
theorem dX12_hourGoes_8 : decode cX12_hourGoes 8 = .ok (.iconst 0, 1) := by decide +kernel
theorem dX12_hourGoes_9 : decode cX12_hourGoes 9 = .ok (.istore_n 1, 1) := by decide +kernel
theorem dX12_hourGoes_10 : decode cX12_hourGoes 10 = .ok (.iload_n 1, 1) := by decide +kernel
theorem dX12_hourGoes_11 : decode cX12_hourGoes 11 = .ok (.aload_n 0, 1) := by decide +kernel
theorem dX12_hourGoes_12 : decode cX12_hourGoes 12 = .ok (.invokevirtual 426, 3) := by decide +kernel
theorem dX12_hourGoes_15 : decode cX12_hourGoes 15 = .ok (.if_icmp .ge 42, 3) := by decide +kernel
theorem dX12_hourGoes_18 : decode cX12_hourGoes 18 = .ok (.aload_n 0, 1) := by decide +kernel
theorem dX12_hourGoes_19 : decode cX12_hourGoes 19 = .ok (.getfield 148, 3) := by decide +kernel
theorem dX12_hourGoes_22 : decode cX12_hourGoes 22 = .ok (.iload_n 1, 1) := by decide +kernel
theorem dX12_hourGoes_23 : decode cX12_hourGoes 23 = .ok (.aload_n 0, 1) := by decide +kernel
theorem dX12_hourGoes_24 : decode cX12_hourGoes 24 = .ok (.iload_n 1, 1) := by decide +kernel
theorem dX12_hourGoes_25 : decode cX12_hourGoes 25 = .ok (.invokevirtual 432, 3) := by decide +kernel
theorem dX12_hourGoes_28 : decode cX12_hourGoes 28 = .ok (.ifCond .eq 21, 3) := by decide +kernel
theorem dX12_hourGoes_31 : decode cX12_hourGoes 31 = .ok (.aload_n 0, 1) := by decide +kernel
theorem dX12_hourGoes_32 : decode cX12_hourGoes 32 = .ok (.getfield 142, 3) := by decide +kernel
theorem dX12_hourGoes_35 : decode cX12_hourGoes 35 = .ok (.bipush 8, 2) := by decide +kernel
theorem dX12_hourGoes_37 : decode cX12_hourGoes 37 = .ok (.iload_n 1, 1) := by decide +kernel
theorem dX12_hourGoes_38 : decode cX12_hourGoes 38 = .ok (.iadd, 1) := by decide +kernel
theorem dX12_hourGoes_39 : decode cX12_hourGoes 39 = .ok (.iaload, 1) := by decide +kernel
theorem dX12_hourGoes_40 : decode cX12_hourGoes 40 = .ok (.aload_n 0, 1) := by decide +kernel
theorem dX12_hourGoes_41 : decode cX12_hourGoes 41 = .ok (.iload_n 1, 1) := by decide +kernel
theorem dX12_hourGoes_42 : decode cX12_hourGoes 42 = .ok (.invokevirtual 504, 3) := by decide +kernel
theorem dX12_hourGoes_45 : decode cX12_hourGoes 45 = .ok (.isub, 1) := by decide +kernel
theorem dX12_hourGoes_46 : decode cX12_hourGoes 46 = .ok (.goto 4, 3) := by decide +kernel
theorem dX12_hourGoes_49 : decode cX12_hourGoes 49 = .ok (.iconst (-1), 1) := by decide +kernel
theorem dX12_hourGoes_50 : decode cX12_hourGoes 50 = .ok (.iastore, 1) := by decide +kernel
theorem dX12_hourGoes_51 : decode cX12_hourGoes 51 = .ok (.iinc 1 1, 3) := by decide +kernel
theorem dX12_hourGoes_54 : decode cX12_hourGoes 54 = .ok (.goto (-44), 3) := by decide +kernel
theorem dX12_hourGoes_57 : decode cX12_hourGoes 57 = .ok (.iconst 0, 1) := by decide +kernel
theorem dX12_hourGoes_58 : decode cX12_hourGoes 58 = .ok (.istore_n 1, 1) := by decide +kernel
theorem dX12_hourGoes_59 : decode cX12_hourGoes 59 = .ok (.iload_n 1, 1) := by decide +kernel
theorem dX12_hourGoes_60 : decode cX12_hourGoes 60 = .ok (.aload_n 0, 1) := by decide +kernel
theorem dX12_hourGoes_61 : decode cX12_hourGoes 61 = .ok (.invokevirtual 426, 3) := by decide +kernel
theorem dX12_hourGoes_64 : decode cX12_hourGoes 64 = .ok (.if_icmp .ge 78, 3) := by decide +kernel
theorem dX12_hourGoes_67 : decode cX12_hourGoes 67 = .ok (.aload_n 0, 1) := by decide +kernel
theorem dX12_hourGoes_68 : decode cX12_hourGoes 68 = .ok (.getfield 148, 3) := by decide +kernel
theorem dX12_hourGoes_71 : decode cX12_hourGoes 71 = .ok (.iload_n 1, 1) := by decide +kernel
theorem dX12_hourGoes_72 : decode cX12_hourGoes 72 = .ok (.iaload, 1) := by decide +kernel
theorem dX12_hourGoes_73 : decode cX12_hourGoes 73 = .ok (.iconst (-1), 1) := by decide +kernel
theorem dX12_hourGoes_74 : decode cX12_hourGoes 74 = .ok (.if_icmp .ne 6, 3) := by decide +kernel
theorem dX12_hourGoes_77 : decode cX12_hourGoes 77 = .ok (.goto 59, 3) := by decide +kernel
theorem dX12_hourGoes_80 : decode cX12_hourGoes 80 = .ok (.aload_n 0, 1) := by decide +kernel
theorem dX12_hourGoes_81 : decode cX12_hourGoes 81 = .ok (.getfield 142, 3) := by decide +kernel
theorem dX12_hourGoes_84 : decode cX12_hourGoes 84 = .ok (.bipush 8, 2) := by decide +kernel
theorem dX12_hourGoes_86 : decode cX12_hourGoes 86 = .ok (.iload_n 1, 1) := by decide +kernel
theorem dX12_hourGoes_87 : decode cX12_hourGoes 87 = .ok (.iadd, 1) := by decide +kernel
theorem dX12_hourGoes_88 : decode cX12_hourGoes 88 = .ok (.aload_n 0, 1) := by decide +kernel
theorem dX12_hourGoes_89 : decode cX12_hourGoes 89 = .ok (.getfield 148, 3) := by decide +kernel
theorem dX12_hourGoes_92 : decode cX12_hourGoes 92 = .ok (.iload_n 1, 1) := by decide +kernel
theorem dX12_hourGoes_93 : decode cX12_hourGoes 93 = .ok (.iaload, 1) := by decide +kernel
theorem dX12_hourGoes_94 : decode cX12_hourGoes 94 = .ok (.iastore, 1) := by decide +kernel
theorem dX12_hourGoes_95 : decode cX12_hourGoes 95 = .ok (.aload_n 0, 1) := by decide +kernel
theorem dX12_hourGoes_96 : decode cX12_hourGoes 96 = .ok (.getfield 142, 3) := by decide +kernel
theorem dX12_hourGoes_99 : decode cX12_hourGoes 99 = .ok (.bipush 16, 2) := by decide +kernel
theorem dX12_hourGoes_101 : decode cX12_hourGoes 101 = .ok (.iload_n 1, 1) := by decide +kernel
theorem dX12_hourGoes_102 : decode cX12_hourGoes 102 = .ok (.iadd, 1) := by decide +kernel
theorem dX12_hourGoes_103 : decode cX12_hourGoes 103 = .ok (.iaload, 1) := by decide +kernel
theorem dX12_hourGoes_104 : decode cX12_hourGoes 104 = .ok (.bipush 99, 2) := by decide +kernel
theorem dX12_hourGoes_106 : decode cX12_hourGoes 106 = .ok (.if_icmp .ge 16, 3) := by decide +kernel
theorem dX12_hourGoes_109 : decode cX12_hourGoes 109 = .ok (.aload_n 0, 1) := by decide +kernel
theorem dX12_hourGoes_110 : decode cX12_hourGoes 110 = .ok (.getfield 142, 3) := by decide +kernel
theorem dX12_hourGoes_113 : decode cX12_hourGoes 113 = .ok (.bipush 16, 2) := by decide +kernel
theorem dX12_hourGoes_115 : decode cX12_hourGoes 115 = .ok (.iload_n 1, 1) := by decide +kernel
theorem dX12_hourGoes_116 : decode cX12_hourGoes 116 = .ok (.iadd, 1) := by decide +kernel
theorem dX12_hourGoes_117 : decode cX12_hourGoes 117 = .ok (.dup2, 1) := by decide +kernel
theorem dX12_hourGoes_118 : decode cX12_hourGoes 118 = .ok (.iaload, 1) := by decide +kernel
theorem dX12_hourGoes_119 : decode cX12_hourGoes 119 = .ok (.iconst 1, 1) := by decide +kernel
theorem dX12_hourGoes_120 : decode cX12_hourGoes 120 = .ok (.iadd, 1) := by decide +kernel
theorem dX12_hourGoes_121 : decode cX12_hourGoes 121 = .ok (.iastore, 1) := by decide +kernel
theorem dX12_hourGoes_122 : decode cX12_hourGoes 122 = .ok (.aload_n 0, 1) := by decide +kernel
theorem dX12_hourGoes_123 : decode cX12_hourGoes 123 = .ok (.getfield 148, 3) := by decide +kernel
theorem dX12_hourGoes_126 : decode cX12_hourGoes 126 = .ok (.iload_n 1, 1) := by decide +kernel
theorem dX12_hourGoes_127 : decode cX12_hourGoes 127 = .ok (.iaload, 1) := by decide +kernel
theorem dX12_hourGoes_128 : decode cX12_hourGoes 128 = .ok (.ifCond .ne 8, 3) := by decide +kernel
theorem dX12_hourGoes_131 : decode cX12_hourGoes 131 = .ok (.aload_n 0, 1) := by decide +kernel
theorem dX12_hourGoes_132 : decode cX12_hourGoes 132 = .ok (.iload_n 1, 1) := by decide +kernel
theorem dX12_hourGoes_133 : decode cX12_hourGoes 133 = .ok (.invokevirtual 507, 3) := by decide +kernel
theorem dX12_hourGoes_136 : decode cX12_hourGoes 136 = .ok (.iinc 1 1, 3) := by decide +kernel
theorem dX12_hourGoes_139 : decode cX12_hourGoes 139 = .ok (.goto (-80), 3) := by decide +kernel
theorem dX12_hourGoes_142 : decode cX12_hourGoes 142 = .ok (.aload_n 0, 1) := by decide +kernel
theorem dX12_hourGoes_143 : decode cX12_hourGoes 143 = .ok (.getfield 142, 3) := by decide +kernel
theorem dX12_hourGoes_146 : decode cX12_hourGoes 146 = .ok (.iconst 0, 1) := by decide +kernel
theorem dX12_hourGoes_147 : decode cX12_hourGoes 147 = .ok (.dup2, 1) := by decide +kernel
theorem dX12_hourGoes_148 : decode cX12_hourGoes 148 = .ok (.iaload, 1) := by decide +kernel
theorem dX12_hourGoes_149 : decode cX12_hourGoes 149 = .ok (.iconst 1, 1) := by decide +kernel
theorem dX12_hourGoes_150 : decode cX12_hourGoes 150 = .ok (.iadd, 1) := by decide +kernel
theorem dX12_hourGoes_151 : decode cX12_hourGoes 151 = .ok (.iastore, 1) := by decide +kernel
theorem dX12_hourGoes_152 : decode cX12_hourGoes 152 = .ok (.return_, 1) := by decide +kernel
theorem dX12_hoursGo_0 : decode cX12_hoursGo 0 = .ok (.aload_n 0, 1) := by decide +kernel
theorem dX12_hoursGo_1 : decode cX12_hoursGo 1 = .ok (.iconst 0, 1) := by decide +kernel
theorem dX12_hoursGo_2 : decode cX12_hoursGo 2 = .ok (.putfield 492, 3) := by decide +kernel
theorem dX12_hoursGo_5 : decode cX12_hoursGo 5 = .ok (.iconst 0, 1) := by decide +kernel
theorem dX12_hoursGo_6 : decode cX12_hoursGo 6 = .ok (.istore_n 2, 1) := by decide +kernel
theorem dX12_hoursGo_7 : decode cX12_hoursGo 7 = .ok (.iload_n 2, 1) := by decide +kernel
theorem dX12_hoursGo_8 : decode cX12_hoursGo 8 = .ok (.iload_n 1, 1) := by decide +kernel
theorem dX12_hoursGo_9 : decode cX12_hoursGo 9 = .ok (.if_icmp .ge 13, 3) := by decide +kernel
theorem dX12_hoursGo_12 : decode cX12_hoursGo 12 = .ok (.aload_n 0, 1) := by decide +kernel
theorem dX12_hoursGo_13 : decode cX12_hoursGo 13 = .ok (.invokevirtual 510, 3) := by decide +kernel
theorem dX12_hoursGo_16 : decode cX12_hoursGo 16 = .ok (.iinc 2 1, 3) := by decide +kernel
theorem dX12_hoursGo_19 : decode cX12_hoursGo 19 = .ok (.goto (-12), 3) := by decide +kernel
theorem dX12_hoursGo_22 : decode cX12_hoursGo 22 = .ok (.return_, 1) := by decide +kernel
theorem dX12_blows_0 : decode cX12_blows 0 = .ok (.iconst 0, 1) := by decide +kernel
theorem dX12_blows_1 : decode cX12_blows 1 = .ok (.istore_n 2, 1) := by decide +kernel
theorem dX12_blows_2 : decode cX12_blows 2 = .ok (.iload_n 2, 1) := by decide +kernel
theorem dX12_blows_3 : decode cX12_blows 3 = .ok (.aload_n 0, 1) := by decide +kernel
theorem dX12_blows_4 : decode cX12_blows 4 = .ok (.invokevirtual 426, 3) := by decide +kernel
theorem dX12_blows_7 : decode cX12_blows 7 = .ok (.if_icmp .ge 31, 3) := by decide +kernel
theorem dX12_blows_10 : decode cX12_blows 10 = .ok (.aload_n 0, 1) := by decide +kernel
theorem dX12_blows_11 : decode cX12_blows 11 = .ok (.iload_n 2, 1) := by decide +kernel
theorem dX12_blows_12 : decode cX12_blows 12 = .ok (.invokevirtual 432, 3) := by decide +kernel
theorem dX12_blows_15 : decode cX12_blows 15 = .ok (.ifCond .eq 17, 3) := by decide +kernel
theorem dX12_blows_18 : decode cX12_blows 18 = .ok (.aload_n 0, 1) := by decide +kernel
theorem dX12_blows_19 : decode cX12_blows 19 = .ok (.iload_n 2, 1) := by decide +kernel
theorem dX12_blows_20 : decode cX12_blows 20 = .ok (.invokevirtual 435, 3) := by decide +kernel
theorem dX12_blows_23 : decode cX12_blows 23 = .ok (.iload_n 1, 1) := by decide +kernel
theorem dX12_blows_24 : decode cX12_blows 24 = .ok (.if_icmp .ne 8, 3) := by decide +kernel
theorem dX12_blows_27 : decode cX12_blows 27 = .ok (.aload_n 0, 1) := by decide +kernel
theorem dX12_blows_28 : decode cX12_blows 28 = .ok (.iload_n 2, 1) := by decide +kernel
theorem dX12_blows_29 : decode cX12_blows 29 = .ok (.invokevirtual 507, 3) := by decide +kernel
theorem dX12_blows_32 : decode cX12_blows 32 = .ok (.iinc 2 1, 3) := by decide +kernel
theorem dX12_blows_35 : decode cX12_blows 35 = .ok (.goto (-33), 3) := by decide +kernel
theorem dX12_blows_38 : decode cX12_blows 38 = .ok (.return_, 1) := by decide +kernel
theorem dX12_putsAside_0 : decode cX12_putsAside 0 = .ok (.aload_n 0, 1) := by decide +kernel
theorem dX12_putsAside_1 : decode cX12_putsAside 1 = .ok (.iconst 1, 1) := by decide +kernel
theorem dX12_putsAside_2 : decode cX12_putsAside 2 = .ok (.putfield 483, 3) := by decide +kernel
theorem dX12_putsAside_5 : decode cX12_putsAside 5 = .ok (.iconst 0, 1) := by decide +kernel
theorem dX12_putsAside_6 : decode cX12_putsAside 6 = .ok (.istore_n 1, 1) := by decide +kernel
theorem dX12_putsAside_7 : decode cX12_putsAside 7 = .ok (.iload_n 1, 1) := by decide +kernel
theorem dX12_putsAside_8 : decode cX12_putsAside 8 = .ok (.bipush 24, 2) := by decide +kernel
theorem dX12_putsAside_10 : decode cX12_putsAside 10 = .ok (.if_icmp .ge 21, 3) := by decide +kernel
theorem dX12_putsAside_13 : decode cX12_putsAside 13 = .ok (.aload_n 0, 1) := by decide +kernel
theorem dX12_putsAside_14 : decode cX12_putsAside 14 = .ok (.getfield 151, 3) := by decide +kernel
theorem dX12_putsAside_17 : decode cX12_putsAside 17 = .ok (.iload_n 1, 1) := by decide +kernel
theorem dX12_putsAside_18 : decode cX12_putsAside 18 = .ok (.aload_n 0, 1) := by decide +kernel
theorem dX12_putsAside_19 : decode cX12_putsAside 19 = .ok (.getfield 142, 3) := by decide +kernel
theorem dX12_putsAside_22 : decode cX12_putsAside 22 = .ok (.iload_n 1, 1) := by decide +kernel
theorem dX12_putsAside_23 : decode cX12_putsAside 23 = .ok (.iaload, 1) := by decide +kernel
theorem dX12_putsAside_24 : decode cX12_putsAside 24 = .ok (.iastore, 1) := by decide +kernel
theorem dX12_putsAside_25 : decode cX12_putsAside 25 = .ok (.iinc 1 1, 3) := by decide +kernel
theorem dX12_putsAside_28 : decode cX12_putsAside 28 = .ok (.goto (-21), 3) := by decide +kernel
theorem dX12_putsAside_31 : decode cX12_putsAside 31 = .ok (.return_, 1) := by decide +kernel
theorem dX12_triesAnew_0 : decode cX12_triesAnew 0 = .ok (.iconst 0, 1) := by decide +kernel
theorem dX12_triesAnew_1 : decode cX12_triesAnew 1 = .ok (.istore_n 1, 1) := by decide +kernel
theorem dX12_triesAnew_2 : decode cX12_triesAnew 2 = .ok (.iload_n 1, 1) := by decide +kernel
theorem dX12_triesAnew_3 : decode cX12_triesAnew 3 = .ok (.bipush 24, 2) := by decide +kernel
theorem dX12_triesAnew_5 : decode cX12_triesAnew 5 = .ok (.if_icmp .ge 21, 3) := by decide +kernel
theorem dX12_triesAnew_8 : decode cX12_triesAnew 8 = .ok (.aload_n 0, 1) := by decide +kernel
theorem dX12_triesAnew_9 : decode cX12_triesAnew 9 = .ok (.getfield 142, 3) := by decide +kernel
theorem dX12_triesAnew_12 : decode cX12_triesAnew 12 = .ok (.iload_n 1, 1) := by decide +kernel
theorem dX12_triesAnew_13 : decode cX12_triesAnew 13 = .ok (.aload_n 0, 1) := by decide +kernel
theorem dX12_triesAnew_14 : decode cX12_triesAnew 14 = .ok (.getfield 151, 3) := by decide +kernel
theorem dX12_triesAnew_17 : decode cX12_triesAnew 17 = .ok (.iload_n 1, 1) := by decide +kernel
theorem dX12_triesAnew_18 : decode cX12_triesAnew 18 = .ok (.iaload, 1) := by decide +kernel
theorem dX12_triesAnew_19 : decode cX12_triesAnew 19 = .ok (.iastore, 1) := by decide +kernel
theorem dX12_triesAnew_20 : decode cX12_triesAnew 20 = .ok (.iinc 1 1, 3) := by decide +kernel
theorem dX12_triesAnew_23 : decode cX12_triesAnew 23 = .ok (.goto (-21), 3) := by decide +kernel
theorem dX12_triesAnew_26 : decode cX12_triesAnew 26 = .ok (.return_, 1) := by decide +kernel
theorem dX12_takesBack_0 : decode cX12_takesBack 0 = .ok (.aload_n 0, 1) := by decide +kernel
theorem dX12_takesBack_1 : decode cX12_takesBack 1 = .ok (.invokevirtual 513, 3) := by decide +kernel
theorem dX12_takesBack_4 : decode cX12_takesBack 4 = .ok (.aload_n 0, 1) := by decide +kernel
theorem dX12_takesBack_5 : decode cX12_takesBack 5 = .ok (.iconst 0, 1) := by decide +kernel
theorem dX12_takesBack_6 : decode cX12_takesBack 6 = .ok (.putfield 483, 3) := by decide +kernel
theorem dX12_takesBack_9 : decode cX12_takesBack 9 = .ok (.return_, 1) := by decide +kernel
theorem dX12_isAhead_0 : decode cX12_isAhead 0 = .ok (.aload_n 0, 1) := by decide +kernel
theorem dX12_isAhead_1 : decode cX12_isAhead 1 = .ok (.getfield 410, 3) := by decide +kernel
theorem dX12_isAhead_4 : decode cX12_isAhead 4 = .ok (.ifCond .eq 33, 3) := by decide +kernel
theorem dX12_isAhead_7 : decode cX12_isAhead 7 = .ok (.iload_n 1, 1) := by decide +kernel
theorem dX12_isAhead_8 : decode cX12_isAhead 8 = .ok (.i2l, 1) := by decide +kernel
theorem dX12_isAhead_9 : decode cX12_isAhead 9 = .ok (.iload_n 2, 1) := by decide +kernel
theorem dX12_isAhead_10 : decode cX12_isAhead 10 = .ok (.i2l, 1) := by decide +kernel
theorem dX12_isAhead_11 : decode cX12_isAhead 11 = .ok (.iload_n 3, 1) := by decide +kernel
theorem dX12_isAhead_12 : decode cX12_isAhead 12 = .ok (.i2l, 1) := by decide +kernel
theorem dX12_isAhead_13 : decode cX12_isAhead 13 = .ok (.invokestatic 305, 3) := by decide +kernel
theorem dX12_isAhead_16 : decode cX12_isAhead 16 = .ok (.ifCond .eq 21, 3) := by decide +kernel
theorem dX12_isAhead_19 : decode cX12_isAhead 19 = .ok (.aload_n 0, 1) := by decide +kernel
theorem dX12_isAhead_20 : decode cX12_isAhead 20 = .ok (.getfield 142, 3) := by decide +kernel
theorem dX12_isAhead_23 : decode cX12_isAhead 23 = .ok (.iconst 0, 1) := by decide +kernel
theorem dX12_isAhead_24 : decode cX12_isAhead 24 = .ok (.iaload, 1) := by decide +kernel
theorem dX12_isAhead_25 : decode cX12_isAhead 25 = .ok (.iload_n 1, 1) := by decide +kernel
theorem dX12_isAhead_26 : decode cX12_isAhead 26 = .ok (.iadd, 1) := by decide +kernel
theorem dX12_isAhead_27 : decode cX12_isAhead 27 = .ok (.sipush 999, 3) := by decide +kernel
theorem dX12_isAhead_30 : decode cX12_isAhead 30 = .ok (.if_icmp .gt 7, 3) := by decide +kernel
theorem dX12_isAhead_33 : decode cX12_isAhead 33 = .ok (.iconst 1, 1) := by decide +kernel
theorem dX12_isAhead_34 : decode cX12_isAhead 34 = .ok (.goto 4, 3) := by decide +kernel
theorem dX12_isAhead_37 : decode cX12_isAhead 37 = .ok (.iconst 0, 1) := by decide +kernel
theorem dX12_isAhead_38 : decode cX12_isAhead 38 = .ok (.ireturn, 1) := by decide +kernel
theorem dX12_litMany_0 : decode cX12_litMany 0 = .ok (.iconst 0, 1) := by decide +kernel
theorem dX12_litMany_1 : decode cX12_litMany 1 = .ok (.istore_n 1, 1) := by decide +kernel
theorem dX12_litMany_2 : decode cX12_litMany 2 = .ok (.iconst 0, 1) := by decide +kernel
theorem dX12_litMany_3 : decode cX12_litMany 3 = .ok (.istore_n 2, 1) := by decide +kernel
theorem dX12_litMany_4 : decode cX12_litMany 4 = .ok (.iload_n 2, 1) := by decide +kernel
theorem dX12_litMany_5 : decode cX12_litMany 5 = .ok (.aload_n 0, 1) := by decide +kernel
theorem dX12_litMany_6 : decode cX12_litMany 6 = .ok (.invokevirtual 426, 3) := by decide +kernel
theorem dX12_litMany_9 : decode cX12_litMany 9 = .ok (.if_icmp .ge 20, 3) := by decide +kernel
theorem dX12_litMany_12 : decode cX12_litMany 12 = .ok (.aload_n 0, 1) := by decide +kernel
theorem dX12_litMany_13 : decode cX12_litMany 13 = .ok (.iload_n 2, 1) := by decide +kernel
theorem dX12_litMany_14 : decode cX12_litMany 14 = .ok (.invokevirtual 432, 3) := by decide +kernel
theorem dX12_litMany_17 : decode cX12_litMany 17 = .ok (.ifCond .eq 6, 3) := by decide +kernel
theorem dX12_litMany_20 : decode cX12_litMany 20 = .ok (.iinc 1 1, 3) := by decide +kernel
theorem dX12_litMany_23 : decode cX12_litMany 23 = .ok (.iinc 2 1, 3) := by decide +kernel
theorem dX12_litMany_26 : decode cX12_litMany 26 = .ok (.goto (-22), 3) := by decide +kernel
theorem dX12_litMany_29 : decode cX12_litMany 29 = .ok (.iload_n 1, 1) := by decide +kernel
theorem dX12_litMany_30 : decode cX12_litMany 30 = .ok (.ireturn, 1) := by decide +kernel
theorem dX12_has_0 : decode cX12_has 0 = .ok (.iload_n 1, 1) := by decide +kernel
theorem dX12_has_1 : decode cX12_has 1 = .ok (.tableswitch 124 0 10 #[59, 64, 69, 74, 79, 86, 93, 98, 106, 114, 119], 59) := by decide +kernel
theorem dX12_has_60 : decode cX12_has 60 = .ok (.aload_n 0, 1) := by decide +kernel
theorem dX12_has_61 : decode cX12_has 61 = .ok (.invokevirtual 420, 3) := by decide +kernel
theorem dX12_has_64 : decode cX12_has 64 = .ok (.ireturn, 1) := by decide +kernel
theorem dX12_has_65 : decode cX12_has 65 = .ok (.aload_n 0, 1) := by decide +kernel
theorem dX12_has_66 : decode cX12_has 66 = .ok (.invokevirtual 423, 3) := by decide +kernel
theorem dX12_has_69 : decode cX12_has 69 = .ok (.ireturn, 1) := by decide +kernel
theorem dX12_has_70 : decode cX12_has 70 = .ok (.aload_n 0, 1) := by decide +kernel
theorem dX12_has_71 : decode cX12_has 71 = .ok (.invokevirtual 426, 3) := by decide +kernel
theorem dX12_has_74 : decode cX12_has 74 = .ok (.ireturn, 1) := by decide +kernel
theorem dX12_has_75 : decode cX12_has 75 = .ok (.aload_n 0, 1) := by decide +kernel
theorem dX12_has_76 : decode cX12_has 76 = .ok (.invokevirtual 495, 3) := by decide +kernel
theorem dX12_has_79 : decode cX12_has 79 = .ok (.ireturn, 1) := by decide +kernel
theorem dX12_has_80 : decode cX12_has 80 = .ok (.aload_n 0, 1) := by decide +kernel
theorem dX12_has_81 : decode cX12_has 81 = .ok (.getfield 142, 3) := by decide +kernel
theorem dX12_has_84 : decode cX12_has 84 = .ok (.iconst 0, 1) := by decide +kernel
theorem dX12_has_85 : decode cX12_has 85 = .ok (.iaload, 1) := by decide +kernel
theorem dX12_has_86 : decode cX12_has 86 = .ok (.ireturn, 1) := by decide +kernel
theorem dX12_has_87 : decode cX12_has 87 = .ok (.aload_n 0, 1) := by decide +kernel
theorem dX12_has_88 : decode cX12_has 88 = .ok (.getfield 142, 3) := by decide +kernel
theorem dX12_has_91 : decode cX12_has 91 = .ok (.iconst 1, 1) := by decide +kernel
theorem dX12_has_92 : decode cX12_has 92 = .ok (.iaload, 1) := by decide +kernel
theorem dX12_has_93 : decode cX12_has 93 = .ok (.ireturn, 1) := by decide +kernel
theorem dX12_has_94 : decode cX12_has 94 = .ok (.aload_n 0, 1) := by decide +kernel
theorem dX12_has_95 : decode cX12_has 95 = .ok (.invokevirtual 516, 3) := by decide +kernel
theorem dX12_has_98 : decode cX12_has 98 = .ok (.ireturn, 1) := by decide +kernel
theorem dX12_has_99 : decode cX12_has 99 = .ok (.aload_n 0, 1) := by decide +kernel
theorem dX12_has_100 : decode cX12_has 100 = .ok (.invokevirtual 480, 3) := by decide +kernel
theorem dX12_has_103 : decode cX12_has 103 = .ok (.invokestatic 519, 3) := by decide +kernel
theorem dX12_has_106 : decode cX12_has 106 = .ok (.ireturn, 1) := by decide +kernel
theorem dX12_has_107 : decode cX12_has 107 = .ok (.aload_n 0, 1) := by decide +kernel
theorem dX12_has_108 : decode cX12_has 108 = .ok (.getfield 142, 3) := by decide +kernel
theorem dX12_has_111 : decode cX12_has 111 = .ok (.bipush 24, 2) := by decide +kernel
theorem dX12_has_113 : decode cX12_has 113 = .ok (.iaload, 1) := by decide +kernel
theorem dX12_has_114 : decode cX12_has 114 = .ok (.ireturn, 1) := by decide +kernel
theorem dX12_has_115 : decode cX12_has 115 = .ok (.aload_n 0, 1) := by decide +kernel
theorem dX12_has_116 : decode cX12_has 116 = .ok (.getfield 417, 3) := by decide +kernel
theorem dX12_has_119 : decode cX12_has 119 = .ok (.ireturn, 1) := by decide +kernel
theorem dX12_has_120 : decode cX12_has 120 = .ok (.aload_n 0, 1) := by decide +kernel
theorem dX12_has_121 : decode cX12_has 121 = .ok (.getfield 414, 3) := by decide +kernel
theorem dX12_has_124 : decode cX12_has 124 = .ok (.ireturn, 1) := by decide +kernel
theorem dX12_has_125 : decode cX12_has 125 = .ok (.iconst (-1), 1) := by decide +kernel
theorem dX12_has_126 : decode cX12_has 126 = .ok (.ireturn, 1) := by decide +kernel
theorem dX12_letter_0 : decode cX12_letter 0 = .ok (.iload_n 1, 1) := by decide +kernel
theorem dX12_letter_1 : decode cX12_letter 1 = .ok (.i2l, 1) := by decide +kernel
theorem dX12_letter_2 : decode cX12_letter 2 = .ok (.lconst 0, 1) := by decide +kernel
theorem dX12_letter_3 : decode cX12_letter 3 = .ok (.lconst 1, 1) := by decide +kernel
theorem dX12_letter_4 : decode cX12_letter 4 = .ok (.invokestatic 305, 3) := by decide +kernel
theorem dX12_letter_7 : decode cX12_letter 7 = .ok (.ifCond .eq 36, 3) := by decide +kernel
theorem dX12_letter_10 : decode cX12_letter 10 = .ok (.iload_n 2, 1) := by decide +kernel
theorem dX12_letter_11 : decode cX12_letter 11 = .ok (.i2l, 1) := by decide +kernel
