theorem dX8_places_43 : decode cX8_places 43 = .ok (.ior, 1) := by decide +kernel
theorem dX8_places_44 : decode cX8_places 44 = .ok (.imul, 1) := by decide +kernel
theorem dX8_places_45 : decode cX8_places 45 = .ok (.iload_n 3, 1) := by decide +kernel
theorem dX8_places_46 : decode cX8_places 46 = .ok (.iadd, 1) := by decide +kernel
theorem dX8_places_47 : decode cX8_places 47 = .ok (.iconst 1, 1) := by decide +kernel
theorem dX8_places_48 : decode cX8_places 48 = .ok (.iadd, 1) := by decide +kernel
theorem dX8_places_49 : decode cX8_places 49 = .ok (.ireturn, 1) := by decide +kernel
theorem dX8_lead_0 : decode cX8_lead 0 = .ok (.aload_n 0, 1) := by decide +kernel
theorem dX8_lead_1 : decode cX8_lead 1 = .ok (.getfield 12, 3) := by decide +kernel
theorem dX8_lead_4 : decode cX8_lead 4 = .ok (.iload_n 1, 1) := by decide +kernel
theorem dX8_lead_5 : decode cX8_lead 5 = .ok (.invokevirtual 77, 3) := by decide +kernel
theorem dX8_lead_8 : decode cX8_lead 8 = .ok (.ifCond .ne 5, 3) := by decide +kernel
theorem dX8_lead_11 : decode cX8_lead 11 = .ok (.iconst (-1), 1) := by decide +kernel
theorem dX8_lead_12 : decode cX8_lead 12 = .ok (.ireturn, 1) := by decide +kernel
theorem dX8_lead_13 : decode cX8_lead 13 = .ok (.aload_n 0, 1) := by decide +kernel
theorem dX8_lead_14 : decode cX8_lead 14 = .ok (.getfield 12, 3) := by decide +kernel
theorem dX8_lead_17 : decode cX8_lead 17 = .ok (.getfield 83, 3) := by decide +kernel
theorem dX8_lead_20 : decode cX8_lead 20 = .ok (.iload_n 1, 1) := by decide +kernel
theorem dX8_lead_21 : decode cX8_lead 21 = .ok (.aaload, 1) := by decide +kernel
theorem dX8_lead_22 : decode cX8_lead 22 = .ok (.aload_n 0, 1) := by decide +kernel
theorem dX8_lead_23 : decode cX8_lead 23 = .ok (.getfield 12, 3) := by decide +kernel
theorem dX8_lead_26 : decode cX8_lead 26 = .ok (.invokevirtual 93, 3) := by decide +kernel
theorem dX8_lead_29 : decode cX8_lead 29 = .ok (.aload_n 0, 1) := by decide +kernel
theorem dX8_lead_30 : decode cX8_lead 30 = .ok (.getfield 12, 3) := by decide +kernel
theorem dX8_lead_33 : decode cX8_lead 33 = .ok (.getfield 71, 3) := by decide +kernel
theorem dX8_lead_36 : decode cX8_lead 36 = .ok (.invokestatic 151, 3) := by decide +kernel
theorem dX8_lead_39 : decode cX8_lead 39 = .ok (.istore_n 2, 1) := by decide +kernel
theorem dX8_lead_40 : decode cX8_lead 40 = .ok (.iload_n 2, 1) := by decide +kernel
theorem dX8_lead_41 : decode cX8_lead 41 = .ok (.ifCond .ge 8, 3) := by decide +kernel
theorem dX8_lead_44 : decode cX8_lead 44 = .ok (.bipush (-5), 2) := by decide +kernel
theorem dX8_lead_46 : decode cX8_lead 46 = .ok (.goto 4, 3) := by decide +kernel
theorem dX8_lead_49 : decode cX8_lead 49 = .ok (.iload_n 2, 1) := by decide +kernel
theorem dX8_lead_50 : decode cX8_lead 50 = .ok (.ireturn, 1) := by decide +kernel
theorem dX8_rank_0 : decode cX8_rank 0 = .ok (.iload_n 1, 1) := by decide +kernel
theorem dX8_rank_1 : decode cX8_rank 1 = .ok (.invokestatic 155, 3) := by decide +kernel
theorem dX8_rank_4 : decode cX8_rank 4 = .ok (.ifCond .eq 21, 3) := by decide +kernel
theorem dX8_rank_7 : decode cX8_rank 7 = .ok (.aload_n 0, 1) := by decide +kernel
theorem dX8_rank_8 : decode cX8_rank 8 = .ok (.getfield 42, 3) := by decide +kernel
theorem dX8_rank_11 : decode cX8_rank 11 = .ok (.aload_n 0, 1) := by decide +kernel
theorem dX8_rank_12 : decode cX8_rank 12 = .ok (.getfield 12, 3) := by decide +kernel
theorem dX8_rank_15 : decode cX8_rank 15 = .ok (.iload_n 1, 1) := by decide +kernel
theorem dX8_rank_16 : decode cX8_rank 16 = .ok (.invokevirtual 112, 3) := by decide +kernel
theorem dX8_rank_19 : decode cX8_rank 19 = .ok (.getfield 158, 3) := by decide +kernel
theorem dX8_rank_22 : decode cX8_rank 22 = .ok (.goto 4, 3) := by decide +kernel
theorem dX8_rank_25 : decode cX8_rank 25 = .ok (.iconst (-1), 1) := by decide +kernel
theorem dX8_rank_26 : decode cX8_rank 26 = .ok (.ireturn, 1) := by decide +kernel
theorem dX8_basis_0 : decode cX8_basis 0 = .ok (.iload_n 1, 1) := by decide +kernel
theorem dX8_basis_1 : decode cX8_basis 1 = .ok (.invokestatic 155, 3) := by decide +kernel
theorem dX8_basis_4 : decode cX8_basis 4 = .ok (.ifCond .eq 19, 3) := by decide +kernel
theorem dX8_basis_7 : decode cX8_basis 7 = .ok (.iload_n 3, 1) := by decide +kernel
theorem dX8_basis_8 : decode cX8_basis 8 = .ok (.iconst (-1), 1) := by decide +kernel
theorem dX8_basis_9 : decode cX8_basis 9 = .ok (.if_icmp .lt 14, 3) := by decide +kernel
theorem dX8_basis_12 : decode cX8_basis 12 = .ok (.iload_n 3, 1) := by decide +kernel
theorem dX8_basis_13 : decode cX8_basis 13 = .ok (.aload_n 0, 1) := by decide +kernel
theorem dX8_basis_14 : decode cX8_basis 14 = .ok (.getfield 12, 3) := by decide +kernel
theorem dX8_basis_17 : decode cX8_basis 17 = .ok (.invokevirtual 93, 3) := by decide +kernel
theorem dX8_basis_20 : decode cX8_basis 20 = .ok (.if_icmp .lt 5, 3) := by decide +kernel
theorem dX8_basis_23 : decode cX8_basis 23 = .ok (.iconst (-1), 1) := by decide +kernel
theorem dX8_basis_24 : decode cX8_basis 24 = .ok (.ireturn, 1) := by decide +kernel
theorem dX8_basis_25 : decode cX8_basis 25 = .ok (.aload_n 0, 1) := by decide +kernel
theorem dX8_basis_26 : decode cX8_basis 26 = .ok (.getfield 42, 3) := by decide +kernel
theorem dX8_basis_29 : decode cX8_basis 29 = .ok (.aload_n 0, 1) := by decide +kernel
theorem dX8_basis_30 : decode cX8_basis 30 = .ok (.getfield 12, 3) := by decide +kernel
theorem dX8_basis_33 : decode cX8_basis 33 = .ok (.iload_n 1, 1) := by decide +kernel
theorem dX8_basis_34 : decode cX8_basis 34 = .ok (.invokevirtual 112, 3) := by decide +kernel
theorem dX8_basis_37 : decode cX8_basis 37 = .ok (.astore 4, 2) := by decide +kernel
theorem dX8_basis_39 : decode cX8_basis 39 = .ok (.aload 4, 2) := by decide +kernel
theorem dX8_basis_41 : decode cX8_basis 41 = .ok (.iload_n 2, 1) := by decide +kernel
theorem dX8_basis_42 : decode cX8_basis 42 = .ok (.invokevirtual 163, 3) := by decide +kernel
theorem dX8_basis_45 : decode cX8_basis 45 = .ok (.istore 5, 2) := by decide +kernel
theorem dX8_basis_47 : decode cX8_basis 47 = .ok (.iload 5, 2) := by decide +kernel
theorem dX8_basis_49 : decode cX8_basis 49 = .ok (.ifCond .ge 5, 3) := by decide +kernel
theorem dX8_basis_52 : decode cX8_basis 52 = .ok (.iconst (-1), 1) := by decide +kernel
theorem dX8_basis_53 : decode cX8_basis 53 = .ok (.ireturn, 1) := by decide +kernel
theorem dX8_basis_54 : decode cX8_basis 54 = .ok (.iload_n 3, 1) := by decide +kernel
theorem dX8_basis_55 : decode cX8_basis 55 = .ok (.ifCond .ge 8, 3) := by decide +kernel
theorem dX8_basis_58 : decode cX8_basis 58 = .ok (.iload 5, 2) := by decide +kernel
theorem dX8_basis_60 : decode cX8_basis 60 = .ok (.goto 13, 3) := by decide +kernel
theorem dX8_basis_63 : decode cX8_basis 63 = .ok (.aload 4, 2) := by decide +kernel
theorem dX8_basis_65 : decode cX8_basis 65 = .ok (.getfield 167, 3) := by decide +kernel
theorem dX8_basis_68 : decode cX8_basis 68 = .ok (.iload 5, 2) := by decide +kernel
theorem dX8_basis_70 : decode cX8_basis 70 = .ok (.aaload, 1) := by decide +kernel
theorem dX8_basis_71 : decode cX8_basis 71 = .ok (.iload_n 3, 1) := by decide +kernel
theorem dX8_basis_72 : decode cX8_basis 72 = .ok (.iaload, 1) := by decide +kernel
theorem dX8_basis_73 : decode cX8_basis 73 = .ok (.ireturn, 1) := by decide +kernel
theorem dX8_within_0 : decode cX8_within 0 = .ok (.iload_n 1, 1) := by decide +kernel
theorem dX8_within_1 : decode cX8_within 1 = .ok (.invokestatic 155, 3) := by decide +kernel
theorem dX8_within_4 : decode cX8_within 4 = .ok (.ifCond .eq 14, 3) := by decide +kernel
theorem dX8_within_7 : decode cX8_within 7 = .ok (.aload_n 0, 1) := by decide +kernel
theorem dX8_within_8 : decode cX8_within 8 = .ok (.getfield 12, 3) := by decide +kernel
theorem dX8_within_11 : decode cX8_within 11 = .ok (.iload_n 2, 1) := by decide +kernel
theorem dX8_within_12 : decode cX8_within 12 = .ok (.invokevirtual 77, 3) := by decide +kernel
theorem dX8_within_15 : decode cX8_within 15 = .ok (.ifCond .ne 5, 3) := by decide +kernel
theorem dX8_within_18 : decode cX8_within 18 = .ok (.iconst (-1), 1) := by decide +kernel
theorem dX8_within_19 : decode cX8_within 19 = .ok (.ireturn, 1) := by decide +kernel
theorem dX8_within_20 : decode cX8_within 20 = .ok (.aload_n 0, 1) := by decide +kernel
theorem dX8_within_21 : decode cX8_within 21 = .ok (.aload_n 0, 1) := by decide +kernel
theorem dX8_within_22 : decode cX8_within 22 = .ok (.getfield 42, 3) := by decide +kernel
theorem dX8_within_25 : decode cX8_within 25 = .ok (.aload_n 0, 1) := by decide +kernel
theorem dX8_within_26 : decode cX8_within 26 = .ok (.getfield 12, 3) := by decide +kernel
theorem dX8_within_29 : decode cX8_within 29 = .ok (.iload_n 1, 1) := by decide +kernel
theorem dX8_within_30 : decode cX8_within 30 = .ok (.invokevirtual 112, 3) := by decide +kernel
theorem dX8_within_33 : decode cX8_within 33 = .ok (.iload_n 2, 1) := by decide +kernel
theorem dX8_within_34 : decode cX8_within 34 = .ok (.invokevirtual 116, 3) := by decide +kernel
theorem dX8_within_37 : decode cX8_within 37 = .ok (.aload_n 0, 1) := by decide +kernel
theorem dX8_within_38 : decode cX8_within 38 = .ok (.getfield 53, 3) := by decide +kernel
theorem dX8_within_41 : decode cX8_within 41 = .ok (.aload_n 0, 1) := by decide +kernel
theorem dX8_within_42 : decode cX8_within 42 = .ok (.getfield 12, 3) := by decide +kernel
theorem dX8_within_45 : decode cX8_within 45 = .ok (.invokevirtual 93, 3) := by decide +kernel
theorem dX8_within_48 : decode cX8_within 48 = .ok (.invokestatic 170, 3) := by decide +kernel
theorem dX8_within_51 : decode cX8_within 51 = .ok (.ifCond .ne 7, 3) := by decide +kernel
theorem dX8_within_54 : decode cX8_within 54 = .ok (.iconst 1, 1) := by decide +kernel
theorem dX8_within_55 : decode cX8_within 55 = .ok (.goto 4, 3) := by decide +kernel
theorem dX8_within_58 : decode cX8_within 58 = .ok (.iconst 0, 1) := by decide +kernel
theorem dX8_within_59 : decode cX8_within 59 = .ok (.ireturn, 1) := by decide +kernel
theorem dX8_rest_0 : decode cX8_rest 0 = .ok (.iload_n 1, 1) := by decide +kernel
theorem dX8_rest_1 : decode cX8_rest 1 = .ok (.invokestatic 155, 3) := by decide +kernel
theorem dX8_rest_4 : decode cX8_rest 4 = .ok (.ifCond .eq 25, 3) := by decide +kernel
theorem dX8_rest_7 : decode cX8_rest 7 = .ok (.aload_n 0, 1) := by decide +kernel
theorem dX8_rest_8 : decode cX8_rest 8 = .ok (.getfield 12, 3) := by decide +kernel
theorem dX8_rest_11 : decode cX8_rest 11 = .ok (.iload_n 2, 1) := by decide +kernel
theorem dX8_rest_12 : decode cX8_rest 12 = .ok (.invokevirtual 77, 3) := by decide +kernel
theorem dX8_rest_15 : decode cX8_rest 15 = .ok (.ifCond .eq 14, 3) := by decide +kernel
theorem dX8_rest_18 : decode cX8_rest 18 = .ok (.aload_n 0, 1) := by decide +kernel
theorem dX8_rest_19 : decode cX8_rest 19 = .ok (.getfield 12, 3) := by decide +kernel
theorem dX8_rest_22 : decode cX8_rest 22 = .ok (.iload_n 3, 1) := by decide +kernel
theorem dX8_rest_23 : decode cX8_rest 23 = .ok (.invokevirtual 80, 3) := by decide +kernel
theorem dX8_rest_26 : decode cX8_rest 26 = .ok (.ifCond .ne 5, 3) := by decide +kernel
theorem dX8_rest_29 : decode cX8_rest 29 = .ok (.iconst (-1), 1) := by decide +kernel
theorem dX8_rest_30 : decode cX8_rest 30 = .ok (.ireturn, 1) := by decide +kernel
theorem dX8_rest_31 : decode cX8_rest 31 = .ok (.aload_n 0, 1) := by decide +kernel
theorem dX8_rest_32 : decode cX8_rest 32 = .ok (.aload_n 0, 1) := by decide +kernel
theorem dX8_rest_33 : decode cX8_rest 33 = .ok (.getfield 42, 3) := by decide +kernel
theorem dX8_rest_36 : decode cX8_rest 36 = .ok (.aload_n 0, 1) := by decide +kernel
theorem dX8_rest_37 : decode cX8_rest 37 = .ok (.getfield 12, 3) := by decide +kernel
theorem dX8_rest_40 : decode cX8_rest 40 = .ok (.iload_n 1, 1) := by decide +kernel
theorem dX8_rest_41 : decode cX8_rest 41 = .ok (.invokevirtual 112, 3) := by decide +kernel
theorem dX8_rest_44 : decode cX8_rest 44 = .ok (.iload_n 2, 1) := by decide +kernel
theorem dX8_rest_45 : decode cX8_rest 45 = .ok (.invokevirtual 116, 3) := by decide +kernel
theorem dX8_rest_48 : decode cX8_rest 48 = .ok (.aload_n 0, 1) := by decide +kernel
theorem dX8_rest_49 : decode cX8_rest 49 = .ok (.getfield 53, 3) := by decide +kernel
theorem dX8_rest_52 : decode cX8_rest 52 = .ok (.iload_n 3, 1) := by decide +kernel
theorem dX8_rest_53 : decode cX8_rest 53 = .ok (.iaload, 1) := by decide +kernel
theorem dX8_rest_54 : decode cX8_rest 54 = .ok (.ireturn, 1) := by decide +kernel
theorem dX8_count_0 : decode cX8_count 0 = .ok (.iload_n 1, 1) := by decide +kernel
theorem dX8_count_1 : decode cX8_count 1 = .ok (.invokestatic 155, 3) := by decide +kernel
theorem dX8_count_4 : decode cX8_count 4 = .ok (.ifCond .eq 18, 3) := by decide +kernel
theorem dX8_count_7 : decode cX8_count 7 = .ok (.iload_n 2, 1) := by decide +kernel
theorem dX8_count_8 : decode cX8_count 8 = .ok (.ifCond .lt 14, 3) := by decide +kernel
theorem dX8_count_11 : decode cX8_count 11 = .ok (.iload_n 2, 1) := by decide +kernel
theorem dX8_count_12 : decode cX8_count 12 = .ok (.aload_n 0, 1) := by decide +kernel
theorem dX8_count_13 : decode cX8_count 13 = .ok (.getfield 12, 3) := by decide +kernel
theorem dX8_count_16 : decode cX8_count 16 = .ok (.getfield 57, 3) := by decide +kernel
theorem dX8_count_19 : decode cX8_count 19 = .ok (.if_icmp .le 5, 3) := by decide +kernel
theorem dX8_count_22 : decode cX8_count 22 = .ok (.iconst (-1), 1) := by decide +kernel
theorem dX8_count_23 : decode cX8_count 23 = .ok (.ireturn, 1) := by decide +kernel
theorem dX8_count_24 : decode cX8_count 24 = .ok (.aload_n 0, 1) := by decide +kernel
theorem dX8_count_25 : decode cX8_count 25 = .ok (.getfield 42, 3) := by decide +kernel
theorem dX8_count_28 : decode cX8_count 28 = .ok (.aload_n 0, 1) := by decide +kernel
theorem dX8_count_29 : decode cX8_count 29 = .ok (.getfield 12, 3) := by decide +kernel
theorem dX8_count_32 : decode cX8_count 32 = .ok (.iload_n 1, 1) := by decide +kernel
theorem dX8_count_33 : decode cX8_count 33 = .ok (.invokevirtual 112, 3) := by decide +kernel
theorem dX8_count_36 : decode cX8_count 36 = .ok (.iload_n 2, 1) := by decide +kernel
theorem dX8_count_37 : decode cX8_count 37 = .ok (.invokevirtual 174, 3) := by decide +kernel
theorem dX8_count_40 : decode cX8_count 40 = .ok (.ireturn, 1) := by decide +kernel
theorem dX8_series_0 : decode cX8_series 0 = .ok (.iload_n 1, 1) := by decide +kernel
theorem dX8_series_1 : decode cX8_series 1 = .ok (.invokestatic 155, 3) := by decide +kernel
theorem dX8_series_4 : decode cX8_series 4 = .ok (.ifCond .ne 5, 3) := by decide +kernel
theorem dX8_series_7 : decode cX8_series 7 = .ok (.iconst (-1), 1) := by decide +kernel
theorem dX8_series_8 : decode cX8_series 8 = .ok (.ireturn, 1) := by decide +kernel
theorem dX8_series_9 : decode cX8_series 9 = .ok (.iload_n 2, 1) := by decide +kernel
theorem dX8_series_10 : decode cX8_series 10 = .ok (.iconst 1, 1) := by decide +kernel
theorem dX8_series_11 : decode cX8_series 11 = .ok (.if_icmp .lt 20, 3) := by decide +kernel
theorem dX8_series_14 : decode cX8_series 14 = .ok (.iload_n 2, 1) := by decide +kernel
theorem dX8_series_15 : decode cX8_series 15 = .ok (.bipush 99, 2) := by decide +kernel
theorem dX8_series_17 : decode cX8_series 17 = .ok (.if_icmp .gt 14, 3) := by decide +kernel
theorem dX8_series_20 : decode cX8_series 20 = .ok (.iload_n 3, 1) := by decide +kernel
theorem dX8_series_21 : decode cX8_series 21 = .ok (.iconst 1, 1) := by decide +kernel
theorem dX8_series_22 : decode cX8_series 22 = .ok (.if_icmp .lt 9, 3) := by decide +kernel
theorem dX8_series_25 : decode cX8_series 25 = .ok (.iload_n 3, 1) := by decide +kernel
theorem dX8_series_26 : decode cX8_series 26 = .ok (.bipush 99, 2) := by decide +kernel
theorem dX8_series_28 : decode cX8_series 28 = .ok (.if_icmp .le 6, 3) := by decide +kernel
theorem dX8_series_31 : decode cX8_series 31 = .ok (.bipush (-2), 2) := by decide +kernel
theorem dX8_series_33 : decode cX8_series 33 = .ok (.ireturn, 1) := by decide +kernel
theorem dX8_series_34 : decode cX8_series 34 = .ok (.aload_n 0, 1) := by decide +kernel
theorem dX8_series_35 : decode cX8_series 35 = .ok (.getfield 42, 3) := by decide +kernel
theorem dX8_series_38 : decode cX8_series 38 = .ok (.aload_n 0, 1) := by decide +kernel
theorem dX8_series_39 : decode cX8_series 39 = .ok (.getfield 12, 3) := by decide +kernel
theorem dX8_series_42 : decode cX8_series 42 = .ok (.iload_n 1, 1) := by decide +kernel
theorem dX8_series_43 : decode cX8_series 43 = .ok (.invokevirtual 112, 3) := by decide +kernel
theorem dX8_series_46 : decode cX8_series 46 = .ok (.astore 4, 2) := by decide +kernel
theorem dX8_series_48 : decode cX8_series 48 = .ok (.iload_n 2, 1) := by decide +kernel
theorem dX8_series_49 : decode cX8_series 49 = .ok (.i2f, 1) := by decide +kernel
theorem dX8_series_50 : decode cX8_series 50 = .ok (.iload_n 3, 1) := by decide +kernel
theorem dX8_series_51 : decode cX8_series 51 = .ok (.i2f, 1) := by decide +kernel
theorem dX8_series_52 : decode cX8_series 52 = .ok (.fdiv, 1) := by decide +kernel
theorem dX8_series_53 : decode cX8_series 53 = .ok (.fstore 5, 2) := by decide +kernel
theorem dX8_series_55 : decode cX8_series 55 = .ok (.fconst 0, 1) := by decide +kernel
theorem dX8_series_56 : decode cX8_series 56 = .ok (.fstore 6, 2) := by decide +kernel
theorem dX8_series_58 : decode cX8_series 58 = .ok (.aload_n 0, 1) := by decide +kernel
theorem dX8_series_59 : decode cX8_series 59 = .ok (.getfield 12, 3) := by decide +kernel
theorem dX8_series_62 : decode cX8_series 62 = .ok (.getfield 57, 3) := by decide +kernel
theorem dX8_series_65 : decode cX8_series 65 = .ok (.istore 7, 2) := by decide +kernel
theorem dX8_series_67 : decode cX8_series 67 = .ok (.iload 7, 2) := by decide +kernel
theorem dX8_series_69 : decode cX8_series 69 = .ok (.ifCond .lt 38, 3) := by decide +kernel
theorem dX8_series_72 : decode cX8_series 72 = .ok (.fload 6, 2) := by decide +kernel
theorem dX8_series_74 : decode cX8_series 74 = .ok (.fload 5, 2) := by decide +kernel
theorem dX8_series_76 : decode cX8_series 76 = .ok (.fmul, 1) := by decide +kernel
theorem dX8_series_77 : decode cX8_series 77 = .ok (.iload 7, 2) := by decide +kernel
theorem dX8_series_79 : decode cX8_series 79 = .ok (.aload_n 0, 1) := by decide +kernel
theorem dX8_series_80 : decode cX8_series 80 = .ok (.getfield 12, 3) := by decide +kernel
theorem dX8_series_83 : decode cX8_series 83 = .ok (.invokevirtual 93, 3) := by decide +kernel
theorem dX8_series_86 : decode cX8_series 86 = .ok (.invokestatic 177, 3) := by decide +kernel
theorem dX8_series_89 : decode cX8_series 89 = .ok (.aload 4, 2) := by decide +kernel
theorem dX8_series_91 : decode cX8_series 91 = .ok (.iload 7, 2) := by decide +kernel
theorem dX8_series_93 : decode cX8_series 93 = .ok (.invokevirtual 174, 3) := by decide +kernel
theorem dX8_series_96 : decode cX8_series 96 = .ok (.isub, 1) := by decide +kernel
theorem dX8_series_97 : decode cX8_series 97 = .ok (.i2f, 1) := by decide +kernel
theorem dX8_series_98 : decode cX8_series 98 = .ok (.fadd, 1) := by decide +kernel
theorem dX8_series_99 : decode cX8_series 99 = .ok (.fstore 6, 2) := by decide +kernel
theorem dX8_series_101 : decode cX8_series 101 = .ok (.iinc 7 (-1), 3) := by decide +kernel
theorem dX8_series_104 : decode cX8_series 104 = .ok (.goto (-37), 3) := by decide +kernel
theorem dX8_series_107 : decode cX8_series 107 = .ok (.fload 6, 2) := by decide +kernel
theorem dX8_series_109 : decode cX8_series 109 = .ok (.invokestatic 180, 3) := by decide +kernel
theorem dX8_series_112 : decode cX8_series 112 = .ok (.ireturn, 1) := by decide +kernel
theorem dX8_mean_0 : decode cX8_mean 0 = .ok (.iload_n 1, 1) := by decide +kernel
theorem dX8_mean_1 : decode cX8_mean 1 = .ok (.invokestatic 155, 3) := by decide +kernel
theorem dX8_mean_4 : decode cX8_mean 4 = .ok (.ifCond .ne 7, 3) := by decide +kernel
theorem dX8_mean_7 : decode cX8_mean 7 = .ok (.ldc2_w 186, 3) := by decide +kernel
theorem dX8_mean_10 : decode cX8_mean 10 = .ok (.lreturn, 1) := by decide +kernel
theorem dX8_mean_11 : decode cX8_mean 11 = .ok (.aload_n 0, 1) := by decide +kernel
theorem dX8_mean_12 : decode cX8_mean 12 = .ok (.getfield 42, 3) := by decide +kernel
theorem dX8_mean_15 : decode cX8_mean 15 = .ok (.aload_n 0, 1) := by decide +kernel
theorem dX8_mean_16 : decode cX8_mean 16 = .ok (.getfield 12, 3) := by decide +kernel
theorem dX8_mean_19 : decode cX8_mean 19 = .ok (.iload_n 1, 1) := by decide +kernel
theorem dX8_mean_20 : decode cX8_mean 20 = .ok (.invokevirtual 112, 3) := by decide +kernel
theorem dX8_mean_23 : decode cX8_mean 23 = .ok (.astore_n 2, 1) := by decide +kernel
theorem dX8_mean_24 : decode cX8_mean 24 = .ok (.aload_n 2, 1) := by decide +kernel
theorem dX8_mean_25 : decode cX8_mean 25 = .ok (.getfield 158, 3) := by decide +kernel
theorem dX8_mean_28 : decode cX8_mean 28 = .ok (.ifCond .gt 8, 3) := by decide +kernel
theorem dX8_mean_31 : decode cX8_mean 31 = .ok (.dconst 0, 1) := by decide +kernel
theorem dX8_mean_32 : decode cX8_mean 32 = .ok (.invokestatic 188, 3) := by decide +kernel
theorem dX8_mean_35 : decode cX8_mean 35 = .ok (.lreturn, 1) := by decide +kernel
theorem dX8_mean_36 : decode cX8_mean 36 = .ok (.iconst 0, 1) := by decide +kernel
theorem dX8_mean_37 : decode cX8_mean 37 = .ok (.istore_n 3, 1) := by decide +kernel
theorem dX8_mean_38 : decode cX8_mean 38 = .ok (.iconst 0, 1) := by decide +kernel
theorem dX8_mean_39 : decode cX8_mean 39 = .ok (.istore 4, 2) := by decide +kernel
theorem dX8_mean_41 : decode cX8_mean 41 = .ok (.iload 4, 2) := by decide +kernel
theorem dX8_mean_43 : decode cX8_mean 43 = .ok (.aload_n 0, 1) := by decide +kernel
theorem dX8_mean_44 : decode cX8_mean 44 = .ok (.getfield 12, 3) := by decide +kernel
theorem dX8_mean_47 : decode cX8_mean 47 = .ok (.getfield 57, 3) := by decide +kernel
theorem dX8_mean_50 : decode cX8_mean 50 = .ok (.if_icmp .gt 21, 3) := by decide +kernel
theorem dX8_mean_53 : decode cX8_mean 53 = .ok (.iload_n 3, 1) := by decide +kernel
theorem dX8_mean_54 : decode cX8_mean 54 = .ok (.iload 4, 2) := by decide +kernel
theorem dX8_mean_56 : decode cX8_mean 56 = .ok (.aload_n 2, 1) := by decide +kernel
theorem dX8_mean_57 : decode cX8_mean 57 = .ok (.iload 4, 2) := by decide +kernel
theorem dX8_mean_59 : decode cX8_mean 59 = .ok (.invokevirtual 174, 3) := by decide +kernel
theorem dX8_mean_62 : decode cX8_mean 62 = .ok (.imul, 1) := by decide +kernel
theorem dX8_mean_63 : decode cX8_mean 63 = .ok (.iadd, 1) := by decide +kernel
theorem dX8_mean_64 : decode cX8_mean 64 = .ok (.istore_n 3, 1) := by decide +kernel
theorem dX8_mean_65 : decode cX8_mean 65 = .ok (.iinc 4 1, 3) := by decide +kernel
theorem dX8_mean_68 : decode cX8_mean 68 = .ok (.goto (-27), 3) := by decide +kernel
theorem dX8_mean_71 : decode cX8_mean 71 = .ok (.iload_n 3, 1) := by decide +kernel
theorem dX8_mean_72 : decode cX8_mean 72 = .ok (.i2d, 1) := by decide +kernel
theorem dX8_mean_73 : decode cX8_mean 73 = .ok (.aload_n 2, 1) := by decide +kernel
theorem dX8_mean_74 : decode cX8_mean 74 = .ok (.getfield 158, 3) := by decide +kernel
theorem dX8_mean_77 : decode cX8_mean 77 = .ok (.i2d, 1) := by decide +kernel
theorem dX8_mean_78 : decode cX8_mean 78 = .ok (.ddiv, 1) := by decide +kernel
theorem dX8_mean_79 : decode cX8_mean 79 = .ok (.invokestatic 188, 3) := by decide +kernel
theorem dX8_mean_82 : decode cX8_mean 82 = .ok (.lreturn, 1) := by decide +kernel
theorem dX8_annihilator_0 : decode cX8_annihilator 0 = .ok (.iload_n 1, 1) := by decide +kernel
theorem dX8_annihilator_1 : decode cX8_annihilator 1 = .ok (.invokestatic 155, 3) := by decide +kernel
theorem dX8_annihilator_4 : decode cX8_annihilator 4 = .ok (.ifCond .eq 19, 3) := by decide +kernel
theorem dX8_annihilator_7 : decode cX8_annihilator 7 = .ok (.iload_n 2, 1) := by decide +kernel
theorem dX8_annihilator_8 : decode cX8_annihilator 8 = .ok (.invokestatic 192, 3) := by decide +kernel
theorem dX8_annihilator_11 : decode cX8_annihilator 11 = .ok (.ifCond .eq 12, 3) := by decide +kernel
theorem dX8_annihilator_14 : decode cX8_annihilator 14 = .ok (.iload_n 3, 1) := by decide +kernel
theorem dX8_annihilator_15 : decode cX8_annihilator 15 = .ok (.ifCond .lt 8, 3) := by decide +kernel
theorem dX8_annihilator_18 : decode cX8_annihilator 18 = .ok (.iload_n 3, 1) := by decide +kernel
theorem dX8_annihilator_19 : decode cX8_annihilator 19 = .ok (.iconst 3, 1) := by decide +kernel
theorem dX8_annihilator_20 : decode cX8_annihilator 20 = .ok (.if_icmp .le 5, 3) := by decide +kernel
theorem dX8_annihilator_23 : decode cX8_annihilator 23 = .ok (.iconst (-1), 1) := by decide +kernel
theorem dX8_annihilator_24 : decode cX8_annihilator 24 = .ok (.ireturn, 1) := by decide +kernel
theorem dX8_annihilator_25 : decode cX8_annihilator 25 = .ok (.aload_n 0, 1) := by decide +kernel
theorem dX8_annihilator_26 : decode cX8_annihilator 26 = .ok (.getfield 42, 3) := by decide +kernel
theorem dX8_annihilator_29 : decode cX8_annihilator 29 = .ok (.aload_n 0, 1) := by decide +kernel
theorem dX8_annihilator_30 : decode cX8_annihilator 30 = .ok (.getfield 12, 3) := by decide +kernel
theorem dX8_annihilator_33 : decode cX8_annihilator 33 = .ok (.iload_n 1, 1) := by decide +kernel
theorem dX8_annihilator_34 : decode cX8_annihilator 34 = .ok (.iload_n 2, 1) := by decide +kernel
theorem dX8_annihilator_35 : decode cX8_annihilator 35 = .ok (.invokevirtual 195, 3) := by decide +kernel
theorem dX8_annihilator_38 : decode cX8_annihilator 38 = .ok (.astore 4, 2) := by decide +kernel
theorem dX8_annihilator_40 : decode cX8_annihilator 40 = .ok (.iload_n 3, 1) := by decide +kernel
theorem dX8_annihilator_41 : decode cX8_annihilator 41 = .ok (.ifCond .ne 9, 3) := by decide +kernel
theorem dX8_annihilator_44 : decode cX8_annihilator 44 = .ok (.aload 4, 2) := by decide +kernel
theorem dX8_annihilator_46 : decode cX8_annihilator 46 = .ok (.getfield 158, 3) := by decide +kernel
theorem dX8_annihilator_49 : decode cX8_annihilator 49 = .ok (.ireturn, 1) := by decide +kernel
theorem dX8_annihilator_50 : decode cX8_annihilator 50 = .ok (.iload_n 3, 1) := by decide +kernel
theorem dX8_annihilator_51 : decode cX8_annihilator 51 = .ok (.iconst 3, 1) := by decide +kernel
theorem dX8_annihilator_52 : decode cX8_annihilator 52 = .ok (.if_icmp .ne 24, 3) := by decide +kernel
theorem dX8_annihilator_55 : decode cX8_annihilator 55 = .ok (.aload 4, 2) := by decide +kernel
theorem dX8_annihilator_57 : decode cX8_annihilator 57 = .ok (.iconst 0, 1) := by decide +kernel
theorem dX8_annihilator_58 : decode cX8_annihilator 58 = .ok (.invokevirtual 163, 3) := by decide +kernel
theorem dX8_annihilator_61 : decode cX8_annihilator 61 = .ok (.istore 5, 2) := by decide +kernel
theorem dX8_annihilator_63 : decode cX8_annihilator 63 = .ok (.iload 5, 2) := by decide +kernel
theorem dX8_annihilator_65 : decode cX8_annihilator 65 = .ok (.ifCond .ge 8, 3) := by decide +kernel
theorem dX8_annihilator_68 : decode cX8_annihilator 68 = .ok (.bipush (-5), 2) := by decide +kernel
theorem dX8_annihilator_70 : decode cX8_annihilator 70 = .ok (.goto 5, 3) := by decide +kernel
theorem dX8_annihilator_73 : decode cX8_annihilator 73 = .ok (.iload 5, 2) := by decide +kernel
theorem dX8_annihilator_75 : decode cX8_annihilator 75 = .ok (.ireturn, 1) := by decide +kernel
theorem dX8_annihilator_76 : decode cX8_annihilator 76 = .ok (.aload_n 0, 1) := by decide +kernel
theorem dX8_annihilator_77 : decode cX8_annihilator 77 = .ok (.getfield 42, 3) := by decide +kernel
theorem dX8_annihilator_80 : decode cX8_annihilator 80 = .ok (.aload_n 0, 1) := by decide +kernel
theorem dX8_annihilator_81 : decode cX8_annihilator 81 = .ok (.getfield 12, 3) := by decide +kernel
theorem dX8_annihilator_84 : decode cX8_annihilator 84 = .ok (.iload_n 2, 1) := by decide +kernel
theorem dX8_annihilator_85 : decode cX8_annihilator 85 = .ok (.invokevirtual 199, 3) := by decide +kernel
theorem dX8_annihilator_88 : decode cX8_annihilator 88 = .ok (.astore 5, 2) := by decide +kernel
theorem dX8_annihilator_90 : decode cX8_annihilator 90 = .ok (.iload_n 3, 1) := by decide +kernel
theorem dX8_annihilator_91 : decode cX8_annihilator 91 = .ok (.iconst 1, 1) := by decide +kernel
theorem dX8_annihilator_92 : decode cX8_annihilator 92 = .ok (.if_icmp .ne 9, 3) := by decide +kernel
theorem dX8_annihilator_95 : decode cX8_annihilator 95 = .ok (.aload 5, 2) := by decide +kernel
theorem dX8_annihilator_97 : decode cX8_annihilator 97 = .ok (.getfield 158, 3) := by decide +kernel
theorem dX8_annihilator_100 : decode cX8_annihilator 100 = .ok (.ireturn, 1) := by decide +kernel
theorem dX8_annihilator_101 : decode cX8_annihilator 101 = .ok (.aload_n 0, 1) := by decide +kernel
theorem dX8_annihilator_102 : decode cX8_annihilator 102 = .ok (.getfield 42, 3) := by decide +kernel
theorem dX8_annihilator_105 : decode cX8_annihilator 105 = .ok (.aload_n 0, 1) := by decide +kernel
theorem dX8_annihilator_106 : decode cX8_annihilator 106 = .ok (.getfield 42, 3) := by decide +kernel
theorem dX8_annihilator_109 : decode cX8_annihilator 109 = .ok (.aload_n 0, 1) := by decide +kernel
theorem dX8_annihilator_110 : decode cX8_annihilator 110 = .ok (.getfield 12, 3) := by decide +kernel
theorem dX8_annihilator_113 : decode cX8_annihilator 113 = .ok (.iload_n 1, 1) := by decide +kernel
theorem dX8_annihilator_114 : decode cX8_annihilator 114 = .ok (.invokevirtual 112, 3) := by decide +kernel
theorem dX8_annihilator_117 : decode cX8_annihilator 117 = .ok (.aload 5, 2) := by decide +kernel
theorem dX8_annihilator_119 : decode cX8_annihilator 119 = .ok (.invokevirtual 202, 3) := by decide +kernel
theorem dX8_annihilator_122 : decode cX8_annihilator 122 = .ok (.ifCond .eq 7, 3) := by decide +kernel
theorem dX8_annihilator_125 : decode cX8_annihilator 125 = .ok (.iconst 1, 1) := by decide +kernel
theorem dX8_annihilator_126 : decode cX8_annihilator 126 = .ok (.goto 4, 3) := by decide +kernel
theorem dX8_annihilator_129 : decode cX8_annihilator 129 = .ok (.iconst 0, 1) := by decide +kernel
theorem dX8_annihilator_130 : decode cX8_annihilator 130 = .ok (.ireturn, 1) := by decide +kernel
theorem dX8_annihilates_0 : decode cX8_annihilates 0 = .ok (.iload_n 1, 1) := by decide +kernel
theorem dX8_annihilates_1 : decode cX8_annihilates 1 = .ok (.invokestatic 155, 3) := by decide +kernel
theorem dX8_annihilates_4 : decode cX8_annihilates 4 = .ok (.ifCond .eq 22, 3) := by decide +kernel
theorem dX8_annihilates_7 : decode cX8_annihilates 7 = .ok (.iload_n 2, 1) := by decide +kernel
theorem dX8_annihilates_8 : decode cX8_annihilates 8 = .ok (.invokestatic 192, 3) := by decide +kernel
theorem dX8_annihilates_11 : decode cX8_annihilates 11 = .ok (.ifCond .eq 15, 3) := by decide +kernel
theorem dX8_annihilates_14 : decode cX8_annihilates 14 = .ok (.aload_n 0, 1) := by decide +kernel
theorem dX8_annihilates_15 : decode cX8_annihilates 15 = .ok (.getfield 12, 3) := by decide +kernel
theorem dX8_annihilates_18 : decode cX8_annihilates 18 = .ok (.iload 4, 2) := by decide +kernel
theorem dX8_annihilates_20 : decode cX8_annihilates 20 = .ok (.invokevirtual 80, 3) := by decide +kernel
theorem dX8_annihilates_23 : decode cX8_annihilates 23 = .ok (.ifCond .ne 5, 3) := by decide +kernel
theorem dX8_annihilates_26 : decode cX8_annihilates 26 = .ok (.iconst (-1), 1) := by decide +kernel
theorem dX8_annihilates_27 : decode cX8_annihilates 27 = .ok (.ireturn, 1) := by decide +kernel
theorem dX8_annihilates_28 : decode cX8_annihilates 28 = .ok (.aload_n 0, 1) := by decide +kernel
theorem dX8_annihilates_29 : decode cX8_annihilates 29 = .ok (.getfield 42, 3) := by decide +kernel
theorem dX8_annihilates_32 : decode cX8_annihilates 32 = .ok (.aload_n 0, 1) := by decide +kernel
theorem dX8_annihilates_33 : decode cX8_annihilates 33 = .ok (.getfield 12, 3) := by decide +kernel
theorem dX8_annihilates_36 : decode cX8_annihilates 36 = .ok (.iload_n 1, 1) := by decide +kernel
theorem dX8_annihilates_37 : decode cX8_annihilates 37 = .ok (.iload_n 2, 1) := by decide +kernel
theorem dX8_annihilates_38 : decode cX8_annihilates 38 = .ok (.invokevirtual 195, 3) := by decide +kernel
theorem dX8_annihilates_41 : decode cX8_annihilates 41 = .ok (.astore 5, 2) := by decide +kernel
theorem dX8_annihilates_43 : decode cX8_annihilates 43 = .ok (.aload 5, 2) := by decide +kernel
theorem dX8_annihilates_45 : decode cX8_annihilates 45 = .ok (.iload_n 3, 1) := by decide +kernel
theorem dX8_annihilates_46 : decode cX8_annihilates 46 = .ok (.invokevirtual 163, 3) := by decide +kernel
theorem dX8_annihilates_49 : decode cX8_annihilates 49 = .ok (.istore 6, 2) := by decide +kernel
theorem dX8_annihilates_51 : decode cX8_annihilates 51 = .ok (.iload 6, 2) := by decide +kernel
theorem dX8_annihilates_53 : decode cX8_annihilates 53 = .ok (.ifCond .ge 7, 3) := by decide +kernel
theorem dX8_annihilates_56 : decode cX8_annihilates 56 = .ok (.iconst (-1), 1) := by decide +kernel
theorem dX8_annihilates_57 : decode cX8_annihilates 57 = .ok (.goto 14, 3) := by decide +kernel
theorem dX8_annihilates_60 : decode cX8_annihilates 60 = .ok (.aload 5, 2) := by decide +kernel
theorem dX8_annihilates_62 : decode cX8_annihilates 62 = .ok (.getfield 167, 3) := by decide +kernel
theorem dX8_annihilates_65 : decode cX8_annihilates 65 = .ok (.iload 6, 2) := by decide +kernel
theorem dX8_annihilates_67 : decode cX8_annihilates 67 = .ok (.aaload, 1) := by decide +kernel
theorem dX8_annihilates_68 : decode cX8_annihilates 68 = .ok (.iload 4, 2) := by decide +kernel
theorem dX8_annihilates_70 : decode cX8_annihilates 70 = .ok (.iaload, 1) := by decide +kernel
theorem dX8_annihilates_71 : decode cX8_annihilates 71 = .ok (.ireturn, 1) := by decide +kernel
theorem dX8_step_0 : decode cX8_step 0 = .ok (.iload_n 1, 1) := by decide +kernel
theorem dX8_step_1 : decode cX8_step 1 = .ok (.ifCond .lt 8, 3) := by decide +kernel
theorem dX8_step_4 : decode cX8_step 4 = .ok (.iload_n 1, 1) := by decide +kernel
theorem dX8_step_5 : decode cX8_step 5 = .ok (.iconst 2, 1) := by decide +kernel
theorem dX8_step_6 : decode cX8_step 6 = .ok (.if_icmp .le 5, 3) := by decide +kernel
theorem dX8_step_9 : decode cX8_step 9 = .ok (.iconst (-1), 1) := by decide +kernel
theorem dX8_step_10 : decode cX8_step 10 = .ok (.ireturn, 1) := by decide +kernel
theorem dX8_step_11 : decode cX8_step 11 = .ok (.iload_n 1, 1) := by decide +kernel
theorem dX8_step_12 : decode cX8_step 12 = .ok (.iconst 2, 1) := by decide +kernel
theorem dX8_step_13 : decode cX8_step 13 = .ok (.if_icmp .ne 17, 3) := by decide +kernel
theorem dX8_step_16 : decode cX8_step 16 = .ok (.aload_n 0, 1) := by decide +kernel
theorem dX8_step_17 : decode cX8_step 17 = .ok (.getfield 12, 3) := by decide +kernel
theorem dX8_step_20 : decode cX8_step 20 = .ok (.getfield 57, 3) := by decide +kernel
theorem dX8_step_23 : decode cX8_step 23 = .ok (.iconst 4, 1) := by decide +kernel
theorem dX8_step_24 : decode cX8_step 24 = .ok (.if_icmp .ne 6, 3) := by decide +kernel
theorem dX8_step_27 : decode cX8_step 27 = .ok (.bipush (-3), 2) := by decide +kernel
theorem dX8_step_29 : decode cX8_step 29 = .ok (.ireturn, 1) := by decide +kernel
theorem dX8_step_30 : decode cX8_step 30 = .ok (.aload_n 0, 1) := by decide +kernel
theorem dX8_step_31 : decode cX8_step 31 = .ok (.getfield 49, 3) := by decide +kernel
theorem dX8_step_34 : decode cX8_step 34 = .ok (.aload_n 0, 1) := by decide +kernel
theorem dX8_step_35 : decode cX8_step 35 = .ok (.getfield 12, 3) := by decide +kernel
theorem dX8_step_38 : decode cX8_step 38 = .ok (.aload_n 0, 1) := by decide +kernel
theorem dX8_step_39 : decode cX8_step 39 = .ok (.getfield 42, 3) := by decide +kernel
theorem dX8_step_42 : decode cX8_step 42 = .ok (.aload_n 0, 1) := by decide +kernel
theorem dX8_step_43 : decode cX8_step 43 = .ok (.getfield 12, 3) := by decide +kernel
theorem dX8_step_46 : decode cX8_step 46 = .ok (.iconst 0, 1) := by decide +kernel
theorem dX8_step_47 : decode cX8_step 47 = .ok (.invokevirtual 112, 3) := by decide +kernel
theorem dX8_step_50 : decode cX8_step 50 = .ok (.iload_n 1, 1) := by decide +kernel
theorem dX8_step_51 : decode cX8_step 51 = .ok (.invokevirtual 206, 3) := by decide +kernel
theorem dX8_step_54 : decode cX8_step 54 = .ok (.ireturn, 1) := by decide +kernel
theorem dX8_fits_0 : decode cX8_fits 0 = .ok (.iload_n 1, 1) := by decide +kernel
theorem dX8_fits_1 : decode cX8_fits 1 = .ok (.invokestatic 155, 3) := by decide +kernel
theorem dX8_fits_4 : decode cX8_fits 4 = .ok (.ifCond .eq 36, 3) := by decide +kernel
theorem dX8_fits_7 : decode cX8_fits 7 = .ok (.aload_n 0, 1) := by decide +kernel
theorem dX8_fits_8 : decode cX8_fits 8 = .ok (.getfield 12, 3) := by decide +kernel
theorem dX8_fits_11 : decode cX8_fits 11 = .ok (.iload_n 2, 1) := by decide +kernel
theorem dX8_fits_12 : decode cX8_fits 12 = .ok (.invokevirtual 77, 3) := by decide +kernel
theorem dX8_fits_15 : decode cX8_fits 15 = .ok (.ifCond .eq 25, 3) := by decide +kernel
theorem dX8_fits_18 : decode cX8_fits 18 = .ok (.aload_n 0, 1) := by decide +kernel
theorem dX8_fits_19 : decode cX8_fits 19 = .ok (.getfield 12, 3) := by decide +kernel
theorem dX8_fits_22 : decode cX8_fits 22 = .ok (.iload_n 3, 1) := by decide +kernel
theorem dX8_fits_23 : decode cX8_fits 23 = .ok (.invokevirtual 80, 3) := by decide +kernel
theorem dX8_fits_26 : decode cX8_fits 26 = .ok (.ifCond .eq 14, 3) := by decide +kernel
theorem dX8_fits_29 : decode cX8_fits 29 = .ok (.iload 4, 2) := by decide +kernel
theorem dX8_fits_31 : decode cX8_fits 31 = .ok (.ifCond .lt 9, 3) := by decide +kernel
theorem dX8_fits_34 : decode cX8_fits 34 = .ok (.iload 4, 2) := by decide +kernel
theorem dX8_fits_36 : decode cX8_fits 36 = .ok (.iconst 1, 1) := by decide +kernel
theorem dX8_fits_37 : decode cX8_fits 37 = .ok (.if_icmp .le 5, 3) := by decide +kernel
theorem dX8_fits_40 : decode cX8_fits 40 = .ok (.iconst (-1), 1) := by decide +kernel
theorem dX8_fits_41 : decode cX8_fits 41 = .ok (.ireturn, 1) := by decide +kernel
theorem dX8_fits_42 : decode cX8_fits 42 = .ok (.aload_n 0, 1) := by decide +kernel
theorem dX8_fits_43 : decode cX8_fits 43 = .ok (.getfield 42, 3) := by decide +kernel
theorem dX8_fits_46 : decode cX8_fits 46 = .ok (.aload_n 0, 1) := by decide +kernel
theorem dX8_fits_47 : decode cX8_fits 47 = .ok (.getfield 12, 3) := by decide +kernel
theorem dX8_fits_50 : decode cX8_fits 50 = .ok (.iload_n 1, 1) := by decide +kernel
theorem dX8_fits_51 : decode cX8_fits 51 = .ok (.invokevirtual 112, 3) := by decide +kernel
theorem dX8_fits_54 : decode cX8_fits 54 = .ok (.astore 5, 2) := by decide +kernel
theorem dX8_fits_56 : decode cX8_fits 56 = .ok (.iconst 0, 1) := by decide +kernel
theorem dX8_fits_57 : decode cX8_fits 57 = .ok (.istore 6, 2) := by decide +kernel
theorem dX8_fits_59 : decode cX8_fits 59 = .ok (.bipush (-5), 2) := by decide +kernel
theorem dX8_fits_61 : decode cX8_fits 61 = .ok (.istore 7, 2) := by decide +kernel
theorem dX8_fits_63 : decode cX8_fits 63 = .ok (.iconst 0, 1) := by decide +kernel
theorem dX8_fits_64 : decode cX8_fits 64 = .ok (.istore 8, 2) := by decide +kernel
theorem dX8_fits_66 : decode cX8_fits 66 = .ok (.iload 8, 2) := by decide +kernel
theorem dX8_fits_68 : decode cX8_fits 68 = .ok (.aload_n 0, 1) := by decide +kernel
theorem dX8_fits_69 : decode cX8_fits 69 = .ok (.getfield 12, 3) := by decide +kernel
theorem dX8_fits_72 : decode cX8_fits 72 = .ok (.getfield 65, 3) := by decide +kernel
theorem dX8_fits_75 : decode cX8_fits 75 = .ok (.if_icmp .ge 83, 3) := by decide +kernel
theorem dX8_fits_78 : decode cX8_fits 78 = .ok (.aload_n 0, 1) := by decide +kernel
theorem dX8_fits_79 : decode cX8_fits 79 = .ok (.getfield 12, 3) := by decide +kernel
theorem dX8_fits_82 : decode cX8_fits 82 = .ok (.getfield 83, 3) := by decide +kernel
theorem dX8_fits_85 : decode cX8_fits 85 = .ok (.iload_n 2, 1) := by decide +kernel
theorem dX8_fits_86 : decode cX8_fits 86 = .ok (.aaload, 1) := by decide +kernel
theorem dX8_fits_87 : decode cX8_fits 87 = .ok (.aload_n 0, 1) := by decide +kernel
theorem dX8_fits_88 : decode cX8_fits 88 = .ok (.getfield 53, 3) := by decide +kernel
theorem dX8_fits_91 : decode cX8_fits 91 = .ok (.aload_n 0, 1) := by decide +kernel
theorem dX8_fits_92 : decode cX8_fits 92 = .ok (.getfield 12, 3) := by decide +kernel
theorem dX8_fits_95 : decode cX8_fits 95 = .ok (.invokevirtual 93, 3) := by decide +kernel
theorem dX8_fits_98 : decode cX8_fits 98 = .ok (.invokestatic 210, 3) := by decide +kernel
theorem dX8_fits_101 : decode cX8_fits 101 = .ok (.aload_n 0, 1) := by decide +kernel
theorem dX8_fits_102 : decode cX8_fits 102 = .ok (.getfield 53, 3) := by decide +kernel
theorem dX8_fits_105 : decode cX8_fits 105 = .ok (.iload_n 3, 1) := by decide +kernel
theorem dX8_fits_106 : decode cX8_fits 106 = .ok (.iload 8, 2) := by decide +kernel
theorem dX8_fits_108 : decode cX8_fits 108 = .ok (.iastore, 1) := by decide +kernel
theorem dX8_fits_109 : decode cX8_fits 109 = .ok (.aload 5, 2) := by decide +kernel
theorem dX8_fits_111 : decode cX8_fits 111 = .ok (.aload_n 0, 1) := by decide +kernel
theorem dX8_fits_112 : decode cX8_fits 112 = .ok (.getfield 53, 3) := by decide +kernel
theorem dX8_fits_115 : decode cX8_fits 115 = .ok (.invokevirtual 214, 3) := by decide +kernel
theorem dX8_fits_118 : decode cX8_fits 118 = .ok (.aload_n 0, 1) := by decide +kernel
theorem dX8_fits_119 : decode cX8_fits 119 = .ok (.getfield 53, 3) := by decide +kernel
theorem dX8_fits_122 : decode cX8_fits 122 = .ok (.aload_n 0, 1) := by decide +kernel
theorem dX8_fits_123 : decode cX8_fits 123 = .ok (.getfield 12, 3) := by decide +kernel
theorem dX8_fits_126 : decode cX8_fits 126 = .ok (.invokevirtual 93, 3) := by decide +kernel
theorem dX8_fits_129 : decode cX8_fits 129 = .ok (.invokestatic 170, 3) := by decide +kernel
theorem dX8_fits_132 : decode cX8_fits 132 = .ok (.ifCond .ne 20, 3) := by decide +kernel
theorem dX8_fits_135 : decode cX8_fits 135 = .ok (.iload 6, 2) := by decide +kernel
theorem dX8_fits_137 : decode cX8_fits 137 = .ok (.ifCond .ne 8, 3) := by decide +kernel
theorem dX8_fits_140 : decode cX8_fits 140 = .ok (.iload 8, 2) := by decide +kernel
theorem dX8_fits_142 : decode cX8_fits 142 = .ok (.goto 5, 3) := by decide +kernel
theorem dX8_fits_145 : decode cX8_fits 145 = .ok (.iload 7, 2) := by decide +kernel
theorem dX8_fits_147 : decode cX8_fits 147 = .ok (.istore 7, 2) := by decide +kernel
theorem dX8_fits_149 : decode cX8_fits 149 = .ok (.iinc 6 1, 3) := by decide +kernel
theorem dX8_fits_152 : decode cX8_fits 152 = .ok (.iinc 8 1, 3) := by decide +kernel
theorem dX8_fits_155 : decode cX8_fits 155 = .ok (.goto (-89), 3) := by decide +kernel
theorem dX8_fits_158 : decode cX8_fits 158 = .ok (.iload 4, 2) := by decide +kernel
theorem dX8_fits_160 : decode cX8_fits 160 = .ok (.ifCond .ne 8, 3) := by decide +kernel
theorem dX8_fits_163 : decode cX8_fits 163 = .ok (.iload 6, 2) := by decide +kernel
theorem dX8_fits_165 : decode cX8_fits 165 = .ok (.goto 5, 3) := by decide +kernel
theorem dX8_fits_168 : decode cX8_fits 168 = .ok (.iload 7, 2) := by decide +kernel
theorem dX8_fits_170 : decode cX8_fits 170 = .ok (.ireturn, 1) := by decide +kernel
theorem dX8_odds_0 : decode cX8_odds 0 = .ok (.iload_n 1, 1) := by decide +kernel
theorem dX8_odds_1 : decode cX8_odds 1 = .ok (.invokestatic 155, 3) := by decide +kernel
theorem dX8_odds_4 : decode cX8_odds 4 = .ok (.ifCond .eq 12, 3) := by decide +kernel
theorem dX8_odds_7 : decode cX8_odds 7 = .ok (.iload_n 2, 1) := by decide +kernel
theorem dX8_odds_8 : decode cX8_odds 8 = .ok (.ifCond .lt 8, 3) := by decide +kernel
theorem dX8_odds_11 : decode cX8_odds 11 = .ok (.iload_n 2, 1) := by decide +kernel
theorem dX8_odds_12 : decode cX8_odds 12 = .ok (.iconst 1, 1) := by decide +kernel
theorem dX8_odds_13 : decode cX8_odds 13 = .ok (.if_icmp .le 7, 3) := by decide +kernel
theorem dX8_odds_16 : decode cX8_odds 16 = .ok (.ldc2_w 186, 3) := by decide +kernel
theorem dX8_odds_19 : decode cX8_odds 19 = .ok (.lreturn, 1) := by decide +kernel
theorem dX8_odds_20 : decode cX8_odds 20 = .ok (.iload_n 2, 1) := by decide +kernel
theorem dX8_odds_21 : decode cX8_odds 21 = .ok (.ifCond .ne 5, 3) := by decide +kernel
theorem dX8_odds_24 : decode cX8_odds 24 = .ok (.lconst 1, 1) := by decide +kernel
theorem dX8_odds_25 : decode cX8_odds 25 = .ok (.lreturn, 1) := by decide +kernel
theorem dX8_odds_26 : decode cX8_odds 26 = .ok (.aload_n 0, 1) := by decide +kernel
theorem dX8_odds_27 : decode cX8_odds 27 = .ok (.getfield 12, 3) := by decide +kernel
theorem dX8_odds_30 : decode cX8_odds 30 = .ok (.invokevirtual 93, 3) := by decide +kernel
theorem dX8_odds_33 : decode cX8_odds 33 = .ok (.aload_n 0, 1) := by decide +kernel
theorem dX8_odds_34 : decode cX8_odds 34 = .ok (.getfield 42, 3) := by decide +kernel
theorem dX8_odds_37 : decode cX8_odds 37 = .ok (.aload_n 0, 1) := by decide +kernel
theorem dX8_odds_38 : decode cX8_odds 38 = .ok (.getfield 12, 3) := by decide +kernel
theorem dX8_odds_41 : decode cX8_odds 41 = .ok (.iload_n 1, 1) := by decide +kernel
theorem dX8_odds_42 : decode cX8_odds 42 = .ok (.invokevirtual 112, 3) := by decide +kernel
theorem dX8_odds_45 : decode cX8_odds 45 = .ok (.getfield 158, 3) := by decide +kernel
theorem dX8_odds_48 : decode cX8_odds 48 = .ok (.isub, 1) := by decide +kernel
theorem dX8_odds_49 : decode cX8_odds 49 = .ok (.istore_n 3, 1) := by decide +kernel
theorem dX8_odds_50 : decode cX8_odds 50 = .ok (.lconst 1, 1) := by decide +kernel
theorem dX8_odds_51 : decode cX8_odds 51 = .ok (.lstore 4, 2) := by decide +kernel
theorem dX8_odds_53 : decode cX8_odds 53 = .ok (.iconst 0, 1) := by decide +kernel
theorem dX8_odds_54 : decode cX8_odds 54 = .ok (.istore 6, 2) := by decide +kernel
theorem dX8_odds_56 : decode cX8_odds 56 = .ok (.iload 6, 2) := by decide +kernel
theorem dX8_odds_58 : decode cX8_odds 58 = .ok (.iload_n 3, 1) := by decide +kernel
theorem dX8_odds_59 : decode cX8_odds 59 = .ok (.if_icmp .ge 22, 3) := by decide +kernel
theorem dX8_odds_62 : decode cX8_odds 62 = .ok (.lload 4, 2) := by decide +kernel
theorem dX8_odds_64 : decode cX8_odds 64 = .ok (.aload_n 0, 1) := by decide +kernel
theorem dX8_odds_65 : decode cX8_odds 65 = .ok (.getfield 12, 3) := by decide +kernel
theorem dX8_odds_68 : decode cX8_odds 68 = .ok (.getfield 65, 3) := by decide +kernel
theorem dX8_odds_71 : decode cX8_odds 71 = .ok (.i2l, 1) := by decide +kernel
theorem dX8_odds_72 : decode cX8_odds 72 = .ok (.lmul, 1) := by decide +kernel
theorem dX8_odds_73 : decode cX8_odds 73 = .ok (.lstore 4, 2) := by decide +kernel
theorem dX8_odds_75 : decode cX8_odds 75 = .ok (.iinc 6 1, 3) := by decide +kernel
theorem dX8_odds_78 : decode cX8_odds 78 = .ok (.goto (-22), 3) := by decide +kernel
theorem dX8_odds_81 : decode cX8_odds 81 = .ok (.lload 4, 2) := by decide +kernel
theorem dX8_odds_83 : decode cX8_odds 83 = .ok (.lreturn, 1) := by decide +kernel
theorem dX8_event_0 : decode cX8_event 0 = .ok (.iload_n 1, 1) := by decide +kernel
theorem dX8_event_1 : decode cX8_event 1 = .ok (.iconst (-1), 1) := by decide +kernel
theorem dX8_event_2 : decode cX8_event 2 = .ok (.if_icmp .ne 13, 3) := by decide +kernel
theorem dX8_event_5 : decode cX8_event 5 = .ok (.aload_n 0, 1) := by decide +kernel
theorem dX8_event_6 : decode cX8_event 6 = .ok (.getfield 12, 3) := by decide +kernel
theorem dX8_event_9 : decode cX8_event 9 = .ok (.iconst 0, 1) := by decide +kernel
theorem dX8_event_10 : decode cX8_event 10 = .ok (.putfield 218, 3) := by decide +kernel
theorem dX8_event_13 : decode cX8_event 13 = .ok (.iconst 0, 1) := by decide +kernel
theorem dX8_event_14 : decode cX8_event 14 = .ok (.ireturn, 1) := by decide +kernel
theorem dX8_event_15 : decode cX8_event 15 = .ok (.iload_n 1, 1) := by decide +kernel
theorem dX8_event_16 : decode cX8_event 16 = .ok (.ifCond .lt 35, 3) := by decide +kernel
theorem dX8_event_19 : decode cX8_event 19 = .ok (.iload_n 1, 1) := by decide +kernel
theorem dX8_event_20 : decode cX8_event 20 = .ok (.iconst 4, 1) := by decide +kernel
theorem dX8_event_21 : decode cX8_event 21 = .ok (.if_icmp .gt 30, 3) := by decide +kernel
theorem dX8_event_24 : decode cX8_event 24 = .ok (.iload_n 1, 1) := by decide +kernel
theorem dX8_event_25 : decode cX8_event 25 = .ok (.ifCond .ne 14, 3) := by decide +kernel
theorem dX8_event_28 : decode cX8_event 28 = .ok (.aload_n 0, 1) := by decide +kernel
theorem dX8_event_29 : decode cX8_event 29 = .ok (.getfield 12, 3) := by decide +kernel
theorem dX8_event_32 : decode cX8_event 32 = .ok (.iload_n 2, 1) := by decide +kernel
theorem dX8_event_33 : decode cX8_event 33 = .ok (.invokevirtual 77, 3) := by decide +kernel
theorem dX8_event_36 : decode cX8_event 36 = .ok (.ifCond .eq 15, 3) := by decide +kernel
theorem dX8_event_39 : decode cX8_event 39 = .ok (.iload_n 1, 1) := by decide +kernel
theorem dX8_event_40 : decode cX8_event 40 = .ok (.iconst 3, 1) := by decide +kernel
theorem dX8_event_41 : decode cX8_event 41 = .ok (.if_icmp .ne 12, 3) := by decide +kernel
theorem dX8_event_44 : decode cX8_event 44 = .ok (.iload_n 2, 1) := by decide +kernel
theorem dX8_event_45 : decode cX8_event 45 = .ok (.invokestatic 221, 3) := by decide +kernel
theorem dX8_event_48 : decode cX8_event 48 = .ok (.ifCond .ne 5, 3) := by decide +kernel
theorem dX8_event_51 : decode cX8_event 51 = .ok (.iconst (-1), 1) := by decide +kernel
theorem dX8_event_52 : decode cX8_event 52 = .ok (.ireturn, 1) := by decide +kernel
theorem dX8_event_53 : decode cX8_event 53 = .ok (.iload_n 1, 1) := by decide +kernel
theorem dX8_event_54 : decode cX8_event 54 = .ok (.ifCond .eq 20, 3) := by decide +kernel
theorem dX8_event_57 : decode cX8_event 57 = .ok (.iload_n 1, 1) := by decide +kernel
theorem dX8_event_58 : decode cX8_event 58 = .ok (.iconst 3, 1) := by decide +kernel
theorem dX8_event_59 : decode cX8_event 59 = .ok (.if_icmp .eq 15, 3) := by decide +kernel
theorem dX8_event_62 : decode cX8_event 62 = .ok (.iload_n 2, 1) := by decide +kernel
theorem dX8_event_63 : decode cX8_event 63 = .ok (.ifCond .lt 8, 3) := by decide +kernel
theorem dX8_event_66 : decode cX8_event 66 = .ok (.iload_n 2, 1) := by decide +kernel
theorem dX8_event_67 : decode cX8_event 67 = .ok (.iconst 4, 1) := by decide +kernel
theorem dX8_event_68 : decode cX8_event 68 = .ok (.if_icmp .lt 6, 3) := by decide +kernel
theorem dX8_event_71 : decode cX8_event 71 = .ok (.bipush (-2), 2) := by decide +kernel
theorem dX8_event_73 : decode cX8_event 73 = .ok (.ireturn, 1) := by decide +kernel
theorem dX8_event_74 : decode cX8_event 74 = .ok (.aload_n 0, 1) := by decide +kernel
theorem dX8_event_75 : decode cX8_event 75 = .ok (.getfield 12, 3) := by decide +kernel
theorem dX8_event_78 : decode cX8_event 78 = .ok (.iload_n 1, 1) := by decide +kernel
theorem dX8_event_79 : decode cX8_event 79 = .ok (.iload_n 2, 1) := by decide +kernel
theorem dX8_event_80 : decode cX8_event 80 = .ok (.invokevirtual 224, 3) := by decide +kernel
theorem dX8_event_83 : decode cX8_event 83 = .ok (.ifCond .eq 13, 3) := by decide +kernel
theorem dX8_event_86 : decode cX8_event 86 = .ok (.aload_n 0, 1) := by decide +kernel
theorem dX8_event_87 : decode cX8_event 87 = .ok (.getfield 12, 3) := by decide +kernel
theorem dX8_event_90 : decode cX8_event 90 = .ok (.getfield 218, 3) := by decide +kernel
theorem dX8_event_93 : decode cX8_event 93 = .ok (.goto 5, 3) := by decide +kernel
theorem dX8_event_96 : decode cX8_event 96 = .ok (.bipush (-4), 2) := by decide +kernel
theorem dX8_event_98 : decode cX8_event 98 = .ok (.ireturn, 1) := by decide +kernel
theorem dX8_after_0 : decode cX8_after 0 = .ok (.iload_n 1, 1) := by decide +kernel
theorem dX8_after_1 : decode cX8_after 1 = .ok (.invokestatic 155, 3) := by decide +kernel
theorem dX8_after_4 : decode cX8_after 4 = .ok (.ifCond .eq 12, 3) := by decide +kernel
theorem dX8_after_7 : decode cX8_after 7 = .ok (.iload_n 2, 1) := by decide +kernel
theorem dX8_after_8 : decode cX8_after 8 = .ok (.ifCond .lt 8, 3) := by decide +kernel
theorem dX8_after_11 : decode cX8_after 11 = .ok (.iload_n 2, 1) := by decide +kernel
theorem dX8_after_12 : decode cX8_after 12 = .ok (.iconst 2, 1) := by decide +kernel
theorem dX8_after_13 : decode cX8_after 13 = .ok (.if_icmp .le 5, 3) := by decide +kernel
theorem dX8_after_16 : decode cX8_after 16 = .ok (.iconst (-1), 1) := by decide +kernel
theorem dX8_after_17 : decode cX8_after 17 = .ok (.ireturn, 1) := by decide +kernel
theorem dX8_after_18 : decode cX8_after 18 = .ok (.aload_n 0, 1) := by decide +kernel
theorem dX8_after_19 : decode cX8_after 19 = .ok (.getfield 42, 3) := by decide +kernel
theorem dX8_after_22 : decode cX8_after 22 = .ok (.aload_n 0, 1) := by decide +kernel
theorem dX8_after_23 : decode cX8_after 23 = .ok (.getfield 12, 3) := by decide +kernel
theorem dX8_after_26 : decode cX8_after 26 = .ok (.iload_n 1, 1) := by decide +kernel
theorem dX8_after_27 : decode cX8_after 27 = .ok (.invokevirtual 228, 3) := by decide +kernel
theorem dX8_after_30 : decode cX8_after 30 = .ok (.astore_n 3, 1) := by decide +kernel
theorem dX8_after_31 : decode cX8_after 31 = .ok (.iload_n 2, 1) := by decide +kernel
theorem dX8_after_32 : decode cX8_after 32 = .ok (.ifCond .ne 8, 3) := by decide +kernel
theorem dX8_after_35 : decode cX8_after 35 = .ok (.aload_n 3, 1) := by decide +kernel
theorem dX8_after_36 : decode cX8_after 36 = .ok (.getfield 158, 3) := by decide +kernel
theorem dX8_after_39 : decode cX8_after 39 = .ok (.ireturn, 1) := by decide +kernel
theorem dX8_after_40 : decode cX8_after 40 = .ok (.iload_n 2, 1) := by decide +kernel
theorem dX8_after_41 : decode cX8_after 41 = .ok (.iconst 2, 1) := by decide +kernel
theorem dX8_after_42 : decode cX8_after 42 = .ok (.if_icmp .ne 11, 3) := by decide +kernel
theorem dX8_after_45 : decode cX8_after 45 = .ok (.aload_n 0, 1) := by decide +kernel
theorem dX8_after_46 : decode cX8_after 46 = .ok (.getfield 42, 3) := by decide +kernel
theorem dX8_after_49 : decode cX8_after 49 = .ok (.getfield 231, 3) := by decide +kernel
theorem dX8_after_52 : decode cX8_after 52 = .ok (.ireturn, 1) := by decide +kernel
theorem dX8_after_53 : decode cX8_after 53 = .ok (.aload_n 3, 1) := by decide +kernel
theorem dX8_after_54 : decode cX8_after 54 = .ok (.iconst 0, 1) := by decide +kernel
theorem dX8_after_55 : decode cX8_after 55 = .ok (.invokevirtual 163, 3) := by decide +kernel
theorem dX8_after_58 : decode cX8_after 58 = .ok (.istore 4, 2) := by decide +kernel
theorem dX8_after_60 : decode cX8_after 60 = .ok (.iload 4, 2) := by decide +kernel
theorem dX8_after_62 : decode cX8_after 62 = .ok (.ifCond .ge 8, 3) := by decide +kernel
theorem dX8_after_65 : decode cX8_after 65 = .ok (.bipush (-5), 2) := by decide +kernel
theorem dX8_after_67 : decode cX8_after 67 = .ok (.goto 5, 3) := by decide +kernel
theorem dX8_after_70 : decode cX8_after 70 = .ok (.iload 4, 2) := by decide +kernel
theorem dX8_after_72 : decode cX8_after 72 = .ok (.ireturn, 1) := by decide +kernel
theorem dX8_book_0 : decode cX8_book 0 = .ok (.iload_n 1, 1) := by decide +kernel
theorem dX8_book_1 : decode cX8_book 1 = .ok (.iconst (-1), 1) := by decide +kernel
theorem dX8_book_2 : decode cX8_book 2 = .ok (.if_icmp .ne 13, 3) := by decide +kernel
theorem dX8_book_5 : decode cX8_book 5 = .ok (.aload_n 0, 1) := by decide +kernel
theorem dX8_book_6 : decode cX8_book 6 = .ok (.getfield 12, 3) := by decide +kernel
theorem dX8_book_9 : decode cX8_book 9 = .ok (.iconst 0, 1) := by decide +kernel
theorem dX8_book_10 : decode cX8_book 10 = .ok (.putfield 234, 3) := by decide +kernel
theorem dX8_book_13 : decode cX8_book 13 = .ok (.iconst 0, 1) := by decide +kernel
theorem dX8_book_14 : decode cX8_book 14 = .ok (.ireturn, 1) := by decide +kernel
theorem dX8_book_15 : decode cX8_book 15 = .ok (.aload_n 0, 1) := by decide +kernel
theorem dX8_book_16 : decode cX8_book 16 = .ok (.getfield 12, 3) := by decide +kernel
theorem dX8_book_19 : decode cX8_book 19 = .ok (.iload_n 1, 1) := by decide +kernel
theorem dX8_book_20 : decode cX8_book 20 = .ok (.invokevirtual 237, 3) := by decide +kernel
theorem dX8_book_23 : decode cX8_book 23 = .ok (.ifCond .ne 5, 3) := by decide +kernel
theorem dX8_book_26 : decode cX8_book 26 = .ok (.iconst (-1), 1) := by decide +kernel
theorem dX8_book_27 : decode cX8_book 27 = .ok (.ireturn, 1) := by decide +kernel
theorem dX8_book_28 : decode cX8_book 28 = .ok (.iload_n 2, 1) := by decide +kernel
theorem dX8_book_29 : decode cX8_book 29 = .ok (.ifCond .lt 9, 3) := by decide +kernel
theorem dX8_book_32 : decode cX8_book 32 = .ok (.iload_n 2, 1) := by decide +kernel
theorem dX8_book_33 : decode cX8_book 33 = .ok (.bipush 6, 2) := by decide +kernel
theorem dX8_book_35 : decode cX8_book 35 = .ok (.if_icmp .le 6, 3) := by decide +kernel
theorem dX8_book_38 : decode cX8_book 38 = .ok (.bipush (-2), 2) := by decide +kernel
theorem dX8_book_40 : decode cX8_book 40 = .ok (.ireturn, 1) := by decide +kernel
theorem dX8_book_41 : decode cX8_book 41 = .ok (.aload_n 0, 1) := by decide +kernel
theorem dX8_book_42 : decode cX8_book 42 = .ok (.getfield 12, 3) := by decide +kernel
theorem dX8_book_45 : decode cX8_book 45 = .ok (.iload_n 1, 1) := by decide +kernel
theorem dX8_book_46 : decode cX8_book 46 = .ok (.iload_n 2, 1) := by decide +kernel
theorem dX8_book_47 : decode cX8_book 47 = .ok (.invokevirtual 240, 3) := by decide +kernel
theorem dX8_book_50 : decode cX8_book 50 = .ok (.ifCond .eq 13, 3) := by decide +kernel
theorem dX8_book_53 : decode cX8_book 53 = .ok (.aload_n 0, 1) := by decide +kernel
theorem dX8_book_54 : decode cX8_book 54 = .ok (.getfield 12, 3) := by decide +kernel
theorem dX8_book_57 : decode cX8_book 57 = .ok (.getfield 234, 3) := by decide +kernel
theorem dX8_book_60 : decode cX8_book 60 = .ok (.goto 5, 3) := by decide +kernel
theorem dX8_book_63 : decode cX8_book 63 = .ok (.bipush (-4), 2) := by decide +kernel
theorem dX8_book_65 : decode cX8_book 65 = .ok (.ireturn, 1) := by decide +kernel
theorem dX8_looked_0 : decode cX8_looked 0 = .ok (.iconst 0, 1) := by decide +kernel
theorem dX8_looked_1 : decode cX8_looked 1 = .ok (.istore_n 1, 1) := by decide +kernel
theorem dX8_looked_2 : decode cX8_looked 2 = .ok (.iload_n 1, 1) := by decide +kernel
theorem dX8_looked_3 : decode cX8_looked 3 = .ok (.aload_n 0, 1) := by decide +kernel
theorem dX8_looked_4 : decode cX8_looked 4 = .ok (.getfield 12, 3) := by decide +kernel
theorem dX8_looked_7 : decode cX8_looked 7 = .ok (.getfield 234, 3) := by decide +kernel
theorem dX8_looked_10 : decode cX8_looked 10 = .ok (.if_icmp .ge 67, 3) := by decide +kernel
theorem dX8_looked_13 : decode cX8_looked 13 = .ok (.iload_n 1, 1) := by decide +kernel
theorem dX8_looked_14 : decode cX8_looked 14 = .ok (.bipush 8, 2) := by decide +kernel
theorem dX8_looked_16 : decode cX8_looked 16 = .ok (.if_icmp .ge 61, 3) := by decide +kernel
theorem dX8_looked_19 : decode cX8_looked 19 = .ok (.aload_n 0, 1) := by decide +kernel
theorem dX8_looked_20 : decode cX8_looked 20 = .ok (.getfield 12, 3) := by decide +kernel
theorem dX8_looked_23 : decode cX8_looked 23 = .ok (.getfield 243, 3) := by decide +kernel
theorem dX8_looked_26 : decode cX8_looked 26 = .ok (.iload_n 1, 1) := by decide +kernel
theorem dX8_looked_27 : decode cX8_looked 27 = .ok (.iaload, 1) := by decide +kernel
theorem dX8_looked_28 : decode cX8_looked 28 = .ok (.istore_n 2, 1) := by decide +kernel
theorem dX8_looked_29 : decode cX8_looked 29 = .ok (.aload_n 0, 1) := by decide +kernel
theorem dX8_looked_30 : decode cX8_looked 30 = .ok (.getfield 12, 3) := by decide +kernel
theorem dX8_looked_33 : decode cX8_looked 33 = .ok (.iload_n 2, 1) := by decide +kernel
theorem dX8_looked_34 : decode cX8_looked 34 = .ok (.invokevirtual 237, 3) := by decide +kernel
theorem dX8_looked_37 : decode cX8_looked 37 = .ok (.ifCond .eq 32, 3) := by decide +kernel
theorem dX8_looked_40 : decode cX8_looked 40 = .ok (.aload_n 0, 1) := by decide +kernel
theorem dX8_looked_41 : decode cX8_looked 41 = .ok (.getfield 12, 3) := by decide +kernel
theorem dX8_looked_44 : decode cX8_looked 44 = .ok (.getfield 83, 3) := by decide +kernel
theorem dX8_looked_47 : decode cX8_looked 47 = .ok (.iload_n 2, 1) := by decide +kernel
theorem dX8_looked_48 : decode cX8_looked 48 = .ok (.bipush 100, 2) := by decide +kernel
theorem dX8_looked_50 : decode cX8_looked 50 = .ok (.idiv, 1) := by decide +kernel
theorem dX8_looked_51 : decode cX8_looked 51 = .ok (.aaload, 1) := by decide +kernel
theorem dX8_looked_52 : decode cX8_looked 52 = .ok (.iload_n 2, 1) := by decide +kernel
theorem dX8_looked_53 : decode cX8_looked 53 = .ok (.bipush 100, 2) := by decide +kernel
theorem dX8_looked_55 : decode cX8_looked 55 = .ok (.irem, 1) := by decide +kernel
theorem dX8_looked_56 : decode cX8_looked 56 = .ok (.iaload, 1) := by decide +kernel
theorem dX8_looked_57 : decode cX8_looked 57 = .ok (.aload_n 0, 1) := by decide +kernel
theorem dX8_looked_58 : decode cX8_looked 58 = .ok (.getfield 12, 3) := by decide +kernel
theorem dX8_looked_61 : decode cX8_looked 61 = .ok (.getfield 246, 3) := by decide +kernel
theorem dX8_looked_64 : decode cX8_looked 64 = .ok (.iload_n 1, 1) := by decide +kernel
theorem dX8_looked_65 : decode cX8_looked 65 = .ok (.iaload, 1) := by decide +kernel
theorem dX8_looked_66 : decode cX8_looked 66 = .ok (.if_icmp .eq 5, 3) := by decide +kernel
theorem dX8_looked_69 : decode cX8_looked 69 = .ok (.iload_n 1, 1) := by decide +kernel
theorem dX8_looked_70 : decode cX8_looked 70 = .ok (.ireturn, 1) := by decide +kernel
theorem dX8_looked_71 : decode cX8_looked 71 = .ok (.iinc 1 1, 3) := by decide +kernel
theorem dX8_looked_74 : decode cX8_looked 74 = .ok (.goto (-72), 3) := by decide +kernel
theorem dX8_looked_77 : decode cX8_looked 77 = .ok (.bipush (-5), 2) := by decide +kernel
theorem dX8_looked_79 : decode cX8_looked 79 = .ok (.ireturn, 1) := by decide +kernel
theorem dX8_judge_0 : decode cX8_judge 0 = .ok (.aload_n 0, 1) := by decide +kernel
theorem dX8_judge_1 : decode cX8_judge 1 = .ok (.getfield 12, 3) := by decide +kernel
theorem dX8_judge_4 : decode cX8_judge 4 = .ok (.iload_n 1, 1) := by decide +kernel
theorem dX8_judge_5 : decode cX8_judge 5 = .ok (.invokevirtual 77, 3) := by decide +kernel
theorem dX8_judge_8 : decode cX8_judge 8 = .ok (.ifCond .eq 14, 3) := by decide +kernel
theorem dX8_judge_11 : decode cX8_judge 11 = .ok (.aload_n 0, 1) := by decide +kernel
theorem dX8_judge_12 : decode cX8_judge 12 = .ok (.getfield 35, 3) := by decide +kernel
theorem dX8_judge_15 : decode cX8_judge 15 = .ok (.iload_n 2, 1) := by decide +kernel
theorem dX8_judge_16 : decode cX8_judge 16 = .ok (.invokevirtual 249, 3) := by decide +kernel
theorem dX8_judge_19 : decode cX8_judge 19 = .ok (.ifCond .ne 5, 3) := by decide +kernel
theorem dX8_judge_22 : decode cX8_judge 22 = .ok (.iconst (-1), 1) := by decide +kernel
theorem dX8_judge_23 : decode cX8_judge 23 = .ok (.ireturn, 1) := by decide +kernel
theorem dX8_judge_24 : decode cX8_judge 24 = .ok (.aload_n 0, 1) := by decide +kernel
theorem dX8_judge_25 : decode cX8_judge 25 = .ok (.getfield 35, 3) := by decide +kernel
theorem dX8_judge_28 : decode cX8_judge 28 = .ok (.iload_n 2, 1) := by decide +kernel
theorem dX8_judge_29 : decode cX8_judge 29 = .ok (.invokevirtual 252, 3) := by decide +kernel
theorem dX8_judge_32 : decode cX8_judge 32 = .ok (.ifCond .eq 6, 3) := by decide +kernel
theorem dX8_judge_35 : decode cX8_judge 35 = .ok (.bipush 100, 2) := by decide +kernel
theorem dX8_judge_37 : decode cX8_judge 37 = .ok (.ireturn, 1) := by decide +kernel
theorem dX8_judge_38 : decode cX8_judge 38 = .ok (.aload_n 0, 1) := by decide +kernel
theorem dX8_judge_39 : decode cX8_judge 39 = .ok (.getfield 35, 3) := by decide +kernel
theorem dX8_judge_42 : decode cX8_judge 42 = .ok (.iload_n 2, 1) := by decide +kernel
theorem dX8_judge_43 : decode cX8_judge 43 = .ok (.invokevirtual 255, 3) := by decide +kernel
theorem dX8_judge_46 : decode cX8_judge 46 = .ok (.ifCond .ne 6, 3) := by decide +kernel
theorem dX8_judge_49 : decode cX8_judge 49 = .ok (.bipush (-12), 2) := by decide +kernel
theorem dX8_judge_51 : decode cX8_judge 51 = .ok (.ireturn, 1) := by decide +kernel
theorem dX8_judge_52 : decode cX8_judge 52 = .ok (.iload_n 3, 1) := by decide +kernel
theorem dX8_judge_53 : decode cX8_judge 53 = .ok (.ifCond .lt 16, 3) := by decide +kernel
theorem dX8_judge_56 : decode cX8_judge 56 = .ok (.iload_n 3, 1) := by decide +kernel
theorem dX8_judge_57 : decode cX8_judge 57 = .ok (.aload_n 0, 1) := by decide +kernel
theorem dX8_judge_58 : decode cX8_judge 58 = .ok (.getfield 35, 3) := by decide +kernel
theorem dX8_judge_61 : decode cX8_judge 61 = .ok (.getfield 258, 3) := by decide +kernel
theorem dX8_judge_64 : decode cX8_judge 64 = .ok (.iload_n 2, 1) := by decide +kernel
theorem dX8_judge_65 : decode cX8_judge 65 = .ok (.iaload, 1) := by decide +kernel
theorem dX8_judge_66 : decode cX8_judge 66 = .ok (.if_icmp .le 6, 3) := by decide +kernel
theorem dX8_judge_69 : decode cX8_judge 69 = .ok (.bipush 100, 2) := by decide +kernel
theorem dX8_judge_71 : decode cX8_judge 71 = .ok (.ireturn, 1) := by decide +kernel
theorem dX8_judge_72 : decode cX8_judge 72 = .ok (.iconst 0, 1) := by decide +kernel
theorem dX8_judge_73 : decode cX8_judge 73 = .ok (.istore 4, 2) := by decide +kernel
theorem dX8_judge_75 : decode cX8_judge 75 = .ok (.iload 4, 2) := by decide +kernel
theorem dX8_judge_77 : decode cX8_judge 77 = .ok (.aload_n 0, 1) := by decide +kernel
theorem dX8_judge_78 : decode cX8_judge 78 = .ok (.getfield 12, 3) := by decide +kernel
theorem dX8_judge_81 : decode cX8_judge 81 = .ok (.invokevirtual 93, 3) := by decide +kernel
theorem dX8_judge_84 : decode cX8_judge 84 = .ok (.if_icmp .ge 64, 3) := by decide +kernel
theorem dX8_judge_87 : decode cX8_judge 87 = .ok (.aload_n 0, 1) := by decide +kernel
theorem dX8_judge_88 : decode cX8_judge 88 = .ok (.getfield 35, 3) := by decide +kernel
theorem dX8_judge_91 : decode cX8_judge 91 = .ok (.iload_n 2, 1) := by decide +kernel
theorem dX8_judge_92 : decode cX8_judge 92 = .ok (.iload_n 3, 1) := by decide +kernel
theorem dX8_judge_93 : decode cX8_judge 93 = .ok (.iload 4, 2) := by decide +kernel
theorem dX8_judge_95 : decode cX8_judge 95 = .ok (.iadd, 1) := by decide +kernel
theorem dX8_judge_96 : decode cX8_judge 96 = .ok (.invokevirtual 261, 3) := by decide +kernel
theorem dX8_judge_99 : decode cX8_judge 99 = .ok (.ifCond .ne 9, 3) := by decide +kernel
theorem dX8_judge_102 : decode cX8_judge 102 = .ok (.bipush 100, 2) := by decide +kernel
theorem dX8_judge_104 : decode cX8_judge 104 = .ok (.iload 4, 2) := by decide +kernel
theorem dX8_judge_106 : decode cX8_judge 106 = .ok (.iadd, 1) := by decide +kernel
theorem dX8_judge_107 : decode cX8_judge 107 = .ok (.ireturn, 1) := by decide +kernel
theorem dX8_judge_108 : decode cX8_judge 108 = .ok (.aload_n 0, 1) := by decide +kernel
theorem dX8_judge_109 : decode cX8_judge 109 = .ok (.getfield 35, 3) := by decide +kernel
theorem dX8_judge_112 : decode cX8_judge 112 = .ok (.getfield 264, 3) := by decide +kernel
theorem dX8_judge_115 : decode cX8_judge 115 = .ok (.iload_n 2, 1) := by decide +kernel
theorem dX8_judge_116 : decode cX8_judge 116 = .ok (.aaload, 1) := by decide +kernel
theorem dX8_judge_117 : decode cX8_judge 117 = .ok (.iload_n 3, 1) := by decide +kernel
theorem dX8_judge_118 : decode cX8_judge 118 = .ok (.iload 4, 2) := by decide +kernel
theorem dX8_judge_120 : decode cX8_judge 120 = .ok (.iadd, 1) := by decide +kernel
theorem dX8_judge_121 : decode cX8_judge 121 = .ok (.laload, 1) := by decide +kernel
theorem dX8_judge_122 : decode cX8_judge 122 = .ok (.aload_n 0, 1) := by decide +kernel
theorem dX8_judge_123 : decode cX8_judge 123 = .ok (.getfield 12, 3) := by decide +kernel
theorem dX8_judge_126 : decode cX8_judge 126 = .ok (.getfield 83, 3) := by decide +kernel
theorem dX8_judge_129 : decode cX8_judge 129 = .ok (.iload_n 1, 1) := by decide +kernel
theorem dX8_judge_130 : decode cX8_judge 130 = .ok (.aaload, 1) := by decide +kernel
theorem dX8_judge_131 : decode cX8_judge 131 = .ok (.iload 4, 2) := by decide +kernel
theorem dX8_judge_133 : decode cX8_judge 133 = .ok (.iaload, 1) := by decide +kernel
theorem dX8_judge_134 : decode cX8_judge 134 = .ok (.i2l, 1) := by decide +kernel
theorem dX8_judge_135 : decode cX8_judge 135 = .ok (.lcmp, 1) := by decide +kernel
theorem dX8_judge_136 : decode cX8_judge 136 = .ok (.ifCond .eq 6, 3) := by decide +kernel
theorem dX8_judge_139 : decode cX8_judge 139 = .ok (.iload 4, 2) := by decide +kernel
theorem dX8_judge_141 : decode cX8_judge 141 = .ok (.ireturn, 1) := by decide +kernel
theorem dX8_judge_142 : decode cX8_judge 142 = .ok (.iinc 4 1, 3) := by decide +kernel
theorem dX8_judge_145 : decode cX8_judge 145 = .ok (.goto (-70), 3) := by decide +kernel
theorem dX8_judge_148 : decode cX8_judge 148 = .ok (.bipush (-5), 2) := by decide +kernel
theorem dX8_judge_150 : decode cX8_judge 150 = .ok (.ireturn, 1) := by decide +kernel
theorem dX8_image_0 : decode cX8_image 0 = .ok (.aload_n 0, 1) := by decide +kernel
theorem dX8_image_1 : decode cX8_image 1 = .ok (.getfield 18, 3) := by decide +kernel
theorem dX8_image_4 : decode cX8_image 4 = .ok (.aload_n 0, 1) := by decide +kernel
theorem dX8_image_5 : decode cX8_image 5 = .ok (.getfield 12, 3) := by decide +kernel
theorem dX8_image_8 : decode cX8_image 8 = .ok (.invokevirtual 268, 3) := by decide +kernel
theorem dX8_image_11 : decode cX8_image 11 = .ok (.aload_n 0, 1) := by decide +kernel
theorem dX8_image_12 : decode cX8_image 12 = .ok (.iconst 1, 1) := by decide +kernel
theorem dX8_image_13 : decode cX8_image 13 = .ok (.putfield 21, 3) := by decide +kernel
theorem dX8_image_16 : decode cX8_image 16 = .ok (.aload_n 0, 1) := by decide +kernel
theorem dX8_image_17 : decode cX8_image 17 = .ok (.getfield 12, 3) := by decide +kernel
theorem dX8_image_20 : decode cX8_image 20 = .ok (.getfield 123, 3) := by decide +kernel
theorem dX8_image_23 : decode cX8_image 23 = .ok (.ireturn, 1) := by decide +kernel
theorem dX8_undo_0 : decode cX8_undo 0 = .ok (.aload_n 0, 1) := by decide +kernel
theorem dX8_undo_1 : decode cX8_undo 1 = .ok (.getfield 21, 3) := by decide +kernel
theorem dX8_undo_4 : decode cX8_undo 4 = .ok (.ifCond .ne 6, 3) := by decide +kernel
theorem dX8_undo_7 : decode cX8_undo 7 = .ok (.bipush (-3), 2) := by decide +kernel
theorem dX8_undo_9 : decode cX8_undo 9 = .ok (.ireturn, 1) := by decide +kernel
theorem dX8_undo_10 : decode cX8_undo 10 = .ok (.aload_n 0, 1) := by decide +kernel
theorem dX8_undo_11 : decode cX8_undo 11 = .ok (.getfield 12, 3) := by decide +kernel
theorem dX8_undo_14 : decode cX8_undo 14 = .ok (.aload_n 0, 1) := by decide +kernel
theorem dX8_undo_15 : decode cX8_undo 15 = .ok (.getfield 18, 3) := by decide +kernel
theorem dX8_undo_18 : decode cX8_undo 18 = .ok (.invokevirtual 268, 3) := by decide +kernel
theorem dX8_undo_21 : decode cX8_undo 21 = .ok (.aload_n 0, 1) := by decide +kernel
theorem dX8_undo_22 : decode cX8_undo 22 = .ok (.getfield 12, 3) := by decide +kernel
theorem dX8_undo_25 : decode cX8_undo 25 = .ok (.getfield 123, 3) := by decide +kernel
theorem dX8_undo_28 : decode cX8_undo 28 = .ok (.ireturn, 1) := by decide +kernel
theorem dX8_counted_0 : decode cX8_counted 0 = .ok (.iload_n 1, 1) := by decide +kernel
theorem dX8_counted_1 : decode cX8_counted 1 = .ok (.tableswitch 51 0 2 #[27, 35, 43], 27) := by decide +kernel
theorem dX8_counted_28 : decode cX8_counted 28 = .ok (.aload_n 0, 1) := by decide +kernel
theorem dX8_counted_29 : decode cX8_counted 29 = .ok (.getfield 12, 3) := by decide +kernel
theorem dX8_counted_32 : decode cX8_counted 32 = .ok (.getfield 218, 3) := by decide +kernel
theorem dX8_counted_35 : decode cX8_counted 35 = .ok (.ireturn, 1) := by decide +kernel
theorem dX8_counted_36 : decode cX8_counted 36 = .ok (.aload_n 0, 1) := by decide +kernel
theorem dX8_counted_37 : decode cX8_counted 37 = .ok (.getfield 12, 3) := by decide +kernel
theorem dX8_counted_40 : decode cX8_counted 40 = .ok (.getfield 234, 3) := by decide +kernel
theorem dX8_counted_43 : decode cX8_counted 43 = .ok (.ireturn, 1) := by decide +kernel
theorem dX8_counted_44 : decode cX8_counted 44 = .ok (.aload_n 0, 1) := by decide +kernel
theorem dX8_counted_45 : decode cX8_counted 45 = .ok (.getfield 28, 3) := by decide +kernel
theorem dX8_counted_48 : decode cX8_counted 48 = .ok (.getfield 132, 3) := by decide +kernel
theorem dX8_counted_51 : decode cX8_counted 51 = .ok (.ireturn, 1) := by decide +kernel
theorem dX8_counted_52 : decode cX8_counted 52 = .ok (.bipush (-2), 2) := by decide +kernel
theorem dX8_counted_54 : decode cX8_counted 54 = .ok (.ireturn, 1) := by decide +kernel
theorem dX8_tape_0 : decode cX8_tape 0 = .ok (.aload_n 0, 1) := by decide +kernel
theorem dX8_tape_1 : decode cX8_tape 1 = .ok (.getfield 35, 3) := by decide +kernel
theorem dX8_tape_4 : decode cX8_tape 4 = .ok (.iload_n 1, 1) := by decide +kernel
theorem dX8_tape_5 : decode cX8_tape 5 = .ok (.invokevirtual 249, 3) := by decide +kernel
theorem dX8_tape_8 : decode cX8_tape 8 = .ok (.ifCond .ne 5, 3) := by decide +kernel
theorem dX8_tape_11 : decode cX8_tape 11 = .ok (.iconst (-1), 1) := by decide +kernel
theorem dX8_tape_12 : decode cX8_tape 12 = .ok (.ireturn, 1) := by decide +kernel
theorem dX8_tape_13 : decode cX8_tape 13 = .ok (.iload_n 2, 1) := by decide +kernel
theorem dX8_tape_14 : decode cX8_tape 14 = .ok (.iconst (-1), 1) := by decide +kernel
theorem dX8_tape_15 : decode cX8_tape 15 = .ok (.if_icmp .ne 13, 3) := by decide +kernel
theorem dX8_tape_18 : decode cX8_tape 18 = .ok (.aload_n 0, 1) := by decide +kernel
theorem dX8_tape_19 : decode cX8_tape 19 = .ok (.getfield 35, 3) := by decide +kernel
theorem dX8_tape_22 : decode cX8_tape 22 = .ok (.iload_n 1, 1) := by decide +kernel
theorem dX8_tape_23 : decode cX8_tape 23 = .ok (.invokevirtual 272, 3) := by decide +kernel
theorem dX8_tape_26 : decode cX8_tape 26 = .ok (.iconst 1, 1) := by decide +kernel
theorem dX8_tape_27 : decode cX8_tape 27 = .ok (.ireturn, 1) := by decide +kernel
theorem dX8_tape_28 : decode cX8_tape 28 = .ok (.iload_n 2, 1) := by decide +kernel
theorem dX8_tape_29 : decode cX8_tape 29 = .ok (.invokestatic 276, 3) := by decide +kernel
theorem dX8_tape_32 : decode cX8_tape 32 = .ok (.ifCond .eq 9, 3) := by decide +kernel
theorem dX8_tape_35 : decode cX8_tape 35 = .ok (.iload_n 3, 1) := by decide +kernel
theorem dX8_tape_36 : decode cX8_tape 36 = .ok (.bipush 60, 2) := by decide +kernel
theorem dX8_tape_38 : decode cX8_tape 38 = .ok (.if_icmp .le 6, 3) := by decide +kernel
theorem dX8_tape_41 : decode cX8_tape 41 = .ok (.bipush (-2), 2) := by decide +kernel
theorem dX8_tape_43 : decode cX8_tape 43 = .ok (.ireturn, 1) := by decide +kernel
theorem dX8_tape_44 : decode cX8_tape 44 = .ok (.iload_n 3, 1) := by decide +kernel
theorem dX8_tape_45 : decode cX8_tape 45 = .ok (.ifCond .ge 6, 3) := by decide +kernel
theorem dX8_tape_48 : decode cX8_tape 48 = .ok (.bipush (-14), 2) := by decide +kernel
theorem dX8_tape_50 : decode cX8_tape 50 = .ok (.ireturn, 1) := by decide +kernel
theorem dX8_tape_51 : decode cX8_tape 51 = .ok (.aload_n 0, 1) := by decide +kernel
theorem dX8_tape_52 : decode cX8_tape 52 = .ok (.getfield 35, 3) := by decide +kernel
theorem dX8_tape_55 : decode cX8_tape 55 = .ok (.iload_n 1, 1) := by decide +kernel
theorem dX8_tape_56 : decode cX8_tape 56 = .ok (.iload_n 2, 1) := by decide +kernel
theorem dX8_tape_57 : decode cX8_tape 57 = .ok (.iload_n 3, 1) := by decide +kernel
theorem dX8_tape_58 : decode cX8_tape 58 = .ok (.invokevirtual 279, 3) := by decide +kernel
theorem dX8_tape_61 : decode cX8_tape 61 = .ok (.iconst 1, 1) := by decide +kernel
theorem dX8_tape_62 : decode cX8_tape 62 = .ok (.ireturn, 1) := by decide +kernel
theorem dX8_item_0 : decode cX8_item 0 = .ok (.aload_n 0, 1) := by decide +kernel
theorem dX8_item_1 : decode cX8_item 1 = .ok (.getfield 35, 3) := by decide +kernel
theorem dX8_item_4 : decode cX8_item 4 = .ok (.iload_n 1, 1) := by decide +kernel
theorem dX8_item_5 : decode cX8_item 5 = .ok (.invokevirtual 249, 3) := by decide +kernel
theorem dX8_item_8 : decode cX8_item 8 = .ok (.ifCond .ne 5, 3) := by decide +kernel
theorem dX8_item_11 : decode cX8_item 11 = .ok (.iconst (-1), 1) := by decide +kernel
theorem dX8_item_12 : decode cX8_item 12 = .ok (.ireturn, 1) := by decide +kernel
theorem dX8_item_13 : decode cX8_item 13 = .ok (.aload_n 0, 1) := by decide +kernel
theorem dX8_item_14 : decode cX8_item 14 = .ok (.getfield 35, 3) := by decide +kernel
theorem dX8_item_17 : decode cX8_item 17 = .ok (.iload_n 1, 1) := by decide +kernel
theorem dX8_item_18 : decode cX8_item 18 = .ok (.invokevirtual 252, 3) := by decide +kernel
theorem dX8_item_21 : decode cX8_item 21 = .ok (.ifCond .eq 6, 3) := by decide +kernel
theorem dX8_item_24 : decode cX8_item 24 = .ok (.bipush (-11), 2) := by decide +kernel
theorem dX8_item_26 : decode cX8_item 26 = .ok (.ireturn, 1) := by decide +kernel
theorem dX8_item_27 : decode cX8_item 27 = .ok (.aload_n 0, 1) := by decide +kernel
theorem dX8_item_28 : decode cX8_item 28 = .ok (.getfield 35, 3) := by decide +kernel
theorem dX8_item_31 : decode cX8_item 31 = .ok (.iload_n 1, 1) := by decide +kernel
theorem dX8_item_32 : decode cX8_item 32 = .ok (.iload_n 2, 1) := by decide +kernel
theorem dX8_item_33 : decode cX8_item 33 = .ok (.invokevirtual 261, 3) := by decide +kernel
theorem dX8_item_36 : decode cX8_item 36 = .ok (.ifCond .ne 6, 3) := by decide +kernel
theorem dX8_item_39 : decode cX8_item 39 = .ok (.bipush (-13), 2) := by decide +kernel
theorem dX8_item_41 : decode cX8_item 41 = .ok (.ireturn, 1) := by decide +kernel
theorem dX8_item_42 : decode cX8_item 42 = .ok (.aload_n 0, 1) := by decide +kernel
theorem dX8_item_43 : decode cX8_item 43 = .ok (.getfield 35, 3) := by decide +kernel
theorem dX8_item_46 : decode cX8_item 46 = .ok (.getfield 264, 3) := by decide +kernel
theorem dX8_item_49 : decode cX8_item 49 = .ok (.iload_n 1, 1) := by decide +kernel
theorem dX8_item_50 : decode cX8_item 50 = .ok (.aaload, 1) := by decide +kernel
theorem dX8_item_51 : decode cX8_item 51 = .ok (.iload_n 2, 1) := by decide +kernel
theorem dX8_item_52 : decode cX8_item 52 = .ok (.lload_n 3, 1) := by decide +kernel
theorem dX8_item_53 : decode cX8_item 53 = .ok (.aload_n 0, 1) := by decide +kernel
theorem dX8_item_54 : decode cX8_item 54 = .ok (.getfield 35, 3) := by decide +kernel
theorem dX8_item_57 : decode cX8_item 57 = .ok (.getfield 283, 3) := by decide +kernel
theorem dX8_item_60 : decode cX8_item 60 = .ok (.iload_n 1, 1) := by decide +kernel
theorem dX8_item_61 : decode cX8_item 61 = .ok (.iaload, 1) := by decide +kernel
theorem dX8_item_62 : decode cX8_item 62 = .ok (.invokestatic 286, 3) := by decide +kernel
theorem dX8_item_65 : decode cX8_item 65 = .ok (.lastore, 1) := by decide +kernel
theorem dX8_item_66 : decode cX8_item 66 = .ok (.iconst 1, 1) := by decide +kernel
theorem dX8_item_67 : decode cX8_item 67 = .ok (.ireturn, 1) := by decide +kernel
theorem dX8_peek_0 : decode cX8_peek 0 = .ok (.aload_n 0, 1) := by decide +kernel
theorem dX8_peek_1 : decode cX8_peek 1 = .ok (.getfield 35, 3) := by decide +kernel
theorem dX8_peek_4 : decode cX8_peek 4 = .ok (.iload_n 1, 1) := by decide +kernel
theorem dX8_peek_5 : decode cX8_peek 5 = .ok (.invokevirtual 249, 3) := by decide +kernel
theorem dX8_peek_8 : decode cX8_peek 8 = .ok (.ifCond .eq 29, 3) := by decide +kernel
theorem dX8_peek_11 : decode cX8_peek 11 = .ok (.aload_n 0, 1) := by decide +kernel
theorem dX8_peek_12 : decode cX8_peek 12 = .ok (.getfield 35, 3) := by decide +kernel
theorem dX8_peek_15 : decode cX8_peek 15 = .ok (.iload_n 1, 1) := by decide +kernel
theorem dX8_peek_16 : decode cX8_peek 16 = .ok (.iload_n 2, 1) := by decide +kernel
theorem dX8_peek_17 : decode cX8_peek 17 = .ok (.invokevirtual 261, 3) := by decide +kernel
theorem dX8_peek_20 : decode cX8_peek 20 = .ok (.ifCond .eq 17, 3) := by decide +kernel
theorem dX8_peek_23 : decode cX8_peek 23 = .ok (.aload_n 0, 1) := by decide +kernel
theorem dX8_peek_24 : decode cX8_peek 24 = .ok (.getfield 35, 3) := by decide +kernel
theorem dX8_peek_27 : decode cX8_peek 27 = .ok (.getfield 264, 3) := by decide +kernel
theorem dX8_peek_30 : decode cX8_peek 30 = .ok (.iload_n 1, 1) := by decide +kernel
theorem dX8_peek_31 : decode cX8_peek 31 = .ok (.aaload, 1) := by decide +kernel
theorem dX8_peek_32 : decode cX8_peek 32 = .ok (.iload_n 2, 1) := by decide +kernel
theorem dX8_peek_33 : decode cX8_peek 33 = .ok (.laload, 1) := by decide +kernel
theorem dX8_peek_34 : decode cX8_peek 34 = .ok (.goto 6, 3) := by decide +kernel
theorem dX8_peek_37 : decode cX8_peek 37 = .ok (.ldc2_w 186, 3) := by decide +kernel
theorem dX8_peek_40 : decode cX8_peek 40 = .ok (.lreturn, 1) := by decide +kernel
theorem dX8_shift_0 : decode cX8_shift 0 = .ok (.aload_n 0, 1) := by decide +kernel
theorem dX8_shift_1 : decode cX8_shift 1 = .ok (.getfield 35, 3) := by decide +kernel
theorem dX8_shift_4 : decode cX8_shift 4 = .ok (.iload_n 1, 1) := by decide +kernel
theorem dX8_shift_5 : decode cX8_shift 5 = .ok (.invokevirtual 249, 3) := by decide +kernel
theorem dX8_shift_8 : decode cX8_shift 8 = .ok (.ifCond .eq 14, 3) := by decide +kernel
theorem dX8_shift_11 : decode cX8_shift 11 = .ok (.aload_n 0, 1) := by decide +kernel
theorem dX8_shift_12 : decode cX8_shift 12 = .ok (.getfield 35, 3) := by decide +kernel
theorem dX8_shift_15 : decode cX8_shift 15 = .ok (.iload_n 3, 1) := by decide +kernel
theorem dX8_shift_16 : decode cX8_shift 16 = .ok (.invokevirtual 249, 3) := by decide +kernel
theorem dX8_shift_19 : decode cX8_shift 19 = .ok (.ifCond .ne 5, 3) := by decide +kernel
theorem dX8_shift_22 : decode cX8_shift 22 = .ok (.iconst (-1), 1) := by decide +kernel
theorem dX8_shift_23 : decode cX8_shift 23 = .ok (.ireturn, 1) := by decide +kernel
theorem dX8_shift_24 : decode cX8_shift 24 = .ok (.aload_n 0, 1) := by decide +kernel
theorem dX8_shift_25 : decode cX8_shift 25 = .ok (.getfield 35, 3) := by decide +kernel
theorem dX8_shift_28 : decode cX8_shift 28 = .ok (.iload_n 1, 1) := by decide +kernel
theorem dX8_shift_29 : decode cX8_shift 29 = .ok (.invokevirtual 252, 3) := by decide +kernel
theorem dX8_shift_32 : decode cX8_shift 32 = .ok (.ifCond .ne 14, 3) := by decide +kernel
theorem dX8_shift_35 : decode cX8_shift 35 = .ok (.aload_n 0, 1) := by decide +kernel
theorem dX8_shift_36 : decode cX8_shift 36 = .ok (.getfield 35, 3) := by decide +kernel
theorem dX8_shift_39 : decode cX8_shift 39 = .ok (.iload_n 3, 1) := by decide +kernel
theorem dX8_shift_40 : decode cX8_shift 40 = .ok (.invokevirtual 252, 3) := by decide +kernel
theorem dX8_shift_43 : decode cX8_shift 43 = .ok (.ifCond .eq 6, 3) := by decide +kernel
theorem dX8_shift_46 : decode cX8_shift 46 = .ok (.bipush (-11), 2) := by decide +kernel
theorem dX8_shift_48 : decode cX8_shift 48 = .ok (.ireturn, 1) := by decide +kernel
theorem dX8_shift_49 : decode cX8_shift 49 = .ok (.aload_n 0, 1) := by decide +kernel
theorem dX8_shift_50 : decode cX8_shift 50 = .ok (.getfield 35, 3) := by decide +kernel
theorem dX8_shift_53 : decode cX8_shift 53 = .ok (.getfield 283, 3) := by decide +kernel
theorem dX8_shift_56 : decode cX8_shift 56 = .ok (.iload_n 1, 1) := by decide +kernel
theorem dX8_shift_57 : decode cX8_shift 57 = .ok (.iaload, 1) := by decide +kernel
theorem dX8_shift_58 : decode cX8_shift 58 = .ok (.aload_n 0, 1) := by decide +kernel
theorem dX8_shift_59 : decode cX8_shift 59 = .ok (.getfield 35, 3) := by decide +kernel
theorem dX8_shift_62 : decode cX8_shift 62 = .ok (.getfield 283, 3) := by decide +kernel
theorem dX8_shift_65 : decode cX8_shift 65 = .ok (.iload_n 3, 1) := by decide +kernel
theorem dX8_shift_66 : decode cX8_shift 66 = .ok (.iaload, 1) := by decide +kernel
theorem dX8_shift_67 : decode cX8_shift 67 = .ok (.if_icmp .eq 6, 3) := by decide +kernel
theorem dX8_shift_70 : decode cX8_shift 70 = .ok (.bipush (-12), 2) := by decide +kernel
theorem dX8_shift_72 : decode cX8_shift 72 = .ok (.ireturn, 1) := by decide +kernel
theorem dX8_shift_73 : decode cX8_shift 73 = .ok (.aload_n 0, 1) := by decide +kernel
theorem dX8_shift_74 : decode cX8_shift 74 = .ok (.getfield 35, 3) := by decide +kernel
theorem dX8_shift_77 : decode cX8_shift 77 = .ok (.iload_n 1, 1) := by decide +kernel
theorem dX8_shift_78 : decode cX8_shift 78 = .ok (.iload_n 2, 1) := by decide +kernel
theorem dX8_shift_79 : decode cX8_shift 79 = .ok (.iload 5, 2) := by decide +kernel
theorem dX8_shift_81 : decode cX8_shift 81 = .ok (.invokevirtual 290, 3) := by decide +kernel
theorem dX8_shift_84 : decode cX8_shift 84 = .ok (.ifCond .eq 18, 3) := by decide +kernel
theorem dX8_shift_87 : decode cX8_shift 87 = .ok (.aload_n 0, 1) := by decide +kernel
theorem dX8_shift_88 : decode cX8_shift 88 = .ok (.getfield 35, 3) := by decide +kernel
theorem dX8_shift_91 : decode cX8_shift 91 = .ok (.iload_n 3, 1) := by decide +kernel
theorem dX8_shift_92 : decode cX8_shift 92 = .ok (.iload 4, 2) := by decide +kernel
theorem dX8_shift_94 : decode cX8_shift 94 = .ok (.iload 5, 2) := by decide +kernel
theorem dX8_shift_96 : decode cX8_shift 96 = .ok (.invokevirtual 290, 3) := by decide +kernel
theorem dX8_shift_99 : decode cX8_shift 99 = .ok (.ifCond .ne 6, 3) := by decide +kernel
theorem dX8_shift_102 : decode cX8_shift 102 = .ok (.bipush (-13), 2) := by decide +kernel
theorem dX8_shift_104 : decode cX8_shift 104 = .ok (.ireturn, 1) := by decide +kernel
theorem dX8_shift_105 : decode cX8_shift 105 = .ok (.aload_n 0, 1) := by decide +kernel
theorem dX8_shift_106 : decode cX8_shift 106 = .ok (.getfield 35, 3) := by decide +kernel
theorem dX8_shift_109 : decode cX8_shift 109 = .ok (.getfield 264, 3) := by decide +kernel
theorem dX8_shift_112 : decode cX8_shift 112 = .ok (.iload_n 1, 1) := by decide +kernel
theorem dX8_shift_113 : decode cX8_shift 113 = .ok (.aaload, 1) := by decide +kernel
theorem dX8_shift_114 : decode cX8_shift 114 = .ok (.iload_n 2, 1) := by decide +kernel
theorem dX8_shift_115 : decode cX8_shift 115 = .ok (.aload_n 0, 1) := by decide +kernel
theorem dX8_shift_116 : decode cX8_shift 116 = .ok (.getfield 35, 3) := by decide +kernel
theorem dX8_shift_119 : decode cX8_shift 119 = .ok (.getfield 264, 3) := by decide +kernel
theorem dX8_shift_122 : decode cX8_shift 122 = .ok (.iload_n 3, 1) := by decide +kernel
theorem dX8_shift_123 : decode cX8_shift 123 = .ok (.aaload, 1) := by decide +kernel
theorem dX8_shift_124 : decode cX8_shift 124 = .ok (.iload 4, 2) := by decide +kernel
theorem dX8_shift_126 : decode cX8_shift 126 = .ok (.iload 5, 2) := by decide +kernel
theorem dX8_shift_128 : decode cX8_shift 128 = .ok (.invokestatic 294, 3) := by decide +kernel
theorem dX8_shift_131 : decode cX8_shift 131 = .ok (.iload 5, 2) := by decide +kernel
theorem dX8_shift_133 : decode cX8_shift 133 = .ok (.ireturn, 1) := by decide +kernel
theorem dX8_isSide_0 : decode cX8_isSide 0 = .ok (.iload_n 0, 1) := by decide +kernel
theorem dX8_isSide_1 : decode cX8_isSide 1 = .ok (.ifCond .lt 12, 3) := by decide +kernel
theorem dX8_isSide_4 : decode cX8_isSide 4 = .ok (.iload_n 0, 1) := by decide +kernel
theorem dX8_isSide_5 : decode cX8_isSide 5 = .ok (.iconst 2, 1) := by decide +kernel
theorem dX8_isSide_6 : decode cX8_isSide 6 = .ok (.if_icmp .gt 7, 3) := by decide +kernel
theorem dX8_isSide_9 : decode cX8_isSide 9 = .ok (.iconst 1, 1) := by decide +kernel
theorem dX8_isSide_10 : decode cX8_isSide 10 = .ok (.goto 4, 3) := by decide +kernel
theorem dX8_isSide_13 : decode cX8_isSide 13 = .ok (.iconst 0, 1) := by decide +kernel
theorem dX8_isSide_14 : decode cX8_isSide 14 = .ok (.ireturn, 1) := by decide +kernel
theorem dX8_isHand_0 : decode cX8_isHand 0 = .ok (.iload_n 0, 1) := by decide +kernel
theorem dX8_isHand_1 : decode cX8_isHand 1 = .ok (.ifCond .lt 12, 3) := by decide +kernel
theorem dX8_isHand_4 : decode cX8_isHand 4 = .ok (.iload_n 0, 1) := by decide +kernel
theorem dX8_isHand_5 : decode cX8_isHand 5 = .ok (.iconst 2, 1) := by decide +kernel
theorem dX8_isHand_6 : decode cX8_isHand 6 = .ok (.if_icmp .ge 7, 3) := by decide +kernel
theorem dX8_isHand_9 : decode cX8_isHand 9 = .ok (.iconst 1, 1) := by decide +kernel
theorem dX8_isHand_10 : decode cX8_isHand 10 = .ok (.goto 4, 3) := by decide +kernel
theorem dX8_isHand_13 : decode cX8_isHand 13 = .ok (.iconst 0, 1) := by decide +kernel
theorem dX8_isHand_14 : decode cX8_isHand 14 = .ok (.ireturn, 1) := by decide +kernel
theorem dX8_isKind_0 : decode cX8_isKind 0 = .ok (.iload_n 0, 1) := by decide +kernel
theorem dX8_isKind_1 : decode cX8_isKind 1 = .ok (.ifCond .eq 8, 3) := by decide +kernel
theorem dX8_isKind_4 : decode cX8_isKind 4 = .ok (.iload_n 0, 1) := by decide +kernel
theorem dX8_isKind_5 : decode cX8_isKind 5 = .ok (.iconst 1, 1) := by decide +kernel
theorem dX8_isKind_6 : decode cX8_isKind 6 = .ok (.if_icmp .ne 7, 3) := by decide +kernel
theorem dX8_isKind_9 : decode cX8_isKind 9 = .ok (.iconst 1, 1) := by decide +kernel
theorem dX8_isKind_10 : decode cX8_isKind 10 = .ok (.goto 4, 3) := by decide +kernel
theorem dX8_isKind_13 : decode cX8_isKind 13 = .ok (.iconst 0, 1) := by decide +kernel
theorem dX8_isKind_14 : decode cX8_isKind 14 = .ok (.ireturn, 1) := by decide +kernel
theorem dX8_leaveRest_0 : decode cX8_leaveRest 0 = .ok (.aload_n 0, 1) := by decide +kernel
theorem dX8_leaveRest_1 : decode cX8_leaveRest 1 = .ok (.getfield 12, 3) := by decide +kernel
theorem dX8_leaveRest_4 : decode cX8_leaveRest 4 = .ok (.getfield 83, 3) := by decide +kernel
theorem dX8_leaveRest_7 : decode cX8_leaveRest 7 = .ok (.iload_n 2, 1) := by decide +kernel
theorem dX8_leaveRest_8 : decode cX8_leaveRest 8 = .ok (.aaload, 1) := by decide +kernel
theorem dX8_leaveRest_9 : decode cX8_leaveRest 9 = .ok (.aload_n 0, 1) := by decide +kernel
theorem dX8_leaveRest_10 : decode cX8_leaveRest 10 = .ok (.getfield 53, 3) := by decide +kernel
theorem dX8_leaveRest_13 : decode cX8_leaveRest 13 = .ok (.aload_n 0, 1) := by decide +kernel
theorem dX8_leaveRest_14 : decode cX8_leaveRest 14 = .ok (.getfield 12, 3) := by decide +kernel
theorem dX8_leaveRest_17 : decode cX8_leaveRest 17 = .ok (.invokevirtual 93, 3) := by decide +kernel
theorem dX8_leaveRest_20 : decode cX8_leaveRest 20 = .ok (.invokestatic 210, 3) := by decide +kernel
theorem dX8_leaveRest_23 : decode cX8_leaveRest 23 = .ok (.aload_n 1, 1) := by decide +kernel
theorem dX8_leaveRest_24 : decode cX8_leaveRest 24 = .ok (.aload_n 0, 1) := by decide +kernel
theorem dX8_leaveRest_25 : decode cX8_leaveRest 25 = .ok (.getfield 53, 3) := by decide +kernel
theorem dX8_leaveRest_28 : decode cX8_leaveRest 28 = .ok (.invokevirtual 214, 3) := by decide +kernel
theorem dX8_leaveRest_31 : decode cX8_leaveRest 31 = .ok (.return_, 1) := by decide +kernel
theorem dX9_init_0 : decode cX9_init 0 = .ok (.aload_n 0, 1) := by decide +kernel
theorem dX9_init_1 : decode cX9_init 1 = .ok (.invokespecial 3, 3) := by decide +kernel
theorem dX9_init_4 : decode cX9_init 4 = .ok (.aload_n 0, 1) := by decide +kernel
theorem dX9_init_5 : decode cX9_init 5 = .ok (.iconst 3, 1) := by decide +kernel
theorem dX9_init_6 : decode cX9_init 6 = .ok (.putfield 9, 3) := by decide +kernel
theorem dX9_init_9 : decode cX9_init 9 = .ok (.aload_n 0, 1) := by decide +kernel
theorem dX9_init_10 : decode cX9_init 10 = .ok (.iconst 5, 1) := by decide +kernel
theorem dX9_init_11 : decode cX9_init 11 = .ok (.putfield 15, 3) := by decide +kernel
theorem dX9_init_14 : decode cX9_init 14 = .ok (.aload_n 0, 1) := by decide +kernel
theorem dX9_init_15 : decode cX9_init 15 = .ok (.bipush 8, 2) := by decide +kernel
theorem dX9_init_17 : decode cX9_init 17 = .ok (.putfield 18, 3) := by decide +kernel
theorem dX9_init_20 : decode cX9_init 20 = .ok (.aload_n 0, 1) := by decide +kernel
theorem dX9_init_21 : decode cX9_init 21 = .ok (.bipush 96, 2) := by decide +kernel
theorem dX9_init_23 : decode cX9_init 23 = .ok (.newarray .int, 2) := by decide +kernel
theorem dX9_init_25 : decode cX9_init 25 = .ok (.putfield 21, 3) := by decide +kernel
theorem dX9_init_28 : decode cX9_init 28 = .ok (.aload_n 0, 1) := by decide +kernel
theorem dX9_init_29 : decode cX9_init 29 = .ok (.bipush 64, 2) := by decide +kernel
theorem dX9_init_31 : decode cX9_init 31 = .ok (.newarray .int, 2) := by decide +kernel
theorem dX9_init_33 : decode cX9_init 33 = .ok (.putfield 25, 3) := by decide +kernel
theorem dX9_init_36 : decode cX9_init 36 = .ok (.aload_n 0, 1) := by decide +kernel
theorem dX9_init_37 : decode cX9_init 37 = .ok (.bipush 8, 2) := by decide +kernel
theorem dX9_init_39 : decode cX9_init 39 = .ok (.newarray .int, 2) := by decide +kernel
theorem dX9_init_41 : decode cX9_init 41 = .ok (.putfield 28, 3) := by decide +kernel
theorem dX9_init_44 : decode cX9_init 44 = .ok (.aload_n 0, 1) := by decide +kernel
theorem dX9_init_45 : decode cX9_init 45 = .ok (.bipush 8, 2) := by decide +kernel
theorem dX9_init_47 : decode cX9_init 47 = .ok (.newarray .int, 2) := by decide +kernel
theorem dX9_init_49 : decode cX9_init 49 = .ok (.putfield 31, 3) := by decide +kernel
theorem dX9_init_52 : decode cX9_init 52 = .ok (.aload_n 0, 1) := by decide +kernel
theorem dX9_init_53 : decode cX9_init 53 = .ok (.bipush 8, 2) := by decide +kernel
theorem dX9_init_55 : decode cX9_init 55 = .ok (.newarray .int, 2) := by decide +kernel
theorem dX9_init_57 : decode cX9_init 57 = .ok (.putfield 34, 3) := by decide +kernel
theorem dX9_init_60 : decode cX9_init 60 = .ok (.aload_n 0, 1) := by decide +kernel
theorem dX9_init_61 : decode cX9_init 61 = .ok (.bipush 8, 2) := by decide +kernel
theorem dX9_init_63 : decode cX9_init 63 = .ok (.newarray .int, 2) := by decide +kernel
theorem dX9_init_65 : decode cX9_init 65 = .ok (.putfield 37, 3) := by decide +kernel
theorem dX9_init_68 : decode cX9_init 68 = .ok (.aload_n 0, 1) := by decide +kernel
theorem dX9_init_69 : decode cX9_init 69 = .ok (.bipush 100, 2) := by decide +kernel
theorem dX9_init_71 : decode cX9_init 71 = .ok (.newarray .int, 2) := by decide +kernel
theorem dX9_init_73 : decode cX9_init 73 = .ok (.putfield 40, 3) := by decide +kernel
theorem dX9_init_76 : decode cX9_init 76 = .ok (.aload_n 0, 1) := by decide +kernel
theorem dX9_init_77 : decode cX9_init 77 = .ok (.sipush 360, 3) := by decide +kernel
theorem dX9_init_80 : decode cX9_init 80 = .ok (.newarray .long, 2) := by decide +kernel
theorem dX9_init_82 : decode cX9_init 82 = .ok (.putfield 43, 3) := by decide +kernel
theorem dX9_init_85 : decode cX9_init 85 = .ok (.aload_n 0, 1) := by decide +kernel
theorem dX9_init_86 : decode cX9_init 86 = .ok (.bipush 6, 2) := by decide +kernel
theorem dX9_init_88 : decode cX9_init 88 = .ok (.newarray .int, 2) := by decide +kernel
theorem dX9_init_90 : decode cX9_init 90 = .ok (.dup, 1) := by decide +kernel
theorem dX9_init_91 : decode cX9_init 91 = .ok (.iconst 0, 1) := by decide +kernel
theorem dX9_init_92 : decode cX9_init 92 = .ok (.iconst (-1), 1) := by decide +kernel
theorem dX9_init_93 : decode cX9_init 93 = .ok (.iastore, 1) := by decide +kernel
theorem dX9_init_94 : decode cX9_init 94 = .ok (.dup, 1) := by decide +kernel
theorem dX9_init_95 : decode cX9_init 95 = .ok (.iconst 1, 1) := by decide +kernel
theorem dX9_init_96 : decode cX9_init 96 = .ok (.iconst (-1), 1) := by decide +kernel
theorem dX9_init_97 : decode cX9_init 97 = .ok (.iastore, 1) := by decide +kernel
theorem dX9_init_98 : decode cX9_init 98 = .ok (.dup, 1) := by decide +kernel
theorem dX9_init_99 : decode cX9_init 99 = .ok (.iconst 2, 1) := by decide +kernel
theorem dX9_init_100 : decode cX9_init 100 = .ok (.iconst (-1), 1) := by decide +kernel
theorem dX9_init_101 : decode cX9_init 101 = .ok (.iastore, 1) := by decide +kernel
theorem dX9_init_102 : decode cX9_init 102 = .ok (.dup, 1) := by decide +kernel
theorem dX9_init_103 : decode cX9_init 103 = .ok (.iconst 3, 1) := by decide +kernel
theorem dX9_init_104 : decode cX9_init 104 = .ok (.iconst (-1), 1) := by decide +kernel
theorem dX9_init_105 : decode cX9_init 105 = .ok (.iastore, 1) := by decide +kernel
theorem dX9_init_106 : decode cX9_init 106 = .ok (.dup, 1) := by decide +kernel
theorem dX9_init_107 : decode cX9_init 107 = .ok (.iconst 4, 1) := by decide +kernel
theorem dX9_init_108 : decode cX9_init 108 = .ok (.iconst (-1), 1) := by decide +kernel
theorem dX9_init_109 : decode cX9_init 109 = .ok (.iastore, 1) := by decide +kernel
theorem dX9_init_110 : decode cX9_init 110 = .ok (.dup, 1) := by decide +kernel
theorem dX9_init_111 : decode cX9_init 111 = .ok (.iconst 5, 1) := by decide +kernel
theorem dX9_init_112 : decode cX9_init 112 = .ok (.iconst (-1), 1) := by decide +kernel
theorem dX9_init_113 : decode cX9_init 113 = .ok (.iastore, 1) := by decide +kernel
theorem dX9_init_114 : decode cX9_init 114 = .ok (.putfield 47, 3) := by decide +kernel
theorem dX9_init_117 : decode cX9_init 117 = .ok (.aload_n 0, 1) := by decide +kernel
theorem dX9_init_118 : decode cX9_init 118 = .ok (.bipush 6, 2) := by decide +kernel
theorem dX9_init_120 : decode cX9_init 120 = .ok (.newarray .int, 2) := by decide +kernel
theorem dX9_init_122 : decode cX9_init 122 = .ok (.putfield 50, 3) := by decide +kernel
theorem dX9_init_125 : decode cX9_init 125 = .ok (.aload_n 0, 1) := by decide +kernel
theorem dX9_init_126 : decode cX9_init 126 = .ok (.sipush 200, 3) := by decide +kernel
theorem dX9_init_129 : decode cX9_init 129 = .ok (.newarray .int, 2) := by decide +kernel
theorem dX9_init_131 : decode cX9_init 131 = .ok (.putfield 53, 3) := by decide +kernel
theorem dX9_init_134 : decode cX9_init 134 = .ok (.aload_n 0, 1) := by decide +kernel
theorem dX9_init_135 : decode cX9_init 135 = .ok (.sipush 200, 3) := by decide +kernel
theorem dX9_init_138 : decode cX9_init 138 = .ok (.newarray .int, 2) := by decide +kernel
theorem dX9_init_140 : decode cX9_init 140 = .ok (.putfield 56, 3) := by decide +kernel
theorem dX9_init_143 : decode cX9_init 143 = .ok (.aload_n 0, 1) := by decide +kernel
theorem dX9_init_144 : decode cX9_init 144 = .ok (.ldc 59, 2) := by decide +kernel
theorem dX9_init_146 : decode cX9_init 146 = .ok (.newarray .int, 2) := by decide +kernel
theorem dX9_init_148 : decode cX9_init 148 = .ok (.putfield 60, 3) := by decide +kernel
theorem dX9_init_151 : decode cX9_init 151 = .ok (.aload_n 0, 1) := by decide +kernel
theorem dX9_init_152 : decode cX9_init 152 = .ok (.sipush 256, 3) := by decide +kernel
theorem dX9_init_155 : decode cX9_init 155 = .ok (.newarray .int, 2) := by decide +kernel
theorem dX9_init_157 : decode cX9_init 157 = .ok (.putfield 63, 3) := by decide +kernel
theorem dX9_init_160 : decode cX9_init 160 = .ok (.aload_n 0, 1) := by decide +kernel
theorem dX9_init_161 : decode cX9_init 161 = .ok (.sipush 256, 3) := by decide +kernel
theorem dX9_init_164 : decode cX9_init 164 = .ok (.newarray .int, 2) := by decide +kernel
theorem dX9_init_166 : decode cX9_init 166 = .ok (.putfield 66, 3) := by decide +kernel
theorem dX9_init_169 : decode cX9_init 169 = .ok (.aload_n 0, 1) := by decide +kernel
theorem dX9_init_170 : decode cX9_init 170 = .ok (.sipush 256, 3) := by decide +kernel
theorem dX9_init_173 : decode cX9_init 173 = .ok (.newarray .int, 2) := by decide +kernel
theorem dX9_init_175 : decode cX9_init 175 = .ok (.putfield 69, 3) := by decide +kernel
theorem dX9_init_178 : decode cX9_init 178 = .ok (.aload_n 0, 1) := by decide +kernel
theorem dX9_init_179 : decode cX9_init 179 = .ok (.sipush 256, 3) := by decide +kernel
theorem dX9_init_182 : decode cX9_init 182 = .ok (.newarray .int, 2) := by decide +kernel
theorem dX9_init_184 : decode cX9_init 184 = .ok (.putfield 72, 3) := by decide +kernel
theorem dX9_init_187 : decode cX9_init 187 = .ok (.aload_n 0, 1) := by decide +kernel
theorem dX9_init_188 : decode cX9_init 188 = .ok (.bipush 16, 2) := by decide +kernel
theorem dX9_init_190 : decode cX9_init 190 = .ok (.newarray .int, 2) := by decide +kernel
theorem dX9_init_192 : decode cX9_init 192 = .ok (.putfield 75, 3) := by decide +kernel
theorem dX9_init_195 : decode cX9_init 195 = .ok (.aload_n 0, 1) := by decide +kernel
theorem dX9_init_196 : decode cX9_init 196 = .ok (.bipush 16, 2) := by decide +kernel
theorem dX9_init_198 : decode cX9_init 198 = .ok (.newarray .int, 2) := by decide +kernel
theorem dX9_init_200 : decode cX9_init 200 = .ok (.putfield 78, 3) := by decide +kernel
theorem dX9_init_203 : decode cX9_init 203 = .ok (.aload_n 0, 1) := by decide +kernel
theorem dX9_init_204 : decode cX9_init 204 = .ok (.bipush 16, 2) := by decide +kernel
theorem dX9_init_206 : decode cX9_init 206 = .ok (.newarray .int, 2) := by decide +kernel
theorem dX9_init_208 : decode cX9_init 208 = .ok (.putfield 81, 3) := by decide +kernel
theorem dX9_init_211 : decode cX9_init 211 = .ok (.aload_n 0, 1) := by decide +kernel
theorem dX9_init_212 : decode cX9_init 212 = .ok (.sipush 256, 3) := by decide +kernel
theorem dX9_init_215 : decode cX9_init 215 = .ok (.newarray .int, 2) := by decide +kernel
theorem dX9_init_217 : decode cX9_init 217 = .ok (.putfield 84, 3) := by decide +kernel
theorem dX9_init_220 : decode cX9_init 220 = .ok (.aload_n 0, 1) := by decide +kernel
theorem dX9_init_221 : decode cX9_init 221 = .ok (.sipush 256, 3) := by decide +kernel
theorem dX9_init_224 : decode cX9_init 224 = .ok (.newarray .int, 2) := by decide +kernel
theorem dX9_init_226 : decode cX9_init 226 = .ok (.putfield 87, 3) := by decide +kernel
theorem dX9_init_229 : decode cX9_init 229 = .ok (.aload_n 0, 1) := by decide +kernel
theorem dX9_init_230 : decode cX9_init 230 = .ok (.sipush 256, 3) := by decide +kernel
theorem dX9_init_233 : decode cX9_init 233 = .ok (.newarray .int, 2) := by decide +kernel
theorem dX9_init_235 : decode cX9_init 235 = .ok (.putfield 90, 3) := by decide +kernel
theorem dX9_init_238 : decode cX9_init 238 = .ok (.aload_n 0, 1) := by decide +kernel
theorem dX9_init_239 : decode cX9_init 239 = .ok (.ldc 59, 2) := by decide +kernel
theorem dX9_init_241 : decode cX9_init 241 = .ok (.newarray .int, 2) := by decide +kernel
theorem dX9_init_243 : decode cX9_init 243 = .ok (.putfield 93, 3) := by decide +kernel
theorem dX9_init_246 : decode cX9_init 246 = .ok (.aload_n 0, 1) := by decide +kernel
theorem dX9_init_247 : decode cX9_init 247 = .ok (.ldc 59, 2) := by decide +kernel
theorem dX9_init_249 : decode cX9_init 249 = .ok (.newarray .int, 2) := by decide +kernel
theorem dX9_init_251 : decode cX9_init 251 = .ok (.putfield 96, 3) := by decide +kernel
theorem dX9_init_254 : decode cX9_init 254 = .ok (.aload_n 0, 1) := by decide +kernel
theorem dX9_init_255 : decode cX9_init 255 = .ok (.sipush 256, 3) := by decide +kernel
theorem dX9_init_258 : decode cX9_init 258 = .ok (.newarray .int, 2) := by decide +kernel
theorem dX9_init_260 : decode cX9_init 260 = .ok (.putfield 99, 3) := by decide +kernel
theorem dX9_init_263 : decode cX9_init 263 = .ok (.return_, 1) := by decide +kernel
theorem dX9_in_0 : decode cX9_in 0 = .ok (.lload_n 0, 1) := by decide +kernel
theorem dX9_in_1 : decode cX9_in 1 = .ok (.lload_n 2, 1) := by decide +kernel
theorem dX9_in_2 : decode cX9_in 2 = .ok (.lcmp, 1) := by decide +kernel
theorem dX9_in_3 : decode cX9_in 3 = .ok (.ifCond .lt 14, 3) := by decide +kernel
theorem dX9_in_6 : decode cX9_in 6 = .ok (.lload_n 0, 1) := by decide +kernel
theorem dX9_in_7 : decode cX9_in 7 = .ok (.lload 4, 2) := by decide +kernel
theorem dX9_in_9 : decode cX9_in 9 = .ok (.lcmp, 1) := by decide +kernel
theorem dX9_in_10 : decode cX9_in 10 = .ok (.ifCond .gt 7, 3) := by decide +kernel
theorem dX9_in_13 : decode cX9_in 13 = .ok (.iconst 1, 1) := by decide +kernel
theorem dX9_in_14 : decode cX9_in 14 = .ok (.goto 4, 3) := by decide +kernel
theorem dX9_in_17 : decode cX9_in 17 = .ok (.iconst 0, 1) := by decide +kernel
theorem dX9_in_18 : decode cX9_in 18 = .ok (.ireturn, 1) := by decide +kernel
theorem dX9_degree_0 : decode cX9_degree 0 = .ok (.iload_n 0, 1) := by decide +kernel
theorem dX9_degree_1 : decode cX9_degree 1 = .ok (.invokestatic 102, 3) := by decide +kernel
theorem dX9_degree_4 : decode cX9_degree 4 = .ok (.ireturn, 1) := by decide +kernel
theorem dX9_isPlace_0 : decode cX9_isPlace 0 = .ok (.iload_n 1, 1) := by decide +kernel
theorem dX9_isPlace_1 : decode cX9_isPlace 1 = .ok (.i2l, 1) := by decide +kernel
theorem dX9_isPlace_2 : decode cX9_isPlace 2 = .ok (.lconst 0, 1) := by decide +kernel
theorem dX9_isPlace_3 : decode cX9_isPlace 3 = .ok (.aload_n 0, 1) := by decide +kernel
theorem dX9_isPlace_4 : decode cX9_isPlace 4 = .ok (.getfield 18, 3) := by decide +kernel
theorem dX9_isPlace_7 : decode cX9_isPlace 7 = .ok (.iconst 1, 1) := by decide +kernel
theorem dX9_isPlace_8 : decode cX9_isPlace 8 = .ok (.isub, 1) := by decide +kernel
theorem dX9_isPlace_9 : decode cX9_isPlace 9 = .ok (.i2l, 1) := by decide +kernel
theorem dX9_isPlace_10 : decode cX9_isPlace 10 = .ok (.invokestatic 108, 3) := by decide +kernel
theorem dX9_isPlace_13 : decode cX9_isPlace 13 = .ok (.ireturn, 1) := by decide +kernel
theorem dX9_isElement_0 : decode cX9_isElement 0 = .ok (.iload_n 0, 1) := by decide +kernel
theorem dX9_isElement_1 : decode cX9_isElement 1 = .ok (.i2l, 1) := by decide +kernel
theorem dX9_isElement_2 : decode cX9_isElement 2 = .ok (.lconst 0, 1) := by decide +kernel
theorem dX9_isElement_3 : decode cX9_isElement 3 = .ok (.ldc2_w 112, 3) := by decide +kernel
theorem dX9_isElement_6 : decode cX9_isElement 6 = .ok (.invokestatic 108, 3) := by decide +kernel
theorem dX9_isElement_9 : decode cX9_isElement 9 = .ok (.ireturn, 1) := by decide +kernel
theorem dX9_isSide_0 : decode cX9_isSide 0 = .ok (.iload_n 0, 1) := by decide +kernel
theorem dX9_isSide_1 : decode cX9_isSide 1 = .ok (.i2l, 1) := by decide +kernel
theorem dX9_isSide_2 : decode cX9_isSide 2 = .ok (.lconst 0, 1) := by decide +kernel
theorem dX9_isSide_3 : decode cX9_isSide 3 = .ok (.ldc2_w 114, 3) := by decide +kernel
theorem dX9_isSide_6 : decode cX9_isSide 6 = .ok (.invokestatic 108, 3) := by decide +kernel
theorem dX9_isSide_9 : decode cX9_isSide 9 = .ok (.ireturn, 1) := by decide +kernel
theorem dX9_modulo_0 : decode cX9_modulo 0 = .ok (.lload_n 1, 1) := by decide +kernel
theorem dX9_modulo_1 : decode cX9_modulo 1 = .ok (.aload_n 0, 1) := by decide +kernel
theorem dX9_modulo_2 : decode cX9_modulo 2 = .ok (.getfield 15, 3) := by decide +kernel
theorem dX9_modulo_5 : decode cX9_modulo 5 = .ok (.i2l, 1) := by decide +kernel
theorem dX9_modulo_6 : decode cX9_modulo 6 = .ok (.lrem, 1) := by decide +kernel
theorem dX9_modulo_7 : decode cX9_modulo 7 = .ok (.lstore_n 3, 1) := by decide +kernel
theorem dX9_modulo_8 : decode cX9_modulo 8 = .ok (.lload_n 3, 1) := by decide +kernel
theorem dX9_modulo_9 : decode cX9_modulo 9 = .ok (.lconst 0, 1) := by decide +kernel
theorem dX9_modulo_10 : decode cX9_modulo 10 = .ok (.lcmp, 1) := by decide +kernel
theorem dX9_modulo_11 : decode cX9_modulo 11 = .ok (.ifCond .ge 13, 3) := by decide +kernel
theorem dX9_modulo_14 : decode cX9_modulo 14 = .ok (.lload_n 3, 1) := by decide +kernel
theorem dX9_modulo_15 : decode cX9_modulo 15 = .ok (.aload_n 0, 1) := by decide +kernel
theorem dX9_modulo_16 : decode cX9_modulo 16 = .ok (.getfield 15, 3) := by decide +kernel
theorem dX9_modulo_19 : decode cX9_modulo 19 = .ok (.i2l, 1) := by decide +kernel
theorem dX9_modulo_20 : decode cX9_modulo 20 = .ok (.ladd, 1) := by decide +kernel
theorem dX9_modulo_21 : decode cX9_modulo 21 = .ok (.goto 4, 3) := by decide +kernel
theorem dX9_modulo_24 : decode cX9_modulo 24 = .ok (.lload_n 3, 1) := by decide +kernel
theorem dX9_modulo_25 : decode cX9_modulo 25 = .ok (.l2i, 1) := by decide +kernel
theorem dX9_modulo_26 : decode cX9_modulo 26 = .ok (.ireturn, 1) := by decide +kernel
theorem dX9_sign_0 : decode cX9_sign 0 = .ok (.iload_n 0, 1) := by decide +kernel
theorem dX9_sign_1 : decode cX9_sign 1 = .ok (.iload_n 1, 1) := by decide +kernel
theorem dX9_sign_2 : decode cX9_sign 2 = .ok (.iand, 1) := by decide +kernel
theorem dX9_sign_3 : decode cX9_sign 3 = .ok (.ifCond .eq 5, 3) := by decide +kernel
theorem dX9_sign_6 : decode cX9_sign 6 = .ok (.iconst 0, 1) := by decide +kernel
theorem dX9_sign_7 : decode cX9_sign 7 = .ok (.ireturn, 1) := by decide +kernel
theorem dX9_sign_8 : decode cX9_sign 8 = .ok (.iconst 0, 1) := by decide +kernel
theorem dX9_sign_9 : decode cX9_sign 9 = .ok (.istore_n 2, 1) := by decide +kernel
theorem dX9_sign_10 : decode cX9_sign 10 = .ok (.iconst 0, 1) := by decide +kernel
theorem dX9_sign_11 : decode cX9_sign 11 = .ok (.istore_n 3, 1) := by decide +kernel
theorem dX9_sign_12 : decode cX9_sign 12 = .ok (.iload_n 3, 1) := by decide +kernel
theorem dX9_sign_13 : decode cX9_sign 13 = .ok (.iconst 4, 1) := by decide +kernel
theorem dX9_sign_14 : decode cX9_sign 14 = .ok (.if_icmp .ge 46, 3) := by decide +kernel
theorem dX9_sign_17 : decode cX9_sign 17 = .ok (.iconst 0, 1) := by decide +kernel
theorem dX9_sign_18 : decode cX9_sign 18 = .ok (.istore 4, 2) := by decide +kernel
theorem dX9_sign_20 : decode cX9_sign 20 = .ok (.iload 4, 2) := by decide +kernel
theorem dX9_sign_22 : decode cX9_sign 22 = .ok (.iload_n 3, 1) := by decide +kernel
theorem dX9_sign_23 : decode cX9_sign 23 = .ok (.if_icmp .ge 31, 3) := by decide +kernel
theorem dX9_sign_26 : decode cX9_sign 26 = .ok (.iload_n 0, 1) := by decide +kernel
theorem dX9_sign_27 : decode cX9_sign 27 = .ok (.iload_n 3, 1) := by decide +kernel
theorem dX9_sign_28 : decode cX9_sign 28 = .ok (.ishr, 1) := by decide +kernel
theorem dX9_sign_29 : decode cX9_sign 29 = .ok (.iconst 1, 1) := by decide +kernel
theorem dX9_sign_30 : decode cX9_sign 30 = .ok (.iand, 1) := by decide +kernel
theorem dX9_sign_31 : decode cX9_sign 31 = .ok (.iconst 1, 1) := by decide +kernel
theorem dX9_sign_32 : decode cX9_sign 32 = .ok (.if_icmp .ne 16, 3) := by decide +kernel
theorem dX9_sign_35 : decode cX9_sign 35 = .ok (.iload_n 1, 1) := by decide +kernel
theorem dX9_sign_36 : decode cX9_sign 36 = .ok (.iload 4, 2) := by decide +kernel
theorem dX9_sign_38 : decode cX9_sign 38 = .ok (.ishr, 1) := by decide +kernel
theorem dX9_sign_39 : decode cX9_sign 39 = .ok (.iconst 1, 1) := by decide +kernel
theorem dX9_sign_40 : decode cX9_sign 40 = .ok (.iand, 1) := by decide +kernel
theorem dX9_sign_41 : decode cX9_sign 41 = .ok (.iconst 1, 1) := by decide +kernel
theorem dX9_sign_42 : decode cX9_sign 42 = .ok (.if_icmp .ne 6, 3) := by decide +kernel
theorem dX9_sign_45 : decode cX9_sign 45 = .ok (.iinc 2 1, 3) := by decide +kernel
theorem dX9_sign_48 : decode cX9_sign 48 = .ok (.iinc 4 1, 3) := by decide +kernel
theorem dX9_sign_51 : decode cX9_sign 51 = .ok (.goto (-31), 3) := by decide +kernel
theorem dX9_sign_54 : decode cX9_sign 54 = .ok (.iinc 3 1, 3) := by decide +kernel
theorem dX9_sign_57 : decode cX9_sign 57 = .ok (.goto (-45), 3) := by decide +kernel
theorem dX9_sign_60 : decode cX9_sign 60 = .ok (.iload_n 2, 1) := by decide +kernel
theorem dX9_sign_61 : decode cX9_sign 61 = .ok (.iconst 2, 1) := by decide +kernel
theorem dX9_sign_62 : decode cX9_sign 62 = .ok (.irem, 1) := by decide +kernel
theorem dX9_sign_63 : decode cX9_sign 63 = .ok (.ifCond .ne 7, 3) := by decide +kernel
theorem dX9_sign_66 : decode cX9_sign 66 = .ok (.iconst 1, 1) := by decide +kernel
theorem dX9_sign_67 : decode cX9_sign 67 = .ok (.goto 4, 3) := by decide +kernel
theorem dX9_sign_70 : decode cX9_sign 70 = .ok (.iconst (-1), 1) := by decide +kernel
theorem dX9_sign_71 : decode cX9_sign 71 = .ok (.ireturn, 1) := by decide +kernel
theorem dX9_multiply_0 : decode cX9_multiply 0 = .ok (.iconst 0, 1) := by decide +kernel
theorem dX9_multiply_1 : decode cX9_multiply 1 = .ok (.istore 5, 2) := by decide +kernel
theorem dX9_multiply_3 : decode cX9_multiply 3 = .ok (.iload 5, 2) := by decide +kernel
theorem dX9_multiply_5 : decode cX9_multiply 5 = .ok (.bipush 16, 2) := by decide +kernel
theorem dX9_multiply_7 : decode cX9_multiply 7 = .ok (.if_icmp .ge 17, 3) := by decide +kernel
theorem dX9_multiply_10 : decode cX9_multiply 10 = .ok (.aload_n 0, 1) := by decide +kernel
theorem dX9_multiply_11 : decode cX9_multiply 11 = .ok (.getfield 81, 3) := by decide +kernel
theorem dX9_multiply_14 : decode cX9_multiply 14 = .ok (.iload 5, 2) := by decide +kernel
theorem dX9_multiply_16 : decode cX9_multiply 16 = .ok (.iconst 0, 1) := by decide +kernel
theorem dX9_multiply_17 : decode cX9_multiply 17 = .ok (.iastore, 1) := by decide +kernel
theorem dX9_multiply_18 : decode cX9_multiply 18 = .ok (.iinc 5 1, 3) := by decide +kernel
theorem dX9_multiply_21 : decode cX9_multiply 21 = .ok (.goto (-18), 3) := by decide +kernel
theorem dX9_multiply_24 : decode cX9_multiply 24 = .ok (.iconst 0, 1) := by decide +kernel
theorem dX9_multiply_25 : decode cX9_multiply 25 = .ok (.istore 5, 2) := by decide +kernel
theorem dX9_multiply_27 : decode cX9_multiply 27 = .ok (.iload 5, 2) := by decide +kernel
theorem dX9_multiply_29 : decode cX9_multiply 29 = .ok (.aload_n 0, 1) := by decide +kernel
theorem dX9_multiply_30 : decode cX9_multiply 30 = .ok (.getfield 18, 3) := by decide +kernel
theorem dX9_multiply_33 : decode cX9_multiply 33 = .ok (.if_icmp .ge 109, 3) := by decide +kernel
theorem dX9_multiply_36 : decode cX9_multiply 36 = .ok (.aload_n 1, 1) := by decide +kernel
theorem dX9_multiply_37 : decode cX9_multiply 37 = .ok (.iload_n 2, 1) := by decide +kernel
theorem dX9_multiply_38 : decode cX9_multiply 38 = .ok (.iload 5, 2) := by decide +kernel
theorem dX9_multiply_40 : decode cX9_multiply 40 = .ok (.iadd, 1) := by decide +kernel
theorem dX9_multiply_41 : decode cX9_multiply 41 = .ok (.iaload, 1) := by decide +kernel
theorem dX9_multiply_42 : decode cX9_multiply 42 = .ok (.ifCond .ne 6, 3) := by decide +kernel
theorem dX9_multiply_45 : decode cX9_multiply 45 = .ok (.goto 91, 3) := by decide +kernel
theorem dX9_multiply_48 : decode cX9_multiply 48 = .ok (.iconst 0, 1) := by decide +kernel
theorem dX9_multiply_49 : decode cX9_multiply 49 = .ok (.istore 6, 2) := by decide +kernel
theorem dX9_multiply_51 : decode cX9_multiply 51 = .ok (.iload 6, 2) := by decide +kernel
theorem dX9_multiply_53 : decode cX9_multiply 53 = .ok (.aload_n 0, 1) := by decide +kernel
theorem dX9_multiply_54 : decode cX9_multiply 54 = .ok (.getfield 18, 3) := by decide +kernel
theorem dX9_multiply_57 : decode cX9_multiply 57 = .ok (.if_icmp .ge 79, 3) := by decide +kernel
theorem dX9_multiply_60 : decode cX9_multiply 60 = .ok (.iload 5, 2) := by decide +kernel
theorem dX9_multiply_62 : decode cX9_multiply 62 = .ok (.iload 6, 2) := by decide +kernel
theorem dX9_multiply_64 : decode cX9_multiply 64 = .ok (.invokestatic 116, 3) := by decide +kernel
theorem dX9_multiply_67 : decode cX9_multiply 67 = .ok (.istore 7, 2) := by decide +kernel
theorem dX9_multiply_69 : decode cX9_multiply 69 = .ok (.iload 7, 2) := by decide +kernel
theorem dX9_multiply_71 : decode cX9_multiply 71 = .ok (.ifCond .eq 59, 3) := by decide +kernel
theorem dX9_multiply_74 : decode cX9_multiply 74 = .ok (.aload_n 3, 1) := by decide +kernel
theorem dX9_multiply_75 : decode cX9_multiply 75 = .ok (.iload 4, 2) := by decide +kernel
theorem dX9_multiply_77 : decode cX9_multiply 77 = .ok (.iload 6, 2) := by decide +kernel
theorem dX9_multiply_79 : decode cX9_multiply 79 = .ok (.iadd, 1) := by decide +kernel
theorem dX9_multiply_80 : decode cX9_multiply 80 = .ok (.iaload, 1) := by decide +kernel
theorem dX9_multiply_81 : decode cX9_multiply 81 = .ok (.ifCond .eq 49, 3) := by decide +kernel
theorem dX9_multiply_84 : decode cX9_multiply 84 = .ok (.aload_n 0, 1) := by decide +kernel
theorem dX9_multiply_85 : decode cX9_multiply 85 = .ok (.getfield 81, 3) := by decide +kernel
theorem dX9_multiply_88 : decode cX9_multiply 88 = .ok (.iload 5, 2) := by decide +kernel
theorem dX9_multiply_90 : decode cX9_multiply 90 = .ok (.iload 6, 2) := by decide +kernel
theorem dX9_multiply_92 : decode cX9_multiply 92 = .ok (.ior, 1) := by decide +kernel
theorem dX9_multiply_93 : decode cX9_multiply 93 = .ok (.aload_n 0, 1) := by decide +kernel
theorem dX9_multiply_94 : decode cX9_multiply 94 = .ok (.aload_n 0, 1) := by decide +kernel
theorem dX9_multiply_95 : decode cX9_multiply 95 = .ok (.getfield 81, 3) := by decide +kernel
theorem dX9_multiply_98 : decode cX9_multiply 98 = .ok (.iload 5, 2) := by decide +kernel
theorem dX9_multiply_100 : decode cX9_multiply 100 = .ok (.iload 6, 2) := by decide +kernel
theorem dX9_multiply_102 : decode cX9_multiply 102 = .ok (.ior, 1) := by decide +kernel
theorem dX9_multiply_103 : decode cX9_multiply 103 = .ok (.iaload, 1) := by decide +kernel
theorem dX9_multiply_104 : decode cX9_multiply 104 = .ok (.i2l, 1) := by decide +kernel
theorem dX9_multiply_105 : decode cX9_multiply 105 = .ok (.iload 7, 2) := by decide +kernel
theorem dX9_multiply_107 : decode cX9_multiply 107 = .ok (.i2l, 1) := by decide +kernel
theorem dX9_multiply_108 : decode cX9_multiply 108 = .ok (.aload_n 1, 1) := by decide +kernel
theorem dX9_multiply_109 : decode cX9_multiply 109 = .ok (.iload_n 2, 1) := by decide +kernel
theorem dX9_multiply_110 : decode cX9_multiply 110 = .ok (.iload 5, 2) := by decide +kernel
theorem dX9_multiply_112 : decode cX9_multiply 112 = .ok (.iadd, 1) := by decide +kernel
theorem dX9_multiply_113 : decode cX9_multiply 113 = .ok (.iaload, 1) := by decide +kernel
theorem dX9_multiply_114 : decode cX9_multiply 114 = .ok (.i2l, 1) := by decide +kernel
theorem dX9_multiply_115 : decode cX9_multiply 115 = .ok (.lmul, 1) := by decide +kernel
theorem dX9_multiply_116 : decode cX9_multiply 116 = .ok (.aload_n 3, 1) := by decide +kernel
theorem dX9_multiply_117 : decode cX9_multiply 117 = .ok (.iload 4, 2) := by decide +kernel
theorem dX9_multiply_119 : decode cX9_multiply 119 = .ok (.iload 6, 2) := by decide +kernel
theorem dX9_multiply_121 : decode cX9_multiply 121 = .ok (.iadd, 1) := by decide +kernel
theorem dX9_multiply_122 : decode cX9_multiply 122 = .ok (.iaload, 1) := by decide +kernel
theorem dX9_multiply_123 : decode cX9_multiply 123 = .ok (.i2l, 1) := by decide +kernel
theorem dX9_multiply_124 : decode cX9_multiply 124 = .ok (.lmul, 1) := by decide +kernel
theorem dX9_multiply_125 : decode cX9_multiply 125 = .ok (.ladd, 1) := by decide +kernel
theorem dX9_multiply_126 : decode cX9_multiply 126 = .ok (.invokevirtual 120, 3) := by decide +kernel
theorem dX9_multiply_129 : decode cX9_multiply 129 = .ok (.iastore, 1) := by decide +kernel
theorem dX9_multiply_130 : decode cX9_multiply 130 = .ok (.iinc 6 1, 3) := by decide +kernel
theorem dX9_multiply_133 : decode cX9_multiply 133 = .ok (.goto (-82), 3) := by decide +kernel
theorem dX9_multiply_136 : decode cX9_multiply 136 = .ok (.iinc 5 1, 3) := by decide +kernel
theorem dX9_multiply_139 : decode cX9_multiply 139 = .ok (.goto (-112), 3) := by decide +kernel
theorem dX9_multiply_142 : decode cX9_multiply 142 = .ok (.return_, 1) := by decide +kernel
theorem dX9_unit_0 : decode cX9_unit 0 = .ok (.iconst 0, 1) := by decide +kernel
theorem dX9_unit_1 : decode cX9_unit 1 = .ok (.istore_n 3, 1) := by decide +kernel
theorem dX9_unit_2 : decode cX9_unit 2 = .ok (.iload_n 3, 1) := by decide +kernel
theorem dX9_unit_3 : decode cX9_unit 3 = .ok (.bipush 16, 2) := by decide +kernel
theorem dX9_unit_5 : decode cX9_unit 5 = .ok (.if_icmp .ge 22, 3) := by decide +kernel
theorem dX9_unit_8 : decode cX9_unit 8 = .ok (.aload_n 1, 1) := by decide +kernel
theorem dX9_unit_9 : decode cX9_unit 9 = .ok (.iload_n 3, 1) := by decide +kernel
theorem dX9_unit_10 : decode cX9_unit 10 = .ok (.iload_n 3, 1) := by decide +kernel
theorem dX9_unit_11 : decode cX9_unit 11 = .ok (.iload_n 2, 1) := by decide +kernel
theorem dX9_unit_12 : decode cX9_unit 12 = .ok (.if_icmp .ne 7, 3) := by decide +kernel
theorem dX9_unit_15 : decode cX9_unit 15 = .ok (.iconst 1, 1) := by decide +kernel
theorem dX9_unit_16 : decode cX9_unit 16 = .ok (.goto 4, 3) := by decide +kernel
theorem dX9_unit_19 : decode cX9_unit 19 = .ok (.iconst 0, 1) := by decide +kernel
theorem dX9_unit_20 : decode cX9_unit 20 = .ok (.iastore, 1) := by decide +kernel
theorem dX9_unit_21 : decode cX9_unit 21 = .ok (.iinc 3 1, 3) := by decide +kernel
theorem dX9_unit_24 : decode cX9_unit 24 = .ok (.goto (-22), 3) := by decide +kernel
theorem dX9_unit_27 : decode cX9_unit 27 = .ok (.return_, 1) := by decide +kernel
theorem dX9_inverse_0 : decode cX9_inverse 0 = .ok (.iconst 1, 1) := by decide +kernel
theorem dX9_inverse_1 : decode cX9_inverse 1 = .ok (.istore_n 2, 1) := by decide +kernel
theorem dX9_inverse_2 : decode cX9_inverse 2 = .ok (.iload_n 2, 1) := by decide +kernel
theorem dX9_inverse_3 : decode cX9_inverse 3 = .ok (.iload_n 1, 1) := by decide +kernel
theorem dX9_inverse_4 : decode cX9_inverse 4 = .ok (.imul, 1) := by decide +kernel
theorem dX9_inverse_5 : decode cX9_inverse 5 = .ok (.aload_n 0, 1) := by decide +kernel
theorem dX9_inverse_6 : decode cX9_inverse 6 = .ok (.getfield 15, 3) := by decide +kernel
theorem dX9_inverse_9 : decode cX9_inverse 9 = .ok (.irem, 1) := by decide +kernel
theorem dX9_inverse_10 : decode cX9_inverse 10 = .ok (.iconst 1, 1) := by decide +kernel
theorem dX9_inverse_11 : decode cX9_inverse 11 = .ok (.if_icmp .eq 9, 3) := by decide +kernel
theorem dX9_inverse_14 : decode cX9_inverse 14 = .ok (.iinc 2 1, 3) := by decide +kernel
theorem dX9_inverse_17 : decode cX9_inverse 17 = .ok (.goto (-15), 3) := by decide +kernel
theorem dX9_inverse_20 : decode cX9_inverse 20 = .ok (.iload_n 2, 1) := by decide +kernel
theorem dX9_inverse_21 : decode cX9_inverse 21 = .ok (.ireturn, 1) := by decide +kernel
theorem dX9_begin_0 : decode cX9_begin 0 = .ok (.aload_n 0, 1) := by decide +kernel
theorem dX9_begin_1 : decode cX9_begin 1 = .ok (.iconst 0, 1) := by decide +kernel
theorem dX9_begin_2 : decode cX9_begin 2 = .ok (.putfield 124, 3) := by decide +kernel
theorem dX9_begin_5 : decode cX9_begin 5 = .ok (.aload_n 0, 1) := by decide +kernel
theorem dX9_begin_6 : decode cX9_begin 6 = .ok (.iload_n 1, 1) := by decide +kernel
theorem dX9_begin_7 : decode cX9_begin 7 = .ok (.putfield 127, 3) := by decide +kernel
theorem dX9_begin_10 : decode cX9_begin 10 = .ok (.iconst 0, 1) := by decide +kernel
theorem dX9_begin_11 : decode cX9_begin 11 = .ok (.istore_n 2, 1) := by decide +kernel
theorem dX9_begin_12 : decode cX9_begin 12 = .ok (.iload_n 2, 1) := by decide +kernel
theorem dX9_begin_13 : decode cX9_begin 13 = .ok (.iload_n 1, 1) := by decide +kernel
theorem dX9_begin_14 : decode cX9_begin 14 = .ok (.if_icmp .ge 23, 3) := by decide +kernel
theorem dX9_begin_17 : decode cX9_begin 17 = .ok (.aload_n 0, 1) := by decide +kernel
theorem dX9_begin_18 : decode cX9_begin 18 = .ok (.getfield 69, 3) := by decide +kernel
theorem dX9_begin_21 : decode cX9_begin 21 = .ok (.iload_n 2, 1) := by decide +kernel
theorem dX9_begin_22 : decode cX9_begin 22 = .ok (.iload_n 2, 1) := by decide +kernel
theorem dX9_begin_23 : decode cX9_begin 23 = .ok (.iastore, 1) := by decide +kernel
theorem dX9_begin_24 : decode cX9_begin 24 = .ok (.aload_n 0, 1) := by decide +kernel
theorem dX9_begin_25 : decode cX9_begin 25 = .ok (.getfield 66, 3) := by decide +kernel
theorem dX9_begin_28 : decode cX9_begin 28 = .ok (.iload_n 2, 1) := by decide +kernel
theorem dX9_begin_29 : decode cX9_begin 29 = .ok (.iconst (-1), 1) := by decide +kernel
theorem dX9_begin_30 : decode cX9_begin 30 = .ok (.iastore, 1) := by decide +kernel
theorem dX9_begin_31 : decode cX9_begin 31 = .ok (.iinc 2 1, 3) := by decide +kernel
theorem dX9_begin_34 : decode cX9_begin 34 = .ok (.goto (-22), 3) := by decide +kernel
theorem dX9_begin_37 : decode cX9_begin 37 = .ok (.return_, 1) := by decide +kernel
theorem dX9_beginPlaces_0 : decode cX9_beginPlaces 0 = .ok (.aload_n 0, 1) := by decide +kernel
theorem dX9_beginPlaces_1 : decode cX9_beginPlaces 1 = .ok (.aload_n 0, 1) := by decide +kernel
theorem dX9_beginPlaces_2 : decode cX9_beginPlaces 2 = .ok (.getfield 18, 3) := by decide +kernel
theorem dX9_beginPlaces_5 : decode cX9_beginPlaces 5 = .ok (.invokevirtual 130, 3) := by decide +kernel
theorem dX9_beginPlaces_8 : decode cX9_beginPlaces 8 = .ok (.aload_n 0, 1) := by decide +kernel
theorem dX9_beginPlaces_9 : decode cX9_beginPlaces 9 = .ok (.getfield 134, 3) := by decide +kernel
theorem dX9_beginPlaces_12 : decode cX9_beginPlaces 12 = .ok (.ifCond .ne 4, 3) := by decide +kernel
theorem dX9_beginPlaces_15 : decode cX9_beginPlaces 15 = .ok (.return_, 1) := by decide +kernel
theorem dX9_beginPlaces_16 : decode cX9_beginPlaces 16 = .ok (.iconst 0, 1) := by decide +kernel
theorem dX9_beginPlaces_17 : decode cX9_beginPlaces 17 = .ok (.istore_n 1, 1) := by decide +kernel
theorem dX9_beginPlaces_18 : decode cX9_beginPlaces 18 = .ok (.iconst 0, 1) := by decide +kernel
theorem dX9_beginPlaces_19 : decode cX9_beginPlaces 19 = .ok (.istore_n 2, 1) := by decide +kernel
theorem dX9_beginPlaces_20 : decode cX9_beginPlaces 20 = .ok (.iload_n 2, 1) := by decide +kernel
theorem dX9_beginPlaces_21 : decode cX9_beginPlaces 21 = .ok (.aload_n 0, 1) := by decide +kernel
theorem dX9_beginPlaces_22 : decode cX9_beginPlaces 22 = .ok (.getfield 9, 3) := by decide +kernel
theorem dX9_beginPlaces_25 : decode cX9_beginPlaces 25 = .ok (.if_icmp .gt 43, 3) := by decide +kernel
theorem dX9_beginPlaces_28 : decode cX9_beginPlaces 28 = .ok (.iconst 0, 1) := by decide +kernel
theorem dX9_beginPlaces_29 : decode cX9_beginPlaces 29 = .ok (.istore_n 3, 1) := by decide +kernel
theorem dX9_beginPlaces_30 : decode cX9_beginPlaces 30 = .ok (.iload_n 3, 1) := by decide +kernel
theorem dX9_beginPlaces_31 : decode cX9_beginPlaces 31 = .ok (.aload_n 0, 1) := by decide +kernel
theorem dX9_beginPlaces_32 : decode cX9_beginPlaces 32 = .ok (.getfield 18, 3) := by decide +kernel
theorem dX9_beginPlaces_35 : decode cX9_beginPlaces 35 = .ok (.if_icmp .ge 27, 3) := by decide +kernel
theorem dX9_beginPlaces_38 : decode cX9_beginPlaces 38 = .ok (.iload_n 3, 1) := by decide +kernel
theorem dX9_beginPlaces_39 : decode cX9_beginPlaces 39 = .ok (.invokestatic 137, 3) := by decide +kernel
theorem dX9_beginPlaces_42 : decode cX9_beginPlaces 42 = .ok (.iload_n 2, 1) := by decide +kernel
theorem dX9_beginPlaces_43 : decode cX9_beginPlaces 43 = .ok (.if_icmp .ne 13, 3) := by decide +kernel
theorem dX9_beginPlaces_46 : decode cX9_beginPlaces 46 = .ok (.aload_n 0, 1) := by decide +kernel
theorem dX9_beginPlaces_47 : decode cX9_beginPlaces 47 = .ok (.getfield 69, 3) := by decide +kernel
theorem dX9_beginPlaces_50 : decode cX9_beginPlaces 50 = .ok (.iload_n 1, 1) := by decide +kernel
theorem dX9_beginPlaces_51 : decode cX9_beginPlaces 51 = .ok (.iinc 1 1, 3) := by decide +kernel
theorem dX9_beginPlaces_54 : decode cX9_beginPlaces 54 = .ok (.iload_n 3, 1) := by decide +kernel
theorem dX9_beginPlaces_55 : decode cX9_beginPlaces 55 = .ok (.iastore, 1) := by decide +kernel
theorem dX9_beginPlaces_56 : decode cX9_beginPlaces 56 = .ok (.iinc 3 1, 3) := by decide +kernel
theorem dX9_beginPlaces_59 : decode cX9_beginPlaces 59 = .ok (.goto (-29), 3) := by decide +kernel
theorem dX9_beginPlaces_62 : decode cX9_beginPlaces 62 = .ok (.iinc 2 1, 3) := by decide +kernel
theorem dX9_beginPlaces_65 : decode cX9_beginPlaces 65 = .ok (.goto (-45), 3) := by decide +kernel
theorem dX9_beginPlaces_68 : decode cX9_beginPlaces 68 = .ok (.return_, 1) := by decide +kernel
theorem dX9_reduce_0 : decode cX9_reduce 0 = .ok (.iconst 0, 1) := by decide +kernel
theorem dX9_reduce_1 : decode cX9_reduce 1 = .ok (.istore_n 1, 1) := by decide +kernel
theorem dX9_reduce_2 : decode cX9_reduce 2 = .ok (.iload_n 1, 1) := by decide +kernel
theorem dX9_reduce_3 : decode cX9_reduce 3 = .ok (.aload_n 0, 1) := by decide +kernel
theorem dX9_reduce_4 : decode cX9_reduce 4 = .ok (.getfield 127, 3) := by decide +kernel
theorem dX9_reduce_7 : decode cX9_reduce 7 = .ok (.if_icmp .ge 103, 3) := by decide +kernel
theorem dX9_reduce_10 : decode cX9_reduce 10 = .ok (.aload_n 0, 1) := by decide +kernel
theorem dX9_reduce_11 : decode cX9_reduce 11 = .ok (.getfield 69, 3) := by decide +kernel
theorem dX9_reduce_14 : decode cX9_reduce 14 = .ok (.iload_n 1, 1) := by decide +kernel
theorem dX9_reduce_15 : decode cX9_reduce 15 = .ok (.iaload, 1) := by decide +kernel
theorem dX9_reduce_16 : decode cX9_reduce 16 = .ok (.istore_n 2, 1) := by decide +kernel
theorem dX9_reduce_17 : decode cX9_reduce 17 = .ok (.aload_n 0, 1) := by decide +kernel
theorem dX9_reduce_18 : decode cX9_reduce 18 = .ok (.getfield 72, 3) := by decide +kernel
theorem dX9_reduce_21 : decode cX9_reduce 21 = .ok (.iload_n 2, 1) := by decide +kernel
theorem dX9_reduce_22 : decode cX9_reduce 22 = .ok (.iaload, 1) := by decide +kernel
theorem dX9_reduce_23 : decode cX9_reduce 23 = .ok (.istore_n 3, 1) := by decide +kernel
theorem dX9_reduce_24 : decode cX9_reduce 24 = .ok (.iload_n 3, 1) := by decide +kernel
theorem dX9_reduce_25 : decode cX9_reduce 25 = .ok (.ifCond .eq 79, 3) := by decide +kernel
theorem dX9_reduce_28 : decode cX9_reduce 28 = .ok (.aload_n 0, 1) := by decide +kernel
theorem dX9_reduce_29 : decode cX9_reduce 29 = .ok (.getfield 66, 3) := by decide +kernel
theorem dX9_reduce_32 : decode cX9_reduce 32 = .ok (.iload_n 2, 1) := by decide +kernel
theorem dX9_reduce_33 : decode cX9_reduce 33 = .ok (.iaload, 1) := by decide +kernel
theorem dX9_reduce_34 : decode cX9_reduce 34 = .ok (.ifCond .ge 6, 3) := by decide +kernel
theorem dX9_reduce_37 : decode cX9_reduce 37 = .ok (.goto 67, 3) := by decide +kernel
theorem dX9_reduce_40 : decode cX9_reduce 40 = .ok (.sipush 256, 3) := by decide +kernel
theorem dX9_reduce_43 : decode cX9_reduce 43 = .ok (.aload_n 0, 1) := by decide +kernel
theorem dX9_reduce_44 : decode cX9_reduce 44 = .ok (.getfield 66, 3) := by decide +kernel
theorem dX9_reduce_47 : decode cX9_reduce 47 = .ok (.iload_n 2, 1) := by decide +kernel
theorem dX9_reduce_48 : decode cX9_reduce 48 = .ok (.iaload, 1) := by decide +kernel
theorem dX9_reduce_49 : decode cX9_reduce 49 = .ok (.imul, 1) := by decide +kernel
theorem dX9_reduce_50 : decode cX9_reduce 50 = .ok (.istore 4, 2) := by decide +kernel
theorem dX9_reduce_52 : decode cX9_reduce 52 = .ok (.iconst 0, 1) := by decide +kernel
theorem dX9_reduce_53 : decode cX9_reduce 53 = .ok (.istore 5, 2) := by decide +kernel
theorem dX9_reduce_55 : decode cX9_reduce 55 = .ok (.iload 5, 2) := by decide +kernel
theorem dX9_reduce_57 : decode cX9_reduce 57 = .ok (.aload_n 0, 1) := by decide +kernel
theorem dX9_reduce_58 : decode cX9_reduce 58 = .ok (.getfield 127, 3) := by decide +kernel
theorem dX9_reduce_61 : decode cX9_reduce 61 = .ok (.if_icmp .ge 43, 3) := by decide +kernel
theorem dX9_reduce_64 : decode cX9_reduce 64 = .ok (.aload_n 0, 1) := by decide +kernel
theorem dX9_reduce_65 : decode cX9_reduce 65 = .ok (.getfield 72, 3) := by decide +kernel
theorem dX9_reduce_68 : decode cX9_reduce 68 = .ok (.iload 5, 2) := by decide +kernel
theorem dX9_reduce_70 : decode cX9_reduce 70 = .ok (.aload_n 0, 1) := by decide +kernel
theorem dX9_reduce_71 : decode cX9_reduce 71 = .ok (.aload_n 0, 1) := by decide +kernel
theorem dX9_reduce_72 : decode cX9_reduce 72 = .ok (.getfield 72, 3) := by decide +kernel
theorem dX9_reduce_75 : decode cX9_reduce 75 = .ok (.iload 5, 2) := by decide +kernel
theorem dX9_reduce_77 : decode cX9_reduce 77 = .ok (.iaload, 1) := by decide +kernel
theorem dX9_reduce_78 : decode cX9_reduce 78 = .ok (.i2l, 1) := by decide +kernel
theorem dX9_reduce_79 : decode cX9_reduce 79 = .ok (.iload_n 3, 1) := by decide +kernel
theorem dX9_reduce_80 : decode cX9_reduce 80 = .ok (.i2l, 1) := by decide +kernel
theorem dX9_reduce_81 : decode cX9_reduce 81 = .ok (.aload_n 0, 1) := by decide +kernel
theorem dX9_reduce_82 : decode cX9_reduce 82 = .ok (.getfield 60, 3) := by decide +kernel
theorem dX9_reduce_85 : decode cX9_reduce 85 = .ok (.iload 4, 2) := by decide +kernel
theorem dX9_reduce_87 : decode cX9_reduce 87 = .ok (.iload 5, 2) := by decide +kernel
theorem dX9_reduce_89 : decode cX9_reduce 89 = .ok (.iadd, 1) := by decide +kernel
theorem dX9_reduce_90 : decode cX9_reduce 90 = .ok (.iaload, 1) := by decide +kernel
theorem dX9_reduce_91 : decode cX9_reduce 91 = .ok (.i2l, 1) := by decide +kernel
theorem dX9_reduce_92 : decode cX9_reduce 92 = .ok (.lmul, 1) := by decide +kernel
theorem dX9_reduce_93 : decode cX9_reduce 93 = .ok (.lsub, 1) := by decide +kernel
theorem dX9_reduce_94 : decode cX9_reduce 94 = .ok (.invokevirtual 120, 3) := by decide +kernel
theorem dX9_reduce_97 : decode cX9_reduce 97 = .ok (.iastore, 1) := by decide +kernel
theorem dX9_reduce_98 : decode cX9_reduce 98 = .ok (.iinc 5 1, 3) := by decide +kernel
theorem dX9_reduce_101 : decode cX9_reduce 101 = .ok (.goto (-46), 3) := by decide +kernel
theorem dX9_reduce_104 : decode cX9_reduce 104 = .ok (.iinc 1 1, 3) := by decide +kernel
theorem dX9_reduce_107 : decode cX9_reduce 107 = .ok (.goto (-105), 3) := by decide +kernel
theorem dX9_reduce_110 : decode cX9_reduce 110 = .ok (.return_, 1) := by decide +kernel
theorem dX9_comes_0 : decode cX9_comes 0 = .ok (.aload_n 0, 1) := by decide +kernel
theorem dX9_comes_1 : decode cX9_comes 1 = .ok (.invokevirtual 140, 3) := by decide +kernel
theorem dX9_comes_4 : decode cX9_comes 4 = .ok (.iconst (-1), 1) := by decide +kernel
theorem dX9_comes_5 : decode cX9_comes 5 = .ok (.istore_n 1, 1) := by decide +kernel
theorem dX9_comes_6 : decode cX9_comes 6 = .ok (.iconst 0, 1) := by decide +kernel
theorem dX9_comes_7 : decode cX9_comes 7 = .ok (.istore_n 2, 1) := by decide +kernel
theorem dX9_comes_8 : decode cX9_comes 8 = .ok (.iload_n 2, 1) := by decide +kernel
theorem dX9_comes_9 : decode cX9_comes 9 = .ok (.aload_n 0, 1) := by decide +kernel
theorem dX9_comes_10 : decode cX9_comes 10 = .ok (.getfield 127, 3) := by decide +kernel
theorem dX9_comes_13 : decode cX9_comes 13 = .ok (.if_icmp .ge 34, 3) := by decide +kernel
theorem dX9_comes_16 : decode cX9_comes 16 = .ok (.iload_n 1, 1) := by decide +kernel
theorem dX9_comes_17 : decode cX9_comes 17 = .ok (.ifCond .ge 30, 3) := by decide +kernel
theorem dX9_comes_20 : decode cX9_comes 20 = .ok (.aload_n 0, 1) := by decide +kernel
theorem dX9_comes_21 : decode cX9_comes 21 = .ok (.getfield 72, 3) := by decide +kernel
theorem dX9_comes_24 : decode cX9_comes 24 = .ok (.aload_n 0, 1) := by decide +kernel
theorem dX9_comes_25 : decode cX9_comes 25 = .ok (.getfield 69, 3) := by decide +kernel
theorem dX9_comes_28 : decode cX9_comes 28 = .ok (.iload_n 2, 1) := by decide +kernel
theorem dX9_comes_29 : decode cX9_comes 29 = .ok (.iaload, 1) := by decide +kernel
theorem dX9_comes_30 : decode cX9_comes 30 = .ok (.iaload, 1) := by decide +kernel
theorem dX9_comes_31 : decode cX9_comes 31 = .ok (.ifCond .eq 10, 3) := by decide +kernel
theorem dX9_comes_34 : decode cX9_comes 34 = .ok (.aload_n 0, 1) := by decide +kernel
theorem dX9_comes_35 : decode cX9_comes 35 = .ok (.getfield 69, 3) := by decide +kernel
theorem dX9_comes_38 : decode cX9_comes 38 = .ok (.iload_n 2, 1) := by decide +kernel
theorem dX9_comes_39 : decode cX9_comes 39 = .ok (.iaload, 1) := by decide +kernel
theorem dX9_comes_40 : decode cX9_comes 40 = .ok (.istore_n 1, 1) := by decide +kernel
theorem dX9_comes_41 : decode cX9_comes 41 = .ok (.iinc 2 1, 3) := by decide +kernel
theorem dX9_comes_44 : decode cX9_comes 44 = .ok (.goto (-36), 3) := by decide +kernel
theorem dX9_comes_47 : decode cX9_comes 47 = .ok (.iload_n 1, 1) := by decide +kernel
theorem dX9_comes_48 : decode cX9_comes 48 = .ok (.ifCond .ge 5, 3) := by decide +kernel
theorem dX9_comes_51 : decode cX9_comes 51 = .ok (.iconst 0, 1) := by decide +kernel
theorem dX9_comes_52 : decode cX9_comes 52 = .ok (.ireturn, 1) := by decide +kernel
theorem dX9_comes_53 : decode cX9_comes 53 = .ok (.aload_n 0, 1) := by decide +kernel
theorem dX9_comes_54 : decode cX9_comes 54 = .ok (.aload_n 0, 1) := by decide +kernel
theorem dX9_comes_55 : decode cX9_comes 55 = .ok (.getfield 72, 3) := by decide +kernel
theorem dX9_comes_58 : decode cX9_comes 58 = .ok (.iload_n 1, 1) := by decide +kernel
theorem dX9_comes_59 : decode cX9_comes 59 = .ok (.iaload, 1) := by decide +kernel
theorem dX9_comes_60 : decode cX9_comes 60 = .ok (.invokevirtual 143, 3) := by decide +kernel
theorem dX9_comes_63 : decode cX9_comes 63 = .ok (.istore_n 2, 1) := by decide +kernel
theorem dX9_comes_64 : decode cX9_comes 64 = .ok (.iconst 0, 1) := by decide +kernel
theorem dX9_comes_65 : decode cX9_comes 65 = .ok (.istore_n 3, 1) := by decide +kernel
theorem dX9_comes_66 : decode cX9_comes 66 = .ok (.iload_n 3, 1) := by decide +kernel
theorem dX9_comes_67 : decode cX9_comes 67 = .ok (.aload_n 0, 1) := by decide +kernel
theorem dX9_comes_68 : decode cX9_comes 68 = .ok (.getfield 127, 3) := by decide +kernel
theorem dX9_comes_71 : decode cX9_comes 71 = .ok (.if_icmp .ge 29, 3) := by decide +kernel
theorem dX9_comes_74 : decode cX9_comes 74 = .ok (.aload_n 0, 1) := by decide +kernel
theorem dX9_comes_75 : decode cX9_comes 75 = .ok (.getfield 72, 3) := by decide +kernel
theorem dX9_comes_78 : decode cX9_comes 78 = .ok (.iload_n 3, 1) := by decide +kernel
theorem dX9_comes_79 : decode cX9_comes 79 = .ok (.aload_n 0, 1) := by decide +kernel
theorem dX9_comes_80 : decode cX9_comes 80 = .ok (.iload_n 2, 1) := by decide +kernel
theorem dX9_comes_81 : decode cX9_comes 81 = .ok (.i2l, 1) := by decide +kernel
theorem dX9_comes_82 : decode cX9_comes 82 = .ok (.aload_n 0, 1) := by decide +kernel
theorem dX9_comes_83 : decode cX9_comes 83 = .ok (.getfield 72, 3) := by decide +kernel
theorem dX9_comes_86 : decode cX9_comes 86 = .ok (.iload_n 3, 1) := by decide +kernel
theorem dX9_comes_87 : decode cX9_comes 87 = .ok (.iaload, 1) := by decide +kernel
theorem dX9_comes_88 : decode cX9_comes 88 = .ok (.i2l, 1) := by decide +kernel
theorem dX9_comes_89 : decode cX9_comes 89 = .ok (.lmul, 1) := by decide +kernel
theorem dX9_comes_90 : decode cX9_comes 90 = .ok (.invokevirtual 120, 3) := by decide +kernel
theorem dX9_comes_93 : decode cX9_comes 93 = .ok (.iastore, 1) := by decide +kernel
theorem dX9_comes_94 : decode cX9_comes 94 = .ok (.iinc 3 1, 3) := by decide +kernel
theorem dX9_comes_97 : decode cX9_comes 97 = .ok (.goto (-31), 3) := by decide +kernel
theorem dX9_comes_100 : decode cX9_comes 100 = .ok (.iconst 0, 1) := by decide +kernel
theorem dX9_comes_101 : decode cX9_comes 101 = .ok (.istore_n 3, 1) := by decide +kernel
theorem dX9_comes_102 : decode cX9_comes 102 = .ok (.iload_n 3, 1) := by decide +kernel
theorem dX9_comes_103 : decode cX9_comes 103 = .ok (.aload_n 0, 1) := by decide +kernel
theorem dX9_comes_104 : decode cX9_comes 104 = .ok (.getfield 124, 3) := by decide +kernel
theorem dX9_comes_107 : decode cX9_comes 107 = .ok (.if_icmp .ge 93, 3) := by decide +kernel
theorem dX9_comes_110 : decode cX9_comes 110 = .ok (.aload_n 0, 1) := by decide +kernel
theorem dX9_comes_111 : decode cX9_comes 111 = .ok (.getfield 60, 3) := by decide +kernel
theorem dX9_comes_114 : decode cX9_comes 114 = .ok (.sipush 256, 3) := by decide +kernel
theorem dX9_comes_117 : decode cX9_comes 117 = .ok (.iload_n 3, 1) := by decide +kernel
theorem dX9_comes_118 : decode cX9_comes 118 = .ok (.imul, 1) := by decide +kernel
theorem dX9_comes_119 : decode cX9_comes 119 = .ok (.iload_n 1, 1) := by decide +kernel
theorem dX9_comes_120 : decode cX9_comes 120 = .ok (.iadd, 1) := by decide +kernel
theorem dX9_comes_121 : decode cX9_comes 121 = .ok (.iaload, 1) := by decide +kernel
theorem dX9_comes_122 : decode cX9_comes 122 = .ok (.istore 4, 2) := by decide +kernel
theorem dX9_comes_124 : decode cX9_comes 124 = .ok (.iload 4, 2) := by decide +kernel
theorem dX9_comes_126 : decode cX9_comes 126 = .ok (.ifCond .ne 6, 3) := by decide +kernel
theorem dX9_comes_129 : decode cX9_comes 129 = .ok (.goto 65, 3) := by decide +kernel
theorem dX9_comes_132 : decode cX9_comes 132 = .ok (.iconst 0, 1) := by decide +kernel
theorem dX9_comes_133 : decode cX9_comes 133 = .ok (.istore 5, 2) := by decide +kernel
theorem dX9_comes_135 : decode cX9_comes 135 = .ok (.iload 5, 2) := by decide +kernel
theorem dX9_comes_137 : decode cX9_comes 137 = .ok (.aload_n 0, 1) := by decide +kernel
theorem dX9_comes_138 : decode cX9_comes 138 = .ok (.getfield 127, 3) := by decide +kernel
theorem dX9_comes_141 : decode cX9_comes 141 = .ok (.if_icmp .ge 53, 3) := by decide +kernel
theorem dX9_comes_144 : decode cX9_comes 144 = .ok (.aload_n 0, 1) := by decide +kernel
theorem dX9_comes_145 : decode cX9_comes 145 = .ok (.getfield 60, 3) := by decide +kernel
theorem dX9_comes_148 : decode cX9_comes 148 = .ok (.sipush 256, 3) := by decide +kernel
theorem dX9_comes_151 : decode cX9_comes 151 = .ok (.iload_n 3, 1) := by decide +kernel
theorem dX9_comes_152 : decode cX9_comes 152 = .ok (.imul, 1) := by decide +kernel
theorem dX9_comes_153 : decode cX9_comes 153 = .ok (.iload 5, 2) := by decide +kernel
theorem dX9_comes_155 : decode cX9_comes 155 = .ok (.iadd, 1) := by decide +kernel
theorem dX9_comes_156 : decode cX9_comes 156 = .ok (.aload_n 0, 1) := by decide +kernel
theorem dX9_comes_157 : decode cX9_comes 157 = .ok (.aload_n 0, 1) := by decide +kernel
theorem dX9_comes_158 : decode cX9_comes 158 = .ok (.getfield 60, 3) := by decide +kernel
theorem dX9_comes_161 : decode cX9_comes 161 = .ok (.sipush 256, 3) := by decide +kernel
