theorem dX4_hasGenerator_13 : decode cX4_hasGenerator 13 = .ok (.goto 4, 3) := by decide +kernel
theorem dX4_hasGenerator_16 : decode cX4_hasGenerator 16 = .ok (.iconst 0, 1) := by decide +kernel
theorem dX4_hasGenerator_17 : decode cX4_hasGenerator 17 = .ok (.ireturn, 1) := by decide +kernel
theorem dX4_hasSpot_0 : decode cX4_hasSpot 0 = .ok (.iload_n 1, 1) := by decide +kernel
theorem dX4_hasSpot_1 : decode cX4_hasSpot 1 = .ok (.ifCond .lt 29, 3) := by decide +kernel
theorem dX4_hasSpot_4 : decode cX4_hasSpot 4 = .ok (.aload_n 0, 1) := by decide +kernel
theorem dX4_hasSpot_5 : decode cX4_hasSpot 5 = .ok (.iload_n 1, 1) := by decide +kernel
theorem dX4_hasSpot_6 : decode cX4_hasSpot 6 = .ok (.bipush 100, 2) := by decide +kernel
theorem dX4_hasSpot_8 : decode cX4_hasSpot 8 = .ok (.idiv, 1) := by decide +kernel
theorem dX4_hasSpot_9 : decode cX4_hasSpot 9 = .ok (.invokevirtual 58, 3) := by decide +kernel
theorem dX4_hasSpot_12 : decode cX4_hasSpot 12 = .ok (.ifCond .eq 18, 3) := by decide +kernel
theorem dX4_hasSpot_15 : decode cX4_hasSpot 15 = .ok (.aload_n 0, 1) := by decide +kernel
theorem dX4_hasSpot_16 : decode cX4_hasSpot 16 = .ok (.iload_n 1, 1) := by decide +kernel
theorem dX4_hasSpot_17 : decode cX4_hasSpot 17 = .ok (.bipush 100, 2) := by decide +kernel
theorem dX4_hasSpot_19 : decode cX4_hasSpot 19 = .ok (.irem, 1) := by decide +kernel
theorem dX4_hasSpot_20 : decode cX4_hasSpot 20 = .ok (.invokevirtual 62, 3) := by decide +kernel
theorem dX4_hasSpot_23 : decode cX4_hasSpot 23 = .ok (.ifCond .eq 7, 3) := by decide +kernel
theorem dX4_hasSpot_26 : decode cX4_hasSpot 26 = .ok (.iconst 1, 1) := by decide +kernel
theorem dX4_hasSpot_27 : decode cX4_hasSpot 27 = .ok (.goto 4, 3) := by decide +kernel
theorem dX4_hasSpot_30 : decode cX4_hasSpot 30 = .ok (.iconst 0, 1) := by decide +kernel
theorem dX4_hasSpot_31 : decode cX4_hasSpot 31 = .ok (.ireturn, 1) := by decide +kernel
theorem dX4_takeLetters_0 : decode cX4_takeLetters 0 = .ok (.iload_n 1, 1) := by decide +kernel
theorem dX4_takeLetters_1 : decode cX4_takeLetters 1 = .ok (.iconst 2, 1) := by decide +kernel
theorem dX4_takeLetters_2 : decode cX4_takeLetters 2 = .ok (.if_icmp .lt 8, 3) := by decide +kernel
theorem dX4_takeLetters_5 : decode cX4_takeLetters 5 = .ok (.iload_n 1, 1) := by decide +kernel
theorem dX4_takeLetters_6 : decode cX4_takeLetters 6 = .ok (.iconst 4, 1) := by decide +kernel
theorem dX4_takeLetters_7 : decode cX4_takeLetters 7 = .ok (.if_icmp .le 5, 3) := by decide +kernel
theorem dX4_takeLetters_10 : decode cX4_takeLetters 10 = .ok (.iconst 0, 1) := by decide +kernel
theorem dX4_takeLetters_11 : decode cX4_takeLetters 11 = .ok (.ireturn, 1) := by decide +kernel
theorem dX4_takeLetters_12 : decode cX4_takeLetters 12 = .ok (.aload_n 0, 1) := by decide +kernel
theorem dX4_takeLetters_13 : decode cX4_takeLetters 13 = .ok (.iload_n 1, 1) := by decide +kernel
theorem dX4_takeLetters_14 : decode cX4_takeLetters 14 = .ok (.putfield 9, 3) := by decide +kernel
theorem dX4_takeLetters_17 : decode cX4_takeLetters 17 = .ok (.aload_n 0, 1) := by decide +kernel
theorem dX4_takeLetters_18 : decode cX4_takeLetters 18 = .ok (.invokevirtual 65, 3) := by decide +kernel
theorem dX4_takeLetters_21 : decode cX4_takeLetters 21 = .ok (.iconst 1, 1) := by decide +kernel
theorem dX4_takeLetters_22 : decode cX4_takeLetters 22 = .ok (.ireturn, 1) := by decide +kernel
theorem dX4_takePrime_0 : decode cX4_takePrime 0 = .ok (.iload_n 1, 1) := by decide +kernel
theorem dX4_takePrime_1 : decode cX4_takePrime 1 = .ok (.iconst 2, 1) := by decide +kernel
theorem dX4_takePrime_2 : decode cX4_takePrime 2 = .ok (.if_icmp .eq 21, 3) := by decide +kernel
theorem dX4_takePrime_5 : decode cX4_takePrime 5 = .ok (.iload_n 1, 1) := by decide +kernel
theorem dX4_takePrime_6 : decode cX4_takePrime 6 = .ok (.iconst 3, 1) := by decide +kernel
theorem dX4_takePrime_7 : decode cX4_takePrime 7 = .ok (.if_icmp .eq 16, 3) := by decide +kernel
theorem dX4_takePrime_10 : decode cX4_takePrime 10 = .ok (.iload_n 1, 1) := by decide +kernel
theorem dX4_takePrime_11 : decode cX4_takePrime 11 = .ok (.iconst 5, 1) := by decide +kernel
theorem dX4_takePrime_12 : decode cX4_takePrime 12 = .ok (.if_icmp .eq 11, 3) := by decide +kernel
theorem dX4_takePrime_15 : decode cX4_takePrime 15 = .ok (.iload_n 1, 1) := by decide +kernel
theorem dX4_takePrime_16 : decode cX4_takePrime 16 = .ok (.bipush 7, 2) := by decide +kernel
theorem dX4_takePrime_18 : decode cX4_takePrime 18 = .ok (.if_icmp .eq 5, 3) := by decide +kernel
theorem dX4_takePrime_21 : decode cX4_takePrime 21 = .ok (.iconst 0, 1) := by decide +kernel
theorem dX4_takePrime_22 : decode cX4_takePrime 22 = .ok (.ireturn, 1) := by decide +kernel
theorem dX4_takePrime_23 : decode cX4_takePrime 23 = .ok (.aload_n 0, 1) := by decide +kernel
theorem dX4_takePrime_24 : decode cX4_takePrime 24 = .ok (.iload_n 1, 1) := by decide +kernel
theorem dX4_takePrime_25 : decode cX4_takePrime 25 = .ok (.putfield 15, 3) := by decide +kernel
theorem dX4_takePrime_28 : decode cX4_takePrime 28 = .ok (.aload_n 0, 1) := by decide +kernel
theorem dX4_takePrime_29 : decode cX4_takePrime 29 = .ok (.invokevirtual 65, 3) := by decide +kernel
theorem dX4_takePrime_32 : decode cX4_takePrime 32 = .ok (.iconst 1, 1) := by decide +kernel
theorem dX4_takePrime_33 : decode cX4_takePrime 33 = .ok (.ireturn, 1) := by decide +kernel
theorem dX4_beginAnew_0 : decode cX4_beginAnew 0 = .ok (.iconst 0, 1) := by decide +kernel
theorem dX4_beginAnew_1 : decode cX4_beginAnew 1 = .ok (.istore_n 1, 1) := by decide +kernel
theorem dX4_beginAnew_2 : decode cX4_beginAnew 2 = .ok (.iload_n 1, 1) := by decide +kernel
theorem dX4_beginAnew_3 : decode cX4_beginAnew 3 = .ok (.bipush 6, 2) := by decide +kernel
theorem dX4_beginAnew_5 : decode cX4_beginAnew 5 = .ok (.if_icmp .ge 32, 3) := by decide +kernel
theorem dX4_beginAnew_8 : decode cX4_beginAnew 8 = .ok (.iconst 0, 1) := by decide +kernel
theorem dX4_beginAnew_9 : decode cX4_beginAnew 9 = .ok (.istore_n 2, 1) := by decide +kernel
theorem dX4_beginAnew_10 : decode cX4_beginAnew 10 = .ok (.iload_n 2, 1) := by decide +kernel
theorem dX4_beginAnew_11 : decode cX4_beginAnew 11 = .ok (.bipush 16, 2) := by decide +kernel
theorem dX4_beginAnew_13 : decode cX4_beginAnew 13 = .ok (.if_icmp .ge 18, 3) := by decide +kernel
theorem dX4_beginAnew_16 : decode cX4_beginAnew 16 = .ok (.aload_n 0, 1) := by decide +kernel
theorem dX4_beginAnew_17 : decode cX4_beginAnew 17 = .ok (.getfield 23, 3) := by decide +kernel
theorem dX4_beginAnew_20 : decode cX4_beginAnew 20 = .ok (.iload_n 1, 1) := by decide +kernel
theorem dX4_beginAnew_21 : decode cX4_beginAnew 21 = .ok (.aaload, 1) := by decide +kernel
theorem dX4_beginAnew_22 : decode cX4_beginAnew 22 = .ok (.iload_n 2, 1) := by decide +kernel
theorem dX4_beginAnew_23 : decode cX4_beginAnew 23 = .ok (.iconst 0, 1) := by decide +kernel
theorem dX4_beginAnew_24 : decode cX4_beginAnew 24 = .ok (.iastore, 1) := by decide +kernel
theorem dX4_beginAnew_25 : decode cX4_beginAnew 25 = .ok (.iinc 2 1, 3) := by decide +kernel
theorem dX4_beginAnew_28 : decode cX4_beginAnew 28 = .ok (.goto (-18), 3) := by decide +kernel
theorem dX4_beginAnew_31 : decode cX4_beginAnew 31 = .ok (.iinc 1 1, 3) := by decide +kernel
theorem dX4_beginAnew_34 : decode cX4_beginAnew 34 = .ok (.goto (-32), 3) := by decide +kernel
theorem dX4_beginAnew_37 : decode cX4_beginAnew 37 = .ok (.aload_n 0, 1) := by decide +kernel
theorem dX4_beginAnew_38 : decode cX4_beginAnew 38 = .ok (.invokevirtual 68, 3) := by decide +kernel
theorem dX4_beginAnew_41 : decode cX4_beginAnew 41 = .ok (.return_, 1) := by decide +kernel
theorem dX4_takeKind_0 : decode cX4_takeKind 0 = .ok (.iload_n 1, 1) := by decide +kernel
theorem dX4_takeKind_1 : decode cX4_takeKind 1 = .ok (.invokestatic 71, 3) := by decide +kernel
theorem dX4_takeKind_4 : decode cX4_takeKind 4 = .ok (.ifCond .ne 5, 3) := by decide +kernel
theorem dX4_takeKind_7 : decode cX4_takeKind 7 = .ok (.iconst 0, 1) := by decide +kernel
theorem dX4_takeKind_8 : decode cX4_takeKind 8 = .ok (.ireturn, 1) := by decide +kernel
theorem dX4_takeKind_9 : decode cX4_takeKind 9 = .ok (.aload_n 0, 1) := by decide +kernel
theorem dX4_takeKind_10 : decode cX4_takeKind 10 = .ok (.iload_n 1, 1) := by decide +kernel
theorem dX4_takeKind_11 : decode cX4_takeKind 11 = .ok (.putfield 18, 3) := by decide +kernel
theorem dX4_takeKind_14 : decode cX4_takeKind 14 = .ok (.aload_n 0, 1) := by decide +kernel
theorem dX4_takeKind_15 : decode cX4_takeKind 15 = .ok (.dup, 1) := by decide +kernel
theorem dX4_takeKind_16 : decode cX4_takeKind 16 = .ok (.getfield 51, 3) := by decide +kernel
theorem dX4_takeKind_19 : decode cX4_takeKind 19 = .ok (.iconst 1, 1) := by decide +kernel
theorem dX4_takeKind_20 : decode cX4_takeKind 20 = .ok (.iadd, 1) := by decide +kernel
theorem dX4_takeKind_21 : decode cX4_takeKind 21 = .ok (.putfield 51, 3) := by decide +kernel
theorem dX4_takeKind_24 : decode cX4_takeKind 24 = .ok (.iconst 1, 1) := by decide +kernel
theorem dX4_takeKind_25 : decode cX4_takeKind 25 = .ok (.ireturn, 1) := by decide +kernel
theorem dX4_replaceElement_0 : decode cX4_replaceElement 0 = .ok (.aload_n 0, 1) := by decide +kernel
theorem dX4_replaceElement_1 : decode cX4_replaceElement 1 = .ok (.iload_n 1, 1) := by decide +kernel
theorem dX4_replaceElement_2 : decode cX4_replaceElement 2 = .ok (.invokevirtual 58, 3) := by decide +kernel
theorem dX4_replaceElement_5 : decode cX4_replaceElement 5 = .ok (.ifCond .ne 5, 3) := by decide +kernel
theorem dX4_replaceElement_8 : decode cX4_replaceElement 8 = .ok (.iconst (-1), 1) := by decide +kernel
theorem dX4_replaceElement_9 : decode cX4_replaceElement 9 = .ok (.ireturn, 1) := by decide +kernel
theorem dX4_replaceElement_10 : decode cX4_replaceElement 10 = .ok (.aload_n 2, 1) := by decide +kernel
theorem dX4_replaceElement_11 : decode cX4_replaceElement 11 = .ok (.aload_n 0, 1) := by decide +kernel
theorem dX4_replaceElement_12 : decode cX4_replaceElement 12 = .ok (.getfield 23, 3) := by decide +kernel
theorem dX4_replaceElement_15 : decode cX4_replaceElement 15 = .ok (.iload_n 1, 1) := by decide +kernel
theorem dX4_replaceElement_16 : decode cX4_replaceElement 16 = .ok (.aaload, 1) := by decide +kernel
theorem dX4_replaceElement_17 : decode cX4_replaceElement 17 = .ok (.aload_n 0, 1) := by decide +kernel
theorem dX4_replaceElement_18 : decode cX4_replaceElement 18 = .ok (.invokevirtual 54, 3) := by decide +kernel
theorem dX4_replaceElement_21 : decode cX4_replaceElement 21 = .ok (.invokestatic 74, 3) := by decide +kernel
theorem dX4_replaceElement_24 : decode cX4_replaceElement 24 = .ok (.aload_n 2, 1) := by decide +kernel
theorem dX4_replaceElement_25 : decode cX4_replaceElement 25 = .ok (.aload_n 0, 1) := by decide +kernel
theorem dX4_replaceElement_26 : decode cX4_replaceElement 26 = .ok (.invokevirtual 54, 3) := by decide +kernel
theorem dX4_replaceElement_29 : decode cX4_replaceElement 29 = .ok (.invokestatic 80, 3) := by decide +kernel
theorem dX4_replaceElement_32 : decode cX4_replaceElement 32 = .ok (.ireturn, 1) := by decide +kernel
theorem dX4_addGenerator_0 : decode cX4_addGenerator 0 = .ok (.aload_n 0, 1) := by decide +kernel
theorem dX4_addGenerator_1 : decode cX4_addGenerator 1 = .ok (.iload_n 1, 1) := by decide +kernel
theorem dX4_addGenerator_2 : decode cX4_addGenerator 2 = .ok (.invokevirtual 58, 3) := by decide +kernel
theorem dX4_addGenerator_5 : decode cX4_addGenerator 5 = .ok (.ifCond .eq 11, 3) := by decide +kernel
theorem dX4_addGenerator_8 : decode cX4_addGenerator 8 = .ok (.aload_n 0, 1) := by decide +kernel
theorem dX4_addGenerator_9 : decode cX4_addGenerator 9 = .ok (.getfield 29, 3) := by decide +kernel
theorem dX4_addGenerator_12 : decode cX4_addGenerator 12 = .ok (.iconst 4, 1) := by decide +kernel
theorem dX4_addGenerator_13 : decode cX4_addGenerator 13 = .ok (.if_icmp .lt 5, 3) := by decide +kernel
theorem dX4_addGenerator_16 : decode cX4_addGenerator 16 = .ok (.iconst 0, 1) := by decide +kernel
theorem dX4_addGenerator_17 : decode cX4_addGenerator 17 = .ok (.ireturn, 1) := by decide +kernel
theorem dX4_addGenerator_18 : decode cX4_addGenerator 18 = .ok (.aload_n 0, 1) := by decide +kernel
theorem dX4_addGenerator_19 : decode cX4_addGenerator 19 = .ok (.getfield 23, 3) := by decide +kernel
theorem dX4_addGenerator_22 : decode cX4_addGenerator 22 = .ok (.iload_n 1, 1) := by decide +kernel
theorem dX4_addGenerator_23 : decode cX4_addGenerator 23 = .ok (.aaload, 1) := by decide +kernel
theorem dX4_addGenerator_24 : decode cX4_addGenerator 24 = .ok (.aload_n 0, 1) := by decide +kernel
theorem dX4_addGenerator_25 : decode cX4_addGenerator 25 = .ok (.getfield 26, 3) := by decide +kernel
theorem dX4_addGenerator_28 : decode cX4_addGenerator 28 = .ok (.aload_n 0, 1) := by decide +kernel
theorem dX4_addGenerator_29 : decode cX4_addGenerator 29 = .ok (.getfield 29, 3) := by decide +kernel
theorem dX4_addGenerator_32 : decode cX4_addGenerator 32 = .ok (.aaload, 1) := by decide +kernel
theorem dX4_addGenerator_33 : decode cX4_addGenerator 33 = .ok (.bipush 16, 2) := by decide +kernel
theorem dX4_addGenerator_35 : decode cX4_addGenerator 35 = .ok (.invokestatic 74, 3) := by decide +kernel
theorem dX4_addGenerator_38 : decode cX4_addGenerator 38 = .ok (.aload_n 0, 1) := by decide +kernel
theorem dX4_addGenerator_39 : decode cX4_addGenerator 39 = .ok (.dup, 1) := by decide +kernel
theorem dX4_addGenerator_40 : decode cX4_addGenerator 40 = .ok (.getfield 29, 3) := by decide +kernel
theorem dX4_addGenerator_43 : decode cX4_addGenerator 43 = .ok (.iconst 1, 1) := by decide +kernel
theorem dX4_addGenerator_44 : decode cX4_addGenerator 44 = .ok (.iadd, 1) := by decide +kernel
theorem dX4_addGenerator_45 : decode cX4_addGenerator 45 = .ok (.putfield 29, 3) := by decide +kernel
theorem dX4_addGenerator_48 : decode cX4_addGenerator 48 = .ok (.aload_n 0, 1) := by decide +kernel
theorem dX4_addGenerator_49 : decode cX4_addGenerator 49 = .ok (.dup, 1) := by decide +kernel
theorem dX4_addGenerator_50 : decode cX4_addGenerator 50 = .ok (.getfield 51, 3) := by decide +kernel
theorem dX4_addGenerator_53 : decode cX4_addGenerator 53 = .ok (.iconst 1, 1) := by decide +kernel
theorem dX4_addGenerator_54 : decode cX4_addGenerator 54 = .ok (.iadd, 1) := by decide +kernel
theorem dX4_addGenerator_55 : decode cX4_addGenerator 55 = .ok (.putfield 51, 3) := by decide +kernel
theorem dX4_addGenerator_58 : decode cX4_addGenerator 58 = .ok (.iconst 1, 1) := by decide +kernel
theorem dX4_addGenerator_59 : decode cX4_addGenerator 59 = .ok (.ireturn, 1) := by decide +kernel
theorem dX4_dropGenerators_0 : decode cX4_dropGenerators 0 = .ok (.aload_n 0, 1) := by decide +kernel
theorem dX4_dropGenerators_1 : decode cX4_dropGenerators 1 = .ok (.iconst 0, 1) := by decide +kernel
theorem dX4_dropGenerators_2 : decode cX4_dropGenerators 2 = .ok (.putfield 29, 3) := by decide +kernel
theorem dX4_dropGenerators_5 : decode cX4_dropGenerators 5 = .ok (.aload_n 0, 1) := by decide +kernel
theorem dX4_dropGenerators_6 : decode cX4_dropGenerators 6 = .ok (.dup, 1) := by decide +kernel
theorem dX4_dropGenerators_7 : decode cX4_dropGenerators 7 = .ok (.getfield 51, 3) := by decide +kernel
theorem dX4_dropGenerators_10 : decode cX4_dropGenerators 10 = .ok (.iconst 1, 1) := by decide +kernel
theorem dX4_dropGenerators_11 : decode cX4_dropGenerators 11 = .ok (.iadd, 1) := by decide +kernel
theorem dX4_dropGenerators_12 : decode cX4_dropGenerators 12 = .ok (.putfield 51, 3) := by decide +kernel
theorem dX4_dropGenerators_15 : decode cX4_dropGenerators 15 = .ok (.return_, 1) := by decide +kernel
theorem dX4_addEvent_0 : decode cX4_addEvent 0 = .ok (.aload_n 0, 1) := by decide +kernel
theorem dX4_addEvent_1 : decode cX4_addEvent 1 = .ok (.getfield 39, 3) := by decide +kernel
theorem dX4_addEvent_4 : decode cX4_addEvent 4 = .ok (.bipush 8, 2) := by decide +kernel
theorem dX4_addEvent_6 : decode cX4_addEvent 6 = .ok (.if_icmp .lt 5, 3) := by decide +kernel
theorem dX4_addEvent_9 : decode cX4_addEvent 9 = .ok (.iconst 0, 1) := by decide +kernel
theorem dX4_addEvent_10 : decode cX4_addEvent 10 = .ok (.ireturn, 1) := by decide +kernel
theorem dX4_addEvent_11 : decode cX4_addEvent 11 = .ok (.aload_n 0, 1) := by decide +kernel
theorem dX4_addEvent_12 : decode cX4_addEvent 12 = .ok (.getfield 32, 3) := by decide +kernel
theorem dX4_addEvent_15 : decode cX4_addEvent 15 = .ok (.aload_n 0, 1) := by decide +kernel
theorem dX4_addEvent_16 : decode cX4_addEvent 16 = .ok (.getfield 39, 3) := by decide +kernel
theorem dX4_addEvent_19 : decode cX4_addEvent 19 = .ok (.iload_n 1, 1) := by decide +kernel
theorem dX4_addEvent_20 : decode cX4_addEvent 20 = .ok (.iastore, 1) := by decide +kernel
theorem dX4_addEvent_21 : decode cX4_addEvent 21 = .ok (.aload_n 0, 1) := by decide +kernel
theorem dX4_addEvent_22 : decode cX4_addEvent 22 = .ok (.getfield 36, 3) := by decide +kernel
theorem dX4_addEvent_25 : decode cX4_addEvent 25 = .ok (.aload_n 0, 1) := by decide +kernel
theorem dX4_addEvent_26 : decode cX4_addEvent 26 = .ok (.getfield 39, 3) := by decide +kernel
theorem dX4_addEvent_29 : decode cX4_addEvent 29 = .ok (.iload_n 2, 1) := by decide +kernel
theorem dX4_addEvent_30 : decode cX4_addEvent 30 = .ok (.iastore, 1) := by decide +kernel
theorem dX4_addEvent_31 : decode cX4_addEvent 31 = .ok (.aload_n 0, 1) := by decide +kernel
theorem dX4_addEvent_32 : decode cX4_addEvent 32 = .ok (.dup, 1) := by decide +kernel
theorem dX4_addEvent_33 : decode cX4_addEvent 33 = .ok (.getfield 39, 3) := by decide +kernel
theorem dX4_addEvent_36 : decode cX4_addEvent 36 = .ok (.iconst 1, 1) := by decide +kernel
theorem dX4_addEvent_37 : decode cX4_addEvent 37 = .ok (.iadd, 1) := by decide +kernel
theorem dX4_addEvent_38 : decode cX4_addEvent 38 = .ok (.putfield 39, 3) := by decide +kernel
theorem dX4_addEvent_41 : decode cX4_addEvent 41 = .ok (.iconst 1, 1) := by decide +kernel
theorem dX4_addEvent_42 : decode cX4_addEvent 42 = .ok (.ireturn, 1) := by decide +kernel
theorem dX4_addToBook_0 : decode cX4_addToBook 0 = .ok (.aload_n 0, 1) := by decide +kernel
theorem dX4_addToBook_1 : decode cX4_addToBook 1 = .ok (.getfield 48, 3) := by decide +kernel
theorem dX4_addToBook_4 : decode cX4_addToBook 4 = .ok (.bipush 8, 2) := by decide +kernel
theorem dX4_addToBook_6 : decode cX4_addToBook 6 = .ok (.if_icmp .lt 5, 3) := by decide +kernel
theorem dX4_addToBook_9 : decode cX4_addToBook 9 = .ok (.iconst 0, 1) := by decide +kernel
theorem dX4_addToBook_10 : decode cX4_addToBook 10 = .ok (.ireturn, 1) := by decide +kernel
theorem dX4_addToBook_11 : decode cX4_addToBook 11 = .ok (.aload_n 0, 1) := by decide +kernel
theorem dX4_addToBook_12 : decode cX4_addToBook 12 = .ok (.getfield 42, 3) := by decide +kernel
theorem dX4_addToBook_15 : decode cX4_addToBook 15 = .ok (.aload_n 0, 1) := by decide +kernel
theorem dX4_addToBook_16 : decode cX4_addToBook 16 = .ok (.getfield 48, 3) := by decide +kernel
theorem dX4_addToBook_19 : decode cX4_addToBook 19 = .ok (.iload_n 1, 1) := by decide +kernel
theorem dX4_addToBook_20 : decode cX4_addToBook 20 = .ok (.iastore, 1) := by decide +kernel
theorem dX4_addToBook_21 : decode cX4_addToBook 21 = .ok (.aload_n 0, 1) := by decide +kernel
theorem dX4_addToBook_22 : decode cX4_addToBook 22 = .ok (.getfield 45, 3) := by decide +kernel
theorem dX4_addToBook_25 : decode cX4_addToBook 25 = .ok (.aload_n 0, 1) := by decide +kernel
theorem dX4_addToBook_26 : decode cX4_addToBook 26 = .ok (.getfield 48, 3) := by decide +kernel
theorem dX4_addToBook_29 : decode cX4_addToBook 29 = .ok (.iload_n 2, 1) := by decide +kernel
theorem dX4_addToBook_30 : decode cX4_addToBook 30 = .ok (.iastore, 1) := by decide +kernel
theorem dX4_addToBook_31 : decode cX4_addToBook 31 = .ok (.aload_n 0, 1) := by decide +kernel
theorem dX4_addToBook_32 : decode cX4_addToBook 32 = .ok (.dup, 1) := by decide +kernel
theorem dX4_addToBook_33 : decode cX4_addToBook 33 = .ok (.getfield 48, 3) := by decide +kernel
theorem dX4_addToBook_36 : decode cX4_addToBook 36 = .ok (.iconst 1, 1) := by decide +kernel
theorem dX4_addToBook_37 : decode cX4_addToBook 37 = .ok (.iadd, 1) := by decide +kernel
theorem dX4_addToBook_38 : decode cX4_addToBook 38 = .ok (.putfield 48, 3) := by decide +kernel
theorem dX4_addToBook_41 : decode cX4_addToBook 41 = .ok (.iconst 1, 1) := by decide +kernel
theorem dX4_addToBook_42 : decode cX4_addToBook 42 = .ok (.ireturn, 1) := by decide +kernel
theorem dX4_copyFrom_0 : decode cX4_copyFrom 0 = .ok (.aload_n 0, 1) := by decide +kernel
theorem dX4_copyFrom_1 : decode cX4_copyFrom 1 = .ok (.aload_n 1, 1) := by decide +kernel
theorem dX4_copyFrom_2 : decode cX4_copyFrom 2 = .ok (.getfield 9, 3) := by decide +kernel
theorem dX4_copyFrom_5 : decode cX4_copyFrom 5 = .ok (.putfield 9, 3) := by decide +kernel
theorem dX4_copyFrom_8 : decode cX4_copyFrom 8 = .ok (.aload_n 0, 1) := by decide +kernel
theorem dX4_copyFrom_9 : decode cX4_copyFrom 9 = .ok (.aload_n 1, 1) := by decide +kernel
theorem dX4_copyFrom_10 : decode cX4_copyFrom 10 = .ok (.getfield 15, 3) := by decide +kernel
theorem dX4_copyFrom_13 : decode cX4_copyFrom 13 = .ok (.putfield 15, 3) := by decide +kernel
theorem dX4_copyFrom_16 : decode cX4_copyFrom 16 = .ok (.aload_n 0, 1) := by decide +kernel
theorem dX4_copyFrom_17 : decode cX4_copyFrom 17 = .ok (.aload_n 1, 1) := by decide +kernel
theorem dX4_copyFrom_18 : decode cX4_copyFrom 18 = .ok (.getfield 18, 3) := by decide +kernel
theorem dX4_copyFrom_21 : decode cX4_copyFrom 21 = .ok (.putfield 18, 3) := by decide +kernel
theorem dX4_copyFrom_24 : decode cX4_copyFrom 24 = .ok (.iconst 0, 1) := by decide +kernel
theorem dX4_copyFrom_25 : decode cX4_copyFrom 25 = .ok (.istore_n 2, 1) := by decide +kernel
theorem dX4_copyFrom_26 : decode cX4_copyFrom 26 = .ok (.iload_n 2, 1) := by decide +kernel
theorem dX4_copyFrom_27 : decode cX4_copyFrom 27 = .ok (.bipush 6, 2) := by decide +kernel
theorem dX4_copyFrom_29 : decode cX4_copyFrom 29 = .ok (.if_icmp .ge 26, 3) := by decide +kernel
theorem dX4_copyFrom_32 : decode cX4_copyFrom 32 = .ok (.aload_n 1, 1) := by decide +kernel
theorem dX4_copyFrom_33 : decode cX4_copyFrom 33 = .ok (.getfield 23, 3) := by decide +kernel
theorem dX4_copyFrom_36 : decode cX4_copyFrom 36 = .ok (.iload_n 2, 1) := by decide +kernel
theorem dX4_copyFrom_37 : decode cX4_copyFrom 37 = .ok (.aaload, 1) := by decide +kernel
theorem dX4_copyFrom_38 : decode cX4_copyFrom 38 = .ok (.aload_n 0, 1) := by decide +kernel
theorem dX4_copyFrom_39 : decode cX4_copyFrom 39 = .ok (.getfield 23, 3) := by decide +kernel
theorem dX4_copyFrom_42 : decode cX4_copyFrom 42 = .ok (.iload_n 2, 1) := by decide +kernel
theorem dX4_copyFrom_43 : decode cX4_copyFrom 43 = .ok (.aaload, 1) := by decide +kernel
theorem dX4_copyFrom_44 : decode cX4_copyFrom 44 = .ok (.bipush 16, 2) := by decide +kernel
theorem dX4_copyFrom_46 : decode cX4_copyFrom 46 = .ok (.invokestatic 74, 3) := by decide +kernel
theorem dX4_copyFrom_49 : decode cX4_copyFrom 49 = .ok (.iinc 2 1, 3) := by decide +kernel
theorem dX4_copyFrom_52 : decode cX4_copyFrom 52 = .ok (.goto (-26), 3) := by decide +kernel
theorem dX4_copyFrom_55 : decode cX4_copyFrom 55 = .ok (.iconst 0, 1) := by decide +kernel
theorem dX4_copyFrom_56 : decode cX4_copyFrom 56 = .ok (.istore_n 2, 1) := by decide +kernel
theorem dX4_copyFrom_57 : decode cX4_copyFrom 57 = .ok (.iload_n 2, 1) := by decide +kernel
theorem dX4_copyFrom_58 : decode cX4_copyFrom 58 = .ok (.iconst 4, 1) := by decide +kernel
theorem dX4_copyFrom_59 : decode cX4_copyFrom 59 = .ok (.if_icmp .ge 26, 3) := by decide +kernel
theorem dX4_copyFrom_62 : decode cX4_copyFrom 62 = .ok (.aload_n 1, 1) := by decide +kernel
theorem dX4_copyFrom_63 : decode cX4_copyFrom 63 = .ok (.getfield 26, 3) := by decide +kernel
theorem dX4_copyFrom_66 : decode cX4_copyFrom 66 = .ok (.iload_n 2, 1) := by decide +kernel
theorem dX4_copyFrom_67 : decode cX4_copyFrom 67 = .ok (.aaload, 1) := by decide +kernel
theorem dX4_copyFrom_68 : decode cX4_copyFrom 68 = .ok (.aload_n 0, 1) := by decide +kernel
theorem dX4_copyFrom_69 : decode cX4_copyFrom 69 = .ok (.getfield 26, 3) := by decide +kernel
theorem dX4_copyFrom_72 : decode cX4_copyFrom 72 = .ok (.iload_n 2, 1) := by decide +kernel
theorem dX4_copyFrom_73 : decode cX4_copyFrom 73 = .ok (.aaload, 1) := by decide +kernel
theorem dX4_copyFrom_74 : decode cX4_copyFrom 74 = .ok (.bipush 16, 2) := by decide +kernel
theorem dX4_copyFrom_76 : decode cX4_copyFrom 76 = .ok (.invokestatic 74, 3) := by decide +kernel
theorem dX4_copyFrom_79 : decode cX4_copyFrom 79 = .ok (.iinc 2 1, 3) := by decide +kernel
theorem dX4_copyFrom_82 : decode cX4_copyFrom 82 = .ok (.goto (-25), 3) := by decide +kernel
theorem dX4_copyFrom_85 : decode cX4_copyFrom 85 = .ok (.aload_n 0, 1) := by decide +kernel
theorem dX4_copyFrom_86 : decode cX4_copyFrom 86 = .ok (.aload_n 1, 1) := by decide +kernel
theorem dX4_copyFrom_87 : decode cX4_copyFrom 87 = .ok (.getfield 29, 3) := by decide +kernel
theorem dX4_copyFrom_90 : decode cX4_copyFrom 90 = .ok (.putfield 29, 3) := by decide +kernel
theorem dX4_copyFrom_93 : decode cX4_copyFrom 93 = .ok (.aload_n 1, 1) := by decide +kernel
theorem dX4_copyFrom_94 : decode cX4_copyFrom 94 = .ok (.getfield 32, 3) := by decide +kernel
theorem dX4_copyFrom_97 : decode cX4_copyFrom 97 = .ok (.aload_n 0, 1) := by decide +kernel
theorem dX4_copyFrom_98 : decode cX4_copyFrom 98 = .ok (.getfield 32, 3) := by decide +kernel
theorem dX4_copyFrom_101 : decode cX4_copyFrom 101 = .ok (.bipush 8, 2) := by decide +kernel
theorem dX4_copyFrom_103 : decode cX4_copyFrom 103 = .ok (.invokestatic 74, 3) := by decide +kernel
theorem dX4_copyFrom_106 : decode cX4_copyFrom 106 = .ok (.aload_n 1, 1) := by decide +kernel
theorem dX4_copyFrom_107 : decode cX4_copyFrom 107 = .ok (.getfield 36, 3) := by decide +kernel
theorem dX4_copyFrom_110 : decode cX4_copyFrom 110 = .ok (.aload_n 0, 1) := by decide +kernel
theorem dX4_copyFrom_111 : decode cX4_copyFrom 111 = .ok (.getfield 36, 3) := by decide +kernel
theorem dX4_copyFrom_114 : decode cX4_copyFrom 114 = .ok (.bipush 8, 2) := by decide +kernel
theorem dX4_copyFrom_116 : decode cX4_copyFrom 116 = .ok (.invokestatic 74, 3) := by decide +kernel
theorem dX4_copyFrom_119 : decode cX4_copyFrom 119 = .ok (.aload_n 0, 1) := by decide +kernel
theorem dX4_copyFrom_120 : decode cX4_copyFrom 120 = .ok (.aload_n 1, 1) := by decide +kernel
theorem dX4_copyFrom_121 : decode cX4_copyFrom 121 = .ok (.getfield 39, 3) := by decide +kernel
theorem dX4_copyFrom_124 : decode cX4_copyFrom 124 = .ok (.putfield 39, 3) := by decide +kernel
theorem dX4_copyFrom_127 : decode cX4_copyFrom 127 = .ok (.aload_n 1, 1) := by decide +kernel
theorem dX4_copyFrom_128 : decode cX4_copyFrom 128 = .ok (.getfield 42, 3) := by decide +kernel
theorem dX4_copyFrom_131 : decode cX4_copyFrom 131 = .ok (.aload_n 0, 1) := by decide +kernel
theorem dX4_copyFrom_132 : decode cX4_copyFrom 132 = .ok (.getfield 42, 3) := by decide +kernel
theorem dX4_copyFrom_135 : decode cX4_copyFrom 135 = .ok (.bipush 8, 2) := by decide +kernel
theorem dX4_copyFrom_137 : decode cX4_copyFrom 137 = .ok (.invokestatic 74, 3) := by decide +kernel
theorem dX4_copyFrom_140 : decode cX4_copyFrom 140 = .ok (.aload_n 1, 1) := by decide +kernel
theorem dX4_copyFrom_141 : decode cX4_copyFrom 141 = .ok (.getfield 45, 3) := by decide +kernel
theorem dX4_copyFrom_144 : decode cX4_copyFrom 144 = .ok (.aload_n 0, 1) := by decide +kernel
theorem dX4_copyFrom_145 : decode cX4_copyFrom 145 = .ok (.getfield 45, 3) := by decide +kernel
theorem dX4_copyFrom_148 : decode cX4_copyFrom 148 = .ok (.bipush 8, 2) := by decide +kernel
theorem dX4_copyFrom_150 : decode cX4_copyFrom 150 = .ok (.invokestatic 74, 3) := by decide +kernel
theorem dX4_copyFrom_153 : decode cX4_copyFrom 153 = .ok (.aload_n 0, 1) := by decide +kernel
theorem dX4_copyFrom_154 : decode cX4_copyFrom 154 = .ok (.aload_n 1, 1) := by decide +kernel
theorem dX4_copyFrom_155 : decode cX4_copyFrom 155 = .ok (.getfield 48, 3) := by decide +kernel
theorem dX4_copyFrom_158 : decode cX4_copyFrom 158 = .ok (.putfield 48, 3) := by decide +kernel
theorem dX4_copyFrom_161 : decode cX4_copyFrom 161 = .ok (.aload_n 0, 1) := by decide +kernel
theorem dX4_copyFrom_162 : decode cX4_copyFrom 162 = .ok (.dup, 1) := by decide +kernel
theorem dX4_copyFrom_163 : decode cX4_copyFrom 163 = .ok (.getfield 51, 3) := by decide +kernel
theorem dX4_copyFrom_166 : decode cX4_copyFrom 166 = .ok (.iconst 1, 1) := by decide +kernel
theorem dX4_copyFrom_167 : decode cX4_copyFrom 167 = .ok (.iadd, 1) := by decide +kernel
theorem dX4_copyFrom_168 : decode cX4_copyFrom 168 = .ok (.putfield 51, 3) := by decide +kernel
theorem dX4_copyFrom_171 : decode cX4_copyFrom 171 = .ok (.return_, 1) := by decide +kernel
theorem dX5_init_0 : decode cX5_init 0 = .ok (.aload_n 0, 1) := by decide +kernel
theorem dX5_init_1 : decode cX5_init 1 = .ok (.invokespecial 3, 3) := by decide +kernel
theorem dX5_init_4 : decode cX5_init 4 = .ok (.aload_n 0, 1) := by decide +kernel
theorem dX5_init_5 : decode cX5_init 5 = .ok (.iconst 0, 1) := by decide +kernel
theorem dX5_init_6 : decode cX5_init 6 = .ok (.putfield 9, 3) := by decide +kernel
theorem dX5_init_9 : decode cX5_init 9 = .ok (.aload_n 0, 1) := by decide +kernel
theorem dX5_init_10 : decode cX5_init 10 = .ok (.iconst 0, 1) := by decide +kernel
theorem dX5_init_11 : decode cX5_init 11 = .ok (.putfield 15, 3) := by decide +kernel
theorem dX5_init_14 : decode cX5_init 14 = .ok (.aload_n 0, 1) := by decide +kernel
theorem dX5_init_15 : decode cX5_init 15 = .ok (.iconst 2, 1) := by decide +kernel
theorem dX5_init_16 : decode cX5_init 16 = .ok (.putfield 18, 3) := by decide +kernel
theorem dX5_init_19 : decode cX5_init 19 = .ok (.aload_n 0, 1) := by decide +kernel
theorem dX5_init_20 : decode cX5_init 20 = .ok (.iconst 0, 1) := by decide +kernel
theorem dX5_init_21 : decode cX5_init 21 = .ok (.putfield 21, 3) := by decide +kernel
theorem dX5_init_24 : decode cX5_init 24 = .ok (.aload_n 0, 1) := by decide +kernel
theorem dX5_init_25 : decode cX5_init 25 = .ok (.iload_n 1, 1) := by decide +kernel
theorem dX5_init_26 : decode cX5_init 26 = .ok (.iload_n 1, 1) := by decide +kernel
theorem dX5_init_27 : decode cX5_init 27 = .ok (.multianewarray 24 2, 4) := by decide +kernel
theorem dX5_init_31 : decode cX5_init 31 = .ok (.putfield 26, 3) := by decide +kernel
theorem dX5_init_34 : decode cX5_init 34 = .ok (.aload_n 0, 1) := by decide +kernel
theorem dX5_init_35 : decode cX5_init 35 = .ok (.iload_n 1, 1) := by decide +kernel
theorem dX5_init_36 : decode cX5_init 36 = .ok (.newarray .boolean, 2) := by decide +kernel
theorem dX5_init_38 : decode cX5_init 38 = .ok (.putfield 29, 3) := by decide +kernel
theorem dX5_init_41 : decode cX5_init 41 = .ok (.return_, 1) := by decide +kernel
theorem dX5_begin_0 : decode cX5_begin 0 = .ok (.aload_n 0, 1) := by decide +kernel
theorem dX5_begin_1 : decode cX5_begin 1 = .ok (.iload_n 1, 1) := by decide +kernel
theorem dX5_begin_2 : decode cX5_begin 2 = .ok (.aload_n 0, 1) := by decide +kernel
theorem dX5_begin_3 : decode cX5_begin 3 = .ok (.getfield 29, 3) := by decide +kernel
theorem dX5_begin_6 : decode cX5_begin 6 = .ok (.arraylength, 1) := by decide +kernel
theorem dX5_begin_7 : decode cX5_begin 7 = .ok (.invokestatic 33, 3) := by decide +kernel
theorem dX5_begin_10 : decode cX5_begin 10 = .ok (.putfield 15, 3) := by decide +kernel
theorem dX5_begin_13 : decode cX5_begin 13 = .ok (.aload_n 0, 1) := by decide +kernel
theorem dX5_begin_14 : decode cX5_begin 14 = .ok (.iload_n 2, 1) := by decide +kernel
theorem dX5_begin_15 : decode cX5_begin 15 = .ok (.iconst 2, 1) := by decide +kernel
theorem dX5_begin_16 : decode cX5_begin 16 = .ok (.invokestatic 39, 3) := by decide +kernel
theorem dX5_begin_19 : decode cX5_begin 19 = .ok (.putfield 18, 3) := by decide +kernel
theorem dX5_begin_22 : decode cX5_begin 22 = .ok (.aload_n 0, 1) := by decide +kernel
theorem dX5_begin_23 : decode cX5_begin 23 = .ok (.iload_n 3, 1) := by decide +kernel
theorem dX5_begin_24 : decode cX5_begin 24 = .ok (.putfield 21, 3) := by decide +kernel
theorem dX5_begin_27 : decode cX5_begin 27 = .ok (.aload_n 0, 1) := by decide +kernel
theorem dX5_begin_28 : decode cX5_begin 28 = .ok (.iconst 0, 1) := by decide +kernel
theorem dX5_begin_29 : decode cX5_begin 29 = .ok (.putfield 9, 3) := by decide +kernel
theorem dX5_begin_32 : decode cX5_begin 32 = .ok (.iconst 0, 1) := by decide +kernel
theorem dX5_begin_33 : decode cX5_begin 33 = .ok (.istore 4, 2) := by decide +kernel
theorem dX5_begin_35 : decode cX5_begin 35 = .ok (.iload 4, 2) := by decide +kernel
theorem dX5_begin_37 : decode cX5_begin 37 = .ok (.aload_n 0, 1) := by decide +kernel
theorem dX5_begin_38 : decode cX5_begin 38 = .ok (.getfield 15, 3) := by decide +kernel
theorem dX5_begin_41 : decode cX5_begin 41 = .ok (.if_icmp .ge 17, 3) := by decide +kernel
theorem dX5_begin_44 : decode cX5_begin 44 = .ok (.aload_n 0, 1) := by decide +kernel
theorem dX5_begin_45 : decode cX5_begin 45 = .ok (.getfield 29, 3) := by decide +kernel
theorem dX5_begin_48 : decode cX5_begin 48 = .ok (.iload 4, 2) := by decide +kernel
theorem dX5_begin_50 : decode cX5_begin 50 = .ok (.iconst 0, 1) := by decide +kernel
theorem dX5_begin_51 : decode cX5_begin 51 = .ok (.bastore, 1) := by decide +kernel
theorem dX5_begin_52 : decode cX5_begin 52 = .ok (.iinc 4 1, 3) := by decide +kernel
theorem dX5_begin_55 : decode cX5_begin 55 = .ok (.goto (-20), 3) := by decide +kernel
theorem dX5_begin_58 : decode cX5_begin 58 = .ok (.return_, 1) := by decide +kernel
theorem dX5_holds_0 : decode cX5_holds 0 = .ok (.iload_n 1, 1) := by decide +kernel
theorem dX5_holds_1 : decode cX5_holds 1 = .ok (.ifCond .lt 24, 3) := by decide +kernel
theorem dX5_holds_4 : decode cX5_holds 4 = .ok (.iload_n 1, 1) := by decide +kernel
theorem dX5_holds_5 : decode cX5_holds 5 = .ok (.aload_n 0, 1) := by decide +kernel
theorem dX5_holds_6 : decode cX5_holds 6 = .ok (.getfield 15, 3) := by decide +kernel
theorem dX5_holds_9 : decode cX5_holds 9 = .ok (.if_icmp .ge 16, 3) := by decide +kernel
theorem dX5_holds_12 : decode cX5_holds 12 = .ok (.aload_n 0, 1) := by decide +kernel
theorem dX5_holds_13 : decode cX5_holds 13 = .ok (.getfield 29, 3) := by decide +kernel
theorem dX5_holds_16 : decode cX5_holds 16 = .ok (.iload_n 1, 1) := by decide +kernel
theorem dX5_holds_17 : decode cX5_holds 17 = .ok (.baload, 1) := by decide +kernel
theorem dX5_holds_18 : decode cX5_holds 18 = .ok (.ifCond .eq 7, 3) := by decide +kernel
theorem dX5_holds_21 : decode cX5_holds 21 = .ok (.iconst 1, 1) := by decide +kernel
theorem dX5_holds_22 : decode cX5_holds 22 = .ok (.goto 4, 3) := by decide +kernel
theorem dX5_holds_25 : decode cX5_holds 25 = .ok (.iconst 0, 1) := by decide +kernel
theorem dX5_holds_26 : decode cX5_holds 26 = .ok (.ireturn, 1) := by decide +kernel
theorem dX5_takeFrom_0 : decode cX5_takeFrom 0 = .ok (.iconst 0, 1) := by decide +kernel
theorem dX5_takeFrom_1 : decode cX5_takeFrom 1 = .ok (.istore_n 2, 1) := by decide +kernel
theorem dX5_takeFrom_2 : decode cX5_takeFrom 2 = .ok (.iload_n 2, 1) := by decide +kernel
theorem dX5_takeFrom_3 : decode cX5_takeFrom 3 = .ok (.aload_n 0, 1) := by decide +kernel
theorem dX5_takeFrom_4 : decode cX5_takeFrom 4 = .ok (.getfield 15, 3) := by decide +kernel
theorem dX5_takeFrom_7 : decode cX5_takeFrom 7 = .ok (.if_icmp .ge 32, 3) := by decide +kernel
theorem dX5_takeFrom_10 : decode cX5_takeFrom 10 = .ok (.aload_n 0, 1) := by decide +kernel
theorem dX5_takeFrom_11 : decode cX5_takeFrom 11 = .ok (.getfield 29, 3) := by decide +kernel
theorem dX5_takeFrom_14 : decode cX5_takeFrom 14 = .ok (.iload_n 2, 1) := by decide +kernel
theorem dX5_takeFrom_15 : decode cX5_takeFrom 15 = .ok (.baload, 1) := by decide +kernel
theorem dX5_takeFrom_16 : decode cX5_takeFrom 16 = .ok (.ifCond .eq 17, 3) := by decide +kernel
theorem dX5_takeFrom_19 : decode cX5_takeFrom 19 = .ok (.aload_n 0, 1) := by decide +kernel
theorem dX5_takeFrom_20 : decode cX5_takeFrom 20 = .ok (.aload_n 1, 1) := by decide +kernel
theorem dX5_takeFrom_21 : decode cX5_takeFrom 21 = .ok (.aload_n 1, 1) := by decide +kernel
theorem dX5_takeFrom_22 : decode cX5_takeFrom 22 = .ok (.iload_n 2, 1) := by decide +kernel
theorem dX5_takeFrom_23 : decode cX5_takeFrom 23 = .ok (.iaload, 1) := by decide +kernel
theorem dX5_takeFrom_24 : decode cX5_takeFrom 24 = .ok (.aload_n 0, 1) := by decide +kernel
theorem dX5_takeFrom_25 : decode cX5_takeFrom 25 = .ok (.getfield 26, 3) := by decide +kernel
theorem dX5_takeFrom_28 : decode cX5_takeFrom 28 = .ok (.iload_n 2, 1) := by decide +kernel
theorem dX5_takeFrom_29 : decode cX5_takeFrom 29 = .ok (.aaload, 1) := by decide +kernel
theorem dX5_takeFrom_30 : decode cX5_takeFrom 30 = .ok (.invokevirtual 42, 3) := by decide +kernel
theorem dX5_takeFrom_33 : decode cX5_takeFrom 33 = .ok (.iinc 2 1, 3) := by decide +kernel
theorem dX5_takeFrom_36 : decode cX5_takeFrom 36 = .ok (.goto (-34), 3) := by decide +kernel
theorem dX5_takeFrom_39 : decode cX5_takeFrom 39 = .ok (.return_, 1) := by decide +kernel
theorem dX5_lessen_0 : decode cX5_lessen 0 = .ok (.iload_n 2, 1) := by decide +kernel
theorem dX5_lessen_1 : decode cX5_lessen 1 = .ok (.ifCond .eq 11, 3) := by decide +kernel
theorem dX5_lessen_4 : decode cX5_lessen 4 = .ok (.aload_n 0, 1) := by decide +kernel
theorem dX5_lessen_5 : decode cX5_lessen 5 = .ok (.getfield 18, 3) := by decide +kernel
theorem dX5_lessen_8 : decode cX5_lessen 8 = .ok (.iconst 2, 1) := by decide +kernel
theorem dX5_lessen_9 : decode cX5_lessen 9 = .ok (.if_icmp .ge 4, 3) := by decide +kernel
theorem dX5_lessen_12 : decode cX5_lessen 12 = .ok (.return_, 1) := by decide +kernel
theorem dX5_lessen_13 : decode cX5_lessen 13 = .ok (.aload_n 0, 1) := by decide +kernel
theorem dX5_lessen_14 : decode cX5_lessen 14 = .ok (.getfield 18, 3) := by decide +kernel
theorem dX5_lessen_17 : decode cX5_lessen 17 = .ok (.iload_n 2, 1) := by decide +kernel
theorem dX5_lessen_18 : decode cX5_lessen 18 = .ok (.isub, 1) := by decide +kernel
theorem dX5_lessen_19 : decode cX5_lessen 19 = .ok (.istore 4, 2) := by decide +kernel
theorem dX5_lessen_21 : decode cX5_lessen 21 = .ok (.iconst 0, 1) := by decide +kernel
theorem dX5_lessen_22 : decode cX5_lessen 22 = .ok (.istore 5, 2) := by decide +kernel
theorem dX5_lessen_24 : decode cX5_lessen 24 = .ok (.iload 5, 2) := by decide +kernel
theorem dX5_lessen_26 : decode cX5_lessen 26 = .ok (.aload_n 0, 1) := by decide +kernel
theorem dX5_lessen_27 : decode cX5_lessen 27 = .ok (.getfield 15, 3) := by decide +kernel
theorem dX5_lessen_30 : decode cX5_lessen 30 = .ok (.if_icmp .ge 30, 3) := by decide +kernel
theorem dX5_lessen_33 : decode cX5_lessen 33 = .ok (.aload_n 1, 1) := by decide +kernel
theorem dX5_lessen_34 : decode cX5_lessen 34 = .ok (.iload 5, 2) := by decide +kernel
theorem dX5_lessen_36 : decode cX5_lessen 36 = .ok (.aload_n 1, 1) := by decide +kernel
theorem dX5_lessen_37 : decode cX5_lessen 37 = .ok (.iload 5, 2) := by decide +kernel
theorem dX5_lessen_39 : decode cX5_lessen 39 = .ok (.iaload, 1) := by decide +kernel
theorem dX5_lessen_40 : decode cX5_lessen 40 = .ok (.iload 4, 2) := by decide +kernel
theorem dX5_lessen_42 : decode cX5_lessen 42 = .ok (.aload_n 3, 1) := by decide +kernel
theorem dX5_lessen_43 : decode cX5_lessen 43 = .ok (.iload 5, 2) := by decide +kernel
theorem dX5_lessen_45 : decode cX5_lessen 45 = .ok (.iaload, 1) := by decide +kernel
theorem dX5_lessen_46 : decode cX5_lessen 46 = .ok (.imul, 1) := by decide +kernel
theorem dX5_lessen_47 : decode cX5_lessen 47 = .ok (.iadd, 1) := by decide +kernel
theorem dX5_lessen_48 : decode cX5_lessen 48 = .ok (.aload_n 0, 1) := by decide +kernel
theorem dX5_lessen_49 : decode cX5_lessen 49 = .ok (.getfield 18, 3) := by decide +kernel
theorem dX5_lessen_52 : decode cX5_lessen 52 = .ok (.irem, 1) := by decide +kernel
theorem dX5_lessen_53 : decode cX5_lessen 53 = .ok (.iastore, 1) := by decide +kernel
theorem dX5_lessen_54 : decode cX5_lessen 54 = .ok (.iinc 5 1, 3) := by decide +kernel
theorem dX5_lessen_57 : decode cX5_lessen 57 = .ok (.goto (-33), 3) := by decide +kernel
theorem dX5_lessen_60 : decode cX5_lessen 60 = .ok (.return_, 1) := by decide +kernel
theorem dX5_admit_0 : decode cX5_admit 0 = .ok (.aload_n 0, 1) := by decide +kernel
theorem dX5_admit_1 : decode cX5_admit 1 = .ok (.aload_n 1, 1) := by decide +kernel
theorem dX5_admit_2 : decode cX5_admit 2 = .ok (.invokevirtual 46, 3) := by decide +kernel
theorem dX5_admit_5 : decode cX5_admit 5 = .ok (.aload_n 1, 1) := by decide +kernel
theorem dX5_admit_6 : decode cX5_admit 6 = .ok (.aload_n 0, 1) := by decide +kernel
theorem dX5_admit_7 : decode cX5_admit 7 = .ok (.getfield 15, 3) := by decide +kernel
theorem dX5_admit_10 : decode cX5_admit 10 = .ok (.aload_n 0, 1) := by decide +kernel
theorem dX5_admit_11 : decode cX5_admit 11 = .ok (.getfield 21, 3) := by decide +kernel
theorem dX5_admit_14 : decode cX5_admit 14 = .ok (.invokestatic 50, 3) := by decide +kernel
theorem dX5_admit_17 : decode cX5_admit 17 = .ok (.istore_n 2, 1) := by decide +kernel
theorem dX5_admit_18 : decode cX5_admit 18 = .ok (.iload_n 2, 1) := by decide +kernel
theorem dX5_admit_19 : decode cX5_admit 19 = .ok (.ifCond .ge 5, 3) := by decide +kernel
theorem dX5_admit_22 : decode cX5_admit 22 = .ok (.iconst 0, 1) := by decide +kernel
theorem dX5_admit_23 : decode cX5_admit 23 = .ok (.ireturn, 1) := by decide +kernel
theorem dX5_admit_24 : decode cX5_admit 24 = .ok (.aload_n 0, 1) := by decide +kernel
theorem dX5_admit_25 : decode cX5_admit 25 = .ok (.getfield 26, 3) := by decide +kernel
theorem dX5_admit_28 : decode cX5_admit 28 = .ok (.iload_n 2, 1) := by decide +kernel
theorem dX5_admit_29 : decode cX5_admit 29 = .ok (.aaload, 1) := by decide +kernel
theorem dX5_admit_30 : decode cX5_admit 30 = .ok (.astore_n 3, 1) := by decide +kernel
theorem dX5_admit_31 : decode cX5_admit 31 = .ok (.aload_n 1, 1) := by decide +kernel
theorem dX5_admit_32 : decode cX5_admit 32 = .ok (.iload_n 2, 1) := by decide +kernel
theorem dX5_admit_33 : decode cX5_admit 33 = .ok (.iaload, 1) := by decide +kernel
theorem dX5_admit_34 : decode cX5_admit 34 = .ok (.aload_n 0, 1) := by decide +kernel
theorem dX5_admit_35 : decode cX5_admit 35 = .ok (.getfield 18, 3) := by decide +kernel
theorem dX5_admit_38 : decode cX5_admit 38 = .ok (.invokestatic 56, 3) := by decide +kernel
theorem dX5_admit_41 : decode cX5_admit 41 = .ok (.istore 4, 2) := by decide +kernel
theorem dX5_admit_43 : decode cX5_admit 43 = .ok (.iconst 0, 1) := by decide +kernel
theorem dX5_admit_44 : decode cX5_admit 44 = .ok (.istore 5, 2) := by decide +kernel
theorem dX5_admit_46 : decode cX5_admit 46 = .ok (.iload 5, 2) := by decide +kernel
theorem dX5_admit_48 : decode cX5_admit 48 = .ok (.aload_n 0, 1) := by decide +kernel
theorem dX5_admit_49 : decode cX5_admit 49 = .ok (.getfield 15, 3) := by decide +kernel
theorem dX5_admit_52 : decode cX5_admit 52 = .ok (.if_icmp .ge 27, 3) := by decide +kernel
theorem dX5_admit_55 : decode cX5_admit 55 = .ok (.aload_n 3, 1) := by decide +kernel
theorem dX5_admit_56 : decode cX5_admit 56 = .ok (.iload 5, 2) := by decide +kernel
theorem dX5_admit_58 : decode cX5_admit 58 = .ok (.iload 4, 2) := by decide +kernel
theorem dX5_admit_60 : decode cX5_admit 60 = .ok (.aload_n 1, 1) := by decide +kernel
theorem dX5_admit_61 : decode cX5_admit 61 = .ok (.iload 5, 2) := by decide +kernel
theorem dX5_admit_63 : decode cX5_admit 63 = .ok (.iaload, 1) := by decide +kernel
theorem dX5_admit_64 : decode cX5_admit 64 = .ok (.imul, 1) := by decide +kernel
theorem dX5_admit_65 : decode cX5_admit 65 = .ok (.aload_n 0, 1) := by decide +kernel
theorem dX5_admit_66 : decode cX5_admit 66 = .ok (.getfield 18, 3) := by decide +kernel
theorem dX5_admit_69 : decode cX5_admit 69 = .ok (.invokestatic 59, 3) := by decide +kernel
theorem dX5_admit_72 : decode cX5_admit 72 = .ok (.iastore, 1) := by decide +kernel
theorem dX5_admit_73 : decode cX5_admit 73 = .ok (.iinc 5 1, 3) := by decide +kernel
theorem dX5_admit_76 : decode cX5_admit 76 = .ok (.goto (-30), 3) := by decide +kernel
theorem dX5_admit_79 : decode cX5_admit 79 = .ok (.iconst 0, 1) := by decide +kernel
theorem dX5_admit_80 : decode cX5_admit 80 = .ok (.istore 5, 2) := by decide +kernel
theorem dX5_admit_82 : decode cX5_admit 82 = .ok (.iload 5, 2) := by decide +kernel
theorem dX5_admit_84 : decode cX5_admit 84 = .ok (.aload_n 0, 1) := by decide +kernel
theorem dX5_admit_85 : decode cX5_admit 85 = .ok (.getfield 15, 3) := by decide +kernel
theorem dX5_admit_88 : decode cX5_admit 88 = .ok (.if_icmp .ge 40, 3) := by decide +kernel
theorem dX5_admit_91 : decode cX5_admit 91 = .ok (.aload_n 0, 1) := by decide +kernel
theorem dX5_admit_92 : decode cX5_admit 92 = .ok (.getfield 29, 3) := by decide +kernel
theorem dX5_admit_95 : decode cX5_admit 95 = .ok (.iload 5, 2) := by decide +kernel
theorem dX5_admit_97 : decode cX5_admit 97 = .ok (.baload, 1) := by decide +kernel
theorem dX5_admit_98 : decode cX5_admit 98 = .ok (.ifCond .eq 24, 3) := by decide +kernel
theorem dX5_admit_101 : decode cX5_admit 101 = .ok (.aload_n 0, 1) := by decide +kernel
theorem dX5_admit_102 : decode cX5_admit 102 = .ok (.aload_n 0, 1) := by decide +kernel
theorem dX5_admit_103 : decode cX5_admit 103 = .ok (.getfield 26, 3) := by decide +kernel
theorem dX5_admit_106 : decode cX5_admit 106 = .ok (.iload 5, 2) := by decide +kernel
theorem dX5_admit_108 : decode cX5_admit 108 = .ok (.aaload, 1) := by decide +kernel
theorem dX5_admit_109 : decode cX5_admit 109 = .ok (.aload_n 0, 1) := by decide +kernel
theorem dX5_admit_110 : decode cX5_admit 110 = .ok (.getfield 26, 3) := by decide +kernel
theorem dX5_admit_113 : decode cX5_admit 113 = .ok (.iload 5, 2) := by decide +kernel
theorem dX5_admit_115 : decode cX5_admit 115 = .ok (.aaload, 1) := by decide +kernel
theorem dX5_admit_116 : decode cX5_admit 116 = .ok (.iload_n 2, 1) := by decide +kernel
theorem dX5_admit_117 : decode cX5_admit 117 = .ok (.iaload, 1) := by decide +kernel
theorem dX5_admit_118 : decode cX5_admit 118 = .ok (.aload_n 3, 1) := by decide +kernel
theorem dX5_admit_119 : decode cX5_admit 119 = .ok (.invokevirtual 42, 3) := by decide +kernel
theorem dX5_admit_122 : decode cX5_admit 122 = .ok (.iinc 5 1, 3) := by decide +kernel
theorem dX5_admit_125 : decode cX5_admit 125 = .ok (.goto (-43), 3) := by decide +kernel
theorem dX5_admit_128 : decode cX5_admit 128 = .ok (.aload_n 0, 1) := by decide +kernel
theorem dX5_admit_129 : decode cX5_admit 129 = .ok (.getfield 29, 3) := by decide +kernel
theorem dX5_admit_132 : decode cX5_admit 132 = .ok (.iload_n 2, 1) := by decide +kernel
theorem dX5_admit_133 : decode cX5_admit 133 = .ok (.iconst 1, 1) := by decide +kernel
theorem dX5_admit_134 : decode cX5_admit 134 = .ok (.bastore, 1) := by decide +kernel
theorem dX5_admit_135 : decode cX5_admit 135 = .ok (.aload_n 0, 1) := by decide +kernel
theorem dX5_admit_136 : decode cX5_admit 136 = .ok (.dup, 1) := by decide +kernel
theorem dX5_admit_137 : decode cX5_admit 137 = .ok (.getfield 9, 3) := by decide +kernel
theorem dX5_admit_140 : decode cX5_admit 140 = .ok (.iconst 1, 1) := by decide +kernel
theorem dX5_admit_141 : decode cX5_admit 141 = .ok (.iadd, 1) := by decide +kernel
theorem dX5_admit_142 : decode cX5_admit 142 = .ok (.putfield 9, 3) := by decide +kernel
theorem dX5_admit_145 : decode cX5_admit 145 = .ok (.iconst 1, 1) := by decide +kernel
theorem dX5_admit_146 : decode cX5_admit 146 = .ok (.ireturn, 1) := by decide +kernel
theorem dX5_leadNumber_0 : decode cX5_leadNumber 0 = .ok (.iconst 0, 1) := by decide +kernel
theorem dX5_leadNumber_1 : decode cX5_leadNumber 1 = .ok (.istore_n 2, 1) := by decide +kernel
theorem dX5_leadNumber_2 : decode cX5_leadNumber 2 = .ok (.iconst 0, 1) := by decide +kernel
theorem dX5_leadNumber_3 : decode cX5_leadNumber 3 = .ok (.istore_n 3, 1) := by decide +kernel
theorem dX5_leadNumber_4 : decode cX5_leadNumber 4 = .ok (.iload_n 3, 1) := by decide +kernel
theorem dX5_leadNumber_5 : decode cX5_leadNumber 5 = .ok (.aload_n 0, 1) := by decide +kernel
theorem dX5_leadNumber_6 : decode cX5_leadNumber 6 = .ok (.getfield 15, 3) := by decide +kernel
theorem dX5_leadNumber_9 : decode cX5_leadNumber 9 = .ok (.if_icmp .lt 9, 3) := by decide +kernel
theorem dX5_leadNumber_12 : decode cX5_leadNumber 12 = .ok (.iload_n 3, 1) := by decide +kernel
theorem dX5_leadNumber_13 : decode cX5_leadNumber 13 = .ok (.bipush 16, 2) := by decide +kernel
theorem dX5_leadNumber_15 : decode cX5_leadNumber 15 = .ok (.if_icmp .ge 39, 3) := by decide +kernel
theorem dX5_leadNumber_18 : decode cX5_leadNumber 18 = .ok (.iload_n 3, 1) := by decide +kernel
theorem dX5_leadNumber_19 : decode cX5_leadNumber 19 = .ok (.aload_n 0, 1) := by decide +kernel
theorem dX5_leadNumber_20 : decode cX5_leadNumber 20 = .ok (.getfield 21, 3) := by decide +kernel
theorem dX5_leadNumber_23 : decode cX5_leadNumber 23 = .ok (.invokestatic 62, 3) := by decide +kernel
theorem dX5_leadNumber_26 : decode cX5_leadNumber 26 = .ok (.istore 4, 2) := by decide +kernel
theorem dX5_leadNumber_28 : decode cX5_leadNumber 28 = .ok (.aload_n 0, 1) := by decide +kernel
theorem dX5_leadNumber_29 : decode cX5_leadNumber 29 = .ok (.iload 4, 2) := by decide +kernel
theorem dX5_leadNumber_31 : decode cX5_leadNumber 31 = .ok (.invokevirtual 65, 3) := by decide +kernel
theorem dX5_leadNumber_34 : decode cX5_leadNumber 34 = .ok (.ifCond .eq 14, 3) := by decide +kernel
theorem dX5_leadNumber_37 : decode cX5_leadNumber 37 = .ok (.iload_n 2, 1) := by decide +kernel
theorem dX5_leadNumber_38 : decode cX5_leadNumber 38 = .ok (.iload_n 1, 1) := by decide +kernel
theorem dX5_leadNumber_39 : decode cX5_leadNumber 39 = .ok (.if_icmp .ne 6, 3) := by decide +kernel
theorem dX5_leadNumber_42 : decode cX5_leadNumber 42 = .ok (.iload 4, 2) := by decide +kernel
theorem dX5_leadNumber_44 : decode cX5_leadNumber 44 = .ok (.ireturn, 1) := by decide +kernel
theorem dX5_leadNumber_45 : decode cX5_leadNumber 45 = .ok (.iinc 2 1, 3) := by decide +kernel
theorem dX5_leadNumber_48 : decode cX5_leadNumber 48 = .ok (.iinc 3 1, 3) := by decide +kernel
theorem dX5_leadNumber_51 : decode cX5_leadNumber 51 = .ok (.goto (-47), 3) := by decide +kernel
theorem dX5_leadNumber_54 : decode cX5_leadNumber 54 = .ok (.iconst (-1), 1) := by decide +kernel
theorem dX5_leadNumber_55 : decode cX5_leadNumber 55 = .ok (.ireturn, 1) := by decide +kernel
theorem dX5_leadsOfDegree_0 : decode cX5_leadsOfDegree 0 = .ok (.iconst 0, 1) := by decide +kernel
theorem dX5_leadsOfDegree_1 : decode cX5_leadsOfDegree 1 = .ok (.istore_n 2, 1) := by decide +kernel
theorem dX5_leadsOfDegree_2 : decode cX5_leadsOfDegree 2 = .ok (.iconst 0, 1) := by decide +kernel
theorem dX5_leadsOfDegree_3 : decode cX5_leadsOfDegree 3 = .ok (.istore_n 3, 1) := by decide +kernel
theorem dX5_leadsOfDegree_4 : decode cX5_leadsOfDegree 4 = .ok (.iload_n 3, 1) := by decide +kernel
theorem dX5_leadsOfDegree_5 : decode cX5_leadsOfDegree 5 = .ok (.aload_n 0, 1) := by decide +kernel
theorem dX5_leadsOfDegree_6 : decode cX5_leadsOfDegree 6 = .ok (.getfield 15, 3) := by decide +kernel
theorem dX5_leadsOfDegree_9 : decode cX5_leadsOfDegree 9 = .ok (.if_icmp .ge 34, 3) := by decide +kernel
theorem dX5_leadsOfDegree_12 : decode cX5_leadsOfDegree 12 = .ok (.iload_n 2, 1) := by decide +kernel
theorem dX5_leadsOfDegree_13 : decode cX5_leadsOfDegree 13 = .ok (.aload_n 0, 1) := by decide +kernel
theorem dX5_leadsOfDegree_14 : decode cX5_leadsOfDegree 14 = .ok (.getfield 29, 3) := by decide +kernel
theorem dX5_leadsOfDegree_17 : decode cX5_leadsOfDegree 17 = .ok (.iload_n 3, 1) := by decide +kernel
theorem dX5_leadsOfDegree_18 : decode cX5_leadsOfDegree 18 = .ok (.baload, 1) := by decide +kernel
theorem dX5_leadsOfDegree_19 : decode cX5_leadsOfDegree 19 = .ok (.ifCond .eq 15, 3) := by decide +kernel
theorem dX5_leadsOfDegree_22 : decode cX5_leadsOfDegree 22 = .ok (.iload_n 3, 1) := by decide +kernel
theorem dX5_leadsOfDegree_23 : decode cX5_leadsOfDegree 23 = .ok (.invokestatic 69, 3) := by decide +kernel
theorem dX5_leadsOfDegree_26 : decode cX5_leadsOfDegree 26 = .ok (.iload_n 1, 1) := by decide +kernel
theorem dX5_leadsOfDegree_27 : decode cX5_leadsOfDegree 27 = .ok (.if_icmp .ne 7, 3) := by decide +kernel
theorem dX5_leadsOfDegree_30 : decode cX5_leadsOfDegree 30 = .ok (.iconst 1, 1) := by decide +kernel
theorem dX5_leadsOfDegree_31 : decode cX5_leadsOfDegree 31 = .ok (.goto 4, 3) := by decide +kernel
theorem dX5_leadsOfDegree_34 : decode cX5_leadsOfDegree 34 = .ok (.iconst 0, 1) := by decide +kernel
theorem dX5_leadsOfDegree_35 : decode cX5_leadsOfDegree 35 = .ok (.iadd, 1) := by decide +kernel
theorem dX5_leadsOfDegree_36 : decode cX5_leadsOfDegree 36 = .ok (.istore_n 2, 1) := by decide +kernel
theorem dX5_leadsOfDegree_37 : decode cX5_leadsOfDegree 37 = .ok (.iinc 3 1, 3) := by decide +kernel
theorem dX5_leadsOfDegree_40 : decode cX5_leadsOfDegree 40 = .ok (.goto (-36), 3) := by decide +kernel
theorem dX5_leadsOfDegree_43 : decode cX5_leadsOfDegree 43 = .ok (.iload_n 2, 1) := by decide +kernel
theorem dX5_leadsOfDegree_44 : decode cX5_leadsOfDegree 44 = .ok (.ireturn, 1) := by decide +kernel
theorem dX5_solve_0 : decode cX5_solve 0 = .ok (.iload_n 1, 1) := by decide +kernel
theorem dX5_solve_1 : decode cX5_solve 1 = .ok (.ifCond .lt 20, 3) := by decide +kernel
theorem dX5_solve_4 : decode cX5_solve 4 = .ok (.iload_n 1, 1) := by decide +kernel
theorem dX5_solve_5 : decode cX5_solve 5 = .ok (.aload_n 0, 1) := by decide +kernel
theorem dX5_solve_6 : decode cX5_solve 6 = .ok (.getfield 15, 3) := by decide +kernel
theorem dX5_solve_9 : decode cX5_solve 9 = .ok (.if_icmp .ge 12, 3) := by decide +kernel
theorem dX5_solve_12 : decode cX5_solve 12 = .ok (.aload_n 0, 1) := by decide +kernel
theorem dX5_solve_13 : decode cX5_solve 13 = .ok (.getfield 29, 3) := by decide +kernel
theorem dX5_solve_16 : decode cX5_solve 16 = .ok (.iload_n 1, 1) := by decide +kernel
theorem dX5_solve_17 : decode cX5_solve 17 = .ok (.baload, 1) := by decide +kernel
theorem dX5_solve_18 : decode cX5_solve 18 = .ok (.ifCond .eq 5, 3) := by decide +kernel
theorem dX5_solve_21 : decode cX5_solve 21 = .ok (.iconst 0, 1) := by decide +kernel
theorem dX5_solve_22 : decode cX5_solve 22 = .ok (.ireturn, 1) := by decide +kernel
theorem dX5_solve_23 : decode cX5_solve 23 = .ok (.iconst 0, 1) := by decide +kernel
theorem dX5_solve_24 : decode cX5_solve 24 = .ok (.istore_n 3, 1) := by decide +kernel
theorem dX5_solve_25 : decode cX5_solve 25 = .ok (.iload_n 3, 1) := by decide +kernel
theorem dX5_solve_26 : decode cX5_solve 26 = .ok (.aload_n 0, 1) := by decide +kernel
theorem dX5_solve_27 : decode cX5_solve 27 = .ok (.getfield 15, 3) := by decide +kernel
theorem dX5_solve_30 : decode cX5_solve 30 = .ok (.if_icmp .ge 41, 3) := by decide +kernel
theorem dX5_solve_33 : decode cX5_solve 33 = .ok (.aload_n 2, 1) := by decide +kernel
theorem dX5_solve_34 : decode cX5_solve 34 = .ok (.iload_n 3, 1) := by decide +kernel
theorem dX5_solve_35 : decode cX5_solve 35 = .ok (.aload_n 0, 1) := by decide +kernel
theorem dX5_solve_36 : decode cX5_solve 36 = .ok (.getfield 29, 3) := by decide +kernel
theorem dX5_solve_39 : decode cX5_solve 39 = .ok (.iload_n 3, 1) := by decide +kernel
theorem dX5_solve_40 : decode cX5_solve 40 = .ok (.baload, 1) := by decide +kernel
theorem dX5_solve_41 : decode cX5_solve 41 = .ok (.ifCond .eq 22, 3) := by decide +kernel
theorem dX5_solve_44 : decode cX5_solve 44 = .ok (.aload_n 0, 1) := by decide +kernel
theorem dX5_solve_45 : decode cX5_solve 45 = .ok (.getfield 26, 3) := by decide +kernel
theorem dX5_solve_48 : decode cX5_solve 48 = .ok (.iload_n 3, 1) := by decide +kernel
theorem dX5_solve_49 : decode cX5_solve 49 = .ok (.aaload, 1) := by decide +kernel
theorem dX5_solve_50 : decode cX5_solve 50 = .ok (.iload_n 1, 1) := by decide +kernel
theorem dX5_solve_51 : decode cX5_solve 51 = .ok (.iaload, 1) := by decide +kernel
theorem dX5_solve_52 : decode cX5_solve 52 = .ok (.ineg, 1) := by decide +kernel
theorem dX5_solve_53 : decode cX5_solve 53 = .ok (.aload_n 0, 1) := by decide +kernel
theorem dX5_solve_54 : decode cX5_solve 54 = .ok (.getfield 18, 3) := by decide +kernel
theorem dX5_solve_57 : decode cX5_solve 57 = .ok (.invokestatic 59, 3) := by decide +kernel
theorem dX5_solve_60 : decode cX5_solve 60 = .ok (.goto 4, 3) := by decide +kernel
theorem dX5_solve_63 : decode cX5_solve 63 = .ok (.iconst 0, 1) := by decide +kernel
theorem dX5_solve_64 : decode cX5_solve 64 = .ok (.iastore, 1) := by decide +kernel
theorem dX5_solve_65 : decode cX5_solve 65 = .ok (.iinc 3 1, 3) := by decide +kernel
theorem dX5_solve_68 : decode cX5_solve 68 = .ok (.goto (-43), 3) := by decide +kernel
theorem dX5_solve_71 : decode cX5_solve 71 = .ok (.aload_n 2, 1) := by decide +kernel
theorem dX5_solve_72 : decode cX5_solve 72 = .ok (.iload_n 1, 1) := by decide +kernel
theorem dX5_solve_73 : decode cX5_solve 73 = .ok (.iconst 1, 1) := by decide +kernel
theorem dX5_solve_74 : decode cX5_solve 74 = .ok (.iastore, 1) := by decide +kernel
theorem dX5_solve_75 : decode cX5_solve 75 = .ok (.iconst 1, 1) := by decide +kernel
theorem dX5_solve_76 : decode cX5_solve 76 = .ok (.ireturn, 1) := by decide +kernel
theorem dX6_init_0 : decode cX6_init 0 = .ok (.aload_n 0, 1) := by decide +kernel
theorem dX6_init_1 : decode cX6_init 1 = .ok (.invokespecial 3, 3) := by decide +kernel
theorem dX6_init_4 : decode cX6_init 4 = .ok (.aload_n 0, 1) := by decide +kernel
theorem dX6_init_5 : decode cX6_init 5 = .ok (.new 9, 3) := by decide +kernel
theorem dX6_init_8 : decode cX6_init 8 = .ok (.dup, 1) := by decide +kernel
theorem dX6_init_9 : decode cX6_init 9 = .ok (.bipush 64, 2) := by decide +kernel
theorem dX6_init_11 : decode cX6_init 11 = .ok (.invokespecial 13, 3) := by decide +kernel
theorem dX6_init_14 : decode cX6_init 14 = .ok (.putfield 16, 3) := by decide +kernel
theorem dX6_init_17 : decode cX6_init 17 = .ok (.aload_n 0, 1) := by decide +kernel
theorem dX6_init_18 : decode cX6_init 18 = .ok (.new 9, 3) := by decide +kernel
theorem dX6_init_21 : decode cX6_init 21 = .ok (.dup, 1) := by decide +kernel
theorem dX6_init_22 : decode cX6_init 22 = .ok (.bipush 64, 2) := by decide +kernel
theorem dX6_init_24 : decode cX6_init 24 = .ok (.invokespecial 13, 3) := by decide +kernel
theorem dX6_init_27 : decode cX6_init 27 = .ok (.putfield 20, 3) := by decide +kernel
theorem dX6_init_30 : decode cX6_init 30 = .ok (.aload_n 0, 1) := by decide +kernel
theorem dX6_init_31 : decode cX6_init 31 = .ok (.bipush 8, 2) := by decide +kernel
theorem dX6_init_33 : decode cX6_init 33 = .ok (.bipush 64, 2) := by decide +kernel
theorem dX6_init_35 : decode cX6_init 35 = .ok (.multianewarray 23 2, 4) := by decide +kernel
theorem dX6_init_39 : decode cX6_init 39 = .ok (.putfield 25, 3) := by decide +kernel
theorem dX6_init_42 : decode cX6_init 42 = .ok (.aload_n 0, 1) := by decide +kernel
theorem dX6_init_43 : decode cX6_init 43 = .ok (.iconst 0, 1) := by decide +kernel
theorem dX6_init_44 : decode cX6_init 44 = .ok (.putfield 28, 3) := by decide +kernel
theorem dX6_init_47 : decode cX6_init 47 = .ok (.aload_n 0, 1) := by decide +kernel
theorem dX6_init_48 : decode cX6_init 48 = .ok (.iconst 1, 1) := by decide +kernel
theorem dX6_init_49 : decode cX6_init 49 = .ok (.putfield 32, 3) := by decide +kernel
theorem dX6_init_52 : decode cX6_init 52 = .ok (.aload_n 0, 1) := by decide +kernel
theorem dX6_init_53 : decode cX6_init 53 = .ok (.bipush 64, 2) := by decide +kernel
theorem dX6_init_55 : decode cX6_init 55 = .ok (.newarray .int, 2) := by decide +kernel
theorem dX6_init_57 : decode cX6_init 57 = .ok (.putfield 35, 3) := by decide +kernel
theorem dX6_init_60 : decode cX6_init 60 = .ok (.aload_n 0, 1) := by decide +kernel
theorem dX6_init_61 : decode cX6_init 61 = .ok (.bipush 64, 2) := by decide +kernel
theorem dX6_init_63 : decode cX6_init 63 = .ok (.newarray .int, 2) := by decide +kernel
theorem dX6_init_65 : decode cX6_init 65 = .ok (.putfield 39, 3) := by decide +kernel
theorem dX6_init_68 : decode cX6_init 68 = .ok (.return_, 1) := by decide +kernel
theorem dX6_countOf_0 : decode cX6_countOf 0 = .ok (.aload_n 0, 1) := by decide +kernel
theorem dX6_countOf_1 : decode cX6_countOf 1 = .ok (.aload_n 1, 1) := by decide +kernel
theorem dX6_countOf_2 : decode cX6_countOf 2 = .ok (.aload_n 2, 1) := by decide +kernel
theorem dX6_countOf_3 : decode cX6_countOf 3 = .ok (.invokevirtual 42, 3) := by decide +kernel
theorem dX6_countOf_6 : decode cX6_countOf 6 = .ok (.aload_n 0, 1) := by decide +kernel
theorem dX6_countOf_7 : decode cX6_countOf 7 = .ok (.getfield 28, 3) := by decide +kernel
theorem dX6_countOf_10 : decode cX6_countOf 10 = .ok (.istore 4, 2) := by decide +kernel
theorem dX6_countOf_12 : decode cX6_countOf 12 = .ok (.iconst 1, 1) := by decide +kernel
theorem dX6_countOf_13 : decode cX6_countOf 13 = .ok (.istore 5, 2) := by decide +kernel
theorem dX6_countOf_15 : decode cX6_countOf 15 = .ok (.iload 5, 2) := by decide +kernel
theorem dX6_countOf_17 : decode cX6_countOf 17 = .ok (.iload_n 3, 1) := by decide +kernel
theorem dX6_countOf_18 : decode cX6_countOf 18 = .ok (.if_icmp .gt 38, 3) := by decide +kernel
theorem dX6_countOf_21 : decode cX6_countOf 21 = .ok (.iload 5, 2) := by decide +kernel
theorem dX6_countOf_23 : decode cX6_countOf 23 = .ok (.iconst 2, 1) := by decide +kernel
theorem dX6_countOf_24 : decode cX6_countOf 24 = .ok (.if_icmp .gt 32, 3) := by decide +kernel
theorem dX6_countOf_27 : decode cX6_countOf 27 = .ok (.aload_n 0, 1) := by decide +kernel
theorem dX6_countOf_28 : decode cX6_countOf 28 = .ok (.aload_n 1, 1) := by decide +kernel
theorem dX6_countOf_29 : decode cX6_countOf 29 = .ok (.invokevirtual 46, 3) := by decide +kernel
theorem dX6_countOf_32 : decode cX6_countOf 32 = .ok (.aload_n 0, 1) := by decide +kernel
theorem dX6_countOf_33 : decode cX6_countOf 33 = .ok (.aload_n 1, 1) := by decide +kernel
theorem dX6_countOf_34 : decode cX6_countOf 34 = .ok (.invokevirtual 50, 3) := by decide +kernel
theorem dX6_countOf_37 : decode cX6_countOf 37 = .ok (.istore 4, 2) := by decide +kernel
theorem dX6_countOf_39 : decode cX6_countOf 39 = .ok (.iload 5, 2) := by decide +kernel
theorem dX6_countOf_41 : decode cX6_countOf 41 = .ok (.iload_n 3, 1) := by decide +kernel
theorem dX6_countOf_42 : decode cX6_countOf 42 = .ok (.if_icmp .ge 8, 3) := by decide +kernel
theorem dX6_countOf_45 : decode cX6_countOf 45 = .ok (.aload_n 0, 1) := by decide +kernel
theorem dX6_countOf_46 : decode cX6_countOf 46 = .ok (.aload_n 1, 1) := by decide +kernel
theorem dX6_countOf_47 : decode cX6_countOf 47 = .ok (.invokevirtual 54, 3) := by decide +kernel
theorem dX6_countOf_50 : decode cX6_countOf 50 = .ok (.iinc 5 1, 3) := by decide +kernel
theorem dX6_countOf_53 : decode cX6_countOf 53 = .ok (.goto (-38), 3) := by decide +kernel
theorem dX6_countOf_56 : decode cX6_countOf 56 = .ok (.iload 4, 2) := by decide +kernel
theorem dX6_countOf_58 : decode cX6_countOf 58 = .ok (.ireturn, 1) := by decide +kernel
theorem dX6_chooseGenerators_0 : decode cX6_chooseGenerators 0 = .ok (.aload_n 0, 1) := by decide +kernel
theorem dX6_chooseGenerators_1 : decode cX6_chooseGenerators 1 = .ok (.getfield 16, 3) := by decide +kernel
theorem dX6_chooseGenerators_4 : decode cX6_chooseGenerators 4 = .ok (.aload_n 1, 1) := by decide +kernel
theorem dX6_chooseGenerators_5 : decode cX6_chooseGenerators 5 = .ok (.invokevirtual 57, 3) := by decide +kernel
theorem dX6_chooseGenerators_8 : decode cX6_chooseGenerators 8 = .ok (.aload_n 1, 1) := by decide +kernel
theorem dX6_chooseGenerators_9 : decode cX6_chooseGenerators 9 = .ok (.getfield 63, 3) := by decide +kernel
theorem dX6_chooseGenerators_12 : decode cX6_chooseGenerators 12 = .ok (.iconst 0, 1) := by decide +kernel
theorem dX6_chooseGenerators_13 : decode cX6_chooseGenerators 13 = .ok (.invokevirtual 66, 3) := by decide +kernel
theorem dX6_chooseGenerators_16 : decode cX6_chooseGenerators 16 = .ok (.iconst 0, 1) := by decide +kernel
theorem dX6_chooseGenerators_17 : decode cX6_chooseGenerators 17 = .ok (.istore_n 3, 1) := by decide +kernel
theorem dX6_chooseGenerators_18 : decode cX6_chooseGenerators 18 = .ok (.iload_n 3, 1) := by decide +kernel
theorem dX6_chooseGenerators_19 : decode cX6_chooseGenerators 19 = .ok (.aload_n 1, 1) := by decide +kernel
theorem dX6_chooseGenerators_20 : decode cX6_chooseGenerators 20 = .ok (.invokevirtual 57, 3) := by decide +kernel
theorem dX6_chooseGenerators_23 : decode cX6_chooseGenerators 23 = .ok (.if_icmp .ge 32, 3) := by decide +kernel
theorem dX6_chooseGenerators_26 : decode cX6_chooseGenerators 26 = .ok (.aload_n 2, 1) := by decide +kernel
theorem dX6_chooseGenerators_27 : decode cX6_chooseGenerators 27 = .ok (.iload_n 3, 1) := by decide +kernel
theorem dX6_chooseGenerators_28 : decode cX6_chooseGenerators 28 = .ok (.invokevirtual 70, 3) := by decide +kernel
theorem dX6_chooseGenerators_31 : decode cX6_chooseGenerators 31 = .ok (.ifCond .eq 18, 3) := by decide +kernel
theorem dX6_chooseGenerators_34 : decode cX6_chooseGenerators 34 = .ok (.aload_n 0, 1) := by decide +kernel
theorem dX6_chooseGenerators_35 : decode cX6_chooseGenerators 35 = .ok (.aload_n 2, 1) := by decide +kernel
theorem dX6_chooseGenerators_36 : decode cX6_chooseGenerators 36 = .ok (.getfield 74, 3) := by decide +kernel
theorem dX6_chooseGenerators_39 : decode cX6_chooseGenerators 39 = .ok (.iload_n 3, 1) := by decide +kernel
theorem dX6_chooseGenerators_40 : decode cX6_chooseGenerators 40 = .ok (.aaload, 1) := by decide +kernel
theorem dX6_chooseGenerators_41 : decode cX6_chooseGenerators 41 = .ok (.aload_n 1, 1) := by decide +kernel
theorem dX6_chooseGenerators_42 : decode cX6_chooseGenerators 42 = .ok (.invokevirtual 57, 3) := by decide +kernel
theorem dX6_chooseGenerators_45 : decode cX6_chooseGenerators 45 = .ok (.aload_n 1, 1) := by decide +kernel
theorem dX6_chooseGenerators_46 : decode cX6_chooseGenerators 46 = .ok (.invokevirtual 77, 3) := by decide +kernel
theorem dX6_chooseGenerators_49 : decode cX6_chooseGenerators 49 = .ok (.iinc 3 1, 3) := by decide +kernel
theorem dX6_chooseGenerators_52 : decode cX6_chooseGenerators 52 = .ok (.goto (-34), 3) := by decide +kernel
theorem dX6_chooseGenerators_55 : decode cX6_chooseGenerators 55 = .ok (.aload_n 0, 1) := by decide +kernel
theorem dX6_chooseGenerators_56 : decode cX6_chooseGenerators 56 = .ok (.iconst 1, 1) := by decide +kernel
theorem dX6_chooseGenerators_57 : decode cX6_chooseGenerators 57 = .ok (.putfield 32, 3) := by decide +kernel
theorem dX6_chooseGenerators_60 : decode cX6_chooseGenerators 60 = .ok (.aload_n 0, 1) := by decide +kernel
theorem dX6_chooseGenerators_61 : decode cX6_chooseGenerators 61 = .ok (.iconst 0, 1) := by decide +kernel
theorem dX6_chooseGenerators_62 : decode cX6_chooseGenerators 62 = .ok (.putfield 28, 3) := by decide +kernel
theorem dX6_chooseGenerators_65 : decode cX6_chooseGenerators 65 = .ok (.iconst 0, 1) := by decide +kernel
theorem dX6_chooseGenerators_66 : decode cX6_chooseGenerators 66 = .ok (.istore_n 3, 1) := by decide +kernel
theorem dX6_chooseGenerators_67 : decode cX6_chooseGenerators 67 = .ok (.iload_n 3, 1) := by decide +kernel
theorem dX6_chooseGenerators_68 : decode cX6_chooseGenerators 68 = .ok (.aload_n 1, 1) := by decide +kernel
theorem dX6_chooseGenerators_69 : decode cX6_chooseGenerators 69 = .ok (.getfield 81, 3) := by decide +kernel
theorem dX6_chooseGenerators_72 : decode cX6_chooseGenerators 72 = .ok (.if_icmp .ge 29, 3) := by decide +kernel
theorem dX6_chooseGenerators_75 : decode cX6_chooseGenerators 75 = .ok (.iload_n 3, 1) := by decide +kernel
theorem dX6_chooseGenerators_76 : decode cX6_chooseGenerators 76 = .ok (.iconst 4, 1) := by decide +kernel
theorem dX6_chooseGenerators_77 : decode cX6_chooseGenerators 77 = .ok (.if_icmp .ge 24, 3) := by decide +kernel
theorem dX6_chooseGenerators_80 : decode cX6_chooseGenerators 80 = .ok (.aload_n 0, 1) := by decide +kernel
theorem dX6_chooseGenerators_81 : decode cX6_chooseGenerators 81 = .ok (.aload_n 1, 1) := by decide +kernel
theorem dX6_chooseGenerators_82 : decode cX6_chooseGenerators 82 = .ok (.getfield 84, 3) := by decide +kernel
theorem dX6_chooseGenerators_85 : decode cX6_chooseGenerators 85 = .ok (.iload_n 3, 1) := by decide +kernel
theorem dX6_chooseGenerators_86 : decode cX6_chooseGenerators 86 = .ok (.aaload, 1) := by decide +kernel
theorem dX6_chooseGenerators_87 : decode cX6_chooseGenerators 87 = .ok (.aload_n 1, 1) := by decide +kernel
theorem dX6_chooseGenerators_88 : decode cX6_chooseGenerators 88 = .ok (.invokevirtual 57, 3) := by decide +kernel
theorem dX6_chooseGenerators_91 : decode cX6_chooseGenerators 91 = .ok (.aload_n 1, 1) := by decide +kernel
theorem dX6_chooseGenerators_92 : decode cX6_chooseGenerators 92 = .ok (.invokevirtual 87, 3) := by decide +kernel
theorem dX6_chooseGenerators_95 : decode cX6_chooseGenerators 95 = .ok (.iinc 3 1, 3) := by decide +kernel
theorem dX6_chooseGenerators_98 : decode cX6_chooseGenerators 98 = .ok (.goto (-31), 3) := by decide +kernel
theorem dX6_chooseGenerators_101 : decode cX6_chooseGenerators 101 = .ok (.return_, 1) := by decide +kernel
theorem dX6_admitProducts_0 : decode cX6_admitProducts 0 = .ok (.iconst 0, 1) := by decide +kernel
theorem dX6_admitProducts_1 : decode cX6_admitProducts 1 = .ok (.istore 4, 2) := by decide +kernel
theorem dX6_admitProducts_3 : decode cX6_admitProducts 3 = .ok (.iload 4, 2) := by decide +kernel
theorem dX6_admitProducts_5 : decode cX6_admitProducts 5 = .ok (.aload_n 3, 1) := by decide +kernel
theorem dX6_admitProducts_6 : decode cX6_admitProducts 6 = .ok (.getfield 90, 3) := by decide +kernel
theorem dX6_admitProducts_9 : decode cX6_admitProducts 9 = .ok (.if_icmp .ge 37, 3) := by decide +kernel
theorem dX6_admitProducts_12 : decode cX6_admitProducts 12 = .ok (.iconst 0, 1) := by decide +kernel
theorem dX6_admitProducts_13 : decode cX6_admitProducts 13 = .ok (.iload 4, 2) := by decide +kernel
theorem dX6_admitProducts_15 : decode cX6_admitProducts 15 = .ok (.aload_n 1, 1) := by decide +kernel
theorem dX6_admitProducts_16 : decode cX6_admitProducts 16 = .ok (.aload_n 0, 1) := by decide +kernel
theorem dX6_admitProducts_17 : decode cX6_admitProducts 17 = .ok (.getfield 39, 3) := by decide +kernel
theorem dX6_admitProducts_20 : decode cX6_admitProducts 20 = .ok (.iload_n 2, 1) := by decide +kernel
theorem dX6_admitProducts_21 : decode cX6_admitProducts 21 = .ok (.aload_n 3, 1) := by decide +kernel
theorem dX6_admitProducts_22 : decode cX6_admitProducts 22 = .ok (.getfield 63, 3) := by decide +kernel
theorem dX6_admitProducts_25 : decode cX6_admitProducts 25 = .ok (.invokestatic 93, 3) := by decide +kernel
theorem dX6_admitProducts_28 : decode cX6_admitProducts 28 = .ok (.aload_n 0, 1) := by decide +kernel
theorem dX6_admitProducts_29 : decode cX6_admitProducts 29 = .ok (.getfield 16, 3) := by decide +kernel
theorem dX6_admitProducts_32 : decode cX6_admitProducts 32 = .ok (.aload_n 0, 1) := by decide +kernel
theorem dX6_admitProducts_33 : decode cX6_admitProducts 33 = .ok (.getfield 39, 3) := by decide +kernel
theorem dX6_admitProducts_36 : decode cX6_admitProducts 36 = .ok (.invokevirtual 99, 3) := by decide +kernel
theorem dX6_admitProducts_39 : decode cX6_admitProducts 39 = .ok (.pop, 1) := by decide +kernel
theorem dX6_admitProducts_40 : decode cX6_admitProducts 40 = .ok (.iinc 4 1, 3) := by decide +kernel
theorem dX6_admitProducts_43 : decode cX6_admitProducts 43 = .ok (.goto (-40), 3) := by decide +kernel
theorem dX6_admitProducts_46 : decode cX6_admitProducts 46 = .ok (.return_, 1) := by decide +kernel
theorem dX6_choose_0 : decode cX6_choose 0 = .ok (.aload_n 1, 1) := by decide +kernel
theorem dX6_choose_1 : decode cX6_choose 1 = .ok (.aload_n 0, 1) := by decide +kernel
theorem dX6_choose_2 : decode cX6_choose 2 = .ok (.getfield 39, 3) := by decide +kernel
theorem dX6_choose_5 : decode cX6_choose 5 = .ok (.iload_n 2, 1) := by decide +kernel
theorem dX6_choose_6 : decode cX6_choose 6 = .ok (.invokestatic 103, 3) := by decide +kernel
theorem dX6_choose_9 : decode cX6_choose 9 = .ok (.aload_n 0, 1) := by decide +kernel
theorem dX6_choose_10 : decode cX6_choose 10 = .ok (.getfield 28, 3) := by decide +kernel
theorem dX6_choose_13 : decode cX6_choose 13 = .ok (.bipush 8, 2) := by decide +kernel
theorem dX6_choose_15 : decode cX6_choose 15 = .ok (.if_icmp .ge 23, 3) := by decide +kernel
theorem dX6_choose_18 : decode cX6_choose 18 = .ok (.aload_n 0, 1) := by decide +kernel
theorem dX6_choose_19 : decode cX6_choose 19 = .ok (.getfield 28, 3) := by decide +kernel
theorem dX6_choose_22 : decode cX6_choose 22 = .ok (.iconst 1, 1) := by decide +kernel
theorem dX6_choose_23 : decode cX6_choose 23 = .ok (.iadd, 1) := by decide +kernel
theorem dX6_choose_24 : decode cX6_choose 24 = .ok (.aload_n 3, 1) := by decide +kernel
theorem dX6_choose_25 : decode cX6_choose 25 = .ok (.invokevirtual 57, 3) := by decide +kernel
theorem dX6_choose_28 : decode cX6_choose 28 = .ok (.imul, 1) := by decide +kernel
theorem dX6_choose_29 : decode cX6_choose 29 = .ok (.bipush 64, 2) := by decide +kernel
theorem dX6_choose_31 : decode cX6_choose 31 = .ok (.if_icmp .gt 7, 3) := by decide +kernel
theorem dX6_choose_34 : decode cX6_choose 34 = .ok (.iconst 1, 1) := by decide +kernel
theorem dX6_choose_35 : decode cX6_choose 35 = .ok (.goto 4, 3) := by decide +kernel
theorem dX6_choose_38 : decode cX6_choose 38 = .ok (.iconst 0, 1) := by decide +kernel
theorem dX6_choose_39 : decode cX6_choose 39 = .ok (.istore 4, 2) := by decide +kernel
theorem dX6_choose_41 : decode cX6_choose 41 = .ok (.aload_n 0, 1) := by decide +kernel
theorem dX6_choose_42 : decode cX6_choose 42 = .ok (.getfield 16, 3) := by decide +kernel
theorem dX6_choose_45 : decode cX6_choose 45 = .ok (.aload_n 0, 1) := by decide +kernel
theorem dX6_choose_46 : decode cX6_choose 46 = .ok (.getfield 39, 3) := by decide +kernel
theorem dX6_choose_49 : decode cX6_choose 49 = .ok (.invokevirtual 99, 3) := by decide +kernel
theorem dX6_choose_52 : decode cX6_choose 52 = .ok (.ifCond .eq 32, 3) := by decide +kernel
theorem dX6_choose_55 : decode cX6_choose 55 = .ok (.iload 4, 2) := by decide +kernel
theorem dX6_choose_57 : decode cX6_choose 57 = .ok (.ifCond .eq 27, 3) := by decide +kernel
theorem dX6_choose_60 : decode cX6_choose 60 = .ok (.aload_n 1, 1) := by decide +kernel
theorem dX6_choose_61 : decode cX6_choose 61 = .ok (.aload_n 0, 1) := by decide +kernel
theorem dX6_choose_62 : decode cX6_choose 62 = .ok (.getfield 25, 3) := by decide +kernel
theorem dX6_choose_65 : decode cX6_choose 65 = .ok (.aload_n 0, 1) := by decide +kernel
theorem dX6_choose_66 : decode cX6_choose 66 = .ok (.getfield 28, 3) := by decide +kernel
theorem dX6_choose_69 : decode cX6_choose 69 = .ok (.aaload, 1) := by decide +kernel
theorem dX6_choose_70 : decode cX6_choose 70 = .ok (.iload_n 2, 1) := by decide +kernel
theorem dX6_choose_71 : decode cX6_choose 71 = .ok (.invokestatic 103, 3) := by decide +kernel
theorem dX6_choose_74 : decode cX6_choose 74 = .ok (.aload_n 0, 1) := by decide +kernel
theorem dX6_choose_75 : decode cX6_choose 75 = .ok (.dup, 1) := by decide +kernel
theorem dX6_choose_76 : decode cX6_choose 76 = .ok (.getfield 28, 3) := by decide +kernel
theorem dX6_choose_79 : decode cX6_choose 79 = .ok (.iconst 1, 1) := by decide +kernel
theorem dX6_choose_80 : decode cX6_choose 80 = .ok (.iadd, 1) := by decide +kernel
theorem dX6_choose_81 : decode cX6_choose 81 = .ok (.putfield 28, 3) := by decide +kernel
theorem dX6_choose_84 : decode cX6_choose 84 = .ok (.return_, 1) := by decide +kernel
theorem dX6_relateChosen_0 : decode cX6_relateChosen 0 = .ok (.aload_n 1, 1) := by decide +kernel
theorem dX6_relateChosen_1 : decode cX6_relateChosen 1 = .ok (.invokevirtual 57, 3) := by decide +kernel
theorem dX6_relateChosen_4 : decode cX6_relateChosen 4 = .ok (.istore_n 2, 1) := by decide +kernel
theorem dX6_relateChosen_5 : decode cX6_relateChosen 5 = .ok (.aload_n 0, 1) := by decide +kernel
theorem dX6_relateChosen_6 : decode cX6_relateChosen 6 = .ok (.getfield 20, 3) := by decide +kernel
theorem dX6_relateChosen_9 : decode cX6_relateChosen 9 = .ok (.aload_n 0, 1) := by decide +kernel
theorem dX6_relateChosen_10 : decode cX6_relateChosen 10 = .ok (.getfield 28, 3) := by decide +kernel
theorem dX6_relateChosen_13 : decode cX6_relateChosen 13 = .ok (.iload_n 2, 1) := by decide +kernel
theorem dX6_relateChosen_14 : decode cX6_relateChosen 14 = .ok (.imul, 1) := by decide +kernel
theorem dX6_relateChosen_15 : decode cX6_relateChosen 15 = .ok (.aload_n 1, 1) := by decide +kernel
theorem dX6_relateChosen_16 : decode cX6_relateChosen 16 = .ok (.getfield 63, 3) := by decide +kernel
theorem dX6_relateChosen_19 : decode cX6_relateChosen 19 = .ok (.iconst 0, 1) := by decide +kernel
theorem dX6_relateChosen_20 : decode cX6_relateChosen 20 = .ok (.invokevirtual 66, 3) := by decide +kernel
theorem dX6_relateChosen_23 : decode cX6_relateChosen 23 = .ok (.iconst 0, 1) := by decide +kernel
theorem dX6_relateChosen_24 : decode cX6_relateChosen 24 = .ok (.istore_n 3, 1) := by decide +kernel
theorem dX6_relateChosen_25 : decode cX6_relateChosen 25 = .ok (.iload_n 3, 1) := by decide +kernel
theorem dX6_relateChosen_26 : decode cX6_relateChosen 26 = .ok (.aload_n 0, 1) := by decide +kernel
theorem dX6_relateChosen_27 : decode cX6_relateChosen 27 = .ok (.getfield 32, 3) := by decide +kernel
theorem dX6_relateChosen_30 : decode cX6_relateChosen 30 = .ok (.if_icmp .ge 66, 3) := by decide +kernel
theorem dX6_relateChosen_33 : decode cX6_relateChosen 33 = .ok (.iconst 0, 1) := by decide +kernel
theorem dX6_relateChosen_34 : decode cX6_relateChosen 34 = .ok (.istore 4, 2) := by decide +kernel
theorem dX6_relateChosen_36 : decode cX6_relateChosen 36 = .ok (.iload 4, 2) := by decide +kernel
theorem dX6_relateChosen_38 : decode cX6_relateChosen 38 = .ok (.iload_n 2, 1) := by decide +kernel
theorem dX6_relateChosen_39 : decode cX6_relateChosen 39 = .ok (.if_icmp .ge 51, 3) := by decide +kernel
theorem dX6_relateChosen_42 : decode cX6_relateChosen 42 = .ok (.iconst 0, 1) := by decide +kernel
theorem dX6_relateChosen_43 : decode cX6_relateChosen 43 = .ok (.istore 5, 2) := by decide +kernel
theorem dX6_relateChosen_45 : decode cX6_relateChosen 45 = .ok (.iload 5, 2) := by decide +kernel
theorem dX6_relateChosen_47 : decode cX6_relateChosen 47 = .ok (.aload_n 0, 1) := by decide +kernel
theorem dX6_relateChosen_48 : decode cX6_relateChosen 48 = .ok (.getfield 28, 3) := by decide +kernel
theorem dX6_relateChosen_51 : decode cX6_relateChosen 51 = .ok (.if_icmp .ge 21, 3) := by decide +kernel
theorem dX6_relateChosen_54 : decode cX6_relateChosen 54 = .ok (.aload_n 0, 1) := by decide +kernel
theorem dX6_relateChosen_55 : decode cX6_relateChosen 55 = .ok (.iload 5, 2) := by decide +kernel
theorem dX6_relateChosen_57 : decode cX6_relateChosen 57 = .ok (.iload_n 3, 1) := by decide +kernel
theorem dX6_relateChosen_58 : decode cX6_relateChosen 58 = .ok (.iload_n 2, 1) := by decide +kernel
theorem dX6_relateChosen_59 : decode cX6_relateChosen 59 = .ok (.imul, 1) := by decide +kernel
theorem dX6_relateChosen_60 : decode cX6_relateChosen 60 = .ok (.iload 4, 2) := by decide +kernel
theorem dX6_relateChosen_62 : decode cX6_relateChosen 62 = .ok (.aload_n 1, 1) := by decide +kernel
theorem dX6_relateChosen_63 : decode cX6_relateChosen 63 = .ok (.invokevirtual 107, 3) := by decide +kernel
theorem dX6_relateChosen_66 : decode cX6_relateChosen 66 = .ok (.iinc 5 1, 3) := by decide +kernel
theorem dX6_relateChosen_69 : decode cX6_relateChosen 69 = .ok (.goto (-24), 3) := by decide +kernel
theorem dX6_relateChosen_72 : decode cX6_relateChosen 72 = .ok (.aload_n 0, 1) := by decide +kernel
theorem dX6_relateChosen_73 : decode cX6_relateChosen 73 = .ok (.getfield 20, 3) := by decide +kernel
theorem dX6_relateChosen_76 : decode cX6_relateChosen 76 = .ok (.aload_n 0, 1) := by decide +kernel
theorem dX6_relateChosen_77 : decode cX6_relateChosen 77 = .ok (.getfield 35, 3) := by decide +kernel
theorem dX6_relateChosen_80 : decode cX6_relateChosen 80 = .ok (.invokevirtual 99, 3) := by decide +kernel
theorem dX6_relateChosen_83 : decode cX6_relateChosen 83 = .ok (.pop, 1) := by decide +kernel
theorem dX6_relateChosen_84 : decode cX6_relateChosen 84 = .ok (.iinc 4 1, 3) := by decide +kernel
theorem dX6_relateChosen_87 : decode cX6_relateChosen 87 = .ok (.goto (-51), 3) := by decide +kernel
theorem dX6_relateChosen_90 : decode cX6_relateChosen 90 = .ok (.iinc 3 1, 3) := by decide +kernel
theorem dX6_relateChosen_93 : decode cX6_relateChosen 93 = .ok (.goto (-68), 3) := by decide +kernel
theorem dX6_relateChosen_96 : decode cX6_relateChosen 96 = .ok (.return_, 1) := by decide +kernel
theorem dX6_fillEquation_0 : decode cX6_fillEquation 0 = .ok (.aload 4, 2) := by decide +kernel
theorem dX6_fillEquation_2 : decode cX6_fillEquation 2 = .ok (.invokevirtual 57, 3) := by decide +kernel
theorem dX6_fillEquation_5 : decode cX6_fillEquation 5 = .ok (.istore 5, 2) := by decide +kernel
theorem dX6_fillEquation_7 : decode cX6_fillEquation 7 = .ok (.iconst 0, 1) := by decide +kernel
theorem dX6_fillEquation_8 : decode cX6_fillEquation 8 = .ok (.istore 6, 2) := by decide +kernel
theorem dX6_fillEquation_10 : decode cX6_fillEquation 10 = .ok (.iload 6, 2) := by decide +kernel
theorem dX6_fillEquation_12 : decode cX6_fillEquation 12 = .ok (.iload 5, 2) := by decide +kernel
theorem dX6_fillEquation_14 : decode cX6_fillEquation 14 = .ok (.if_icmp .ge 73, 3) := by decide +kernel
theorem dX6_fillEquation_17 : decode cX6_fillEquation 17 = .ok (.iload_n 3, 1) := by decide +kernel
theorem dX6_fillEquation_18 : decode cX6_fillEquation 18 = .ok (.iload 6, 2) := by decide +kernel
theorem dX6_fillEquation_20 : decode cX6_fillEquation 20 = .ok (.iconst (-1), 1) := by decide +kernel
theorem dX6_fillEquation_21 : decode cX6_fillEquation 21 = .ok (.ixor, 1) := by decide +kernel
theorem dX6_fillEquation_22 : decode cX6_fillEquation 22 = .ok (.iand, 1) := by decide +kernel
theorem dX6_fillEquation_23 : decode cX6_fillEquation 23 = .ok (.istore 7, 2) := by decide +kernel
theorem dX6_fillEquation_25 : decode cX6_fillEquation 25 = .ok (.iload 6, 2) := by decide +kernel
theorem dX6_fillEquation_27 : decode cX6_fillEquation 27 = .ok (.iload 7, 2) := by decide +kernel
theorem dX6_fillEquation_29 : decode cX6_fillEquation 29 = .ok (.invokestatic 111, 3) := by decide +kernel
theorem dX6_fillEquation_32 : decode cX6_fillEquation 32 = .ok (.aload_n 0, 1) := by decide +kernel
theorem dX6_fillEquation_33 : decode cX6_fillEquation 33 = .ok (.getfield 25, 3) := by decide +kernel
theorem dX6_fillEquation_36 : decode cX6_fillEquation 36 = .ok (.iload_n 1, 1) := by decide +kernel
theorem dX6_fillEquation_37 : decode cX6_fillEquation 37 = .ok (.aaload, 1) := by decide +kernel
theorem dX6_fillEquation_38 : decode cX6_fillEquation 38 = .ok (.iload_n 2, 1) := by decide +kernel
theorem dX6_fillEquation_39 : decode cX6_fillEquation 39 = .ok (.iload 7, 2) := by decide +kernel
theorem dX6_fillEquation_41 : decode cX6_fillEquation 41 = .ok (.iadd, 1) := by decide +kernel
theorem dX6_fillEquation_42 : decode cX6_fillEquation 42 = .ok (.iaload, 1) := by decide +kernel
theorem dX6_fillEquation_43 : decode cX6_fillEquation 43 = .ok (.imul, 1) := by decide +kernel
theorem dX6_fillEquation_44 : decode cX6_fillEquation 44 = .ok (.istore 8, 2) := by decide +kernel
theorem dX6_fillEquation_46 : decode cX6_fillEquation 46 = .ok (.aload_n 0, 1) := by decide +kernel
theorem dX6_fillEquation_47 : decode cX6_fillEquation 47 = .ok (.getfield 35, 3) := by decide +kernel
theorem dX6_fillEquation_50 : decode cX6_fillEquation 50 = .ok (.iload_n 1, 1) := by decide +kernel
theorem dX6_fillEquation_51 : decode cX6_fillEquation 51 = .ok (.iload 5, 2) := by decide +kernel
theorem dX6_fillEquation_53 : decode cX6_fillEquation 53 = .ok (.imul, 1) := by decide +kernel
theorem dX6_fillEquation_54 : decode cX6_fillEquation 54 = .ok (.iload 6, 2) := by decide +kernel
theorem dX6_fillEquation_56 : decode cX6_fillEquation 56 = .ok (.iadd, 1) := by decide +kernel
theorem dX6_fillEquation_57 : decode cX6_fillEquation 57 = .ok (.iload 6, 2) := by decide +kernel
theorem dX6_fillEquation_59 : decode cX6_fillEquation 59 = .ok (.iload 7, 2) := by decide +kernel
theorem dX6_fillEquation_61 : decode cX6_fillEquation 61 = .ok (.ior, 1) := by decide +kernel
theorem dX6_fillEquation_62 : decode cX6_fillEquation 62 = .ok (.iload_n 3, 1) := by decide +kernel
theorem dX6_fillEquation_63 : decode cX6_fillEquation 63 = .ok (.if_icmp .ne 16, 3) := by decide +kernel
theorem dX6_fillEquation_66 : decode cX6_fillEquation 66 = .ok (.iload 8, 2) := by decide +kernel
theorem dX6_fillEquation_68 : decode cX6_fillEquation 68 = .ok (.aload 4, 2) := by decide +kernel
theorem dX6_fillEquation_70 : decode cX6_fillEquation 70 = .ok (.getfield 63, 3) := by decide +kernel
theorem dX6_fillEquation_73 : decode cX6_fillEquation 73 = .ok (.invokestatic 115, 3) := by decide +kernel
theorem dX6_fillEquation_76 : decode cX6_fillEquation 76 = .ok (.goto 4, 3) := by decide +kernel
theorem dX6_fillEquation_79 : decode cX6_fillEquation 79 = .ok (.iconst 0, 1) := by decide +kernel
theorem dX6_fillEquation_80 : decode cX6_fillEquation 80 = .ok (.iastore, 1) := by decide +kernel
theorem dX6_fillEquation_81 : decode cX6_fillEquation 81 = .ok (.iinc 6 1, 3) := by decide +kernel
theorem dX6_fillEquation_84 : decode cX6_fillEquation 84 = .ok (.goto (-74), 3) := by decide +kernel
theorem dX6_fillEquation_87 : decode cX6_fillEquation 87 = .ok (.return_, 1) := by decide +kernel
theorem dX6_countRelations_0 : decode cX6_countRelations 0 = .ok (.aload_n 0, 1) := by decide +kernel
theorem dX6_countRelations_1 : decode cX6_countRelations 1 = .ok (.getfield 28, 3) := by decide +kernel
theorem dX6_countRelations_4 : decode cX6_countRelations 4 = .ok (.aload_n 1, 1) := by decide +kernel
theorem dX6_countRelations_5 : decode cX6_countRelations 5 = .ok (.invokevirtual 57, 3) := by decide +kernel
theorem dX6_countRelations_8 : decode cX6_countRelations 8 = .ok (.imul, 1) := by decide +kernel
theorem dX6_countRelations_9 : decode cX6_countRelations 9 = .ok (.istore_n 2, 1) := by decide +kernel
theorem dX6_countRelations_10 : decode cX6_countRelations 10 = .ok (.aload_n 0, 1) := by decide +kernel
theorem dX6_countRelations_11 : decode cX6_countRelations 11 = .ok (.getfield 16, 3) := by decide +kernel
theorem dX6_countRelations_14 : decode cX6_countRelations 14 = .ok (.iload_n 2, 1) := by decide +kernel
theorem dX6_countRelations_15 : decode cX6_countRelations 15 = .ok (.aload_n 1, 1) := by decide +kernel
theorem dX6_countRelations_16 : decode cX6_countRelations 16 = .ok (.getfield 63, 3) := by decide +kernel
theorem dX6_countRelations_19 : decode cX6_countRelations 19 = .ok (.iconst 0, 1) := by decide +kernel
theorem dX6_countRelations_20 : decode cX6_countRelations 20 = .ok (.invokevirtual 66, 3) := by decide +kernel
theorem dX6_countRelations_23 : decode cX6_countRelations 23 = .ok (.iconst 0, 1) := by decide +kernel
theorem dX6_countRelations_24 : decode cX6_countRelations 24 = .ok (.istore_n 3, 1) := by decide +kernel
theorem dX6_countRelations_25 : decode cX6_countRelations 25 = .ok (.iload_n 3, 1) := by decide +kernel
theorem dX6_countRelations_26 : decode cX6_countRelations 26 = .ok (.iload_n 2, 1) := by decide +kernel
theorem dX6_countRelations_27 : decode cX6_countRelations 27 = .ok (.if_icmp .ge 34, 3) := by decide +kernel
theorem dX6_countRelations_30 : decode cX6_countRelations 30 = .ok (.aload_n 0, 1) := by decide +kernel
theorem dX6_countRelations_31 : decode cX6_countRelations 31 = .ok (.getfield 20, 3) := by decide +kernel
theorem dX6_countRelations_34 : decode cX6_countRelations 34 = .ok (.iload_n 3, 1) := by decide +kernel
theorem dX6_countRelations_35 : decode cX6_countRelations 35 = .ok (.aload_n 0, 1) := by decide +kernel
theorem dX6_countRelations_36 : decode cX6_countRelations 36 = .ok (.getfield 35, 3) := by decide +kernel
theorem dX6_countRelations_39 : decode cX6_countRelations 39 = .ok (.invokevirtual 118, 3) := by decide +kernel
theorem dX6_countRelations_42 : decode cX6_countRelations 42 = .ok (.ifCond .eq 13, 3) := by decide +kernel
theorem dX6_countRelations_45 : decode cX6_countRelations 45 = .ok (.aload_n 0, 1) := by decide +kernel
theorem dX6_countRelations_46 : decode cX6_countRelations 46 = .ok (.aload_n 0, 1) := by decide +kernel
theorem dX6_countRelations_47 : decode cX6_countRelations 47 = .ok (.getfield 35, 3) := by decide +kernel
theorem dX6_countRelations_50 : decode cX6_countRelations 50 = .ok (.iload_n 2, 1) := by decide +kernel
theorem dX6_countRelations_51 : decode cX6_countRelations 51 = .ok (.aload_n 1, 1) := by decide +kernel
theorem dX6_countRelations_52 : decode cX6_countRelations 52 = .ok (.invokevirtual 77, 3) := by decide +kernel
theorem dX6_countRelations_55 : decode cX6_countRelations 55 = .ok (.iinc 3 1, 3) := by decide +kernel
theorem dX6_countRelations_58 : decode cX6_countRelations 58 = .ok (.goto (-33), 3) := by decide +kernel
theorem dX6_countRelations_61 : decode cX6_countRelations 61 = .ok (.iload_n 2, 1) := by decide +kernel
theorem dX6_countRelations_62 : decode cX6_countRelations 62 = .ok (.aload_n 0, 1) := by decide +kernel
theorem dX6_countRelations_63 : decode cX6_countRelations 63 = .ok (.getfield 20, 3) := by decide +kernel
theorem dX6_countRelations_66 : decode cX6_countRelations 66 = .ok (.getfield 122, 3) := by decide +kernel
theorem dX6_countRelations_69 : decode cX6_countRelations 69 = .ok (.isub, 1) := by decide +kernel
theorem dX6_countRelations_70 : decode cX6_countRelations 70 = .ok (.aload_n 0, 1) := by decide +kernel
theorem dX6_countRelations_71 : decode cX6_countRelations 71 = .ok (.getfield 16, 3) := by decide +kernel
theorem dX6_countRelations_74 : decode cX6_countRelations 74 = .ok (.getfield 122, 3) := by decide +kernel
theorem dX6_countRelations_77 : decode cX6_countRelations 77 = .ok (.isub, 1) := by decide +kernel
theorem dX6_countRelations_78 : decode cX6_countRelations 78 = .ok (.ireturn, 1) := by decide +kernel
theorem dX6_chooseRelations_0 : decode cX6_chooseRelations 0 = .ok (.aload_n 0, 1) := by decide +kernel
theorem dX6_chooseRelations_1 : decode cX6_chooseRelations 1 = .ok (.getfield 28, 3) := by decide +kernel
theorem dX6_chooseRelations_4 : decode cX6_chooseRelations 4 = .ok (.aload_n 1, 1) := by decide +kernel
theorem dX6_chooseRelations_5 : decode cX6_chooseRelations 5 = .ok (.invokevirtual 57, 3) := by decide +kernel
theorem dX6_chooseRelations_8 : decode cX6_chooseRelations 8 = .ok (.imul, 1) := by decide +kernel
theorem dX6_chooseRelations_9 : decode cX6_chooseRelations 9 = .ok (.istore_n 2, 1) := by decide +kernel
theorem dX6_chooseRelations_10 : decode cX6_chooseRelations 10 = .ok (.aload_n 0, 1) := by decide +kernel
theorem dX6_chooseRelations_11 : decode cX6_chooseRelations 11 = .ok (.aload_n 0, 1) := by decide +kernel
theorem dX6_chooseRelations_12 : decode cX6_chooseRelations 12 = .ok (.getfield 28, 3) := by decide +kernel
theorem dX6_chooseRelations_15 : decode cX6_chooseRelations 15 = .ok (.putfield 32, 3) := by decide +kernel
theorem dX6_chooseRelations_18 : decode cX6_chooseRelations 18 = .ok (.aload_n 0, 1) := by decide +kernel
theorem dX6_chooseRelations_19 : decode cX6_chooseRelations 19 = .ok (.iconst 0, 1) := by decide +kernel
theorem dX6_chooseRelations_20 : decode cX6_chooseRelations 20 = .ok (.putfield 28, 3) := by decide +kernel
theorem dX6_chooseRelations_23 : decode cX6_chooseRelations 23 = .ok (.iconst 0, 1) := by decide +kernel
theorem dX6_chooseRelations_24 : decode cX6_chooseRelations 24 = .ok (.istore_n 3, 1) := by decide +kernel
theorem dX6_chooseRelations_25 : decode cX6_chooseRelations 25 = .ok (.iload_n 3, 1) := by decide +kernel
theorem dX6_chooseRelations_26 : decode cX6_chooseRelations 26 = .ok (.iload_n 2, 1) := by decide +kernel
theorem dX6_chooseRelations_27 : decode cX6_chooseRelations 27 = .ok (.if_icmp .ge 34, 3) := by decide +kernel
theorem dX6_chooseRelations_30 : decode cX6_chooseRelations 30 = .ok (.aload_n 0, 1) := by decide +kernel
theorem dX6_chooseRelations_31 : decode cX6_chooseRelations 31 = .ok (.getfield 20, 3) := by decide +kernel
theorem dX6_chooseRelations_34 : decode cX6_chooseRelations 34 = .ok (.iload_n 3, 1) := by decide +kernel
theorem dX6_chooseRelations_35 : decode cX6_chooseRelations 35 = .ok (.aload_n 0, 1) := by decide +kernel
theorem dX6_chooseRelations_36 : decode cX6_chooseRelations 36 = .ok (.getfield 35, 3) := by decide +kernel
theorem dX6_chooseRelations_39 : decode cX6_chooseRelations 39 = .ok (.invokevirtual 118, 3) := by decide +kernel
theorem dX6_chooseRelations_42 : decode cX6_chooseRelations 42 = .ok (.ifCond .eq 13, 3) := by decide +kernel
theorem dX6_chooseRelations_45 : decode cX6_chooseRelations 45 = .ok (.aload_n 0, 1) := by decide +kernel
theorem dX6_chooseRelations_46 : decode cX6_chooseRelations 46 = .ok (.aload_n 0, 1) := by decide +kernel
theorem dX6_chooseRelations_47 : decode cX6_chooseRelations 47 = .ok (.getfield 35, 3) := by decide +kernel
theorem dX6_chooseRelations_50 : decode cX6_chooseRelations 50 = .ok (.iload_n 2, 1) := by decide +kernel
theorem dX6_chooseRelations_51 : decode cX6_chooseRelations 51 = .ok (.aload_n 1, 1) := by decide +kernel
theorem dX6_chooseRelations_52 : decode cX6_chooseRelations 52 = .ok (.invokevirtual 87, 3) := by decide +kernel
theorem dX6_chooseRelations_55 : decode cX6_chooseRelations 55 = .ok (.iinc 3 1, 3) := by decide +kernel
theorem dX6_chooseRelations_58 : decode cX6_chooseRelations 58 = .ok (.goto (-33), 3) := by decide +kernel
theorem dX6_chooseRelations_61 : decode cX6_chooseRelations 61 = .ok (.return_, 1) := by decide +kernel
theorem dX7_init_0 : decode cX7_init 0 = .ok (.aload_n 0, 1) := by decide +kernel
theorem dX7_init_1 : decode cX7_init 1 = .ok (.invokespecial 1, 3) := by decide +kernel
theorem dX7_init_4 : decode cX7_init 4 = .ok (.aload_n 0, 1) := by decide +kernel
theorem dX7_init_5 : decode cX7_init 5 = .ok (.bipush 6, 2) := by decide +kernel
theorem dX7_init_7 : decode cX7_init 7 = .ok (.newarray .int, 2) := by decide +kernel
theorem dX7_init_9 : decode cX7_init 9 = .ok (.putfield 9, 3) := by decide +kernel
theorem dX7_init_12 : decode cX7_init 12 = .ok (.aload_n 0, 1) := by decide +kernel
theorem dX7_init_13 : decode cX7_init 13 = .ok (.bipush 6, 2) := by decide +kernel
theorem dX7_init_15 : decode cX7_init 15 = .ok (.newarray .int, 2) := by decide +kernel
theorem dX7_init_17 : decode cX7_init 17 = .ok (.putfield 13, 3) := by decide +kernel
theorem dX7_init_20 : decode cX7_init 20 = .ok (.aload_n 0, 1) := by decide +kernel
theorem dX7_init_21 : decode cX7_init 21 = .ok (.bipush 6, 2) := by decide +kernel
theorem dX7_init_23 : decode cX7_init 23 = .ok (.bipush 60, 2) := by decide +kernel
theorem dX7_init_25 : decode cX7_init 25 = .ok (.multianewarray 16 2, 4) := by decide +kernel
theorem dX7_init_29 : decode cX7_init 29 = .ok (.putfield 18, 3) := by decide +kernel
theorem dX7_init_32 : decode cX7_init 32 = .ok (.iconst 0, 1) := by decide +kernel
theorem dX7_init_33 : decode cX7_init 33 = .ok (.istore_n 1, 1) := by decide +kernel
theorem dX7_init_34 : decode cX7_init 34 = .ok (.iload_n 1, 1) := by decide +kernel
theorem dX7_init_35 : decode cX7_init 35 = .ok (.bipush 6, 2) := by decide +kernel
theorem dX7_init_37 : decode cX7_init 37 = .ok (.if_icmp .ge 16, 3) := by decide +kernel
theorem dX7_init_40 : decode cX7_init 40 = .ok (.aload_n 0, 1) := by decide +kernel
theorem dX7_init_41 : decode cX7_init 41 = .ok (.getfield 9, 3) := by decide +kernel
theorem dX7_init_44 : decode cX7_init 44 = .ok (.iload_n 1, 1) := by decide +kernel
theorem dX7_init_45 : decode cX7_init 45 = .ok (.iconst (-1), 1) := by decide +kernel
theorem dX7_init_46 : decode cX7_init 46 = .ok (.iastore, 1) := by decide +kernel
theorem dX7_init_47 : decode cX7_init 47 = .ok (.iinc 1 1, 3) := by decide +kernel
theorem dX7_init_50 : decode cX7_init 50 = .ok (.goto (-16), 3) := by decide +kernel
theorem dX7_init_53 : decode cX7_init 53 = .ok (.return_, 1) := by decide +kernel
theorem dX7_isSort_0 : decode cX7_isSort 0 = .ok (.iload_n 0, 1) := by decide +kernel
theorem dX7_isSort_1 : decode cX7_isSort 1 = .ok (.ifCond .lt 12, 3) := by decide +kernel
theorem dX7_isSort_4 : decode cX7_isSort 4 = .ok (.iload_n 0, 1) := by decide +kernel
theorem dX7_isSort_5 : decode cX7_isSort 5 = .ok (.iconst 4, 1) := by decide +kernel
theorem dX7_isSort_6 : decode cX7_isSort 6 = .ok (.if_icmp .gt 7, 3) := by decide +kernel
theorem dX7_isSort_9 : decode cX7_isSort 9 = .ok (.iconst 1, 1) := by decide +kernel
theorem dX7_isSort_10 : decode cX7_isSort 10 = .ok (.goto 4, 3) := by decide +kernel
theorem dX7_isSort_13 : decode cX7_isSort 13 = .ok (.iconst 0, 1) := by decide +kernel
theorem dX7_isSort_14 : decode cX7_isSort 14 = .ok (.ireturn, 1) := by decide +kernel
theorem dX7_narrowed_0 : decode cX7_narrowed 0 = .ok (.iload_n 2, 1) := by decide +kernel
theorem dX7_narrowed_1 : decode cX7_narrowed 1 = .ok (.tableswitch 61 0 4 #[35, 40, 45, 61, 49], 35) := by decide +kernel
theorem dX7_narrowed_36 : decode cX7_narrowed 36 = .ok (.lload_n 0, 1) := by decide +kernel
theorem dX7_narrowed_37 : decode cX7_narrowed 37 = .ok (.l2i, 1) := by decide +kernel
theorem dX7_narrowed_38 : decode cX7_narrowed 38 = .ok (.i2b, 1) := by decide +kernel
theorem dX7_narrowed_39 : decode cX7_narrowed 39 = .ok (.i2l, 1) := by decide +kernel
theorem dX7_narrowed_40 : decode cX7_narrowed 40 = .ok (.lreturn, 1) := by decide +kernel
theorem dX7_narrowed_41 : decode cX7_narrowed 41 = .ok (.lload_n 0, 1) := by decide +kernel
theorem dX7_narrowed_42 : decode cX7_narrowed 42 = .ok (.l2i, 1) := by decide +kernel
theorem dX7_narrowed_43 : decode cX7_narrowed 43 = .ok (.i2s, 1) := by decide +kernel
theorem dX7_narrowed_44 : decode cX7_narrowed 44 = .ok (.i2l, 1) := by decide +kernel
theorem dX7_narrowed_45 : decode cX7_narrowed 45 = .ok (.lreturn, 1) := by decide +kernel
theorem dX7_narrowed_46 : decode cX7_narrowed 46 = .ok (.lload_n 0, 1) := by decide +kernel
theorem dX7_narrowed_47 : decode cX7_narrowed 47 = .ok (.l2i, 1) := by decide +kernel
theorem dX7_narrowed_48 : decode cX7_narrowed 48 = .ok (.i2l, 1) := by decide +kernel
theorem dX7_narrowed_49 : decode cX7_narrowed 49 = .ok (.lreturn, 1) := by decide +kernel
theorem dX7_narrowed_50 : decode cX7_narrowed 50 = .ok (.lload_n 0, 1) := by decide +kernel
theorem dX7_narrowed_51 : decode cX7_narrowed 51 = .ok (.lconst 0, 1) := by decide +kernel
theorem dX7_narrowed_52 : decode cX7_narrowed 52 = .ok (.lcmp, 1) := by decide +kernel
theorem dX7_narrowed_53 : decode cX7_narrowed 53 = .ok (.ifCond .eq 7, 3) := by decide +kernel
theorem dX7_narrowed_56 : decode cX7_narrowed 56 = .ok (.lconst 1, 1) := by decide +kernel
theorem dX7_narrowed_57 : decode cX7_narrowed 57 = .ok (.goto 4, 3) := by decide +kernel
theorem dX7_narrowed_60 : decode cX7_narrowed 60 = .ok (.lconst 0, 1) := by decide +kernel
theorem dX7_narrowed_61 : decode cX7_narrowed 61 = .ok (.lreturn, 1) := by decide +kernel
theorem dX7_narrowed_62 : decode cX7_narrowed 62 = .ok (.lload_n 0, 1) := by decide +kernel
theorem dX7_narrowed_63 : decode cX7_narrowed 63 = .ok (.lreturn, 1) := by decide +kernel
theorem dX7_has_0 : decode cX7_has 0 = .ok (.iload_n 1, 1) := by decide +kernel
theorem dX7_has_1 : decode cX7_has 1 = .ok (.ifCond .lt 13, 3) := by decide +kernel
theorem dX7_has_4 : decode cX7_has 4 = .ok (.iload_n 1, 1) := by decide +kernel
theorem dX7_has_5 : decode cX7_has 5 = .ok (.bipush 6, 2) := by decide +kernel
theorem dX7_has_7 : decode cX7_has 7 = .ok (.if_icmp .ge 7, 3) := by decide +kernel
theorem dX7_has_10 : decode cX7_has 10 = .ok (.iconst 1, 1) := by decide +kernel
theorem dX7_has_11 : decode cX7_has 11 = .ok (.goto 4, 3) := by decide +kernel
theorem dX7_has_14 : decode cX7_has 14 = .ok (.iconst 0, 1) := by decide +kernel
theorem dX7_has_15 : decode cX7_has 15 = .ok (.ireturn, 1) := by decide +kernel
theorem dX7_isEmpty_0 : decode cX7_isEmpty 0 = .ok (.aload_n 0, 1) := by decide +kernel
theorem dX7_isEmpty_1 : decode cX7_isEmpty 1 = .ok (.getfield 9, 3) := by decide +kernel
theorem dX7_isEmpty_4 : decode cX7_isEmpty 4 = .ok (.iload_n 1, 1) := by decide +kernel
theorem dX7_isEmpty_5 : decode cX7_isEmpty 5 = .ok (.iaload, 1) := by decide +kernel
theorem dX7_isEmpty_6 : decode cX7_isEmpty 6 = .ok (.iconst (-1), 1) := by decide +kernel
theorem dX7_isEmpty_7 : decode cX7_isEmpty 7 = .ok (.if_icmp .ne 7, 3) := by decide +kernel
theorem dX7_isEmpty_10 : decode cX7_isEmpty 10 = .ok (.iconst 1, 1) := by decide +kernel
theorem dX7_isEmpty_11 : decode cX7_isEmpty 11 = .ok (.goto 4, 3) := by decide +kernel
theorem dX7_isEmpty_14 : decode cX7_isEmpty 14 = .ok (.iconst 0, 1) := by decide +kernel
theorem dX7_isEmpty_15 : decode cX7_isEmpty 15 = .ok (.ireturn, 1) := by decide +kernel
theorem dX7_holdsBytes_0 : decode cX7_holdsBytes 0 = .ok (.aload_n 0, 1) := by decide +kernel
theorem dX7_holdsBytes_1 : decode cX7_holdsBytes 1 = .ok (.getfield 9, 3) := by decide +kernel
theorem dX7_holdsBytes_4 : decode cX7_holdsBytes 4 = .ok (.iload_n 1, 1) := by decide +kernel
theorem dX7_holdsBytes_5 : decode cX7_holdsBytes 5 = .ok (.iaload, 1) := by decide +kernel
theorem dX7_holdsBytes_6 : decode cX7_holdsBytes 6 = .ok (.ifCond .ne 7, 3) := by decide +kernel
theorem dX7_holdsBytes_9 : decode cX7_holdsBytes 9 = .ok (.iconst 1, 1) := by decide +kernel
theorem dX7_holdsBytes_10 : decode cX7_holdsBytes 10 = .ok (.goto 4, 3) := by decide +kernel
theorem dX7_holdsBytes_13 : decode cX7_holdsBytes 13 = .ok (.iconst 0, 1) := by decide +kernel
theorem dX7_holdsBytes_14 : decode cX7_holdsBytes 14 = .ok (.ireturn, 1) := by decide +kernel
theorem dX7_hasItem_0 : decode cX7_hasItem 0 = .ok (.iload_n 2, 1) := by decide +kernel
theorem dX7_hasItem_1 : decode cX7_hasItem 1 = .ok (.ifCond .lt 17, 3) := by decide +kernel
theorem dX7_hasItem_4 : decode cX7_hasItem 4 = .ok (.iload_n 2, 1) := by decide +kernel
theorem dX7_hasItem_5 : decode cX7_hasItem 5 = .ok (.aload_n 0, 1) := by decide +kernel
theorem dX7_hasItem_6 : decode cX7_hasItem 6 = .ok (.getfield 13, 3) := by decide +kernel
theorem dX7_hasItem_9 : decode cX7_hasItem 9 = .ok (.iload_n 1, 1) := by decide +kernel
theorem dX7_hasItem_10 : decode cX7_hasItem 10 = .ok (.iaload, 1) := by decide +kernel
theorem dX7_hasItem_11 : decode cX7_hasItem 11 = .ok (.if_icmp .ge 7, 3) := by decide +kernel
theorem dX7_hasItem_14 : decode cX7_hasItem 14 = .ok (.iconst 1, 1) := by decide +kernel
theorem dX7_hasItem_15 : decode cX7_hasItem 15 = .ok (.goto 4, 3) := by decide +kernel
theorem dX7_hasItem_18 : decode cX7_hasItem 18 = .ok (.iconst 0, 1) := by decide +kernel
theorem dX7_hasItem_19 : decode cX7_hasItem 19 = .ok (.ireturn, 1) := by decide +kernel
theorem dX7_hasStretch_0 : decode cX7_hasStretch 0 = .ok (.iload_n 2, 1) := by decide +kernel
theorem dX7_hasStretch_1 : decode cX7_hasStretch 1 = .ok (.ifCond .lt 33, 3) := by decide +kernel
theorem dX7_hasStretch_4 : decode cX7_hasStretch 4 = .ok (.iload_n 3, 1) := by decide +kernel
theorem dX7_hasStretch_5 : decode cX7_hasStretch 5 = .ok (.ifCond .lt 29, 3) := by decide +kernel
theorem dX7_hasStretch_8 : decode cX7_hasStretch 8 = .ok (.iload_n 2, 1) := by decide +kernel
theorem dX7_hasStretch_9 : decode cX7_hasStretch 9 = .ok (.aload_n 0, 1) := by decide +kernel
theorem dX7_hasStretch_10 : decode cX7_hasStretch 10 = .ok (.getfield 13, 3) := by decide +kernel
theorem dX7_hasStretch_13 : decode cX7_hasStretch 13 = .ok (.iload_n 1, 1) := by decide +kernel
theorem dX7_hasStretch_14 : decode cX7_hasStretch 14 = .ok (.iaload, 1) := by decide +kernel
theorem dX7_hasStretch_15 : decode cX7_hasStretch 15 = .ok (.if_icmp .gt 19, 3) := by decide +kernel
theorem dX7_hasStretch_18 : decode cX7_hasStretch 18 = .ok (.iload_n 3, 1) := by decide +kernel
theorem dX7_hasStretch_19 : decode cX7_hasStretch 19 = .ok (.aload_n 0, 1) := by decide +kernel
theorem dX7_hasStretch_20 : decode cX7_hasStretch 20 = .ok (.getfield 13, 3) := by decide +kernel
theorem dX7_hasStretch_23 : decode cX7_hasStretch 23 = .ok (.iload_n 1, 1) := by decide +kernel
theorem dX7_hasStretch_24 : decode cX7_hasStretch 24 = .ok (.iaload, 1) := by decide +kernel
theorem dX7_hasStretch_25 : decode cX7_hasStretch 25 = .ok (.iload_n 2, 1) := by decide +kernel
theorem dX7_hasStretch_26 : decode cX7_hasStretch 26 = .ok (.isub, 1) := by decide +kernel
theorem dX7_hasStretch_27 : decode cX7_hasStretch 27 = .ok (.if_icmp .gt 7, 3) := by decide +kernel
theorem dX7_hasStretch_30 : decode cX7_hasStretch 30 = .ok (.iconst 1, 1) := by decide +kernel
theorem dX7_hasStretch_31 : decode cX7_hasStretch 31 = .ok (.goto 4, 3) := by decide +kernel
theorem dX7_hasStretch_34 : decode cX7_hasStretch 34 = .ok (.iconst 0, 1) := by decide +kernel
theorem dX7_hasStretch_35 : decode cX7_hasStretch 35 = .ok (.ireturn, 1) := by decide +kernel
theorem dX7_discard_0 : decode cX7_discard 0 = .ok (.aload_n 0, 1) := by decide +kernel
theorem dX7_discard_1 : decode cX7_discard 1 = .ok (.getfield 9, 3) := by decide +kernel
theorem dX7_discard_4 : decode cX7_discard 4 = .ok (.iload_n 1, 1) := by decide +kernel
theorem dX7_discard_5 : decode cX7_discard 5 = .ok (.iconst (-1), 1) := by decide +kernel
theorem dX7_discard_6 : decode cX7_discard 6 = .ok (.iastore, 1) := by decide +kernel
theorem dX7_discard_7 : decode cX7_discard 7 = .ok (.aload_n 0, 1) := by decide +kernel
theorem dX7_discard_8 : decode cX7_discard 8 = .ok (.getfield 13, 3) := by decide +kernel
theorem dX7_discard_11 : decode cX7_discard 11 = .ok (.iload_n 1, 1) := by decide +kernel
theorem dX7_discard_12 : decode cX7_discard 12 = .ok (.iconst 0, 1) := by decide +kernel
theorem dX7_discard_13 : decode cX7_discard 13 = .ok (.iastore, 1) := by decide +kernel
theorem dX7_discard_14 : decode cX7_discard 14 = .ok (.return_, 1) := by decide +kernel
theorem dX7_lay_0 : decode cX7_lay 0 = .ok (.aload_n 0, 1) := by decide +kernel
theorem dX7_lay_1 : decode cX7_lay 1 = .ok (.getfield 9, 3) := by decide +kernel
theorem dX7_lay_4 : decode cX7_lay 4 = .ok (.iload_n 1, 1) := by decide +kernel
theorem dX7_lay_5 : decode cX7_lay 5 = .ok (.iload_n 2, 1) := by decide +kernel
theorem dX7_lay_6 : decode cX7_lay 6 = .ok (.iastore, 1) := by decide +kernel
theorem dX7_lay_7 : decode cX7_lay 7 = .ok (.aload_n 0, 1) := by decide +kernel
theorem dX7_lay_8 : decode cX7_lay 8 = .ok (.getfield 13, 3) := by decide +kernel
theorem dX7_lay_11 : decode cX7_lay 11 = .ok (.iload_n 1, 1) := by decide +kernel
theorem dX7_lay_12 : decode cX7_lay 12 = .ok (.iload_n 3, 1) := by decide +kernel
theorem dX7_lay_13 : decode cX7_lay 13 = .ok (.iastore, 1) := by decide +kernel
theorem dX7_lay_14 : decode cX7_lay 14 = .ok (.iconst 0, 1) := by decide +kernel
theorem dX7_lay_15 : decode cX7_lay 15 = .ok (.istore 4, 2) := by decide +kernel
theorem dX7_lay_17 : decode cX7_lay 17 = .ok (.iload 4, 2) := by decide +kernel
theorem dX7_lay_19 : decode cX7_lay 19 = .ok (.bipush 60, 2) := by decide +kernel
theorem dX7_lay_21 : decode cX7_lay 21 = .ok (.if_icmp .ge 19, 3) := by decide +kernel
theorem dX7_lay_24 : decode cX7_lay 24 = .ok (.aload_n 0, 1) := by decide +kernel
theorem dX7_lay_25 : decode cX7_lay 25 = .ok (.getfield 18, 3) := by decide +kernel
theorem dX7_lay_28 : decode cX7_lay 28 = .ok (.iload_n 1, 1) := by decide +kernel
theorem dX7_lay_29 : decode cX7_lay 29 = .ok (.aaload, 1) := by decide +kernel
theorem dX7_lay_30 : decode cX7_lay 30 = .ok (.iload 4, 2) := by decide +kernel
theorem dX7_lay_32 : decode cX7_lay 32 = .ok (.lconst 0, 1) := by decide +kernel
theorem dX7_lay_33 : decode cX7_lay 33 = .ok (.lastore, 1) := by decide +kernel
theorem dX7_lay_34 : decode cX7_lay 34 = .ok (.iinc 4 1, 3) := by decide +kernel
theorem dX7_lay_37 : decode cX7_lay 37 = .ok (.goto (-20), 3) := by decide +kernel
theorem dX7_lay_40 : decode cX7_lay 40 = .ok (.return_, 1) := by decide +kernel
theorem dX8_init_0 : decode cX8_init 0 = .ok (.aload_n 0, 1) := by decide +kernel
theorem dX8_init_1 : decode cX8_init 1 = .ok (.invokespecial 3, 3) := by decide +kernel
theorem dX8_init_4 : decode cX8_init 4 = .ok (.aload_n 0, 1) := by decide +kernel
theorem dX8_init_5 : decode cX8_init 5 = .ok (.new 9, 3) := by decide +kernel
theorem dX8_init_8 : decode cX8_init 8 = .ok (.dup, 1) := by decide +kernel
theorem dX8_init_9 : decode cX8_init 9 = .ok (.invokespecial 11, 3) := by decide +kernel
theorem dX8_init_12 : decode cX8_init 12 = .ok (.putfield 12, 3) := by decide +kernel
theorem dX8_init_15 : decode cX8_init 15 = .ok (.aload_n 0, 1) := by decide +kernel
theorem dX8_init_16 : decode cX8_init 16 = .ok (.new 9, 3) := by decide +kernel
theorem dX8_init_19 : decode cX8_init 19 = .ok (.dup, 1) := by decide +kernel
theorem dX8_init_20 : decode cX8_init 20 = .ok (.invokespecial 11, 3) := by decide +kernel
theorem dX8_init_23 : decode cX8_init 23 = .ok (.putfield 18, 3) := by decide +kernel
theorem dX8_init_26 : decode cX8_init 26 = .ok (.aload_n 0, 1) := by decide +kernel
theorem dX8_init_27 : decode cX8_init 27 = .ok (.iconst 0, 1) := by decide +kernel
theorem dX8_init_28 : decode cX8_init 28 = .ok (.putfield 21, 3) := by decide +kernel
theorem dX8_init_31 : decode cX8_init 31 = .ok (.aload_n 0, 1) := by decide +kernel
theorem dX8_init_32 : decode cX8_init 32 = .ok (.new 25, 3) := by decide +kernel
theorem dX8_init_35 : decode cX8_init 35 = .ok (.dup, 1) := by decide +kernel
theorem dX8_init_36 : decode cX8_init 36 = .ok (.invokespecial 27, 3) := by decide +kernel
theorem dX8_init_39 : decode cX8_init 39 = .ok (.putfield 28, 3) := by decide +kernel
theorem dX8_init_42 : decode cX8_init 42 = .ok (.aload_n 0, 1) := by decide +kernel
theorem dX8_init_43 : decode cX8_init 43 = .ok (.new 32, 3) := by decide +kernel
theorem dX8_init_46 : decode cX8_init 46 = .ok (.dup, 1) := by decide +kernel
theorem dX8_init_47 : decode cX8_init 47 = .ok (.invokespecial 34, 3) := by decide +kernel
theorem dX8_init_50 : decode cX8_init 50 = .ok (.putfield 35, 3) := by decide +kernel
theorem dX8_init_53 : decode cX8_init 53 = .ok (.aload_n 0, 1) := by decide +kernel
theorem dX8_init_54 : decode cX8_init 54 = .ok (.new 39, 3) := by decide +kernel
theorem dX8_init_57 : decode cX8_init 57 = .ok (.dup, 1) := by decide +kernel
theorem dX8_init_58 : decode cX8_init 58 = .ok (.invokespecial 41, 3) := by decide +kernel
theorem dX8_init_61 : decode cX8_init 61 = .ok (.putfield 42, 3) := by decide +kernel
theorem dX8_init_64 : decode cX8_init 64 = .ok (.aload_n 0, 1) := by decide +kernel
theorem dX8_init_65 : decode cX8_init 65 = .ok (.new 46, 3) := by decide +kernel
theorem dX8_init_68 : decode cX8_init 68 = .ok (.dup, 1) := by decide +kernel
theorem dX8_init_69 : decode cX8_init 69 = .ok (.invokespecial 48, 3) := by decide +kernel
theorem dX8_init_72 : decode cX8_init 72 = .ok (.putfield 49, 3) := by decide +kernel
theorem dX8_init_75 : decode cX8_init 75 = .ok (.aload_n 0, 1) := by decide +kernel
theorem dX8_init_76 : decode cX8_init 76 = .ok (.bipush 16, 2) := by decide +kernel
theorem dX8_init_78 : decode cX8_init 78 = .ok (.newarray .int, 2) := by decide +kernel
theorem dX8_init_80 : decode cX8_init 80 = .ok (.putfield 53, 3) := by decide +kernel
theorem dX8_init_83 : decode cX8_init 83 = .ok (.return_, 1) := by decide +kernel
theorem dX8_letters_0 : decode cX8_letters 0 = .ok (.aload_n 0, 1) := by decide +kernel
theorem dX8_letters_1 : decode cX8_letters 1 = .ok (.getfield 12, 3) := by decide +kernel
theorem dX8_letters_4 : decode cX8_letters 4 = .ok (.getfield 57, 3) := by decide +kernel
theorem dX8_letters_7 : decode cX8_letters 7 = .ok (.istore_n 2, 1) := by decide +kernel
theorem dX8_letters_8 : decode cX8_letters 8 = .ok (.aload_n 0, 1) := by decide +kernel
theorem dX8_letters_9 : decode cX8_letters 9 = .ok (.getfield 12, 3) := by decide +kernel
theorem dX8_letters_12 : decode cX8_letters 12 = .ok (.iload_n 1, 1) := by decide +kernel
theorem dX8_letters_13 : decode cX8_letters 13 = .ok (.invokevirtual 61, 3) := by decide +kernel
theorem dX8_letters_16 : decode cX8_letters 16 = .ok (.ifCond .eq 7, 3) := by decide +kernel
theorem dX8_letters_19 : decode cX8_letters 19 = .ok (.iload_n 2, 1) := by decide +kernel
theorem dX8_letters_20 : decode cX8_letters 20 = .ok (.goto 5, 3) := by decide +kernel
theorem dX8_letters_23 : decode cX8_letters 23 = .ok (.bipush (-2), 2) := by decide +kernel
theorem dX8_letters_25 : decode cX8_letters 25 = .ok (.ireturn, 1) := by decide +kernel
theorem dX8_prime_0 : decode cX8_prime 0 = .ok (.aload_n 0, 1) := by decide +kernel
theorem dX8_prime_1 : decode cX8_prime 1 = .ok (.getfield 12, 3) := by decide +kernel
theorem dX8_prime_4 : decode cX8_prime 4 = .ok (.getfield 65, 3) := by decide +kernel
theorem dX8_prime_7 : decode cX8_prime 7 = .ok (.istore_n 2, 1) := by decide +kernel
theorem dX8_prime_8 : decode cX8_prime 8 = .ok (.aload_n 0, 1) := by decide +kernel
theorem dX8_prime_9 : decode cX8_prime 9 = .ok (.getfield 12, 3) := by decide +kernel
theorem dX8_prime_12 : decode cX8_prime 12 = .ok (.iload_n 1, 1) := by decide +kernel
theorem dX8_prime_13 : decode cX8_prime 13 = .ok (.invokevirtual 68, 3) := by decide +kernel
theorem dX8_prime_16 : decode cX8_prime 16 = .ok (.ifCond .eq 7, 3) := by decide +kernel
theorem dX8_prime_19 : decode cX8_prime 19 = .ok (.iload_n 2, 1) := by decide +kernel
theorem dX8_prime_20 : decode cX8_prime 20 = .ok (.goto 5, 3) := by decide +kernel
theorem dX8_prime_23 : decode cX8_prime 23 = .ok (.bipush (-2), 2) := by decide +kernel
theorem dX8_prime_25 : decode cX8_prime 25 = .ok (.ireturn, 1) := by decide +kernel
theorem dX8_order_0 : decode cX8_order 0 = .ok (.aload_n 0, 1) := by decide +kernel
theorem dX8_order_1 : decode cX8_order 1 = .ok (.getfield 12, 3) := by decide +kernel
theorem dX8_order_4 : decode cX8_order 4 = .ok (.getfield 71, 3) := by decide +kernel
theorem dX8_order_7 : decode cX8_order 7 = .ok (.istore_n 2, 1) := by decide +kernel
theorem dX8_order_8 : decode cX8_order 8 = .ok (.aload_n 0, 1) := by decide +kernel
theorem dX8_order_9 : decode cX8_order 9 = .ok (.getfield 12, 3) := by decide +kernel
theorem dX8_order_12 : decode cX8_order 12 = .ok (.iload_n 1, 1) := by decide +kernel
theorem dX8_order_13 : decode cX8_order 13 = .ok (.invokevirtual 74, 3) := by decide +kernel
theorem dX8_order_16 : decode cX8_order 16 = .ok (.ifCond .eq 7, 3) := by decide +kernel
theorem dX8_order_19 : decode cX8_order 19 = .ok (.iload_n 2, 1) := by decide +kernel
theorem dX8_order_20 : decode cX8_order 20 = .ok (.goto 4, 3) := by decide +kernel
theorem dX8_order_23 : decode cX8_order 23 = .ok (.iconst (-1), 1) := by decide +kernel
theorem dX8_order_24 : decode cX8_order 24 = .ok (.ireturn, 1) := by decide +kernel
theorem dX8_set_0 : decode cX8_set 0 = .ok (.aload_n 0, 1) := by decide +kernel
theorem dX8_set_1 : decode cX8_set 1 = .ok (.getfield 12, 3) := by decide +kernel
theorem dX8_set_4 : decode cX8_set 4 = .ok (.iload_n 1, 1) := by decide +kernel
theorem dX8_set_5 : decode cX8_set 5 = .ok (.invokevirtual 77, 3) := by decide +kernel
theorem dX8_set_8 : decode cX8_set 8 = .ok (.ifCond .eq 14, 3) := by decide +kernel
theorem dX8_set_11 : decode cX8_set 11 = .ok (.aload_n 0, 1) := by decide +kernel
theorem dX8_set_12 : decode cX8_set 12 = .ok (.getfield 12, 3) := by decide +kernel
theorem dX8_set_15 : decode cX8_set 15 = .ok (.iload_n 2, 1) := by decide +kernel
theorem dX8_set_16 : decode cX8_set 16 = .ok (.invokevirtual 80, 3) := by decide +kernel
theorem dX8_set_19 : decode cX8_set 19 = .ok (.ifCond .ne 5, 3) := by decide +kernel
theorem dX8_set_22 : decode cX8_set 22 = .ok (.iconst (-1), 1) := by decide +kernel
theorem dX8_set_23 : decode cX8_set 23 = .ok (.ireturn, 1) := by decide +kernel
theorem dX8_set_24 : decode cX8_set 24 = .ok (.aload_n 0, 1) := by decide +kernel
theorem dX8_set_25 : decode cX8_set 25 = .ok (.getfield 12, 3) := by decide +kernel
theorem dX8_set_28 : decode cX8_set 28 = .ok (.getfield 83, 3) := by decide +kernel
theorem dX8_set_31 : decode cX8_set 31 = .ok (.iload_n 1, 1) := by decide +kernel
theorem dX8_set_32 : decode cX8_set 32 = .ok (.aaload, 1) := by decide +kernel
theorem dX8_set_33 : decode cX8_set 33 = .ok (.iload_n 2, 1) := by decide +kernel
theorem dX8_set_34 : decode cX8_set 34 = .ok (.iaload, 1) := by decide +kernel
theorem dX8_set_35 : decode cX8_set 35 = .ok (.istore 4, 2) := by decide +kernel
theorem dX8_set_37 : decode cX8_set 37 = .ok (.aload_n 0, 1) := by decide +kernel
theorem dX8_set_38 : decode cX8_set 38 = .ok (.getfield 12, 3) := by decide +kernel
theorem dX8_set_41 : decode cX8_set 41 = .ok (.getfield 83, 3) := by decide +kernel
theorem dX8_set_44 : decode cX8_set 44 = .ok (.iload_n 1, 1) := by decide +kernel
theorem dX8_set_45 : decode cX8_set 45 = .ok (.aaload, 1) := by decide +kernel
theorem dX8_set_46 : decode cX8_set 46 = .ok (.iload_n 2, 1) := by decide +kernel
theorem dX8_set_47 : decode cX8_set 47 = .ok (.iload_n 3, 1) := by decide +kernel
theorem dX8_set_48 : decode cX8_set 48 = .ok (.aload_n 0, 1) := by decide +kernel
theorem dX8_set_49 : decode cX8_set 49 = .ok (.getfield 12, 3) := by decide +kernel
theorem dX8_set_52 : decode cX8_set 52 = .ok (.getfield 65, 3) := by decide +kernel
theorem dX8_set_55 : decode cX8_set 55 = .ok (.invokestatic 87, 3) := by decide +kernel
theorem dX8_set_58 : decode cX8_set 58 = .ok (.iastore, 1) := by decide +kernel
theorem dX8_set_59 : decode cX8_set 59 = .ok (.iload 4, 2) := by decide +kernel
theorem dX8_set_61 : decode cX8_set 61 = .ok (.ireturn, 1) := by decide +kernel
theorem dX8_product_0 : decode cX8_product 0 = .ok (.aload_n 0, 1) := by decide +kernel
theorem dX8_product_1 : decode cX8_product 1 = .ok (.getfield 12, 3) := by decide +kernel
theorem dX8_product_4 : decode cX8_product 4 = .ok (.iload_n 1, 1) := by decide +kernel
theorem dX8_product_5 : decode cX8_product 5 = .ok (.invokevirtual 77, 3) := by decide +kernel
theorem dX8_product_8 : decode cX8_product 8 = .ok (.ifCond .eq 25, 3) := by decide +kernel
theorem dX8_product_11 : decode cX8_product 11 = .ok (.aload_n 0, 1) := by decide +kernel
theorem dX8_product_12 : decode cX8_product 12 = .ok (.getfield 12, 3) := by decide +kernel
theorem dX8_product_15 : decode cX8_product 15 = .ok (.iload_n 2, 1) := by decide +kernel
theorem dX8_product_16 : decode cX8_product 16 = .ok (.invokevirtual 77, 3) := by decide +kernel
theorem dX8_product_19 : decode cX8_product 19 = .ok (.ifCond .eq 14, 3) := by decide +kernel
theorem dX8_product_22 : decode cX8_product 22 = .ok (.aload_n 0, 1) := by decide +kernel
theorem dX8_product_23 : decode cX8_product 23 = .ok (.getfield 12, 3) := by decide +kernel
theorem dX8_product_26 : decode cX8_product 26 = .ok (.iload_n 3, 1) := by decide +kernel
theorem dX8_product_27 : decode cX8_product 27 = .ok (.invokevirtual 77, 3) := by decide +kernel
theorem dX8_product_30 : decode cX8_product 30 = .ok (.ifCond .ne 5, 3) := by decide +kernel
theorem dX8_product_33 : decode cX8_product 33 = .ok (.iconst (-1), 1) := by decide +kernel
theorem dX8_product_34 : decode cX8_product 34 = .ok (.ireturn, 1) := by decide +kernel
theorem dX8_product_35 : decode cX8_product 35 = .ok (.aload_n 0, 1) := by decide +kernel
theorem dX8_product_36 : decode cX8_product 36 = .ok (.getfield 12, 3) := by decide +kernel
theorem dX8_product_39 : decode cX8_product 39 = .ok (.getfield 83, 3) := by decide +kernel
theorem dX8_product_42 : decode cX8_product 42 = .ok (.iload_n 2, 1) := by decide +kernel
theorem dX8_product_43 : decode cX8_product 43 = .ok (.aaload, 1) := by decide +kernel
theorem dX8_product_44 : decode cX8_product 44 = .ok (.aload_n 0, 1) := by decide +kernel
theorem dX8_product_45 : decode cX8_product 45 = .ok (.getfield 12, 3) := by decide +kernel
theorem dX8_product_48 : decode cX8_product 48 = .ok (.getfield 83, 3) := by decide +kernel
theorem dX8_product_51 : decode cX8_product 51 = .ok (.iload_n 3, 1) := by decide +kernel
theorem dX8_product_52 : decode cX8_product 52 = .ok (.aaload, 1) := by decide +kernel
theorem dX8_product_53 : decode cX8_product 53 = .ok (.aload_n 0, 1) := by decide +kernel
theorem dX8_product_54 : decode cX8_product 54 = .ok (.getfield 53, 3) := by decide +kernel
theorem dX8_product_57 : decode cX8_product 57 = .ok (.aload_n 0, 1) := by decide +kernel
theorem dX8_product_58 : decode cX8_product 58 = .ok (.getfield 12, 3) := by decide +kernel
theorem dX8_product_61 : decode cX8_product 61 = .ok (.invokevirtual 93, 3) := by decide +kernel
theorem dX8_product_64 : decode cX8_product 64 = .ok (.aload_n 0, 1) := by decide +kernel
theorem dX8_product_65 : decode cX8_product 65 = .ok (.getfield 12, 3) := by decide +kernel
theorem dX8_product_68 : decode cX8_product 68 = .ok (.getfield 65, 3) := by decide +kernel
theorem dX8_product_71 : decode cX8_product 71 = .ok (.invokestatic 97, 3) := by decide +kernel
theorem dX8_product_74 : decode cX8_product 74 = .ok (.aload_n 0, 1) := by decide +kernel
theorem dX8_product_75 : decode cX8_product 75 = .ok (.getfield 12, 3) := by decide +kernel
theorem dX8_product_78 : decode cX8_product 78 = .ok (.iload_n 1, 1) := by decide +kernel
theorem dX8_product_79 : decode cX8_product 79 = .ok (.aload_n 0, 1) := by decide +kernel
theorem dX8_product_80 : decode cX8_product 80 = .ok (.getfield 53, 3) := by decide +kernel
theorem dX8_product_83 : decode cX8_product 83 = .ok (.invokevirtual 101, 3) := by decide +kernel
theorem dX8_product_86 : decode cX8_product 86 = .ok (.ireturn, 1) := by decide +kernel
theorem dX8_mix_0 : decode cX8_mix 0 = .ok (.aload_n 0, 1) := by decide +kernel
theorem dX8_mix_1 : decode cX8_mix 1 = .ok (.getfield 12, 3) := by decide +kernel
theorem dX8_mix_4 : decode cX8_mix 4 = .ok (.iload_n 1, 1) := by decide +kernel
theorem dX8_mix_5 : decode cX8_mix 5 = .ok (.invokevirtual 77, 3) := by decide +kernel
theorem dX8_mix_8 : decode cX8_mix 8 = .ok (.ifCond .eq 26, 3) := by decide +kernel
theorem dX8_mix_11 : decode cX8_mix 11 = .ok (.aload_n 0, 1) := by decide +kernel
theorem dX8_mix_12 : decode cX8_mix 12 = .ok (.getfield 12, 3) := by decide +kernel
theorem dX8_mix_15 : decode cX8_mix 15 = .ok (.iload_n 2, 1) := by decide +kernel
theorem dX8_mix_16 : decode cX8_mix 16 = .ok (.invokevirtual 77, 3) := by decide +kernel
theorem dX8_mix_19 : decode cX8_mix 19 = .ok (.ifCond .eq 15, 3) := by decide +kernel
theorem dX8_mix_22 : decode cX8_mix 22 = .ok (.aload_n 0, 1) := by decide +kernel
theorem dX8_mix_23 : decode cX8_mix 23 = .ok (.getfield 12, 3) := by decide +kernel
theorem dX8_mix_26 : decode cX8_mix 26 = .ok (.iload 4, 2) := by decide +kernel
theorem dX8_mix_28 : decode cX8_mix 28 = .ok (.invokevirtual 77, 3) := by decide +kernel
theorem dX8_mix_31 : decode cX8_mix 31 = .ok (.ifCond .ne 5, 3) := by decide +kernel
theorem dX8_mix_34 : decode cX8_mix 34 = .ok (.iconst (-1), 1) := by decide +kernel
theorem dX8_mix_35 : decode cX8_mix 35 = .ok (.ireturn, 1) := by decide +kernel
theorem dX8_mix_36 : decode cX8_mix 36 = .ok (.aload_n 0, 1) := by decide +kernel
theorem dX8_mix_37 : decode cX8_mix 37 = .ok (.getfield 12, 3) := by decide +kernel
theorem dX8_mix_40 : decode cX8_mix 40 = .ok (.getfield 65, 3) := by decide +kernel
theorem dX8_mix_43 : decode cX8_mix 43 = .ok (.istore 6, 2) := by decide +kernel
theorem dX8_mix_45 : decode cX8_mix 45 = .ok (.iload_n 3, 1) := by decide +kernel
theorem dX8_mix_46 : decode cX8_mix 46 = .ok (.iload 6, 2) := by decide +kernel
theorem dX8_mix_48 : decode cX8_mix 48 = .ok (.invokestatic 87, 3) := by decide +kernel
theorem dX8_mix_51 : decode cX8_mix 51 = .ok (.istore 7, 2) := by decide +kernel
theorem dX8_mix_53 : decode cX8_mix 53 = .ok (.iload 5, 2) := by decide +kernel
theorem dX8_mix_55 : decode cX8_mix 55 = .ok (.iload 6, 2) := by decide +kernel
theorem dX8_mix_57 : decode cX8_mix 57 = .ok (.invokestatic 87, 3) := by decide +kernel
theorem dX8_mix_60 : decode cX8_mix 60 = .ok (.istore 8, 2) := by decide +kernel
theorem dX8_mix_62 : decode cX8_mix 62 = .ok (.iconst 0, 1) := by decide +kernel
theorem dX8_mix_63 : decode cX8_mix 63 = .ok (.istore 9, 2) := by decide +kernel
theorem dX8_mix_65 : decode cX8_mix 65 = .ok (.iload 9, 2) := by decide +kernel
theorem dX8_mix_67 : decode cX8_mix 67 = .ok (.aload_n 0, 1) := by decide +kernel
theorem dX8_mix_68 : decode cX8_mix 68 = .ok (.getfield 12, 3) := by decide +kernel
theorem dX8_mix_71 : decode cX8_mix 71 = .ok (.invokevirtual 93, 3) := by decide +kernel
theorem dX8_mix_74 : decode cX8_mix 74 = .ok (.if_icmp .ge 53, 3) := by decide +kernel
theorem dX8_mix_77 : decode cX8_mix 77 = .ok (.aload_n 0, 1) := by decide +kernel
theorem dX8_mix_78 : decode cX8_mix 78 = .ok (.getfield 53, 3) := by decide +kernel
theorem dX8_mix_81 : decode cX8_mix 81 = .ok (.iload 9, 2) := by decide +kernel
theorem dX8_mix_83 : decode cX8_mix 83 = .ok (.iload 7, 2) := by decide +kernel
theorem dX8_mix_85 : decode cX8_mix 85 = .ok (.aload_n 0, 1) := by decide +kernel
theorem dX8_mix_86 : decode cX8_mix 86 = .ok (.getfield 12, 3) := by decide +kernel
theorem dX8_mix_89 : decode cX8_mix 89 = .ok (.getfield 83, 3) := by decide +kernel
theorem dX8_mix_92 : decode cX8_mix 92 = .ok (.iload_n 2, 1) := by decide +kernel
theorem dX8_mix_93 : decode cX8_mix 93 = .ok (.aaload, 1) := by decide +kernel
theorem dX8_mix_94 : decode cX8_mix 94 = .ok (.iload 9, 2) := by decide +kernel
theorem dX8_mix_96 : decode cX8_mix 96 = .ok (.iaload, 1) := by decide +kernel
theorem dX8_mix_97 : decode cX8_mix 97 = .ok (.imul, 1) := by decide +kernel
theorem dX8_mix_98 : decode cX8_mix 98 = .ok (.iload 8, 2) := by decide +kernel
theorem dX8_mix_100 : decode cX8_mix 100 = .ok (.aload_n 0, 1) := by decide +kernel
theorem dX8_mix_101 : decode cX8_mix 101 = .ok (.getfield 12, 3) := by decide +kernel
theorem dX8_mix_104 : decode cX8_mix 104 = .ok (.getfield 83, 3) := by decide +kernel
theorem dX8_mix_107 : decode cX8_mix 107 = .ok (.iload 4, 2) := by decide +kernel
theorem dX8_mix_109 : decode cX8_mix 109 = .ok (.aaload, 1) := by decide +kernel
theorem dX8_mix_110 : decode cX8_mix 110 = .ok (.iload 9, 2) := by decide +kernel
theorem dX8_mix_112 : decode cX8_mix 112 = .ok (.iaload, 1) := by decide +kernel
theorem dX8_mix_113 : decode cX8_mix 113 = .ok (.imul, 1) := by decide +kernel
theorem dX8_mix_114 : decode cX8_mix 114 = .ok (.iadd, 1) := by decide +kernel
theorem dX8_mix_115 : decode cX8_mix 115 = .ok (.iload 6, 2) := by decide +kernel
theorem dX8_mix_117 : decode cX8_mix 117 = .ok (.invokestatic 87, 3) := by decide +kernel
theorem dX8_mix_120 : decode cX8_mix 120 = .ok (.iastore, 1) := by decide +kernel
theorem dX8_mix_121 : decode cX8_mix 121 = .ok (.iinc 9 1, 3) := by decide +kernel
theorem dX8_mix_124 : decode cX8_mix 124 = .ok (.goto (-59), 3) := by decide +kernel
theorem dX8_mix_127 : decode cX8_mix 127 = .ok (.aload_n 0, 1) := by decide +kernel
theorem dX8_mix_128 : decode cX8_mix 128 = .ok (.getfield 12, 3) := by decide +kernel
theorem dX8_mix_131 : decode cX8_mix 131 = .ok (.iload_n 1, 1) := by decide +kernel
theorem dX8_mix_132 : decode cX8_mix 132 = .ok (.aload_n 0, 1) := by decide +kernel
theorem dX8_mix_133 : decode cX8_mix 133 = .ok (.getfield 53, 3) := by decide +kernel
theorem dX8_mix_136 : decode cX8_mix 136 = .ok (.invokevirtual 101, 3) := by decide +kernel
theorem dX8_mix_139 : decode cX8_mix 139 = .ok (.ireturn, 1) := by decide +kernel
theorem dX8_becomes_0 : decode cX8_becomes 0 = .ok (.aload_n 0, 1) := by decide +kernel
theorem dX8_becomes_1 : decode cX8_becomes 1 = .ok (.getfield 12, 3) := by decide +kernel
theorem dX8_becomes_4 : decode cX8_becomes 4 = .ok (.iload_n 1, 1) := by decide +kernel
theorem dX8_becomes_5 : decode cX8_becomes 5 = .ok (.invokevirtual 77, 3) := by decide +kernel
theorem dX8_becomes_8 : decode cX8_becomes 8 = .ok (.ifCond .eq 23, 3) := by decide +kernel
theorem dX8_becomes_11 : decode cX8_becomes 11 = .ok (.aload_n 0, 1) := by decide +kernel
theorem dX8_becomes_12 : decode cX8_becomes 12 = .ok (.getfield 12, 3) := by decide +kernel
theorem dX8_becomes_15 : decode cX8_becomes 15 = .ok (.iload_n 2, 1) := by decide +kernel
theorem dX8_becomes_16 : decode cX8_becomes 16 = .ok (.invokevirtual 77, 3) := by decide +kernel
theorem dX8_becomes_19 : decode cX8_becomes 19 = .ok (.ifCond .eq 12, 3) := by decide +kernel
theorem dX8_becomes_22 : decode cX8_becomes 22 = .ok (.iload_n 3, 1) := by decide +kernel
theorem dX8_becomes_23 : decode cX8_becomes 23 = .ok (.ifCond .lt 8, 3) := by decide +kernel
theorem dX8_becomes_26 : decode cX8_becomes 26 = .ok (.iload_n 3, 1) := by decide +kernel
theorem dX8_becomes_27 : decode cX8_becomes 27 = .ok (.iconst 4, 1) := by decide +kernel
theorem dX8_becomes_28 : decode cX8_becomes 28 = .ok (.if_icmp .le 5, 3) := by decide +kernel
theorem dX8_becomes_31 : decode cX8_becomes 31 = .ok (.iconst (-1), 1) := by decide +kernel
theorem dX8_becomes_32 : decode cX8_becomes 32 = .ok (.ireturn, 1) := by decide +kernel
theorem dX8_becomes_33 : decode cX8_becomes 33 = .ok (.iload_n 3, 1) := by decide +kernel
theorem dX8_becomes_34 : decode cX8_becomes 34 = .ok (.ifCond .ne 36, 3) := by decide +kernel
theorem dX8_becomes_37 : decode cX8_becomes 37 = .ok (.aload_n 0, 1) := by decide +kernel
theorem dX8_becomes_38 : decode cX8_becomes 38 = .ok (.getfield 12, 3) := by decide +kernel
theorem dX8_becomes_41 : decode cX8_becomes 41 = .ok (.getfield 83, 3) := by decide +kernel
theorem dX8_becomes_44 : decode cX8_becomes 44 = .ok (.iload_n 2, 1) := by decide +kernel
theorem dX8_becomes_45 : decode cX8_becomes 45 = .ok (.aaload, 1) := by decide +kernel
theorem dX8_becomes_46 : decode cX8_becomes 46 = .ok (.aload_n 0, 1) := by decide +kernel
theorem dX8_becomes_47 : decode cX8_becomes 47 = .ok (.getfield 53, 3) := by decide +kernel
theorem dX8_becomes_50 : decode cX8_becomes 50 = .ok (.aload_n 0, 1) := by decide +kernel
theorem dX8_becomes_51 : decode cX8_becomes 51 = .ok (.getfield 12, 3) := by decide +kernel
theorem dX8_becomes_54 : decode cX8_becomes 54 = .ok (.invokevirtual 93, 3) := by decide +kernel
theorem dX8_becomes_57 : decode cX8_becomes 57 = .ok (.aload_n 0, 1) := by decide +kernel
theorem dX8_becomes_58 : decode cX8_becomes 58 = .ok (.getfield 12, 3) := by decide +kernel
theorem dX8_becomes_61 : decode cX8_becomes 61 = .ok (.getfield 65, 3) := by decide +kernel
theorem dX8_becomes_64 : decode cX8_becomes 64 = .ok (.invokestatic 105, 3) := by decide +kernel
theorem dX8_becomes_67 : decode cX8_becomes 67 = .ok (.goto 60, 3) := by decide +kernel
theorem dX8_becomes_70 : decode cX8_becomes 70 = .ok (.iload_n 3, 1) := by decide +kernel
theorem dX8_becomes_71 : decode cX8_becomes 71 = .ok (.iconst 1, 1) := by decide +kernel
theorem dX8_becomes_72 : decode cX8_becomes 72 = .ok (.if_icmp .ne 36, 3) := by decide +kernel
theorem dX8_becomes_75 : decode cX8_becomes 75 = .ok (.aload_n 0, 1) := by decide +kernel
theorem dX8_becomes_76 : decode cX8_becomes 76 = .ok (.getfield 12, 3) := by decide +kernel
theorem dX8_becomes_79 : decode cX8_becomes 79 = .ok (.getfield 83, 3) := by decide +kernel
theorem dX8_becomes_82 : decode cX8_becomes 82 = .ok (.iload_n 2, 1) := by decide +kernel
theorem dX8_becomes_83 : decode cX8_becomes 83 = .ok (.aaload, 1) := by decide +kernel
theorem dX8_becomes_84 : decode cX8_becomes 84 = .ok (.aload_n 0, 1) := by decide +kernel
theorem dX8_becomes_85 : decode cX8_becomes 85 = .ok (.getfield 53, 3) := by decide +kernel
theorem dX8_becomes_88 : decode cX8_becomes 88 = .ok (.aload_n 0, 1) := by decide +kernel
theorem dX8_becomes_89 : decode cX8_becomes 89 = .ok (.getfield 12, 3) := by decide +kernel
theorem dX8_becomes_92 : decode cX8_becomes 92 = .ok (.invokevirtual 93, 3) := by decide +kernel
theorem dX8_becomes_95 : decode cX8_becomes 95 = .ok (.aload_n 0, 1) := by decide +kernel
theorem dX8_becomes_96 : decode cX8_becomes 96 = .ok (.getfield 12, 3) := by decide +kernel
theorem dX8_becomes_99 : decode cX8_becomes 99 = .ok (.getfield 65, 3) := by decide +kernel
theorem dX8_becomes_102 : decode cX8_becomes 102 = .ok (.invokestatic 109, 3) := by decide +kernel
theorem dX8_becomes_105 : decode cX8_becomes 105 = .ok (.goto 22, 3) := by decide +kernel
theorem dX8_becomes_108 : decode cX8_becomes 108 = .ok (.aload_n 0, 1) := by decide +kernel
theorem dX8_becomes_109 : decode cX8_becomes 109 = .ok (.aload_n 0, 1) := by decide +kernel
theorem dX8_becomes_110 : decode cX8_becomes 110 = .ok (.getfield 42, 3) := by decide +kernel
theorem dX8_becomes_113 : decode cX8_becomes 113 = .ok (.aload_n 0, 1) := by decide +kernel
theorem dX8_becomes_114 : decode cX8_becomes 114 = .ok (.getfield 12, 3) := by decide +kernel
theorem dX8_becomes_117 : decode cX8_becomes 117 = .ok (.iload_n 3, 1) := by decide +kernel
theorem dX8_becomes_118 : decode cX8_becomes 118 = .ok (.iconst 2, 1) := by decide +kernel
theorem dX8_becomes_119 : decode cX8_becomes 119 = .ok (.isub, 1) := by decide +kernel
theorem dX8_becomes_120 : decode cX8_becomes 120 = .ok (.invokevirtual 112, 3) := by decide +kernel
theorem dX8_becomes_123 : decode cX8_becomes 123 = .ok (.iload_n 2, 1) := by decide +kernel
theorem dX8_becomes_124 : decode cX8_becomes 124 = .ok (.invokevirtual 116, 3) := by decide +kernel
theorem dX8_becomes_127 : decode cX8_becomes 127 = .ok (.aload_n 0, 1) := by decide +kernel
theorem dX8_becomes_128 : decode cX8_becomes 128 = .ok (.getfield 12, 3) := by decide +kernel
theorem dX8_becomes_131 : decode cX8_becomes 131 = .ok (.iload_n 1, 1) := by decide +kernel
theorem dX8_becomes_132 : decode cX8_becomes 132 = .ok (.aload_n 0, 1) := by decide +kernel
theorem dX8_becomes_133 : decode cX8_becomes 133 = .ok (.getfield 53, 3) := by decide +kernel
theorem dX8_becomes_136 : decode cX8_becomes 136 = .ok (.invokevirtual 101, 3) := by decide +kernel
theorem dX8_becomes_139 : decode cX8_becomes 139 = .ok (.ireturn, 1) := by decide +kernel
theorem dX8_generate_0 : decode cX8_generate 0 = .ok (.aload_n 0, 1) := by decide +kernel
theorem dX8_generate_1 : decode cX8_generate 1 = .ok (.getfield 12, 3) := by decide +kernel
theorem dX8_generate_4 : decode cX8_generate 4 = .ok (.iload_n 1, 1) := by decide +kernel
theorem dX8_generate_5 : decode cX8_generate 5 = .ok (.invokevirtual 77, 3) := by decide +kernel
theorem dX8_generate_8 : decode cX8_generate 8 = .ok (.ifCond .ne 5, 3) := by decide +kernel
theorem dX8_generate_11 : decode cX8_generate 11 = .ok (.iconst (-1), 1) := by decide +kernel
theorem dX8_generate_12 : decode cX8_generate 12 = .ok (.ireturn, 1) := by decide +kernel
theorem dX8_generate_13 : decode cX8_generate 13 = .ok (.aload_n 0, 1) := by decide +kernel
theorem dX8_generate_14 : decode cX8_generate 14 = .ok (.getfield 12, 3) := by decide +kernel
theorem dX8_generate_17 : decode cX8_generate 17 = .ok (.iload_n 1, 1) := by decide +kernel
theorem dX8_generate_18 : decode cX8_generate 18 = .ok (.invokevirtual 120, 3) := by decide +kernel
theorem dX8_generate_21 : decode cX8_generate 21 = .ok (.ifCond .eq 13, 3) := by decide +kernel
theorem dX8_generate_24 : decode cX8_generate 24 = .ok (.aload_n 0, 1) := by decide +kernel
theorem dX8_generate_25 : decode cX8_generate 25 = .ok (.getfield 12, 3) := by decide +kernel
theorem dX8_generate_28 : decode cX8_generate 28 = .ok (.getfield 123, 3) := by decide +kernel
theorem dX8_generate_31 : decode cX8_generate 31 = .ok (.goto 5, 3) := by decide +kernel
theorem dX8_generate_34 : decode cX8_generate 34 = .ok (.bipush (-4), 2) := by decide +kernel
theorem dX8_generate_36 : decode cX8_generate 36 = .ok (.ireturn, 1) := by decide +kernel
theorem dX8_clear_0 : decode cX8_clear 0 = .ok (.aload_n 0, 1) := by decide +kernel
theorem dX8_clear_1 : decode cX8_clear 1 = .ok (.getfield 12, 3) := by decide +kernel
theorem dX8_clear_4 : decode cX8_clear 4 = .ok (.getfield 123, 3) := by decide +kernel
theorem dX8_clear_7 : decode cX8_clear 7 = .ok (.istore_n 1, 1) := by decide +kernel
theorem dX8_clear_8 : decode cX8_clear 8 = .ok (.aload_n 0, 1) := by decide +kernel
theorem dX8_clear_9 : decode cX8_clear 9 = .ok (.getfield 12, 3) := by decide +kernel
theorem dX8_clear_12 : decode cX8_clear 12 = .ok (.invokevirtual 126, 3) := by decide +kernel
theorem dX8_clear_15 : decode cX8_clear 15 = .ok (.iload_n 1, 1) := by decide +kernel
theorem dX8_clear_16 : decode cX8_clear 16 = .ok (.ireturn, 1) := by decide +kernel
theorem dX8_feed_0 : decode cX8_feed 0 = .ok (.iload_n 1, 1) := by decide +kernel
theorem dX8_feed_1 : decode cX8_feed 1 = .ok (.ifCond .lt 9, 3) := by decide +kernel
theorem dX8_feed_4 : decode cX8_feed 4 = .ok (.iload_n 1, 1) := by decide +kernel
theorem dX8_feed_5 : decode cX8_feed 5 = .ok (.bipush 127, 2) := by decide +kernel
theorem dX8_feed_7 : decode cX8_feed 7 = .ok (.if_icmp .le 6, 3) := by decide +kernel
theorem dX8_feed_10 : decode cX8_feed 10 = .ok (.bipush (-2), 2) := by decide +kernel
theorem dX8_feed_12 : decode cX8_feed 12 = .ok (.ireturn, 1) := by decide +kernel
theorem dX8_feed_13 : decode cX8_feed 13 = .ok (.aload_n 0, 1) := by decide +kernel
theorem dX8_feed_14 : decode cX8_feed 14 = .ok (.getfield 28, 3) := by decide +kernel
theorem dX8_feed_17 : decode cX8_feed 17 = .ok (.iload_n 1, 1) := by decide +kernel
theorem dX8_feed_18 : decode cX8_feed 18 = .ok (.invokevirtual 129, 3) := by decide +kernel
theorem dX8_feed_21 : decode cX8_feed 21 = .ok (.ifCond .eq 13, 3) := by decide +kernel
theorem dX8_feed_24 : decode cX8_feed 24 = .ok (.aload_n 0, 1) := by decide +kernel
theorem dX8_feed_25 : decode cX8_feed 25 = .ok (.getfield 28, 3) := by decide +kernel
theorem dX8_feed_28 : decode cX8_feed 28 = .ok (.getfield 132, 3) := by decide +kernel
theorem dX8_feed_31 : decode cX8_feed 31 = .ok (.goto 5, 3) := by decide +kernel
theorem dX8_feed_34 : decode cX8_feed 34 = .ok (.bipush (-4), 2) := by decide +kernel
theorem dX8_feed_36 : decode cX8_feed 36 = .ok (.ireturn, 1) := by decide +kernel
theorem dX8_read_0 : decode cX8_read 0 = .ok (.aload_n 0, 1) := by decide +kernel
theorem dX8_read_1 : decode cX8_read 1 = .ok (.getfield 28, 3) := by decide +kernel
theorem dX8_read_4 : decode cX8_read 4 = .ok (.invokevirtual 135, 3) := by decide +kernel
theorem dX8_read_7 : decode cX8_read 7 = .ok (.istore_n 1, 1) := by decide +kernel
theorem dX8_read_8 : decode cX8_read 8 = .ok (.iload_n 1, 1) := by decide +kernel
theorem dX8_read_9 : decode cX8_read 9 = .ok (.ifCond .lt 10, 3) := by decide +kernel
theorem dX8_read_12 : decode cX8_read 12 = .ok (.bipush (-10), 2) := by decide +kernel
theorem dX8_read_14 : decode cX8_read 14 = .ok (.iload_n 1, 1) := by decide +kernel
theorem dX8_read_15 : decode cX8_read 15 = .ok (.isub, 1) := by decide +kernel
theorem dX8_read_16 : decode cX8_read 16 = .ok (.goto 14, 3) := by decide +kernel
theorem dX8_read_19 : decode cX8_read 19 = .ok (.aload_n 0, 1) := by decide +kernel
theorem dX8_read_20 : decode cX8_read 20 = .ok (.getfield 28, 3) := by decide +kernel
theorem dX8_read_23 : decode cX8_read 23 = .ok (.aload_n 0, 1) := by decide +kernel
theorem dX8_read_24 : decode cX8_read 24 = .ok (.getfield 12, 3) := by decide +kernel
theorem dX8_read_27 : decode cX8_read 27 = .ok (.invokevirtual 138, 3) := by decide +kernel
theorem dX8_read_30 : decode cX8_read 30 = .ok (.istore_n 2, 1) := by decide +kernel
theorem dX8_read_31 : decode cX8_read 31 = .ok (.aload_n 0, 1) := by decide +kernel
theorem dX8_read_32 : decode cX8_read 32 = .ok (.getfield 28, 3) := by decide +kernel
theorem dX8_read_35 : decode cX8_read 35 = .ok (.iconst 0, 1) := by decide +kernel
theorem dX8_read_36 : decode cX8_read 36 = .ok (.putfield 132, 3) := by decide +kernel
theorem dX8_read_39 : decode cX8_read 39 = .ok (.iload_n 2, 1) := by decide +kernel
theorem dX8_read_40 : decode cX8_read 40 = .ok (.ireturn, 1) := by decide +kernel
theorem dX8_of_0 : decode cX8_of 0 = .ok (.aload_n 0, 1) := by decide +kernel
theorem dX8_of_1 : decode cX8_of 1 = .ok (.getfield 12, 3) := by decide +kernel
theorem dX8_of_4 : decode cX8_of 4 = .ok (.iload_n 1, 1) := by decide +kernel
theorem dX8_of_5 : decode cX8_of 5 = .ok (.invokevirtual 77, 3) := by decide +kernel
theorem dX8_of_8 : decode cX8_of 8 = .ok (.ifCond .eq 28, 3) := by decide +kernel
theorem dX8_of_11 : decode cX8_of 11 = .ok (.aload_n 0, 1) := by decide +kernel
theorem dX8_of_12 : decode cX8_of 12 = .ok (.getfield 12, 3) := by decide +kernel
theorem dX8_of_15 : decode cX8_of 15 = .ok (.iload_n 2, 1) := by decide +kernel
theorem dX8_of_16 : decode cX8_of 16 = .ok (.invokevirtual 80, 3) := by decide +kernel
theorem dX8_of_19 : decode cX8_of 19 = .ok (.ifCond .eq 17, 3) := by decide +kernel
theorem dX8_of_22 : decode cX8_of 22 = .ok (.aload_n 0, 1) := by decide +kernel
theorem dX8_of_23 : decode cX8_of 23 = .ok (.getfield 12, 3) := by decide +kernel
theorem dX8_of_26 : decode cX8_of 26 = .ok (.getfield 83, 3) := by decide +kernel
theorem dX8_of_29 : decode cX8_of 29 = .ok (.iload_n 1, 1) := by decide +kernel
theorem dX8_of_30 : decode cX8_of 30 = .ok (.aaload, 1) := by decide +kernel
theorem dX8_of_31 : decode cX8_of 31 = .ok (.iload_n 2, 1) := by decide +kernel
theorem dX8_of_32 : decode cX8_of 32 = .ok (.iaload, 1) := by decide +kernel
theorem dX8_of_33 : decode cX8_of 33 = .ok (.goto 4, 3) := by decide +kernel
theorem dX8_of_36 : decode cX8_of 36 = .ok (.iconst (-1), 1) := by decide +kernel
theorem dX8_of_37 : decode cX8_of 37 = .ok (.ireturn, 1) := by decide +kernel
theorem dX8_told_0 : decode cX8_told 0 = .ok (.iload_n 1, 1) := by decide +kernel
theorem dX8_told_1 : decode cX8_told 1 = .ok (.tableswitch 75 0 4 #[35, 43, 51, 59, 67], 35) := by decide +kernel
theorem dX8_told_36 : decode cX8_told 36 = .ok (.aload_n 0, 1) := by decide +kernel
theorem dX8_told_37 : decode cX8_told 37 = .ok (.getfield 12, 3) := by decide +kernel
theorem dX8_told_40 : decode cX8_told 40 = .ok (.getfield 57, 3) := by decide +kernel
theorem dX8_told_43 : decode cX8_told 43 = .ok (.ireturn, 1) := by decide +kernel
theorem dX8_told_44 : decode cX8_told 44 = .ok (.aload_n 0, 1) := by decide +kernel
theorem dX8_told_45 : decode cX8_told 45 = .ok (.getfield 12, 3) := by decide +kernel
theorem dX8_told_48 : decode cX8_told 48 = .ok (.getfield 65, 3) := by decide +kernel
theorem dX8_told_51 : decode cX8_told 51 = .ok (.ireturn, 1) := by decide +kernel
theorem dX8_told_52 : decode cX8_told 52 = .ok (.aload_n 0, 1) := by decide +kernel
theorem dX8_told_53 : decode cX8_told 53 = .ok (.getfield 12, 3) := by decide +kernel
theorem dX8_told_56 : decode cX8_told 56 = .ok (.getfield 71, 3) := by decide +kernel
theorem dX8_told_59 : decode cX8_told 59 = .ok (.ireturn, 1) := by decide +kernel
theorem dX8_told_60 : decode cX8_told 60 = .ok (.aload_n 0, 1) := by decide +kernel
theorem dX8_told_61 : decode cX8_told 61 = .ok (.getfield 12, 3) := by decide +kernel
theorem dX8_told_64 : decode cX8_told 64 = .ok (.getfield 123, 3) := by decide +kernel
theorem dX8_told_67 : decode cX8_told 67 = .ok (.ireturn, 1) := by decide +kernel
theorem dX8_told_68 : decode cX8_told 68 = .ok (.aload_n 0, 1) := by decide +kernel
theorem dX8_told_69 : decode cX8_told 69 = .ok (.getfield 12, 3) := by decide +kernel
theorem dX8_told_72 : decode cX8_told 72 = .ok (.invokevirtual 93, 3) := by decide +kernel
theorem dX8_told_75 : decode cX8_told 75 = .ok (.ireturn, 1) := by decide +kernel
theorem dX8_told_76 : decode cX8_told 76 = .ok (.iconst (-1), 1) := by decide +kernel
theorem dX8_told_77 : decode cX8_told 77 = .ok (.ireturn, 1) := by decide +kernel
theorem dX8_generator_0 : decode cX8_generator 0 = .ok (.aload_n 0, 1) := by decide +kernel
theorem dX8_generator_1 : decode cX8_generator 1 = .ok (.getfield 12, 3) := by decide +kernel
theorem dX8_generator_4 : decode cX8_generator 4 = .ok (.iload_n 1, 1) := by decide +kernel
theorem dX8_generator_5 : decode cX8_generator 5 = .ok (.invokevirtual 142, 3) := by decide +kernel
theorem dX8_generator_8 : decode cX8_generator 8 = .ok (.ifCond .eq 28, 3) := by decide +kernel
theorem dX8_generator_11 : decode cX8_generator 11 = .ok (.aload_n 0, 1) := by decide +kernel
theorem dX8_generator_12 : decode cX8_generator 12 = .ok (.getfield 12, 3) := by decide +kernel
theorem dX8_generator_15 : decode cX8_generator 15 = .ok (.iload_n 2, 1) := by decide +kernel
theorem dX8_generator_16 : decode cX8_generator 16 = .ok (.invokevirtual 80, 3) := by decide +kernel
theorem dX8_generator_19 : decode cX8_generator 19 = .ok (.ifCond .eq 17, 3) := by decide +kernel
theorem dX8_generator_22 : decode cX8_generator 22 = .ok (.aload_n 0, 1) := by decide +kernel
theorem dX8_generator_23 : decode cX8_generator 23 = .ok (.getfield 12, 3) := by decide +kernel
theorem dX8_generator_26 : decode cX8_generator 26 = .ok (.getfield 145, 3) := by decide +kernel
theorem dX8_generator_29 : decode cX8_generator 29 = .ok (.iload_n 1, 1) := by decide +kernel
theorem dX8_generator_30 : decode cX8_generator 30 = .ok (.aaload, 1) := by decide +kernel
theorem dX8_generator_31 : decode cX8_generator 31 = .ok (.iload_n 2, 1) := by decide +kernel
theorem dX8_generator_32 : decode cX8_generator 32 = .ok (.iaload, 1) := by decide +kernel
theorem dX8_generator_33 : decode cX8_generator 33 = .ok (.goto 4, 3) := by decide +kernel
theorem dX8_generator_36 : decode cX8_generator 36 = .ok (.iconst (-1), 1) := by decide +kernel
theorem dX8_generator_37 : decode cX8_generator 37 = .ok (.ireturn, 1) := by decide +kernel
theorem dX8_places_0 : decode cX8_places 0 = .ok (.aload_n 0, 1) := by decide +kernel
theorem dX8_places_1 : decode cX8_places 1 = .ok (.getfield 12, 3) := by decide +kernel
theorem dX8_places_4 : decode cX8_places 4 = .ok (.iload_n 1, 1) := by decide +kernel
theorem dX8_places_5 : decode cX8_places 5 = .ok (.invokevirtual 80, 3) := by decide +kernel
theorem dX8_places_8 : decode cX8_places 8 = .ok (.ifCond .eq 14, 3) := by decide +kernel
theorem dX8_places_11 : decode cX8_places 11 = .ok (.aload_n 0, 1) := by decide +kernel
theorem dX8_places_12 : decode cX8_places 12 = .ok (.getfield 12, 3) := by decide +kernel
theorem dX8_places_15 : decode cX8_places 15 = .ok (.iload_n 2, 1) := by decide +kernel
theorem dX8_places_16 : decode cX8_places 16 = .ok (.invokevirtual 80, 3) := by decide +kernel
theorem dX8_places_19 : decode cX8_places 19 = .ok (.ifCond .ne 5, 3) := by decide +kernel
theorem dX8_places_22 : decode cX8_places 22 = .ok (.iconst (-1), 1) := by decide +kernel
theorem dX8_places_23 : decode cX8_places 23 = .ok (.ireturn, 1) := by decide +kernel
theorem dX8_places_24 : decode cX8_places 24 = .ok (.iload_n 1, 1) := by decide +kernel
theorem dX8_places_25 : decode cX8_places 25 = .ok (.iload_n 2, 1) := by decide +kernel
theorem dX8_places_26 : decode cX8_places 26 = .ok (.invokestatic 148, 3) := by decide +kernel
theorem dX8_places_29 : decode cX8_places 29 = .ok (.istore_n 3, 1) := by decide +kernel
theorem dX8_places_30 : decode cX8_places 30 = .ok (.iload_n 3, 1) := by decide +kernel
theorem dX8_places_31 : decode cX8_places 31 = .ok (.ifCond .ne 8, 3) := by decide +kernel
theorem dX8_places_34 : decode cX8_places 34 = .ok (.bipush (-5), 2) := by decide +kernel
theorem dX8_places_36 : decode cX8_places 36 = .ok (.goto 13, 3) := by decide +kernel
theorem dX8_places_39 : decode cX8_places 39 = .ok (.bipush 100, 2) := by decide +kernel
theorem dX8_places_41 : decode cX8_places 41 = .ok (.iload_n 1, 1) := by decide +kernel
theorem dX8_places_42 : decode cX8_places 42 = .ok (.iload_n 2, 1) := by decide +kernel
