theorem dX0_init_0 : decode cX0_init 0 = .ok (.aload_n 0, 1) := by decide +kernel
theorem dX0_init_1 : decode cX0_init 1 = .ok (.invokespecial 3, 3) := by decide +kernel
theorem dX0_init_4 : decode cX0_init 4 = .ok (.aload_n 0, 1) := by decide +kernel
theorem dX0_init_5 : decode cX0_init 5 = .ok (.bipush 8, 2) := by decide +kernel
theorem dX0_init_7 : decode cX0_init 7 = .ok (.newarray .int, 2) := by decide +kernel
theorem dX0_init_9 : decode cX0_init 9 = .ok (.putfield 9, 3) := by decide +kernel
theorem dX0_init_12 : decode cX0_init 12 = .ok (.return_, 1) := by decide +kernel
theorem dX0_copyOf_0 : decode cX0_copyOf 0 = .ok (.aload_n 1, 1) := by decide +kernel
theorem dX0_copyOf_1 : decode cX0_copyOf 1 = .ok (.getfield 9, 3) := by decide +kernel
theorem dX0_copyOf_4 : decode cX0_copyOf 4 = .ok (.iconst 0, 1) := by decide +kernel
theorem dX0_copyOf_5 : decode cX0_copyOf 5 = .ok (.aload_n 0, 1) := by decide +kernel
theorem dX0_copyOf_6 : decode cX0_copyOf 6 = .ok (.getfield 9, 3) := by decide +kernel
theorem dX0_copyOf_9 : decode cX0_copyOf 9 = .ok (.iconst 0, 1) := by decide +kernel
theorem dX0_copyOf_10 : decode cX0_copyOf 10 = .ok (.bipush 8, 2) := by decide +kernel
theorem dX0_copyOf_12 : decode cX0_copyOf 12 = .ok (.invokestatic 15, 3) := by decide +kernel
theorem dX0_copyOf_15 : decode cX0_copyOf 15 = .ok (.aload_n 0, 1) := by decide +kernel
theorem dX0_copyOf_16 : decode cX0_copyOf 16 = .ok (.aload_n 1, 1) := by decide +kernel
theorem dX0_copyOf_17 : decode cX0_copyOf 17 = .ok (.getfield 21, 3) := by decide +kernel
theorem dX0_copyOf_20 : decode cX0_copyOf 20 = .ok (.putfield 21, 3) := by decide +kernel
theorem dX0_copyOf_23 : decode cX0_copyOf 23 = .ok (.aload_n 0, 1) := by decide +kernel
theorem dX0_copyOf_24 : decode cX0_copyOf 24 = .ok (.aload_n 1, 1) := by decide +kernel
theorem dX0_copyOf_25 : decode cX0_copyOf 25 = .ok (.getfield 25, 3) := by decide +kernel
theorem dX0_copyOf_28 : decode cX0_copyOf 28 = .ok (.putfield 25, 3) := by decide +kernel
theorem dX0_copyOf_31 : decode cX0_copyOf 31 = .ok (.aload_n 0, 1) := by decide +kernel
theorem dX0_copyOf_32 : decode cX0_copyOf 32 = .ok (.aload_n 1, 1) := by decide +kernel
theorem dX0_copyOf_33 : decode cX0_copyOf 33 = .ok (.getfield 28, 3) := by decide +kernel
theorem dX0_copyOf_36 : decode cX0_copyOf 36 = .ok (.putfield 28, 3) := by decide +kernel
theorem dX0_copyOf_39 : decode cX0_copyOf 39 = .ok (.aload_n 0, 1) := by decide +kernel
theorem dX0_copyOf_40 : decode cX0_copyOf 40 = .ok (.aload_n 1, 1) := by decide +kernel
theorem dX0_copyOf_41 : decode cX0_copyOf 41 = .ok (.getfield 31, 3) := by decide +kernel
theorem dX0_copyOf_44 : decode cX0_copyOf 44 = .ok (.putfield 31, 3) := by decide +kernel
theorem dX0_copyOf_47 : decode cX0_copyOf 47 = .ok (.aload_n 0, 1) := by decide +kernel
theorem dX0_copyOf_48 : decode cX0_copyOf 48 = .ok (.aload_n 1, 1) := by decide +kernel
theorem dX0_copyOf_49 : decode cX0_copyOf 49 = .ok (.getfield 34, 3) := by decide +kernel
theorem dX0_copyOf_52 : decode cX0_copyOf 52 = .ok (.putfield 34, 3) := by decide +kernel
theorem dX0_copyOf_55 : decode cX0_copyOf 55 = .ok (.aload_n 0, 1) := by decide +kernel
theorem dX0_copyOf_56 : decode cX0_copyOf 56 = .ok (.aload_n 1, 1) := by decide +kernel
theorem dX0_copyOf_57 : decode cX0_copyOf 57 = .ok (.getfield 37, 3) := by decide +kernel
theorem dX0_copyOf_60 : decode cX0_copyOf 60 = .ok (.putfield 37, 3) := by decide +kernel
theorem dX0_copyOf_63 : decode cX0_copyOf 63 = .ok (.aload_n 0, 1) := by decide +kernel
theorem dX0_copyOf_64 : decode cX0_copyOf 64 = .ok (.aload_n 1, 1) := by decide +kernel
theorem dX0_copyOf_65 : decode cX0_copyOf 65 = .ok (.getfield 40, 3) := by decide +kernel
theorem dX0_copyOf_68 : decode cX0_copyOf 68 = .ok (.putfield 40, 3) := by decide +kernel
theorem dX0_copyOf_71 : decode cX0_copyOf 71 = .ok (.aload_n 0, 1) := by decide +kernel
theorem dX0_copyOf_72 : decode cX0_copyOf 72 = .ok (.aload_n 1, 1) := by decide +kernel
theorem dX0_copyOf_73 : decode cX0_copyOf 73 = .ok (.getfield 43, 3) := by decide +kernel
theorem dX0_copyOf_76 : decode cX0_copyOf 76 = .ok (.putfield 43, 3) := by decide +kernel
theorem dX0_copyOf_79 : decode cX0_copyOf 79 = .ok (.aload_n 0, 1) := by decide +kernel
theorem dX0_copyOf_80 : decode cX0_copyOf 80 = .ok (.aload_n 1, 1) := by decide +kernel
theorem dX0_copyOf_81 : decode cX0_copyOf 81 = .ok (.getfield 46, 3) := by decide +kernel
theorem dX0_copyOf_84 : decode cX0_copyOf 84 = .ok (.putfield 46, 3) := by decide +kernel
theorem dX0_copyOf_87 : decode cX0_copyOf 87 = .ok (.aload_n 0, 1) := by decide +kernel
theorem dX0_copyOf_88 : decode cX0_copyOf 88 = .ok (.aload_n 1, 1) := by decide +kernel
theorem dX0_copyOf_89 : decode cX0_copyOf 89 = .ok (.getfield 49, 3) := by decide +kernel
theorem dX0_copyOf_92 : decode cX0_copyOf 92 = .ok (.putfield 49, 3) := by decide +kernel
theorem dX0_copyOf_95 : decode cX0_copyOf 95 = .ok (.return_, 1) := by decide +kernel
theorem dX0_misses_0 : decode cX0_misses 0 = .ok (.aload_n 0, 1) := by decide +kernel
theorem dX0_misses_1 : decode cX0_misses 1 = .ok (.getfield 46, 3) := by decide +kernel
theorem dX0_misses_4 : decode cX0_misses 4 = .ok (.iload_n 1, 1) := by decide +kernel
theorem dX0_misses_5 : decode cX0_misses 5 = .ok (.ishr, 1) := by decide +kernel
theorem dX0_misses_6 : decode cX0_misses 6 = .ok (.iconst 1, 1) := by decide +kernel
theorem dX0_misses_7 : decode cX0_misses 7 = .ok (.iand, 1) := by decide +kernel
theorem dX0_misses_8 : decode cX0_misses 8 = .ok (.iconst 1, 1) := by decide +kernel
theorem dX0_misses_9 : decode cX0_misses 9 = .ok (.if_icmp .ne 7, 3) := by decide +kernel
theorem dX0_misses_12 : decode cX0_misses 12 = .ok (.iconst 1, 1) := by decide +kernel
theorem dX0_misses_13 : decode cX0_misses 13 = .ok (.goto 4, 3) := by decide +kernel
theorem dX0_misses_16 : decode cX0_misses 16 = .ok (.iconst 0, 1) := by decide +kernel
theorem dX0_misses_17 : decode cX0_misses 17 = .ok (.ireturn, 1) := by decide +kernel
theorem dX0_isKinOf_0 : decode cX0_isKinOf 0 = .ok (.aload_n 0, 1) := by decide +kernel
theorem dX0_isKinOf_1 : decode cX0_isKinOf 1 = .ok (.getfield 31, 3) := by decide +kernel
theorem dX0_isKinOf_4 : decode cX0_isKinOf 4 = .ok (.iload_n 1, 1) := by decide +kernel
theorem dX0_isKinOf_5 : decode cX0_isKinOf 5 = .ok (.ishr, 1) := by decide +kernel
theorem dX0_isKinOf_6 : decode cX0_isKinOf 6 = .ok (.iconst 1, 1) := by decide +kernel
theorem dX0_isKinOf_7 : decode cX0_isKinOf 7 = .ok (.iand, 1) := by decide +kernel
theorem dX0_isKinOf_8 : decode cX0_isKinOf 8 = .ok (.iconst 1, 1) := by decide +kernel
theorem dX0_isKinOf_9 : decode cX0_isKinOf 9 = .ok (.if_icmp .ne 7, 3) := by decide +kernel
theorem dX0_isKinOf_12 : decode cX0_isKinOf 12 = .ok (.iconst 1, 1) := by decide +kernel
theorem dX0_isKinOf_13 : decode cX0_isKinOf 13 = .ok (.goto 4, 3) := by decide +kernel
theorem dX0_isKinOf_16 : decode cX0_isKinOf 16 = .ok (.iconst 0, 1) := by decide +kernel
theorem dX0_isKinOf_17 : decode cX0_isKinOf 17 = .ok (.ireturn, 1) := by decide +kernel
theorem dX0_isLetGo_0 : decode cX0_isLetGo 0 = .ok (.aload_n 0, 1) := by decide +kernel
theorem dX0_isLetGo_1 : decode cX0_isLetGo 1 = .ok (.getfield 49, 3) := by decide +kernel
theorem dX0_isLetGo_4 : decode cX0_isLetGo 4 = .ok (.ifCond .ne 14, 3) := by decide +kernel
theorem dX0_isLetGo_7 : decode cX0_isLetGo 7 = .ok (.aload_n 0, 1) := by decide +kernel
theorem dX0_isLetGo_8 : decode cX0_isLetGo 8 = .ok (.getfield 34, 3) := by decide +kernel
theorem dX0_isLetGo_11 : decode cX0_isLetGo 11 = .ok (.ifCond .le 7, 3) := by decide +kernel
theorem dX0_isLetGo_14 : decode cX0_isLetGo 14 = .ok (.iconst 1, 1) := by decide +kernel
theorem dX0_isLetGo_15 : decode cX0_isLetGo 15 = .ok (.goto 4, 3) := by decide +kernel
theorem dX0_isLetGo_18 : decode cX0_isLetGo 18 = .ok (.iconst 0, 1) := by decide +kernel
theorem dX0_isLetGo_19 : decode cX0_isLetGo 19 = .ok (.ireturn, 1) := by decide +kernel
theorem dX0_heardNow_0 : decode cX0_heardNow 0 = .ok (.aload_n 0, 1) := by decide +kernel
theorem dX0_heardNow_1 : decode cX0_heardNow 1 = .ok (.iload_n 1, 1) := by decide +kernel
theorem dX0_heardNow_2 : decode cX0_heardNow 2 = .ok (.aload_n 0, 1) := by decide +kernel
theorem dX0_heardNow_3 : decode cX0_heardNow 3 = .ok (.getfield 37, 3) := by decide +kernel
theorem dX0_heardNow_6 : decode cX0_heardNow 6 = .ok (.invokevirtual 53, 3) := by decide +kernel
theorem dX0_heardNow_9 : decode cX0_heardNow 9 = .ok (.ireturn, 1) := by decide +kernel
theorem dX0_heardWith_0 : decode cX0_heardWith 0 = .ok (.aload_n 0, 1) := by decide +kernel
theorem dX0_heardWith_1 : decode cX0_heardWith 1 = .ok (.getfield 9, 3) := by decide +kernel
theorem dX0_heardWith_4 : decode cX0_heardWith 4 = .ok (.iload_n 1, 1) := by decide +kernel
theorem dX0_heardWith_5 : decode cX0_heardWith 5 = .ok (.iaload, 1) := by decide +kernel
theorem dX0_heardWith_6 : decode cX0_heardWith 6 = .ok (.istore_n 3, 1) := by decide +kernel
theorem dX0_heardWith_7 : decode cX0_heardWith 7 = .ok (.iload_n 3, 1) := by decide +kernel
theorem dX0_heardWith_8 : decode cX0_heardWith 8 = .ok (.ifCond .eq 11, 3) := by decide +kernel
theorem dX0_heardWith_11 : decode cX0_heardWith 11 = .ok (.aload_n 0, 1) := by decide +kernel
theorem dX0_heardWith_12 : decode cX0_heardWith 12 = .ok (.iload_n 3, 1) := by decide +kernel
theorem dX0_heardWith_13 : decode cX0_heardWith 13 = .ok (.invokevirtual 57, 3) := by decide +kernel
theorem dX0_heardWith_16 : decode cX0_heardWith 16 = .ok (.ifCond .eq 7, 3) := by decide +kernel
theorem dX0_heardWith_19 : decode cX0_heardWith 19 = .ok (.iconst 0, 1) := by decide +kernel
theorem dX0_heardWith_20 : decode cX0_heardWith 20 = .ok (.goto 13, 3) := by decide +kernel
theorem dX0_heardWith_23 : decode cX0_heardWith 23 = .ok (.bipush 9, 2) := by decide +kernel
theorem dX0_heardWith_25 : decode cX0_heardWith 25 = .ok (.iload_n 3, 1) := by decide +kernel
theorem dX0_heardWith_26 : decode cX0_heardWith 26 = .ok (.iload_n 2, 1) := by decide +kernel
theorem dX0_heardWith_27 : decode cX0_heardWith 27 = .ok (.iconst 5, 1) := by decide +kernel
theorem dX0_heardWith_28 : decode cX0_heardWith 28 = .ok (.idiv, 1) := by decide +kernel
theorem dX0_heardWith_29 : decode cX0_heardWith 29 = .ok (.iadd, 1) := by decide +kernel
theorem dX0_heardWith_30 : decode cX0_heardWith 30 = .ok (.invokestatic 61, 3) := by decide +kernel
theorem dX0_heardWith_33 : decode cX0_heardWith 33 = .ok (.ireturn, 1) := by decide +kernel
theorem dX0_placesHeard_0 : decode cX0_placesHeard 0 = .ok (.iconst 0, 1) := by decide +kernel
theorem dX0_placesHeard_1 : decode cX0_placesHeard 1 = .ok (.istore_n 1, 1) := by decide +kernel
theorem dX0_placesHeard_2 : decode cX0_placesHeard 2 = .ok (.iconst 0, 1) := by decide +kernel
theorem dX0_placesHeard_3 : decode cX0_placesHeard 3 = .ok (.istore_n 2, 1) := by decide +kernel
theorem dX0_placesHeard_4 : decode cX0_placesHeard 4 = .ok (.iload_n 2, 1) := by decide +kernel
theorem dX0_placesHeard_5 : decode cX0_placesHeard 5 = .ok (.bipush 8, 2) := by decide +kernel
theorem dX0_placesHeard_7 : decode cX0_placesHeard 7 = .ok (.if_icmp .ge 24, 3) := by decide +kernel
theorem dX0_placesHeard_10 : decode cX0_placesHeard 10 = .ok (.aload_n 0, 1) := by decide +kernel
theorem dX0_placesHeard_11 : decode cX0_placesHeard 11 = .ok (.iload_n 2, 1) := by decide +kernel
theorem dX0_placesHeard_12 : decode cX0_placesHeard 12 = .ok (.aload_n 0, 1) := by decide +kernel
theorem dX0_placesHeard_13 : decode cX0_placesHeard 13 = .ok (.getfield 37, 3) := by decide +kernel
theorem dX0_placesHeard_16 : decode cX0_placesHeard 16 = .ok (.invokevirtual 53, 3) := by decide +kernel
theorem dX0_placesHeard_19 : decode cX0_placesHeard 19 = .ok (.ifCond .le 6, 3) := by decide +kernel
theorem dX0_placesHeard_22 : decode cX0_placesHeard 22 = .ok (.iinc 1 1, 3) := by decide +kernel
theorem dX0_placesHeard_25 : decode cX0_placesHeard 25 = .ok (.iinc 2 1, 3) := by decide +kernel
theorem dX0_placesHeard_28 : decode cX0_placesHeard 28 = .ok (.goto (-24), 3) := by decide +kernel
theorem dX0_placesHeard_31 : decode cX0_placesHeard 31 = .ok (.iload_n 1, 1) := by decide +kernel
theorem dX0_placesHeard_32 : decode cX0_placesHeard 32 = .ok (.ireturn, 1) := by decide +kernel
theorem dX0_goOneYear_0 : decode cX0_goOneYear 0 = .ok (.aload_n 0, 1) := by decide +kernel
theorem dX0_goOneYear_1 : decode cX0_goOneYear 1 = .ok (.invokevirtual 66, 3) := by decide +kernel
theorem dX0_goOneYear_4 : decode cX0_goOneYear 4 = .ok (.ifCond .eq 11, 3) := by decide +kernel
theorem dX0_goOneYear_7 : decode cX0_goOneYear 7 = .ok (.aload_n 0, 1) := by decide +kernel
theorem dX0_goOneYear_8 : decode cX0_goOneYear 8 = .ok (.aload_n 1, 1) := by decide +kernel
theorem dX0_goOneYear_9 : decode cX0_goOneYear 9 = .ok (.iload_n 2, 1) := by decide +kernel
theorem dX0_goOneYear_10 : decode cX0_goOneYear 10 = .ok (.iload 4, 2) := by decide +kernel
theorem dX0_goOneYear_12 : decode cX0_goOneYear 12 = .ok (.invokevirtual 70, 3) := by decide +kernel
theorem dX0_goOneYear_15 : decode cX0_goOneYear 15 = .ok (.iload_n 3, 1) := by decide +kernel
theorem dX0_goOneYear_16 : decode cX0_goOneYear 16 = .ok (.ifCond .eq 9, 3) := by decide +kernel
theorem dX0_goOneYear_19 : decode cX0_goOneYear 19 = .ok (.aload_n 0, 1) := by decide +kernel
theorem dX0_goOneYear_20 : decode cX0_goOneYear 20 = .ok (.aload_n 1, 1) := by decide +kernel
theorem dX0_goOneYear_21 : decode cX0_goOneYear 21 = .ok (.iload_n 2, 1) := by decide +kernel
theorem dX0_goOneYear_22 : decode cX0_goOneYear 22 = .ok (.invokevirtual 74, 3) := by decide +kernel
theorem dX0_goOneYear_25 : decode cX0_goOneYear 25 = .ok (.return_, 1) := by decide +kernel
theorem dX0_letGo_0 : decode cX0_letGo 0 = .ok (.aload_n 0, 1) := by decide +kernel
theorem dX0_letGo_1 : decode cX0_letGo 1 = .ok (.dup, 1) := by decide +kernel
theorem dX0_letGo_2 : decode cX0_letGo 2 = .ok (.getfield 40, 3) := by decide +kernel
theorem dX0_letGo_5 : decode cX0_letGo 5 = .ok (.iconst 1, 1) := by decide +kernel
theorem dX0_letGo_6 : decode cX0_letGo 6 = .ok (.iadd, 1) := by decide +kernel
theorem dX0_letGo_7 : decode cX0_letGo 7 = .ok (.putfield 40, 3) := by decide +kernel
theorem dX0_letGo_10 : decode cX0_letGo 10 = .ok (.iload_n 3, 1) := by decide +kernel
theorem dX0_letGo_11 : decode cX0_letGo 11 = .ok (.ifCond .eq 44, 3) := by decide +kernel
theorem dX0_letGo_14 : decode cX0_letGo 14 = .ok (.aload_n 1, 1) := by decide +kernel
theorem dX0_letGo_15 : decode cX0_letGo 15 = .ok (.iconst 2, 1) := by decide +kernel
theorem dX0_letGo_16 : decode cX0_letGo 16 = .ok (.aload_n 0, 1) := by decide +kernel
theorem dX0_letGo_17 : decode cX0_letGo 17 = .ok (.iload_n 2, 1) := by decide +kernel
theorem dX0_letGo_18 : decode cX0_letGo 18 = .ok (.invokevirtual 78, 3) := by decide +kernel
theorem dX0_letGo_21 : decode cX0_letGo 21 = .ok (.lstore 4, 2) := by decide +kernel
theorem dX0_letGo_23 : decode cX0_letGo 23 = .ok (.aload_n 0, 1) := by decide +kernel
theorem dX0_letGo_24 : decode cX0_letGo 24 = .ok (.dup, 1) := by decide +kernel
theorem dX0_letGo_25 : decode cX0_letGo 25 = .ok (.getfield 43, 3) := by decide +kernel
theorem dX0_letGo_28 : decode cX0_letGo 28 = .ok (.lload 4, 2) := by decide +kernel
theorem dX0_letGo_30 : decode cX0_letGo 30 = .ok (.ldc2_w 84, 3) := by decide +kernel
theorem dX0_letGo_33 : decode cX0_letGo 33 = .ok (.lcmp, 1) := by decide +kernel
theorem dX0_letGo_34 : decode cX0_letGo 34 = .ok (.ifCond .ne 10, 3) := by decide +kernel
theorem dX0_letGo_37 : decode cX0_letGo 37 = .ok (.aload_n 0, 1) := by decide +kernel
theorem dX0_letGo_38 : decode cX0_letGo 38 = .ok (.invokevirtual 86, 3) := by decide +kernel
theorem dX0_letGo_41 : decode cX0_letGo 41 = .ok (.goto 10, 3) := by decide +kernel
theorem dX0_letGo_44 : decode cX0_letGo 44 = .ok (.lload 4, 2) := by decide +kernel
theorem dX0_letGo_46 : decode cX0_letGo 46 = .ok (.bipush 99, 2) := by decide +kernel
theorem dX0_letGo_48 : decode cX0_letGo 48 = .ok (.invokestatic 90, 3) := by decide +kernel
theorem dX0_letGo_51 : decode cX0_letGo 51 = .ok (.iadd, 1) := by decide +kernel
theorem dX0_letGo_52 : decode cX0_letGo 52 = .ok (.putfield 43, 3) := by decide +kernel
theorem dX0_letGo_55 : decode cX0_letGo 55 = .ok (.aload_n 1, 1) := by decide +kernel
theorem dX0_letGo_56 : decode cX0_letGo 56 = .ok (.iconst 0, 1) := by decide +kernel
theorem dX0_letGo_57 : decode cX0_letGo 57 = .ok (.aload_n 0, 1) := by decide +kernel
theorem dX0_letGo_58 : decode cX0_letGo 58 = .ok (.iload_n 2, 1) := by decide +kernel
theorem dX0_letGo_59 : decode cX0_letGo 59 = .ok (.invokevirtual 78, 3) := by decide +kernel
theorem dX0_letGo_62 : decode cX0_letGo 62 = .ok (.lstore 4, 2) := by decide +kernel
theorem dX0_letGo_64 : decode cX0_letGo 64 = .ok (.aload_n 0, 1) := by decide +kernel
theorem dX0_letGo_65 : decode cX0_letGo 65 = .ok (.iconst 0, 1) := by decide +kernel
theorem dX0_letGo_66 : decode cX0_letGo 66 = .ok (.aload_n 0, 1) := by decide +kernel
theorem dX0_letGo_67 : decode cX0_letGo 67 = .ok (.getfield 34, 3) := by decide +kernel
theorem dX0_letGo_70 : decode cX0_letGo 70 = .ok (.lload 4, 2) := by decide +kernel
theorem dX0_letGo_72 : decode cX0_letGo 72 = .ok (.ldc2_w 84, 3) := by decide +kernel
theorem dX0_letGo_75 : decode cX0_letGo 75 = .ok (.lcmp, 1) := by decide +kernel
theorem dX0_letGo_76 : decode cX0_letGo 76 = .ok (.ifCond .ne 7, 3) := by decide +kernel
theorem dX0_letGo_79 : decode cX0_letGo 79 = .ok (.iconst 1, 1) := by decide +kernel
theorem dX0_letGo_80 : decode cX0_letGo 80 = .ok (.goto 10, 3) := by decide +kernel
theorem dX0_letGo_83 : decode cX0_letGo 83 = .ok (.lload 4, 2) := by decide +kernel
theorem dX0_letGo_85 : decode cX0_letGo 85 = .ok (.bipush 9, 2) := by decide +kernel
theorem dX0_letGo_87 : decode cX0_letGo 87 = .ok (.invokestatic 90, 3) := by decide +kernel
theorem dX0_letGo_90 : decode cX0_letGo 90 = .ok (.isub, 1) := by decide +kernel
theorem dX0_letGo_91 : decode cX0_letGo 91 = .ok (.invokestatic 94, 3) := by decide +kernel
theorem dX0_letGo_94 : decode cX0_letGo 94 = .ok (.putfield 34, 3) := by decide +kernel
theorem dX0_letGo_97 : decode cX0_letGo 97 = .ok (.return_, 1) := by decide +kernel
theorem dX0_growFalse_0 : decode cX0_growFalse 0 = .ok (.aload_n 1, 1) := by decide +kernel
theorem dX0_growFalse_1 : decode cX0_growFalse 1 = .ok (.iconst 1, 1) := by decide +kernel
theorem dX0_growFalse_2 : decode cX0_growFalse 2 = .ok (.aload_n 0, 1) := by decide +kernel
theorem dX0_growFalse_3 : decode cX0_growFalse 3 = .ok (.iload_n 2, 1) := by decide +kernel
theorem dX0_growFalse_4 : decode cX0_growFalse 4 = .ok (.invokevirtual 78, 3) := by decide +kernel
theorem dX0_growFalse_7 : decode cX0_growFalse 7 = .ok (.lstore_n 3, 1) := by decide +kernel
theorem dX0_growFalse_8 : decode cX0_growFalse 8 = .ok (.aload_n 0, 1) := by decide +kernel
theorem dX0_growFalse_9 : decode cX0_growFalse 9 = .ok (.bipush 99, 2) := by decide +kernel
theorem dX0_growFalse_11 : decode cX0_growFalse 11 = .ok (.aload_n 0, 1) := by decide +kernel
theorem dX0_growFalse_12 : decode cX0_growFalse 12 = .ok (.getfield 37, 3) := by decide +kernel
theorem dX0_growFalse_15 : decode cX0_growFalse 15 = .ok (.lload_n 3, 1) := by decide +kernel
theorem dX0_growFalse_16 : decode cX0_growFalse 16 = .ok (.ldc2_w 84, 3) := by decide +kernel
theorem dX0_growFalse_19 : decode cX0_growFalse 19 = .ok (.lcmp, 1) := by decide +kernel
theorem dX0_growFalse_20 : decode cX0_growFalse 20 = .ok (.ifCond .ne 7, 3) := by decide +kernel
theorem dX0_growFalse_23 : decode cX0_growFalse 23 = .ok (.iconst 1, 1) := by decide +kernel
theorem dX0_growFalse_24 : decode cX0_growFalse 24 = .ok (.goto 9, 3) := by decide +kernel
theorem dX0_growFalse_27 : decode cX0_growFalse 27 = .ok (.lload_n 3, 1) := by decide +kernel
theorem dX0_growFalse_28 : decode cX0_growFalse 28 = .ok (.bipush 9, 2) := by decide +kernel
theorem dX0_growFalse_30 : decode cX0_growFalse 30 = .ok (.invokestatic 90, 3) := by decide +kernel
theorem dX0_growFalse_33 : decode cX0_growFalse 33 = .ok (.iadd, 1) := by decide +kernel
theorem dX0_growFalse_34 : decode cX0_growFalse 34 = .ok (.invokestatic 61, 3) := by decide +kernel
theorem dX0_growFalse_37 : decode cX0_growFalse 37 = .ok (.putfield 37, 3) := by decide +kernel
theorem dX0_growFalse_40 : decode cX0_growFalse 40 = .ok (.return_, 1) := by decide +kernel
theorem dX0_hold_0 : decode cX0_hold 0 = .ok (.lconst 0, 1) := by decide +kernel
theorem dX0_hold_1 : decode cX0_hold 1 = .ok (.iload_n 2, 1) := by decide +kernel
theorem dX0_hold_2 : decode cX0_hold 2 = .ok (.i2l, 1) := by decide +kernel
theorem dX0_hold_3 : decode cX0_hold 3 = .ok (.lload_n 0, 1) := by decide +kernel
theorem dX0_hold_4 : decode cX0_hold 4 = .ok (.invokestatic 97, 3) := by decide +kernel
theorem dX0_hold_7 : decode cX0_hold 7 = .ok (.invokestatic 100, 3) := by decide +kernel
theorem dX0_hold_10 : decode cX0_hold 10 = .ok (.l2i, 1) := by decide +kernel
theorem dX0_hold_11 : decode cX0_hold 11 = .ok (.ireturn, 1) := by decide +kernel
theorem dX1_init_0 : decode cX1_init 0 = .ok (.aload_n 0, 1) := by decide +kernel
theorem dX1_init_1 : decode cX1_init 1 = .ok (.invokespecial 3, 3) := by decide +kernel
theorem dX1_init_4 : decode cX1_init 4 = .ok (.aload_n 0, 1) := by decide +kernel
theorem dX1_init_5 : decode cX1_init 5 = .ok (.bipush 20, 2) := by decide +kernel
theorem dX1_init_7 : decode cX1_init 7 = .ok (.newarray .int, 2) := by decide +kernel
theorem dX1_init_9 : decode cX1_init 9 = .ok (.putfield 9, 3) := by decide +kernel
theorem dX1_init_12 : decode cX1_init 12 = .ok (.aload_n 0, 1) := by decide +kernel
theorem dX1_init_13 : decode cX1_init 13 = .ok (.bipush 20, 2) := by decide +kernel
theorem dX1_init_15 : decode cX1_init 15 = .ok (.newarray .int, 2) := by decide +kernel
theorem dX1_init_17 : decode cX1_init 17 = .ok (.putfield 15, 3) := by decide +kernel
theorem dX1_init_20 : decode cX1_init 20 = .ok (.aload_n 0, 1) := by decide +kernel
theorem dX1_init_21 : decode cX1_init 21 = .ok (.bipush 20, 2) := by decide +kernel
theorem dX1_init_23 : decode cX1_init 23 = .ok (.newarray .int, 2) := by decide +kernel
theorem dX1_init_25 : decode cX1_init 25 = .ok (.putfield 18, 3) := by decide +kernel
theorem dX1_init_28 : decode cX1_init 28 = .ok (.aload_n 0, 1) := by decide +kernel
theorem dX1_init_29 : decode cX1_init 29 = .ok (.bipush 20, 2) := by decide +kernel
theorem dX1_init_31 : decode cX1_init 31 = .ok (.newarray .boolean, 2) := by decide +kernel
theorem dX1_init_33 : decode cX1_init 33 = .ok (.putfield 21, 3) := by decide +kernel
theorem dX1_init_36 : decode cX1_init 36 = .ok (.return_, 1) := by decide +kernel
theorem dX1_clear_0 : decode cX1_clear 0 = .ok (.aload_n 0, 1) := by decide +kernel
theorem dX1_clear_1 : decode cX1_clear 1 = .ok (.iconst 0, 1) := by decide +kernel
theorem dX1_clear_2 : decode cX1_clear 2 = .ok (.putfield 25, 3) := by decide +kernel
theorem dX1_clear_5 : decode cX1_clear 5 = .ok (.return_, 1) := by decide +kernel
theorem dX1_note_0 : decode cX1_note 0 = .ok (.aload_n 0, 1) := by decide +kernel
theorem dX1_note_1 : decode cX1_note 1 = .ok (.getfield 25, 3) := by decide +kernel
theorem dX1_note_4 : decode cX1_note 4 = .ok (.bipush 20, 2) := by decide +kernel
theorem dX1_note_6 : decode cX1_note 6 = .ok (.if_icmp .ne 7, 3) := by decide +kernel
theorem dX1_note_9 : decode cX1_note 9 = .ok (.aload_n 0, 1) := by decide +kernel
theorem dX1_note_10 : decode cX1_note 10 = .ok (.invokevirtual 29, 3) := by decide +kernel
theorem dX1_note_13 : decode cX1_note 13 = .ok (.aload_n 0, 1) := by decide +kernel
theorem dX1_note_14 : decode cX1_note 14 = .ok (.getfield 9, 3) := by decide +kernel
theorem dX1_note_17 : decode cX1_note 17 = .ok (.aload_n 0, 1) := by decide +kernel
theorem dX1_note_18 : decode cX1_note 18 = .ok (.getfield 25, 3) := by decide +kernel
theorem dX1_note_21 : decode cX1_note 21 = .ok (.iload_n 1, 1) := by decide +kernel
theorem dX1_note_22 : decode cX1_note 22 = .ok (.iastore, 1) := by decide +kernel
theorem dX1_note_23 : decode cX1_note 23 = .ok (.aload_n 0, 1) := by decide +kernel
theorem dX1_note_24 : decode cX1_note 24 = .ok (.getfield 15, 3) := by decide +kernel
theorem dX1_note_27 : decode cX1_note 27 = .ok (.aload_n 0, 1) := by decide +kernel
theorem dX1_note_28 : decode cX1_note 28 = .ok (.getfield 25, 3) := by decide +kernel
theorem dX1_note_31 : decode cX1_note 31 = .ok (.aload_n 2, 1) := by decide +kernel
theorem dX1_note_32 : decode cX1_note 32 = .ok (.getfield 32, 3) := by decide +kernel
theorem dX1_note_35 : decode cX1_note 35 = .ok (.iastore, 1) := by decide +kernel
theorem dX1_note_36 : decode cX1_note 36 = .ok (.aload_n 0, 1) := by decide +kernel
theorem dX1_note_37 : decode cX1_note 37 = .ok (.getfield 18, 3) := by decide +kernel
theorem dX1_note_40 : decode cX1_note 40 = .ok (.aload_n 0, 1) := by decide +kernel
theorem dX1_note_41 : decode cX1_note 41 = .ok (.getfield 25, 3) := by decide +kernel
theorem dX1_note_44 : decode cX1_note 44 = .ok (.aload_n 2, 1) := by decide +kernel
theorem dX1_note_45 : decode cX1_note 45 = .ok (.getfield 37, 3) := by decide +kernel
theorem dX1_note_48 : decode cX1_note 48 = .ok (.iastore, 1) := by decide +kernel
theorem dX1_note_49 : decode cX1_note 49 = .ok (.aload_n 0, 1) := by decide +kernel
theorem dX1_note_50 : decode cX1_note 50 = .ok (.getfield 21, 3) := by decide +kernel
theorem dX1_note_53 : decode cX1_note 53 = .ok (.aload_n 0, 1) := by decide +kernel
theorem dX1_note_54 : decode cX1_note 54 = .ok (.getfield 25, 3) := by decide +kernel
theorem dX1_note_57 : decode cX1_note 57 = .ok (.aload_n 2, 1) := by decide +kernel
theorem dX1_note_58 : decode cX1_note 58 = .ok (.getfield 39, 3) := by decide +kernel
theorem dX1_note_61 : decode cX1_note 61 = .ok (.bastore, 1) := by decide +kernel
theorem dX1_note_62 : decode cX1_note 62 = .ok (.aload_n 0, 1) := by decide +kernel
theorem dX1_note_63 : decode cX1_note 63 = .ok (.dup, 1) := by decide +kernel
theorem dX1_note_64 : decode cX1_note 64 = .ok (.getfield 25, 3) := by decide +kernel
theorem dX1_note_67 : decode cX1_note 67 = .ok (.iconst 1, 1) := by decide +kernel
theorem dX1_note_68 : decode cX1_note 68 = .ok (.iadd, 1) := by decide +kernel
theorem dX1_note_69 : decode cX1_note 69 = .ok (.putfield 25, 3) := by decide +kernel
theorem dX1_note_72 : decode cX1_note 72 = .ok (.return_, 1) := by decide +kernel
theorem dX1_dropEarliest_0 : decode cX1_dropEarliest 0 = .ok (.aload_n 0, 1) := by decide +kernel
theorem dX1_dropEarliest_1 : decode cX1_dropEarliest 1 = .ok (.dup, 1) := by decide +kernel
theorem dX1_dropEarliest_2 : decode cX1_dropEarliest 2 = .ok (.getfield 25, 3) := by decide +kernel
theorem dX1_dropEarliest_5 : decode cX1_dropEarliest 5 = .ok (.iconst 1, 1) := by decide +kernel
theorem dX1_dropEarliest_6 : decode cX1_dropEarliest 6 = .ok (.isub, 1) := by decide +kernel
theorem dX1_dropEarliest_7 : decode cX1_dropEarliest 7 = .ok (.putfield 25, 3) := by decide +kernel
theorem dX1_dropEarliest_10 : decode cX1_dropEarliest 10 = .ok (.iconst 0, 1) := by decide +kernel
theorem dX1_dropEarliest_11 : decode cX1_dropEarliest 11 = .ok (.istore_n 1, 1) := by decide +kernel
theorem dX1_dropEarliest_12 : decode cX1_dropEarliest 12 = .ok (.iload_n 1, 1) := by decide +kernel
theorem dX1_dropEarliest_13 : decode cX1_dropEarliest 13 = .ok (.aload_n 0, 1) := by decide +kernel
theorem dX1_dropEarliest_14 : decode cX1_dropEarliest 14 = .ok (.getfield 25, 3) := by decide +kernel
theorem dX1_dropEarliest_17 : decode cX1_dropEarliest 17 = .ok (.if_icmp .ge 65, 3) := by decide +kernel
theorem dX1_dropEarliest_20 : decode cX1_dropEarliest 20 = .ok (.aload_n 0, 1) := by decide +kernel
theorem dX1_dropEarliest_21 : decode cX1_dropEarliest 21 = .ok (.getfield 9, 3) := by decide +kernel
theorem dX1_dropEarliest_24 : decode cX1_dropEarliest 24 = .ok (.iload_n 1, 1) := by decide +kernel
theorem dX1_dropEarliest_25 : decode cX1_dropEarliest 25 = .ok (.aload_n 0, 1) := by decide +kernel
theorem dX1_dropEarliest_26 : decode cX1_dropEarliest 26 = .ok (.getfield 9, 3) := by decide +kernel
theorem dX1_dropEarliest_29 : decode cX1_dropEarliest 29 = .ok (.iload_n 1, 1) := by decide +kernel
theorem dX1_dropEarliest_30 : decode cX1_dropEarliest 30 = .ok (.iconst 1, 1) := by decide +kernel
theorem dX1_dropEarliest_31 : decode cX1_dropEarliest 31 = .ok (.iadd, 1) := by decide +kernel
theorem dX1_dropEarliest_32 : decode cX1_dropEarliest 32 = .ok (.iaload, 1) := by decide +kernel
theorem dX1_dropEarliest_33 : decode cX1_dropEarliest 33 = .ok (.iastore, 1) := by decide +kernel
theorem dX1_dropEarliest_34 : decode cX1_dropEarliest 34 = .ok (.aload_n 0, 1) := by decide +kernel
theorem dX1_dropEarliest_35 : decode cX1_dropEarliest 35 = .ok (.getfield 15, 3) := by decide +kernel
theorem dX1_dropEarliest_38 : decode cX1_dropEarliest 38 = .ok (.iload_n 1, 1) := by decide +kernel
theorem dX1_dropEarliest_39 : decode cX1_dropEarliest 39 = .ok (.aload_n 0, 1) := by decide +kernel
theorem dX1_dropEarliest_40 : decode cX1_dropEarliest 40 = .ok (.getfield 15, 3) := by decide +kernel
theorem dX1_dropEarliest_43 : decode cX1_dropEarliest 43 = .ok (.iload_n 1, 1) := by decide +kernel
theorem dX1_dropEarliest_44 : decode cX1_dropEarliest 44 = .ok (.iconst 1, 1) := by decide +kernel
theorem dX1_dropEarliest_45 : decode cX1_dropEarliest 45 = .ok (.iadd, 1) := by decide +kernel
theorem dX1_dropEarliest_46 : decode cX1_dropEarliest 46 = .ok (.iaload, 1) := by decide +kernel
theorem dX1_dropEarliest_47 : decode cX1_dropEarliest 47 = .ok (.iastore, 1) := by decide +kernel
theorem dX1_dropEarliest_48 : decode cX1_dropEarliest 48 = .ok (.aload_n 0, 1) := by decide +kernel
theorem dX1_dropEarliest_49 : decode cX1_dropEarliest 49 = .ok (.getfield 18, 3) := by decide +kernel
theorem dX1_dropEarliest_52 : decode cX1_dropEarliest 52 = .ok (.iload_n 1, 1) := by decide +kernel
theorem dX1_dropEarliest_53 : decode cX1_dropEarliest 53 = .ok (.aload_n 0, 1) := by decide +kernel
theorem dX1_dropEarliest_54 : decode cX1_dropEarliest 54 = .ok (.getfield 18, 3) := by decide +kernel
theorem dX1_dropEarliest_57 : decode cX1_dropEarliest 57 = .ok (.iload_n 1, 1) := by decide +kernel
theorem dX1_dropEarliest_58 : decode cX1_dropEarliest 58 = .ok (.iconst 1, 1) := by decide +kernel
theorem dX1_dropEarliest_59 : decode cX1_dropEarliest 59 = .ok (.iadd, 1) := by decide +kernel
theorem dX1_dropEarliest_60 : decode cX1_dropEarliest 60 = .ok (.iaload, 1) := by decide +kernel
theorem dX1_dropEarliest_61 : decode cX1_dropEarliest 61 = .ok (.iastore, 1) := by decide +kernel
theorem dX1_dropEarliest_62 : decode cX1_dropEarliest 62 = .ok (.aload_n 0, 1) := by decide +kernel
theorem dX1_dropEarliest_63 : decode cX1_dropEarliest 63 = .ok (.getfield 21, 3) := by decide +kernel
theorem dX1_dropEarliest_66 : decode cX1_dropEarliest 66 = .ok (.iload_n 1, 1) := by decide +kernel
theorem dX1_dropEarliest_67 : decode cX1_dropEarliest 67 = .ok (.aload_n 0, 1) := by decide +kernel
theorem dX1_dropEarliest_68 : decode cX1_dropEarliest 68 = .ok (.getfield 21, 3) := by decide +kernel
theorem dX1_dropEarliest_71 : decode cX1_dropEarliest 71 = .ok (.iload_n 1, 1) := by decide +kernel
theorem dX1_dropEarliest_72 : decode cX1_dropEarliest 72 = .ok (.iconst 1, 1) := by decide +kernel
theorem dX1_dropEarliest_73 : decode cX1_dropEarliest 73 = .ok (.iadd, 1) := by decide +kernel
theorem dX1_dropEarliest_74 : decode cX1_dropEarliest 74 = .ok (.baload, 1) := by decide +kernel
theorem dX1_dropEarliest_75 : decode cX1_dropEarliest 75 = .ok (.bastore, 1) := by decide +kernel
theorem dX1_dropEarliest_76 : decode cX1_dropEarliest 76 = .ok (.iinc 1 1, 3) := by decide +kernel
theorem dX1_dropEarliest_79 : decode cX1_dropEarliest 79 = .ok (.goto (-67), 3) := by decide +kernel
theorem dX1_dropEarliest_82 : decode cX1_dropEarliest 82 = .ok (.return_, 1) := by decide +kernel
theorem dX1_takeLatest_0 : decode cX1_takeLatest 0 = .ok (.aload_n 0, 1) := by decide +kernel
theorem dX1_takeLatest_1 : decode cX1_takeLatest 1 = .ok (.getfield 25, 3) := by decide +kernel
theorem dX1_takeLatest_4 : decode cX1_takeLatest 4 = .ok (.ifCond .le 67, 3) := by decide +kernel
theorem dX1_takeLatest_7 : decode cX1_takeLatest 7 = .ok (.aload_n 0, 1) := by decide +kernel
theorem dX1_takeLatest_8 : decode cX1_takeLatest 8 = .ok (.dup, 1) := by decide +kernel
theorem dX1_takeLatest_9 : decode cX1_takeLatest 9 = .ok (.getfield 25, 3) := by decide +kernel
theorem dX1_takeLatest_12 : decode cX1_takeLatest 12 = .ok (.iconst 1, 1) := by decide +kernel
theorem dX1_takeLatest_13 : decode cX1_takeLatest 13 = .ok (.isub, 1) := by decide +kernel
theorem dX1_takeLatest_14 : decode cX1_takeLatest 14 = .ok (.putfield 25, 3) := by decide +kernel
theorem dX1_takeLatest_17 : decode cX1_takeLatest 17 = .ok (.aload_n 1, 1) := by decide +kernel
theorem dX1_takeLatest_18 : decode cX1_takeLatest 18 = .ok (.getfield 42, 3) := by decide +kernel
theorem dX1_takeLatest_21 : decode cX1_takeLatest 21 = .ok (.aload_n 0, 1) := by decide +kernel
theorem dX1_takeLatest_22 : decode cX1_takeLatest 22 = .ok (.getfield 9, 3) := by decide +kernel
theorem dX1_takeLatest_25 : decode cX1_takeLatest 25 = .ok (.aload_n 0, 1) := by decide +kernel
theorem dX1_takeLatest_26 : decode cX1_takeLatest 26 = .ok (.getfield 25, 3) := by decide +kernel
theorem dX1_takeLatest_29 : decode cX1_takeLatest 29 = .ok (.iaload, 1) := by decide +kernel
theorem dX1_takeLatest_30 : decode cX1_takeLatest 30 = .ok (.aaload, 1) := by decide +kernel
theorem dX1_takeLatest_31 : decode cX1_takeLatest 31 = .ok (.astore_n 2, 1) := by decide +kernel
theorem dX1_takeLatest_32 : decode cX1_takeLatest 32 = .ok (.aload_n 2, 1) := by decide +kernel
theorem dX1_takeLatest_33 : decode cX1_takeLatest 33 = .ok (.aload_n 0, 1) := by decide +kernel
theorem dX1_takeLatest_34 : decode cX1_takeLatest 34 = .ok (.getfield 15, 3) := by decide +kernel
theorem dX1_takeLatest_37 : decode cX1_takeLatest 37 = .ok (.aload_n 0, 1) := by decide +kernel
theorem dX1_takeLatest_38 : decode cX1_takeLatest 38 = .ok (.getfield 25, 3) := by decide +kernel
theorem dX1_takeLatest_41 : decode cX1_takeLatest 41 = .ok (.iaload, 1) := by decide +kernel
theorem dX1_takeLatest_42 : decode cX1_takeLatest 42 = .ok (.putfield 32, 3) := by decide +kernel
theorem dX1_takeLatest_45 : decode cX1_takeLatest 45 = .ok (.aload_n 2, 1) := by decide +kernel
theorem dX1_takeLatest_46 : decode cX1_takeLatest 46 = .ok (.aload_n 0, 1) := by decide +kernel
theorem dX1_takeLatest_47 : decode cX1_takeLatest 47 = .ok (.getfield 18, 3) := by decide +kernel
theorem dX1_takeLatest_50 : decode cX1_takeLatest 50 = .ok (.aload_n 0, 1) := by decide +kernel
theorem dX1_takeLatest_51 : decode cX1_takeLatest 51 = .ok (.getfield 25, 3) := by decide +kernel
theorem dX1_takeLatest_54 : decode cX1_takeLatest 54 = .ok (.iaload, 1) := by decide +kernel
theorem dX1_takeLatest_55 : decode cX1_takeLatest 55 = .ok (.putfield 37, 3) := by decide +kernel
theorem dX1_takeLatest_58 : decode cX1_takeLatest 58 = .ok (.aload_n 2, 1) := by decide +kernel
theorem dX1_takeLatest_59 : decode cX1_takeLatest 59 = .ok (.aload_n 0, 1) := by decide +kernel
theorem dX1_takeLatest_60 : decode cX1_takeLatest 60 = .ok (.getfield 21, 3) := by decide +kernel
theorem dX1_takeLatest_63 : decode cX1_takeLatest 63 = .ok (.aload_n 0, 1) := by decide +kernel
theorem dX1_takeLatest_64 : decode cX1_takeLatest 64 = .ok (.getfield 25, 3) := by decide +kernel
theorem dX1_takeLatest_67 : decode cX1_takeLatest 67 = .ok (.baload, 1) := by decide +kernel
theorem dX1_takeLatest_68 : decode cX1_takeLatest 68 = .ok (.putfield 39, 3) := by decide +kernel
theorem dX1_takeLatest_71 : decode cX1_takeLatest 71 = .ok (.return_, 1) := by decide +kernel
theorem dX2_init_0 : decode cX2_init 0 = .ok (.aload_n 0, 1) := by decide +kernel
theorem dX2_init_1 : decode cX2_init 1 = .ok (.invokespecial 3, 3) := by decide +kernel
theorem dX2_init_4 : decode cX2_init 4 = .ok (.aload_n 0, 1) := by decide +kernel
theorem dX2_init_5 : decode cX2_init 5 = .ok (.bipush 48, 2) := by decide +kernel
theorem dX2_init_7 : decode cX2_init 7 = .ok (.newarray .int, 2) := by decide +kernel
theorem dX2_init_9 : decode cX2_init 9 = .ok (.putfield 9, 3) := by decide +kernel
theorem dX2_init_12 : decode cX2_init 12 = .ok (.return_, 1) := by decide +kernel
theorem dX2_listen_0 : decode cX2_listen 0 = .ok (.iconst 0, 1) := by decide +kernel
theorem dX2_listen_1 : decode cX2_listen 1 = .ok (.istore_n 2, 1) := by decide +kernel
theorem dX2_listen_2 : decode cX2_listen 2 = .ok (.iload_n 2, 1) := by decide +kernel
theorem dX2_listen_3 : decode cX2_listen 3 = .ok (.aload_n 1, 1) := by decide +kernel
theorem dX2_listen_4 : decode cX2_listen 4 = .ok (.getfield 15, 3) := by decide +kernel
theorem dX2_listen_7 : decode cX2_listen 7 = .ok (.if_icmp .ge 44, 3) := by decide +kernel
theorem dX2_listen_10 : decode cX2_listen 10 = .ok (.iconst 0, 1) := by decide +kernel
theorem dX2_listen_11 : decode cX2_listen 11 = .ok (.istore_n 3, 1) := by decide +kernel
theorem dX2_listen_12 : decode cX2_listen 12 = .ok (.iload_n 3, 1) := by decide +kernel
theorem dX2_listen_13 : decode cX2_listen 13 = .ok (.bipush 8, 2) := by decide +kernel
theorem dX2_listen_15 : decode cX2_listen 15 = .ok (.if_icmp .ge 30, 3) := by decide +kernel
theorem dX2_listen_18 : decode cX2_listen 18 = .ok (.aload_n 0, 1) := by decide +kernel
theorem dX2_listen_19 : decode cX2_listen 19 = .ok (.getfield 9, 3) := by decide +kernel
theorem dX2_listen_22 : decode cX2_listen 22 = .ok (.iload_n 2, 1) := by decide +kernel
theorem dX2_listen_23 : decode cX2_listen 23 = .ok (.bipush 8, 2) := by decide +kernel
theorem dX2_listen_25 : decode cX2_listen 25 = .ok (.imul, 1) := by decide +kernel
theorem dX2_listen_26 : decode cX2_listen 26 = .ok (.iload_n 3, 1) := by decide +kernel
theorem dX2_listen_27 : decode cX2_listen 27 = .ok (.iadd, 1) := by decide +kernel
theorem dX2_listen_28 : decode cX2_listen 28 = .ok (.aload_n 1, 1) := by decide +kernel
theorem dX2_listen_29 : decode cX2_listen 29 = .ok (.getfield 21, 3) := by decide +kernel
theorem dX2_listen_32 : decode cX2_listen 32 = .ok (.iload_n 2, 1) := by decide +kernel
theorem dX2_listen_33 : decode cX2_listen 33 = .ok (.aaload, 1) := by decide +kernel
theorem dX2_listen_34 : decode cX2_listen 34 = .ok (.iload_n 3, 1) := by decide +kernel
theorem dX2_listen_35 : decode cX2_listen 35 = .ok (.invokevirtual 25, 3) := by decide +kernel
theorem dX2_listen_38 : decode cX2_listen 38 = .ok (.iastore, 1) := by decide +kernel
theorem dX2_listen_39 : decode cX2_listen 39 = .ok (.iinc 3 1, 3) := by decide +kernel
theorem dX2_listen_42 : decode cX2_listen 42 = .ok (.goto (-30), 3) := by decide +kernel
theorem dX2_listen_45 : decode cX2_listen 45 = .ok (.iinc 2 1, 3) := by decide +kernel
theorem dX2_listen_48 : decode cX2_listen 48 = .ok (.goto (-46), 3) := by decide +kernel
theorem dX2_listen_51 : decode cX2_listen 51 = .ok (.return_, 1) := by decide +kernel
theorem dX2_at_0 : decode cX2_at 0 = .ok (.aload_n 0, 1) := by decide +kernel
theorem dX2_at_1 : decode cX2_at 1 = .ok (.getfield 9, 3) := by decide +kernel
theorem dX2_at_4 : decode cX2_at 4 = .ok (.iload_n 1, 1) := by decide +kernel
theorem dX2_at_5 : decode cX2_at 5 = .ok (.bipush 8, 2) := by decide +kernel
theorem dX2_at_7 : decode cX2_at 7 = .ok (.imul, 1) := by decide +kernel
theorem dX2_at_8 : decode cX2_at 8 = .ok (.iload_n 2, 1) := by decide +kernel
theorem dX2_at_9 : decode cX2_at 9 = .ok (.iadd, 1) := by decide +kernel
theorem dX2_at_10 : decode cX2_at 10 = .ok (.iaload, 1) := by decide +kernel
theorem dX2_at_11 : decode cX2_at 11 = .ok (.ireturn, 1) := by decide +kernel
theorem dX2_sameAbove_0 : decode cX2_sameAbove 0 = .ok (.aload_n 0, 1) := by decide +kernel
theorem dX2_sameAbove_1 : decode cX2_sameAbove 1 = .ok (.iload_n 1, 1) := by decide +kernel
theorem dX2_sameAbove_2 : decode cX2_sameAbove 2 = .ok (.iload_n 2, 1) := by decide +kernel
theorem dX2_sameAbove_3 : decode cX2_sameAbove 3 = .ok (.invokevirtual 31, 3) := by decide +kernel
theorem dX2_sameAbove_6 : decode cX2_sameAbove 6 = .ok (.ifCond .le 23, 3) := by decide +kernel
theorem dX2_sameAbove_9 : decode cX2_sameAbove 9 = .ok (.aload_n 0, 1) := by decide +kernel
theorem dX2_sameAbove_10 : decode cX2_sameAbove 10 = .ok (.iload_n 1, 1) := by decide +kernel
theorem dX2_sameAbove_11 : decode cX2_sameAbove 11 = .ok (.iload_n 2, 1) := by decide +kernel
theorem dX2_sameAbove_12 : decode cX2_sameAbove 12 = .ok (.invokevirtual 31, 3) := by decide +kernel
theorem dX2_sameAbove_15 : decode cX2_sameAbove 15 = .ok (.aload_n 0, 1) := by decide +kernel
theorem dX2_sameAbove_16 : decode cX2_sameAbove 16 = .ok (.iload_n 3, 1) := by decide +kernel
theorem dX2_sameAbove_17 : decode cX2_sameAbove 17 = .ok (.iload 4, 2) := by decide +kernel
theorem dX2_sameAbove_19 : decode cX2_sameAbove 19 = .ok (.invokevirtual 31, 3) := by decide +kernel
theorem dX2_sameAbove_22 : decode cX2_sameAbove 22 = .ok (.if_icmp .ne 7, 3) := by decide +kernel
theorem dX2_sameAbove_25 : decode cX2_sameAbove 25 = .ok (.iconst 1, 1) := by decide +kernel
theorem dX2_sameAbove_26 : decode cX2_sameAbove 26 = .ok (.goto 4, 3) := by decide +kernel
theorem dX2_sameAbove_29 : decode cX2_sameAbove 29 = .ok (.iconst 0, 1) := by decide +kernel
theorem dX2_sameAbove_30 : decode cX2_sameAbove 30 = .ok (.ireturn, 1) := by decide +kernel
theorem dX2_alikeBy_0 : decode cX2_alikeBy 0 = .ok (.iconst 0, 1) := by decide +kernel
theorem dX2_alikeBy_1 : decode cX2_alikeBy 1 = .ok (.istore 4, 2) := by decide +kernel
theorem dX2_alikeBy_3 : decode cX2_alikeBy 3 = .ok (.iconst 0, 1) := by decide +kernel
theorem dX2_alikeBy_4 : decode cX2_alikeBy 4 = .ok (.istore 5, 2) := by decide +kernel
theorem dX2_alikeBy_6 : decode cX2_alikeBy 6 = .ok (.iload 5, 2) := by decide +kernel
theorem dX2_alikeBy_8 : decode cX2_alikeBy 8 = .ok (.bipush 8, 2) := by decide +kernel
theorem dX2_alikeBy_10 : decode cX2_alikeBy 10 = .ok (.if_icmp .ge 30, 3) := by decide +kernel
theorem dX2_alikeBy_13 : decode cX2_alikeBy 13 = .ok (.aload_n 0, 1) := by decide +kernel
theorem dX2_alikeBy_14 : decode cX2_alikeBy 14 = .ok (.iload_n 1, 1) := by decide +kernel
theorem dX2_alikeBy_15 : decode cX2_alikeBy 15 = .ok (.iload 5, 2) := by decide +kernel
theorem dX2_alikeBy_17 : decode cX2_alikeBy 17 = .ok (.iload_n 2, 1) := by decide +kernel
theorem dX2_alikeBy_18 : decode cX2_alikeBy 18 = .ok (.iload 5, 2) := by decide +kernel
theorem dX2_alikeBy_20 : decode cX2_alikeBy 20 = .ok (.iload_n 3, 1) := by decide +kernel
theorem dX2_alikeBy_21 : decode cX2_alikeBy 21 = .ok (.iadd, 1) := by decide +kernel
theorem dX2_alikeBy_22 : decode cX2_alikeBy 22 = .ok (.bipush 8, 2) := by decide +kernel
theorem dX2_alikeBy_24 : decode cX2_alikeBy 24 = .ok (.irem, 1) := by decide +kernel
theorem dX2_alikeBy_25 : decode cX2_alikeBy 25 = .ok (.invokevirtual 35, 3) := by decide +kernel
theorem dX2_alikeBy_28 : decode cX2_alikeBy 28 = .ok (.ifCond .eq 6, 3) := by decide +kernel
theorem dX2_alikeBy_31 : decode cX2_alikeBy 31 = .ok (.iinc 4 1, 3) := by decide +kernel
theorem dX2_alikeBy_34 : decode cX2_alikeBy 34 = .ok (.iinc 5 1, 3) := by decide +kernel
theorem dX2_alikeBy_37 : decode cX2_alikeBy 37 = .ok (.goto (-31), 3) := by decide +kernel
theorem dX2_alikeBy_40 : decode cX2_alikeBy 40 = .ok (.iload 4, 2) := by decide +kernel
theorem dX2_alikeBy_42 : decode cX2_alikeBy 42 = .ok (.ireturn, 1) := by decide +kernel
theorem dX2_overlap_0 : decode cX2_overlap 0 = .ok (.bipush 7, 2) := by decide +kernel
theorem dX2_overlap_2 : decode cX2_overlap 2 = .ok (.istore_n 3, 1) := by decide +kernel
theorem dX2_overlap_3 : decode cX2_overlap 3 = .ok (.iload_n 3, 1) := by decide +kernel
theorem dX2_overlap_4 : decode cX2_overlap 4 = .ok (.ifCond .le 54, 3) := by decide +kernel
theorem dX2_overlap_7 : decode cX2_overlap 7 = .ok (.iconst 0, 1) := by decide +kernel
theorem dX2_overlap_8 : decode cX2_overlap 8 = .ok (.istore 4, 2) := by decide +kernel
theorem dX2_overlap_10 : decode cX2_overlap 10 = .ok (.iload 4, 2) := by decide +kernel
theorem dX2_overlap_12 : decode cX2_overlap 12 = .ok (.iload_n 3, 1) := by decide +kernel
theorem dX2_overlap_13 : decode cX2_overlap 13 = .ok (.if_icmp .ge 31, 3) := by decide +kernel
theorem dX2_overlap_16 : decode cX2_overlap 16 = .ok (.aload_n 0, 1) := by decide +kernel
theorem dX2_overlap_17 : decode cX2_overlap 17 = .ok (.iload_n 1, 1) := by decide +kernel
theorem dX2_overlap_18 : decode cX2_overlap 18 = .ok (.bipush 8, 2) := by decide +kernel
theorem dX2_overlap_20 : decode cX2_overlap 20 = .ok (.iload_n 3, 1) := by decide +kernel
theorem dX2_overlap_21 : decode cX2_overlap 21 = .ok (.isub, 1) := by decide +kernel
theorem dX2_overlap_22 : decode cX2_overlap 22 = .ok (.iload 4, 2) := by decide +kernel
theorem dX2_overlap_24 : decode cX2_overlap 24 = .ok (.iadd, 1) := by decide +kernel
theorem dX2_overlap_25 : decode cX2_overlap 25 = .ok (.invokevirtual 31, 3) := by decide +kernel
theorem dX2_overlap_28 : decode cX2_overlap 28 = .ok (.aload_n 0, 1) := by decide +kernel
theorem dX2_overlap_29 : decode cX2_overlap 29 = .ok (.iload_n 2, 1) := by decide +kernel
theorem dX2_overlap_30 : decode cX2_overlap 30 = .ok (.iload 4, 2) := by decide +kernel
theorem dX2_overlap_32 : decode cX2_overlap 32 = .ok (.invokevirtual 31, 3) := by decide +kernel
theorem dX2_overlap_35 : decode cX2_overlap 35 = .ok (.if_icmp .ne 9, 3) := by decide +kernel
theorem dX2_overlap_38 : decode cX2_overlap 38 = .ok (.iinc 4 1, 3) := by decide +kernel
theorem dX2_overlap_41 : decode cX2_overlap 41 = .ok (.goto (-31), 3) := by decide +kernel
theorem dX2_overlap_44 : decode cX2_overlap 44 = .ok (.iload 4, 2) := by decide +kernel
theorem dX2_overlap_46 : decode cX2_overlap 46 = .ok (.iload_n 3, 1) := by decide +kernel
theorem dX2_overlap_47 : decode cX2_overlap 47 = .ok (.if_icmp .ne 5, 3) := by decide +kernel
theorem dX2_overlap_50 : decode cX2_overlap 50 = .ok (.iload_n 3, 1) := by decide +kernel
theorem dX2_overlap_51 : decode cX2_overlap 51 = .ok (.ireturn, 1) := by decide +kernel
theorem dX2_overlap_52 : decode cX2_overlap 52 = .ok (.iinc 3 (-1), 3) := by decide +kernel
theorem dX2_overlap_55 : decode cX2_overlap 55 = .ok (.goto (-52), 3) := by decide +kernel
theorem dX2_overlap_58 : decode cX2_overlap 58 = .ok (.iconst 0, 1) := by decide +kernel
theorem dX2_overlap_59 : decode cX2_overlap 59 = .ok (.ireturn, 1) := by decide +kernel
theorem dX2_firstMinute_0 : decode cX2_firstMinute 0 = .ok (.iload_n 2, 1) := by decide +kernel
theorem dX2_firstMinute_1 : decode cX2_firstMinute 1 = .ok (.iconst 1, 1) := by decide +kernel
theorem dX2_firstMinute_2 : decode cX2_firstMinute 2 = .ok (.if_icmp .lt 9, 3) := by decide +kernel
theorem dX2_firstMinute_5 : decode cX2_firstMinute 5 = .ok (.iload 4, 2) := by decide +kernel
theorem dX2_firstMinute_7 : decode cX2_firstMinute 7 = .ok (.iconst 1, 1) := by decide +kernel
theorem dX2_firstMinute_8 : decode cX2_firstMinute 8 = .ok (.if_icmp .ge 6, 3) := by decide +kernel
theorem dX2_firstMinute_11 : decode cX2_firstMinute 11 = .ok (.bipush (-2), 2) := by decide +kernel
theorem dX2_firstMinute_13 : decode cX2_firstMinute 13 = .ok (.ireturn, 1) := by decide +kernel
theorem dX2_firstMinute_14 : decode cX2_firstMinute 14 = .ok (.iconst 0, 1) := by decide +kernel
theorem dX2_firstMinute_15 : decode cX2_firstMinute 15 = .ok (.istore 5, 2) := by decide +kernel
theorem dX2_firstMinute_17 : decode cX2_firstMinute 17 = .ok (.iload 5, 2) := by decide +kernel
theorem dX2_firstMinute_19 : decode cX2_firstMinute 19 = .ok (.sipush 999, 3) := by decide +kernel
theorem dX2_firstMinute_22 : decode cX2_firstMinute 22 = .ok (.if_icmp .gt 36, 3) := by decide +kernel
theorem dX2_firstMinute_25 : decode cX2_firstMinute 25 = .ok (.aload_n 0, 1) := by decide +kernel
theorem dX2_firstMinute_26 : decode cX2_firstMinute 26 = .ok (.iload_n 1, 1) := by decide +kernel
theorem dX2_firstMinute_27 : decode cX2_firstMinute 27 = .ok (.iload 5, 2) := by decide +kernel
theorem dX2_firstMinute_29 : decode cX2_firstMinute 29 = .ok (.iload_n 2, 1) := by decide +kernel
theorem dX2_firstMinute_30 : decode cX2_firstMinute 30 = .ok (.idiv, 1) := by decide +kernel
theorem dX2_firstMinute_31 : decode cX2_firstMinute 31 = .ok (.bipush 8, 2) := by decide +kernel
theorem dX2_firstMinute_33 : decode cX2_firstMinute 33 = .ok (.irem, 1) := by decide +kernel
theorem dX2_firstMinute_34 : decode cX2_firstMinute 34 = .ok (.iload_n 3, 1) := by decide +kernel
theorem dX2_firstMinute_35 : decode cX2_firstMinute 35 = .ok (.iload 5, 2) := by decide +kernel
theorem dX2_firstMinute_37 : decode cX2_firstMinute 37 = .ok (.iload 4, 2) := by decide +kernel
theorem dX2_firstMinute_39 : decode cX2_firstMinute 39 = .ok (.idiv, 1) := by decide +kernel
theorem dX2_firstMinute_40 : decode cX2_firstMinute 40 = .ok (.bipush 8, 2) := by decide +kernel
theorem dX2_firstMinute_42 : decode cX2_firstMinute 42 = .ok (.irem, 1) := by decide +kernel
theorem dX2_firstMinute_43 : decode cX2_firstMinute 43 = .ok (.invokevirtual 35, 3) := by decide +kernel
theorem dX2_firstMinute_46 : decode cX2_firstMinute 46 = .ok (.ifCond .eq 6, 3) := by decide +kernel
theorem dX2_firstMinute_49 : decode cX2_firstMinute 49 = .ok (.iload 5, 2) := by decide +kernel
theorem dX2_firstMinute_51 : decode cX2_firstMinute 51 = .ok (.ireturn, 1) := by decide +kernel
theorem dX2_firstMinute_52 : decode cX2_firstMinute 52 = .ok (.iinc 5 1, 3) := by decide +kernel
theorem dX2_firstMinute_55 : decode cX2_firstMinute 55 = .ok (.goto (-38), 3) := by decide +kernel
theorem dX2_firstMinute_58 : decode cX2_firstMinute 58 = .ok (.bipush (-2), 2) := by decide +kernel
theorem dX2_firstMinute_60 : decode cX2_firstMinute 60 = .ok (.ireturn, 1) := by decide +kernel
theorem dX2_longestRun_0 : decode cX2_longestRun 0 = .ok (.iconst 0, 1) := by decide +kernel
theorem dX2_longestRun_1 : decode cX2_longestRun 1 = .ok (.istore_n 3, 1) := by decide +kernel
theorem dX2_longestRun_2 : decode cX2_longestRun 2 = .ok (.iconst 0, 1) := by decide +kernel
theorem dX2_longestRun_3 : decode cX2_longestRun 3 = .ok (.istore 4, 2) := by decide +kernel
theorem dX2_longestRun_5 : decode cX2_longestRun 5 = .ok (.iload 4, 2) := by decide +kernel
theorem dX2_longestRun_7 : decode cX2_longestRun 7 = .ok (.bipush 8, 2) := by decide +kernel
theorem dX2_longestRun_9 : decode cX2_longestRun 9 = .ok (.if_icmp .ge 80, 3) := by decide +kernel
theorem dX2_longestRun_12 : decode cX2_longestRun 12 = .ok (.iconst 0, 1) := by decide +kernel
theorem dX2_longestRun_13 : decode cX2_longestRun 13 = .ok (.istore 5, 2) := by decide +kernel
theorem dX2_longestRun_15 : decode cX2_longestRun 15 = .ok (.iload 5, 2) := by decide +kernel
theorem dX2_longestRun_17 : decode cX2_longestRun 17 = .ok (.bipush 8, 2) := by decide +kernel
theorem dX2_longestRun_19 : decode cX2_longestRun 19 = .ok (.if_icmp .ge 64, 3) := by decide +kernel
theorem dX2_longestRun_22 : decode cX2_longestRun 22 = .ok (.iconst 0, 1) := by decide +kernel
theorem dX2_longestRun_23 : decode cX2_longestRun 23 = .ok (.istore 6, 2) := by decide +kernel
theorem dX2_longestRun_25 : decode cX2_longestRun 25 = .ok (.iload 4, 2) := by decide +kernel
theorem dX2_longestRun_27 : decode cX2_longestRun 27 = .ok (.iload 6, 2) := by decide +kernel
theorem dX2_longestRun_29 : decode cX2_longestRun 29 = .ok (.iadd, 1) := by decide +kernel
theorem dX2_longestRun_30 : decode cX2_longestRun 30 = .ok (.bipush 8, 2) := by decide +kernel
theorem dX2_longestRun_32 : decode cX2_longestRun 32 = .ok (.if_icmp .ge 38, 3) := by decide +kernel
theorem dX2_longestRun_35 : decode cX2_longestRun 35 = .ok (.iload 5, 2) := by decide +kernel
theorem dX2_longestRun_37 : decode cX2_longestRun 37 = .ok (.iload 6, 2) := by decide +kernel
theorem dX2_longestRun_39 : decode cX2_longestRun 39 = .ok (.iadd, 1) := by decide +kernel
theorem dX2_longestRun_40 : decode cX2_longestRun 40 = .ok (.bipush 8, 2) := by decide +kernel
theorem dX2_longestRun_42 : decode cX2_longestRun 42 = .ok (.if_icmp .ge 28, 3) := by decide +kernel
theorem dX2_longestRun_45 : decode cX2_longestRun 45 = .ok (.aload_n 0, 1) := by decide +kernel
theorem dX2_longestRun_46 : decode cX2_longestRun 46 = .ok (.iload_n 1, 1) := by decide +kernel
theorem dX2_longestRun_47 : decode cX2_longestRun 47 = .ok (.iload 4, 2) := by decide +kernel
theorem dX2_longestRun_49 : decode cX2_longestRun 49 = .ok (.iload 6, 2) := by decide +kernel
theorem dX2_longestRun_51 : decode cX2_longestRun 51 = .ok (.iadd, 1) := by decide +kernel
theorem dX2_longestRun_52 : decode cX2_longestRun 52 = .ok (.iload_n 2, 1) := by decide +kernel
theorem dX2_longestRun_53 : decode cX2_longestRun 53 = .ok (.iload 5, 2) := by decide +kernel
theorem dX2_longestRun_55 : decode cX2_longestRun 55 = .ok (.iload 6, 2) := by decide +kernel
theorem dX2_longestRun_57 : decode cX2_longestRun 57 = .ok (.iadd, 1) := by decide +kernel
theorem dX2_longestRun_58 : decode cX2_longestRun 58 = .ok (.invokevirtual 35, 3) := by decide +kernel
theorem dX2_longestRun_61 : decode cX2_longestRun 61 = .ok (.ifCond .eq 9, 3) := by decide +kernel
theorem dX2_longestRun_64 : decode cX2_longestRun 64 = .ok (.iinc 6 1, 3) := by decide +kernel
theorem dX2_longestRun_67 : decode cX2_longestRun 67 = .ok (.goto (-42), 3) := by decide +kernel
theorem dX2_longestRun_70 : decode cX2_longestRun 70 = .ok (.iload_n 3, 1) := by decide +kernel
theorem dX2_longestRun_71 : decode cX2_longestRun 71 = .ok (.iload 6, 2) := by decide +kernel
theorem dX2_longestRun_73 : decode cX2_longestRun 73 = .ok (.invokestatic 39, 3) := by decide +kernel
theorem dX2_longestRun_76 : decode cX2_longestRun 76 = .ok (.istore_n 3, 1) := by decide +kernel
theorem dX2_longestRun_77 : decode cX2_longestRun 77 = .ok (.iinc 5 1, 3) := by decide +kernel
theorem dX2_longestRun_80 : decode cX2_longestRun 80 = .ok (.goto (-65), 3) := by decide +kernel
theorem dX2_longestRun_83 : decode cX2_longestRun 83 = .ok (.iinc 4 1, 3) := by decide +kernel
theorem dX2_longestRun_86 : decode cX2_longestRun 86 = .ok (.goto (-81), 3) := by decide +kernel
theorem dX2_longestRun_89 : decode cX2_longestRun 89 = .ok (.iload_n 3, 1) := by decide +kernel
theorem dX2_longestRun_90 : decode cX2_longestRun 90 = .ok (.ireturn, 1) := by decide +kernel
theorem dX2_mostSame_0 : decode cX2_mostSame 0 = .ok (.iconst 0, 1) := by decide +kernel
theorem dX2_mostSame_1 : decode cX2_mostSame 1 = .ok (.istore_n 3, 1) := by decide +kernel
theorem dX2_mostSame_2 : decode cX2_mostSame 2 = .ok (.iconst 0, 1) := by decide +kernel
theorem dX2_mostSame_3 : decode cX2_mostSame 3 = .ok (.istore 4, 2) := by decide +kernel
theorem dX2_mostSame_5 : decode cX2_mostSame 5 = .ok (.iload 4, 2) := by decide +kernel
theorem dX2_mostSame_7 : decode cX2_mostSame 7 = .ok (.bipush 6, 2) := by decide +kernel
theorem dX2_mostSame_9 : decode cX2_mostSame 9 = .ok (.if_icmp .ge 75, 3) := by decide +kernel
theorem dX2_mostSame_12 : decode cX2_mostSame 12 = .ok (.iconst 0, 1) := by decide +kernel
theorem dX2_mostSame_13 : decode cX2_mostSame 13 = .ok (.istore 5, 2) := by decide +kernel
theorem dX2_mostSame_15 : decode cX2_mostSame 15 = .ok (.iconst 0, 1) := by decide +kernel
theorem dX2_mostSame_16 : decode cX2_mostSame 16 = .ok (.istore 6, 2) := by decide +kernel
theorem dX2_mostSame_18 : decode cX2_mostSame 18 = .ok (.iload 6, 2) := by decide +kernel
theorem dX2_mostSame_20 : decode cX2_mostSame 20 = .ok (.bipush 6, 2) := by decide +kernel
theorem dX2_mostSame_22 : decode cX2_mostSame 22 = .ok (.if_icmp .ge 39, 3) := by decide +kernel
theorem dX2_mostSame_25 : decode cX2_mostSame 25 = .ok (.iload_n 1, 1) := by decide +kernel
theorem dX2_mostSame_26 : decode cX2_mostSame 26 = .ok (.iload 6, 2) := by decide +kernel
theorem dX2_mostSame_28 : decode cX2_mostSame 28 = .ok (.ishr, 1) := by decide +kernel
theorem dX2_mostSame_29 : decode cX2_mostSame 29 = .ok (.iconst 1, 1) := by decide +kernel
theorem dX2_mostSame_30 : decode cX2_mostSame 30 = .ok (.iand, 1) := by decide +kernel
theorem dX2_mostSame_31 : decode cX2_mostSame 31 = .ok (.iconst 1, 1) := by decide +kernel
theorem dX2_mostSame_32 : decode cX2_mostSame 32 = .ok (.if_icmp .ne 23, 3) := by decide +kernel
theorem dX2_mostSame_35 : decode cX2_mostSame 35 = .ok (.aload_n 0, 1) := by decide +kernel
theorem dX2_mostSame_36 : decode cX2_mostSame 36 = .ok (.iload 4, 2) := by decide +kernel
theorem dX2_mostSame_38 : decode cX2_mostSame 38 = .ok (.iload_n 2, 1) := by decide +kernel
theorem dX2_mostSame_39 : decode cX2_mostSame 39 = .ok (.invokevirtual 31, 3) := by decide +kernel
theorem dX2_mostSame_42 : decode cX2_mostSame 42 = .ok (.aload_n 0, 1) := by decide +kernel
theorem dX2_mostSame_43 : decode cX2_mostSame 43 = .ok (.iload 6, 2) := by decide +kernel
theorem dX2_mostSame_45 : decode cX2_mostSame 45 = .ok (.iload_n 2, 1) := by decide +kernel
theorem dX2_mostSame_46 : decode cX2_mostSame 46 = .ok (.invokevirtual 31, 3) := by decide +kernel
theorem dX2_mostSame_49 : decode cX2_mostSame 49 = .ok (.if_icmp .ne 6, 3) := by decide +kernel
theorem dX2_mostSame_52 : decode cX2_mostSame 52 = .ok (.iinc 5 1, 3) := by decide +kernel
theorem dX2_mostSame_55 : decode cX2_mostSame 55 = .ok (.iinc 6 1, 3) := by decide +kernel
theorem dX2_mostSame_58 : decode cX2_mostSame 58 = .ok (.goto (-40), 3) := by decide +kernel
theorem dX2_mostSame_61 : decode cX2_mostSame 61 = .ok (.iload_n 1, 1) := by decide +kernel
theorem dX2_mostSame_62 : decode cX2_mostSame 62 = .ok (.iload 4, 2) := by decide +kernel
theorem dX2_mostSame_64 : decode cX2_mostSame 64 = .ok (.ishr, 1) := by decide +kernel
theorem dX2_mostSame_65 : decode cX2_mostSame 65 = .ok (.iconst 1, 1) := by decide +kernel
theorem dX2_mostSame_66 : decode cX2_mostSame 66 = .ok (.iand, 1) := by decide +kernel
theorem dX2_mostSame_67 : decode cX2_mostSame 67 = .ok (.iconst 1, 1) := by decide +kernel
theorem dX2_mostSame_68 : decode cX2_mostSame 68 = .ok (.if_icmp .ne 10, 3) := by decide +kernel
theorem dX2_mostSame_71 : decode cX2_mostSame 71 = .ok (.iload_n 3, 1) := by decide +kernel
theorem dX2_mostSame_72 : decode cX2_mostSame 72 = .ok (.iload 5, 2) := by decide +kernel
theorem dX2_mostSame_74 : decode cX2_mostSame 74 = .ok (.invokestatic 39, 3) := by decide +kernel
theorem dX2_mostSame_77 : decode cX2_mostSame 77 = .ok (.istore_n 3, 1) := by decide +kernel
theorem dX2_mostSame_78 : decode cX2_mostSame 78 = .ok (.iinc 4 1, 3) := by decide +kernel
theorem dX2_mostSame_81 : decode cX2_mostSame 81 = .ok (.goto (-76), 3) := by decide +kernel
theorem dX2_mostSame_84 : decode cX2_mostSame 84 = .ok (.iload_n 3, 1) := by decide +kernel
theorem dX2_mostSame_85 : decode cX2_mostSame 85 = .ok (.ireturn, 1) := by decide +kernel
theorem dX3_init_0 : decode cX3_init 0 = .ok (.aload_n 0, 1) := by decide +kernel
theorem dX3_init_1 : decode cX3_init 1 = .ok (.invokespecial 3, 3) := by decide +kernel
theorem dX3_init_4 : decode cX3_init 4 = .ok (.aload_n 0, 1) := by decide +kernel
theorem dX3_init_5 : decode cX3_init 5 = .ok (.bipush 24, 2) := by decide +kernel
theorem dX3_init_7 : decode cX3_init 7 = .ok (.newarray .int, 2) := by decide +kernel
theorem dX3_init_9 : decode cX3_init 9 = .ok (.putfield 9, 3) := by decide +kernel
theorem dX3_init_12 : decode cX3_init 12 = .ok (.aload_n 0, 1) := by decide +kernel
theorem dX3_init_13 : decode cX3_init 13 = .ok (.bipush 24, 2) := by decide +kernel
theorem dX3_init_15 : decode cX3_init 15 = .ok (.newarray .int, 2) := by decide +kernel
theorem dX3_init_17 : decode cX3_init 17 = .ok (.putfield 15, 3) := by decide +kernel
theorem dX3_init_20 : decode cX3_init 20 = .ok (.aload_n 0, 1) := by decide +kernel
theorem dX3_init_21 : decode cX3_init 21 = .ok (.bipush 24, 2) := by decide +kernel
theorem dX3_init_23 : decode cX3_init 23 = .ok (.newarray .boolean, 2) := by decide +kernel
theorem dX3_init_25 : decode cX3_init 25 = .ok (.putfield 18, 3) := by decide +kernel
theorem dX3_init_28 : decode cX3_init 28 = .ok (.aload_n 0, 1) := by decide +kernel
theorem dX3_init_29 : decode cX3_init 29 = .ok (.bipush 24, 2) := by decide +kernel
theorem dX3_init_31 : decode cX3_init 31 = .ok (.newarray .boolean, 2) := by decide +kernel
theorem dX3_init_33 : decode cX3_init 33 = .ok (.putfield 22, 3) := by decide +kernel
theorem dX3_init_36 : decode cX3_init 36 = .ok (.aload_n 0, 1) := by decide +kernel
theorem dX3_init_37 : decode cX3_init 37 = .ok (.bipush 24, 2) := by decide +kernel
theorem dX3_init_39 : decode cX3_init 39 = .ok (.newarray .boolean, 2) := by decide +kernel
theorem dX3_init_41 : decode cX3_init 41 = .ok (.putfield 25, 3) := by decide +kernel
theorem dX3_init_44 : decode cX3_init 44 = .ok (.aload_n 0, 1) := by decide +kernel
theorem dX3_init_45 : decode cX3_init 45 = .ok (.iconst (-1), 1) := by decide +kernel
theorem dX3_init_46 : decode cX3_init 46 = .ok (.putfield 28, 3) := by decide +kernel
theorem dX3_init_49 : decode cX3_init 49 = .ok (.return_, 1) := by decide +kernel
theorem dX3_clear_0 : decode cX3_clear 0 = .ok (.aload_n 0, 1) := by decide +kernel
theorem dX3_clear_1 : decode cX3_clear 1 = .ok (.iconst 0, 1) := by decide +kernel
theorem dX3_clear_2 : decode cX3_clear 2 = .ok (.putfield 32, 3) := by decide +kernel
theorem dX3_clear_5 : decode cX3_clear 5 = .ok (.aload_n 0, 1) := by decide +kernel
theorem dX3_clear_6 : decode cX3_clear 6 = .ok (.iconst (-1), 1) := by decide +kernel
theorem dX3_clear_7 : decode cX3_clear 7 = .ok (.putfield 28, 3) := by decide +kernel
theorem dX3_clear_10 : decode cX3_clear 10 = .ok (.return_, 1) := by decide +kernel
theorem dX3_firstKnown_0 : decode cX3_firstKnown 0 = .ok (.aload_n 0, 1) := by decide +kernel
theorem dX3_firstKnown_1 : decode cX3_firstKnown 1 = .ok (.getfield 28, 3) := by decide +kernel
theorem dX3_firstKnown_4 : decode cX3_firstKnown 4 = .ok (.iconst (-1), 1) := by decide +kernel
theorem dX3_firstKnown_5 : decode cX3_firstKnown 5 = .ok (.if_icmp .ne 10, 3) := by decide +kernel
theorem dX3_firstKnown_8 : decode cX3_firstKnown 8 = .ok (.aload_n 0, 1) := by decide +kernel
theorem dX3_firstKnown_9 : decode cX3_firstKnown 9 = .ok (.getfield 32, 3) := by decide +kernel
theorem dX3_firstKnown_12 : decode cX3_firstKnown 12 = .ok (.goto 7, 3) := by decide +kernel
theorem dX3_firstKnown_15 : decode cX3_firstKnown 15 = .ok (.aload_n 0, 1) := by decide +kernel
theorem dX3_firstKnown_16 : decode cX3_firstKnown 16 = .ok (.getfield 28, 3) := by decide +kernel
theorem dX3_firstKnown_19 : decode cX3_firstKnown 19 = .ok (.ireturn, 1) := by decide +kernel
theorem dX3_add_0 : decode cX3_add 0 = .ok (.aload_n 0, 1) := by decide +kernel
theorem dX3_add_1 : decode cX3_add 1 = .ok (.getfield 32, 3) := by decide +kernel
theorem dX3_add_4 : decode cX3_add 4 = .ok (.bipush 24, 2) := by decide +kernel
theorem dX3_add_6 : decode cX3_add 6 = .ok (.if_icmp .lt 5, 3) := by decide +kernel
theorem dX3_add_9 : decode cX3_add 9 = .ok (.iconst (-1), 1) := by decide +kernel
theorem dX3_add_10 : decode cX3_add 10 = .ok (.ireturn, 1) := by decide +kernel
theorem dX3_add_11 : decode cX3_add 11 = .ok (.aload_n 0, 1) := by decide +kernel
theorem dX3_add_12 : decode cX3_add 12 = .ok (.getfield 9, 3) := by decide +kernel
theorem dX3_add_15 : decode cX3_add 15 = .ok (.aload_n 0, 1) := by decide +kernel
theorem dX3_add_16 : decode cX3_add 16 = .ok (.getfield 32, 3) := by decide +kernel
theorem dX3_add_19 : decode cX3_add 19 = .ok (.iload_n 1, 1) := by decide +kernel
theorem dX3_add_20 : decode cX3_add 20 = .ok (.iastore, 1) := by decide +kernel
theorem dX3_add_21 : decode cX3_add 21 = .ok (.aload_n 0, 1) := by decide +kernel
theorem dX3_add_22 : decode cX3_add 22 = .ok (.getfield 15, 3) := by decide +kernel
theorem dX3_add_25 : decode cX3_add 25 = .ok (.aload_n 0, 1) := by decide +kernel
theorem dX3_add_26 : decode cX3_add 26 = .ok (.getfield 32, 3) := by decide +kernel
theorem dX3_add_29 : decode cX3_add 29 = .ok (.iload_n 2, 1) := by decide +kernel
theorem dX3_add_30 : decode cX3_add 30 = .ok (.iastore, 1) := by decide +kernel
theorem dX3_add_31 : decode cX3_add 31 = .ok (.aload_n 0, 1) := by decide +kernel
theorem dX3_add_32 : decode cX3_add 32 = .ok (.getfield 18, 3) := by decide +kernel
theorem dX3_add_35 : decode cX3_add 35 = .ok (.aload_n 0, 1) := by decide +kernel
theorem dX3_add_36 : decode cX3_add 36 = .ok (.getfield 32, 3) := by decide +kernel
theorem dX3_add_39 : decode cX3_add 39 = .ok (.iload_n 3, 1) := by decide +kernel
theorem dX3_add_40 : decode cX3_add 40 = .ok (.bastore, 1) := by decide +kernel
theorem dX3_add_41 : decode cX3_add 41 = .ok (.aload_n 0, 1) := by decide +kernel
theorem dX3_add_42 : decode cX3_add 42 = .ok (.getfield 22, 3) := by decide +kernel
theorem dX3_add_45 : decode cX3_add 45 = .ok (.aload_n 0, 1) := by decide +kernel
theorem dX3_add_46 : decode cX3_add 46 = .ok (.getfield 32, 3) := by decide +kernel
theorem dX3_add_49 : decode cX3_add 49 = .ok (.iconst 0, 1) := by decide +kernel
theorem dX3_add_50 : decode cX3_add 50 = .ok (.bastore, 1) := by decide +kernel
theorem dX3_add_51 : decode cX3_add 51 = .ok (.aload_n 0, 1) := by decide +kernel
theorem dX3_add_52 : decode cX3_add 52 = .ok (.dup, 1) := by decide +kernel
theorem dX3_add_53 : decode cX3_add 53 = .ok (.getfield 32, 3) := by decide +kernel
theorem dX3_add_56 : decode cX3_add 56 = .ok (.iconst 1, 1) := by decide +kernel
theorem dX3_add_57 : decode cX3_add 57 = .ok (.iadd, 1) := by decide +kernel
theorem dX3_add_58 : decode cX3_add 58 = .ok (.putfield 32, 3) := by decide +kernel
theorem dX3_add_61 : decode cX3_add 61 = .ok (.aload_n 0, 1) := by decide +kernel
theorem dX3_add_62 : decode cX3_add 62 = .ok (.getfield 32, 3) := by decide +kernel
theorem dX3_add_65 : decode cX3_add 65 = .ok (.iconst 1, 1) := by decide +kernel
theorem dX3_add_66 : decode cX3_add 66 = .ok (.isub, 1) := by decide +kernel
theorem dX3_add_67 : decode cX3_add 67 = .ok (.ireturn, 1) := by decide +kernel
theorem dX3_addStrike_0 : decode cX3_addStrike 0 = .ok (.aload_n 0, 1) := by decide +kernel
theorem dX3_addStrike_1 : decode cX3_addStrike 1 = .ok (.iload_n 1, 1) := by decide +kernel
theorem dX3_addStrike_2 : decode cX3_addStrike 2 = .ok (.iconst 0, 1) := by decide +kernel
theorem dX3_addStrike_3 : decode cX3_addStrike 3 = .ok (.iconst 1, 1) := by decide +kernel
theorem dX3_addStrike_4 : decode cX3_addStrike 4 = .ok (.invokevirtual 35, 3) := by decide +kernel
theorem dX3_addStrike_7 : decode cX3_addStrike 7 = .ok (.istore_n 2, 1) := by decide +kernel
theorem dX3_addStrike_8 : decode cX3_addStrike 8 = .ok (.iload_n 2, 1) := by decide +kernel
theorem dX3_addStrike_9 : decode cX3_addStrike 9 = .ok (.iconst (-1), 1) := by decide +kernel
theorem dX3_addStrike_10 : decode cX3_addStrike 10 = .ok (.if_icmp .eq 10, 3) := by decide +kernel
theorem dX3_addStrike_13 : decode cX3_addStrike 13 = .ok (.aload_n 0, 1) := by decide +kernel
theorem dX3_addStrike_14 : decode cX3_addStrike 14 = .ok (.getfield 22, 3) := by decide +kernel
theorem dX3_addStrike_17 : decode cX3_addStrike 17 = .ok (.iload_n 2, 1) := by decide +kernel
theorem dX3_addStrike_18 : decode cX3_addStrike 18 = .ok (.iconst 1, 1) := by decide +kernel
theorem dX3_addStrike_19 : decode cX3_addStrike 19 = .ok (.bastore, 1) := by decide +kernel
theorem dX3_addStrike_20 : decode cX3_addStrike 20 = .ok (.iload_n 2, 1) := by decide +kernel
theorem dX3_addStrike_21 : decode cX3_addStrike 21 = .ok (.ireturn, 1) := by decide +kernel
theorem dX3_sift_0 : decode cX3_sift 0 = .ok (.iconst 0, 1) := by decide +kernel
theorem dX3_sift_1 : decode cX3_sift 1 = .ok (.istore_n 1, 1) := by decide +kernel
theorem dX3_sift_2 : decode cX3_sift 2 = .ok (.iload_n 1, 1) := by decide +kernel
theorem dX3_sift_3 : decode cX3_sift 3 = .ok (.aload_n 0, 1) := by decide +kernel
theorem dX3_sift_4 : decode cX3_sift 4 = .ok (.getfield 32, 3) := by decide +kernel
theorem dX3_sift_7 : decode cX3_sift 7 = .ok (.if_icmp .ge 16, 3) := by decide +kernel
theorem dX3_sift_10 : decode cX3_sift 10 = .ok (.aload_n 0, 1) := by decide +kernel
theorem dX3_sift_11 : decode cX3_sift 11 = .ok (.getfield 25, 3) := by decide +kernel
theorem dX3_sift_14 : decode cX3_sift 14 = .ok (.iload_n 1, 1) := by decide +kernel
theorem dX3_sift_15 : decode cX3_sift 15 = .ok (.iconst 0, 1) := by decide +kernel
theorem dX3_sift_16 : decode cX3_sift 16 = .ok (.bastore, 1) := by decide +kernel
theorem dX3_sift_17 : decode cX3_sift 17 = .ok (.iinc 1 1, 3) := by decide +kernel
theorem dX3_sift_20 : decode cX3_sift 20 = .ok (.goto (-18), 3) := by decide +kernel
theorem dX3_sift_23 : decode cX3_sift 23 = .ok (.aload_n 0, 1) := by decide +kernel
theorem dX3_sift_24 : decode cX3_sift 24 = .ok (.invokevirtual 39, 3) := by decide +kernel
theorem dX3_sift_27 : decode cX3_sift 27 = .ok (.iconst 1, 1) := by decide +kernel
theorem dX3_sift_28 : decode cX3_sift 28 = .ok (.isub, 1) := by decide +kernel
theorem dX3_sift_29 : decode cX3_sift 29 = .ok (.istore_n 1, 1) := by decide +kernel
theorem dX3_sift_30 : decode cX3_sift 30 = .ok (.iload_n 1, 1) := by decide +kernel
theorem dX3_sift_31 : decode cX3_sift 31 = .ok (.ifCond .lt 39, 3) := by decide +kernel
theorem dX3_sift_34 : decode cX3_sift 34 = .ok (.aload_n 0, 1) := by decide +kernel
theorem dX3_sift_35 : decode cX3_sift 35 = .ok (.getfield 22, 3) := by decide +kernel
theorem dX3_sift_38 : decode cX3_sift 38 = .ok (.iload_n 1, 1) := by decide +kernel
theorem dX3_sift_39 : decode cX3_sift 39 = .ok (.baload, 1) := by decide +kernel
theorem dX3_sift_40 : decode cX3_sift 40 = .ok (.ifCond .eq 24, 3) := by decide +kernel
theorem dX3_sift_43 : decode cX3_sift 43 = .ok (.aload_n 0, 1) := by decide +kernel
theorem dX3_sift_44 : decode cX3_sift 44 = .ok (.getfield 25, 3) := by decide +kernel
theorem dX3_sift_47 : decode cX3_sift 47 = .ok (.iload_n 1, 1) := by decide +kernel
theorem dX3_sift_48 : decode cX3_sift 48 = .ok (.baload, 1) := by decide +kernel
theorem dX3_sift_49 : decode cX3_sift 49 = .ok (.ifCond .ne 15, 3) := by decide +kernel
theorem dX3_sift_52 : decode cX3_sift 52 = .ok (.aload_n 0, 1) := by decide +kernel
theorem dX3_sift_53 : decode cX3_sift 53 = .ok (.getfield 25, 3) := by decide +kernel
theorem dX3_sift_56 : decode cX3_sift 56 = .ok (.aload_n 0, 1) := by decide +kernel
theorem dX3_sift_57 : decode cX3_sift 57 = .ok (.getfield 9, 3) := by decide +kernel
theorem dX3_sift_60 : decode cX3_sift 60 = .ok (.iload_n 1, 1) := by decide +kernel
theorem dX3_sift_61 : decode cX3_sift 61 = .ok (.iaload, 1) := by decide +kernel
theorem dX3_sift_62 : decode cX3_sift 62 = .ok (.iconst 1, 1) := by decide +kernel
theorem dX3_sift_63 : decode cX3_sift 63 = .ok (.bastore, 1) := by decide +kernel
theorem dX3_sift_64 : decode cX3_sift 64 = .ok (.iinc 1 (-1), 3) := by decide +kernel
theorem dX3_sift_67 : decode cX3_sift 67 = .ok (.goto (-37), 3) := by decide +kernel
theorem dX3_sift_70 : decode cX3_sift 70 = .ok (.return_, 1) := by decide +kernel
theorem dX3_fit_0 : decode cX3_fit 0 = .ok (.iconst 0, 1) := by decide +kernel
theorem dX3_fit_1 : decode cX3_fit 1 = .ok (.istore_n 3, 1) := by decide +kernel
theorem dX3_fit_2 : decode cX3_fit 2 = .ok (.iload_n 3, 1) := by decide +kernel
theorem dX3_fit_3 : decode cX3_fit 3 = .ok (.aload_n 0, 1) := by decide +kernel
theorem dX3_fit_4 : decode cX3_fit 4 = .ok (.invokevirtual 39, 3) := by decide +kernel
theorem dX3_fit_7 : decode cX3_fit 7 = .ok (.if_icmp .ge 63, 3) := by decide +kernel
theorem dX3_fit_10 : decode cX3_fit 10 = .ok (.aload_n 0, 1) := by decide +kernel
theorem dX3_fit_11 : decode cX3_fit 11 = .ok (.getfield 22, 3) := by decide +kernel
theorem dX3_fit_14 : decode cX3_fit 14 = .ok (.iload_n 3, 1) := by decide +kernel
theorem dX3_fit_15 : decode cX3_fit 15 = .ok (.baload, 1) := by decide +kernel
theorem dX3_fit_16 : decode cX3_fit 16 = .ok (.ifCond .ne 48, 3) := by decide +kernel
theorem dX3_fit_19 : decode cX3_fit 19 = .ok (.aload_n 0, 1) := by decide +kernel
theorem dX3_fit_20 : decode cX3_fit 20 = .ok (.getfield 25, 3) := by decide +kernel
theorem dX3_fit_23 : decode cX3_fit 23 = .ok (.iload_n 3, 1) := by decide +kernel
theorem dX3_fit_24 : decode cX3_fit 24 = .ok (.baload, 1) := by decide +kernel
theorem dX3_fit_25 : decode cX3_fit 25 = .ok (.ifCond .ne 39, 3) := by decide +kernel
theorem dX3_fit_28 : decode cX3_fit 28 = .ok (.aload_n 1, 1) := by decide +kernel
theorem dX3_fit_29 : decode cX3_fit 29 = .ok (.aload_n 0, 1) := by decide +kernel
theorem dX3_fit_30 : decode cX3_fit 30 = .ok (.getfield 9, 3) := by decide +kernel
theorem dX3_fit_33 : decode cX3_fit 33 = .ok (.iload_n 3, 1) := by decide +kernel
theorem dX3_fit_34 : decode cX3_fit 34 = .ok (.iaload, 1) := by decide +kernel
theorem dX3_fit_35 : decode cX3_fit 35 = .ok (.iload_n 2, 1) := by decide +kernel
theorem dX3_fit_36 : decode cX3_fit 36 = .ok (.invokevirtual 43, 3) := by decide +kernel
theorem dX3_fit_39 : decode cX3_fit 39 = .ok (.aload_n 0, 1) := by decide +kernel
theorem dX3_fit_40 : decode cX3_fit 40 = .ok (.getfield 15, 3) := by decide +kernel
theorem dX3_fit_43 : decode cX3_fit 43 = .ok (.iload_n 3, 1) := by decide +kernel
theorem dX3_fit_44 : decode cX3_fit 44 = .ok (.iaload, 1) := by decide +kernel
theorem dX3_fit_45 : decode cX3_fit 45 = .ok (.if_icmp .ne 7, 3) := by decide +kernel
theorem dX3_fit_48 : decode cX3_fit 48 = .ok (.iconst 1, 1) := by decide +kernel
theorem dX3_fit_49 : decode cX3_fit 49 = .ok (.goto 4, 3) := by decide +kernel
theorem dX3_fit_52 : decode cX3_fit 52 = .ok (.iconst 0, 1) := by decide +kernel
theorem dX3_fit_53 : decode cX3_fit 53 = .ok (.aload_n 0, 1) := by decide +kernel
theorem dX3_fit_54 : decode cX3_fit 54 = .ok (.getfield 18, 3) := by decide +kernel
theorem dX3_fit_57 : decode cX3_fit 57 = .ok (.iload_n 3, 1) := by decide +kernel
theorem dX3_fit_58 : decode cX3_fit 58 = .ok (.baload, 1) := by decide +kernel
theorem dX3_fit_59 : decode cX3_fit 59 = .ok (.if_icmp .eq 5, 3) := by decide +kernel
theorem dX3_fit_62 : decode cX3_fit 62 = .ok (.iconst 0, 1) := by decide +kernel
theorem dX3_fit_63 : decode cX3_fit 63 = .ok (.ireturn, 1) := by decide +kernel
theorem dX3_fit_64 : decode cX3_fit 64 = .ok (.iinc 3 1, 3) := by decide +kernel
theorem dX3_fit_67 : decode cX3_fit 67 = .ok (.goto (-65), 3) := by decide +kernel
theorem dX3_fit_70 : decode cX3_fit 70 = .ok (.iconst 1, 1) := by decide +kernel
theorem dX3_fit_71 : decode cX3_fit 71 = .ok (.ireturn, 1) := by decide +kernel
theorem dX4_init_0 : decode cX4_init 0 = .ok (.aload_n 0, 1) := by decide +kernel
theorem dX4_init_1 : decode cX4_init 1 = .ok (.invokespecial 3, 3) := by decide +kernel
theorem dX4_init_4 : decode cX4_init 4 = .ok (.aload_n 0, 1) := by decide +kernel
theorem dX4_init_5 : decode cX4_init 5 = .ok (.bipush 72, 2) := by decide +kernel
theorem dX4_init_7 : decode cX4_init 7 = .ok (.newarray .int, 2) := by decide +kernel
theorem dX4_init_9 : decode cX4_init 9 = .ok (.putfield 9, 3) := by decide +kernel
theorem dX4_init_12 : decode cX4_init 12 = .ok (.aload_n 0, 1) := by decide +kernel
theorem dX4_init_13 : decode cX4_init 13 = .ok (.aload_n 1, 1) := by decide +kernel
theorem dX4_init_14 : decode cX4_init 14 = .ok (.putfield 15, 3) := by decide +kernel
theorem dX4_init_17 : decode cX4_init 17 = .ok (.return_, 1) := by decide +kernel
theorem dX4_readInto_0 : decode cX4_readInto 0 = .ok (.aload_n 0, 1) := by decide +kernel
theorem dX4_readInto_1 : decode cX4_readInto 1 = .ok (.aload_n 1, 1) := by decide +kernel
theorem dX4_readInto_2 : decode cX4_readInto 2 = .ok (.putfield 19, 3) := by decide +kernel
theorem dX4_readInto_5 : decode cX4_readInto 5 = .ok (.aload_n 0, 1) := by decide +kernel
theorem dX4_readInto_6 : decode cX4_readInto 6 = .ok (.iconst 0, 1) := by decide +kernel
theorem dX4_readInto_7 : decode cX4_readInto 7 = .ok (.putfield 23, 3) := by decide +kernel
theorem dX4_readInto_10 : decode cX4_readInto 10 = .ok (.aload_n 0, 1) := by decide +kernel
theorem dX4_readInto_11 : decode cX4_readInto 11 = .ok (.aload_n 0, 1) := by decide +kernel
theorem dX4_readInto_12 : decode cX4_readInto 12 = .ok (.getfield 19, 3) := by decide +kernel
theorem dX4_readInto_15 : decode cX4_readInto 15 = .ok (.getfield 27, 3) := by decide +kernel
theorem dX4_readInto_18 : decode cX4_readInto 18 = .ok (.putfield 32, 3) := by decide +kernel
theorem dX4_readInto_21 : decode cX4_readInto 21 = .ok (.aload_n 0, 1) := by decide +kernel
theorem dX4_readInto_22 : decode cX4_readInto 22 = .ok (.iconst 0, 1) := by decide +kernel
theorem dX4_readInto_23 : decode cX4_readInto 23 = .ok (.putfield 33, 3) := by decide +kernel
theorem dX4_readInto_26 : decode cX4_readInto 26 = .ok (.aload_n 0, 1) := by decide +kernel
theorem dX4_readInto_27 : decode cX4_readInto 27 = .ok (.iconst 0, 1) := by decide +kernel
theorem dX4_readInto_28 : decode cX4_readInto 28 = .ok (.putfield 36, 3) := by decide +kernel
theorem dX4_readInto_31 : decode cX4_readInto 31 = .ok (.aload_n 0, 1) := by decide +kernel
theorem dX4_readInto_32 : decode cX4_readInto 32 = .ok (.iconst 1, 1) := by decide +kernel
theorem dX4_readInto_33 : decode cX4_readInto 33 = .ok (.putfield 39, 3) := by decide +kernel
theorem dX4_readInto_36 : decode cX4_readInto 36 = .ok (.aload_n 0, 1) := by decide +kernel
theorem dX4_readInto_37 : decode cX4_readInto 37 = .ok (.iconst 1, 1) := by decide +kernel
theorem dX4_readInto_38 : decode cX4_readInto 38 = .ok (.putfield 43, 3) := by decide +kernel
theorem dX4_readInto_41 : decode cX4_readInto 41 = .ok (.aload_n 0, 1) := by decide +kernel
theorem dX4_readInto_42 : decode cX4_readInto 42 = .ok (.getfield 19, 3) := by decide +kernel
theorem dX4_readInto_45 : decode cX4_readInto 45 = .ok (.getfield 27, 3) := by decide +kernel
theorem dX4_readInto_48 : decode cX4_readInto 48 = .ok (.istore_n 3, 1) := by decide +kernel
theorem dX4_readInto_49 : decode cX4_readInto 49 = .ok (.iconst 0, 1) := by decide +kernel
theorem dX4_readInto_50 : decode cX4_readInto 50 = .ok (.istore 4, 2) := by decide +kernel
theorem dX4_readInto_52 : decode cX4_readInto 52 = .ok (.iload 4, 2) := by decide +kernel
theorem dX4_readInto_54 : decode cX4_readInto 54 = .ok (.sipush 700, 3) := by decide +kernel
theorem dX4_readInto_57 : decode cX4_readInto 57 = .ok (.if_icmp .ge 103, 3) := by decide +kernel
theorem dX4_readInto_60 : decode cX4_readInto 60 = .ok (.aload_n 0, 1) := by decide +kernel
theorem dX4_readInto_61 : decode cX4_readInto 61 = .ok (.getfield 39, 3) := by decide +kernel
theorem dX4_readInto_64 : decode cX4_readInto 64 = .ok (.ifCond .ne 55, 3) := by decide +kernel
theorem dX4_readInto_67 : decode cX4_readInto 67 = .ok (.aload_n 0, 1) := by decide +kernel
theorem dX4_readInto_68 : decode cX4_readInto 68 = .ok (.getfield 33, 3) := by decide +kernel
theorem dX4_readInto_71 : decode cX4_readInto 71 = .ok (.ifCond .ne 48, 3) := by decide +kernel
theorem dX4_readInto_74 : decode cX4_readInto 74 = .ok (.aload_n 0, 1) := by decide +kernel
theorem dX4_readInto_75 : decode cX4_readInto 75 = .ok (.getfield 15, 3) := by decide +kernel
theorem dX4_readInto_78 : decode cX4_readInto 78 = .ok (.bipush 23, 2) := by decide +kernel
theorem dX4_readInto_80 : decode cX4_readInto 80 = .ok (.invokevirtual 46, 3) := by decide +kernel
theorem dX4_readInto_83 : decode cX4_readInto 83 = .ok (.ifCond .eq 36, 3) := by decide +kernel
theorem dX4_readInto_86 : decode cX4_readInto 86 = .ok (.aload_n 0, 1) := by decide +kernel
theorem dX4_readInto_87 : decode cX4_readInto 87 = .ok (.iconst 0, 1) := by decide +kernel
theorem dX4_readInto_88 : decode cX4_readInto 88 = .ok (.invokevirtual 52, 3) := by decide +kernel
theorem dX4_readInto_91 : decode cX4_readInto 91 = .ok (.aload_n 0, 1) := by decide +kernel
theorem dX4_readInto_92 : decode cX4_readInto 92 = .ok (.getfield 19, 3) := by decide +kernel
theorem dX4_readInto_95 : decode cX4_readInto 95 = .ok (.getfield 56, 3) := by decide +kernel
theorem dX4_readInto_98 : decode cX4_readInto 98 = .ok (.iload_n 2, 1) := by decide +kernel
theorem dX4_readInto_99 : decode cX4_readInto 99 = .ok (.iload_n 3, 1) := by decide +kernel
theorem dX4_readInto_100 : decode cX4_readInto 100 = .ok (.iastore, 1) := by decide +kernel
theorem dX4_readInto_101 : decode cX4_readInto 101 = .ok (.aload_n 0, 1) := by decide +kernel
theorem dX4_readInto_102 : decode cX4_readInto 102 = .ok (.getfield 19, 3) := by decide +kernel
theorem dX4_readInto_105 : decode cX4_readInto 105 = .ok (.getfield 59, 3) := by decide +kernel
theorem dX4_readInto_108 : decode cX4_readInto 108 = .ok (.iload_n 2, 1) := by decide +kernel
theorem dX4_readInto_109 : decode cX4_readInto 109 = .ok (.aload_n 0, 1) := by decide +kernel
theorem dX4_readInto_110 : decode cX4_readInto 110 = .ok (.getfield 19, 3) := by decide +kernel
theorem dX4_readInto_113 : decode cX4_readInto 113 = .ok (.getfield 27, 3) := by decide +kernel
theorem dX4_readInto_116 : decode cX4_readInto 116 = .ok (.iastore, 1) := by decide +kernel
theorem dX4_readInto_117 : decode cX4_readInto 117 = .ok (.iconst 0, 1) := by decide +kernel
theorem dX4_readInto_118 : decode cX4_readInto 118 = .ok (.ireturn, 1) := by decide +kernel
theorem dX4_readInto_119 : decode cX4_readInto 119 = .ok (.aload_n 0, 1) := by decide +kernel
theorem dX4_readInto_120 : decode cX4_readInto 120 = .ok (.getfield 39, 3) := by decide +kernel
theorem dX4_readInto_123 : decode cX4_readInto 123 = .ok (.ifCond .eq 10, 3) := by decide +kernel
theorem dX4_readInto_126 : decode cX4_readInto 126 = .ok (.aload_n 0, 1) := by decide +kernel
theorem dX4_readInto_127 : decode cX4_readInto 127 = .ok (.invokevirtual 62, 3) := by decide +kernel
theorem dX4_readInto_130 : decode cX4_readInto 130 = .ok (.goto 7, 3) := by decide +kernel
theorem dX4_readInto_133 : decode cX4_readInto 133 = .ok (.aload_n 0, 1) := by decide +kernel
theorem dX4_readInto_134 : decode cX4_readInto 134 = .ok (.invokevirtual 66, 3) := by decide +kernel
theorem dX4_readInto_137 : decode cX4_readInto 137 = .ok (.istore 5, 2) := by decide +kernel
theorem dX4_readInto_139 : decode cX4_readInto 139 = .ok (.iload 5, 2) := by decide +kernel
theorem dX4_readInto_141 : decode cX4_readInto 141 = .ok (.ifCond .eq 6, 3) := by decide +kernel
theorem dX4_readInto_144 : decode cX4_readInto 144 = .ok (.iload 5, 2) := by decide +kernel
theorem dX4_readInto_146 : decode cX4_readInto 146 = .ok (.ireturn, 1) := by decide +kernel
theorem dX4_readInto_147 : decode cX4_readInto 147 = .ok (.aload_n 0, 1) := by decide +kernel
theorem dX4_readInto_148 : decode cX4_readInto 148 = .ok (.getfield 15, 3) := by decide +kernel
theorem dX4_readInto_151 : decode cX4_readInto 151 = .ok (.invokevirtual 69, 3) := by decide +kernel
theorem dX4_readInto_154 : decode cX4_readInto 154 = .ok (.iinc 4 1, 3) := by decide +kernel
theorem dX4_readInto_157 : decode cX4_readInto 157 = .ok (.goto (-105), 3) := by decide +kernel
theorem dX4_readInto_160 : decode cX4_readInto 160 = .ok (.iconst 1, 1) := by decide +kernel
theorem dX4_readInto_161 : decode cX4_readInto 161 = .ok (.ireturn, 1) := by decide +kernel
theorem dX4_takeOperand_0 : decode cX4_takeOperand 0 = .ok (.aload_n 0, 1) := by decide +kernel
theorem dX4_takeOperand_1 : decode cX4_takeOperand 1 = .ok (.getfield 15, 3) := by decide +kernel
theorem dX4_takeOperand_4 : decode cX4_takeOperand 4 = .ok (.bipush 21, 2) := by decide +kernel
theorem dX4_takeOperand_6 : decode cX4_takeOperand 6 = .ok (.invokevirtual 46, 3) := by decide +kernel
theorem dX4_takeOperand_9 : decode cX4_takeOperand 9 = .ok (.ifCond .eq 8, 3) := by decide +kernel
theorem dX4_takeOperand_12 : decode cX4_takeOperand 12 = .ok (.aload_n 0, 1) := by decide +kernel
theorem dX4_takeOperand_13 : decode cX4_takeOperand 13 = .ok (.invokevirtual 72, 3) := by decide +kernel
theorem dX4_takeOperand_16 : decode cX4_takeOperand 16 = .ok (.ireturn, 1) := by decide +kernel
theorem dX4_takeOperand_17 : decode cX4_takeOperand 17 = .ok (.aload_n 0, 1) := by decide +kernel
theorem dX4_takeOperand_18 : decode cX4_takeOperand 18 = .ok (.getfield 43, 3) := by decide +kernel
theorem dX4_takeOperand_21 : decode cX4_takeOperand 21 = .ok (.ifCond .eq 19, 3) := by decide +kernel
theorem dX4_takeOperand_24 : decode cX4_takeOperand 24 = .ok (.aload_n 0, 1) := by decide +kernel
theorem dX4_takeOperand_25 : decode cX4_takeOperand 25 = .ok (.getfield 15, 3) := by decide +kernel
theorem dX4_takeOperand_28 : decode cX4_takeOperand 28 = .ok (.ldc 75, 2) := by decide +kernel
theorem dX4_takeOperand_30 : decode cX4_takeOperand 30 = .ok (.invokevirtual 76, 3) := by decide +kernel
theorem dX4_takeOperand_33 : decode cX4_takeOperand 33 = .ok (.ifCond .eq 7, 3) := by decide +kernel
theorem dX4_takeOperand_36 : decode cX4_takeOperand 36 = .ok (.iconst 1, 1) := by decide +kernel
theorem dX4_takeOperand_37 : decode cX4_takeOperand 37 = .ok (.goto 4, 3) := by decide +kernel
theorem dX4_takeOperand_40 : decode cX4_takeOperand 40 = .ok (.iconst 0, 1) := by decide +kernel
theorem dX4_takeOperand_41 : decode cX4_takeOperand 41 = .ok (.istore_n 1, 1) := by decide +kernel
theorem dX4_takeOperand_42 : decode cX4_takeOperand 42 = .ok (.iload_n 1, 1) := by decide +kernel
theorem dX4_takeOperand_43 : decode cX4_takeOperand 43 = .ok (.ifCond .eq 8, 3) := by decide +kernel
theorem dX4_takeOperand_46 : decode cX4_takeOperand 46 = .ok (.bipush 10, 2) := by decide +kernel
theorem dX4_takeOperand_48 : decode cX4_takeOperand 48 = .ok (.goto 7, 3) := by decide +kernel
theorem dX4_takeOperand_51 : decode cX4_takeOperand 51 = .ok (.aload_n 0, 1) := by decide +kernel
theorem dX4_takeOperand_52 : decode cX4_takeOperand 52 = .ok (.invokevirtual 79, 3) := by decide +kernel
theorem dX4_takeOperand_55 : decode cX4_takeOperand 55 = .ok (.istore_n 2, 1) := by decide +kernel
theorem dX4_takeOperand_56 : decode cX4_takeOperand 56 = .ok (.iload_n 2, 1) := by decide +kernel
theorem dX4_takeOperand_57 : decode cX4_takeOperand 57 = .ok (.iconst (-1), 1) := by decide +kernel
theorem dX4_takeOperand_58 : decode cX4_takeOperand 58 = .ok (.if_icmp .ne 5, 3) := by decide +kernel
theorem dX4_takeOperand_61 : decode cX4_takeOperand 61 = .ok (.iconst 1, 1) := by decide +kernel
theorem dX4_takeOperand_62 : decode cX4_takeOperand 62 = .ok (.ireturn, 1) := by decide +kernel
theorem dX4_takeOperand_63 : decode cX4_takeOperand 63 = .ok (.aload_n 0, 1) := by decide +kernel
theorem dX4_takeOperand_64 : decode cX4_takeOperand 64 = .ok (.getfield 32, 3) := by decide +kernel
theorem dX4_takeOperand_67 : decode cX4_takeOperand 67 = .ok (.bipush 64, 2) := by decide +kernel
theorem dX4_takeOperand_69 : decode cX4_takeOperand 69 = .ok (.if_icmp .eq 20, 3) := by decide +kernel
theorem dX4_takeOperand_72 : decode cX4_takeOperand 72 = .ok (.iload_n 2, 1) := by decide +kernel
theorem dX4_takeOperand_73 : decode cX4_takeOperand 73 = .ok (.ifCond .ne 18, 3) := by decide +kernel
theorem dX4_takeOperand_76 : decode cX4_takeOperand 76 = .ok (.aload_n 0, 1) := by decide +kernel
theorem dX4_takeOperand_77 : decode cX4_takeOperand 77 = .ok (.getfield 15, 3) := by decide +kernel
theorem dX4_takeOperand_80 : decode cX4_takeOperand 80 = .ok (.getfield 82, 3) := by decide +kernel
theorem dX4_takeOperand_83 : decode cX4_takeOperand 83 = .ok (.sipush 9999, 3) := by decide +kernel
theorem dX4_takeOperand_86 : decode cX4_takeOperand 86 = .ok (.if_icmp .le 5, 3) := by decide +kernel
theorem dX4_takeOperand_89 : decode cX4_takeOperand 89 = .ok (.iconst 2, 1) := by decide +kernel
theorem dX4_takeOperand_90 : decode cX4_takeOperand 90 = .ok (.ireturn, 1) := by decide +kernel
theorem dX4_takeOperand_91 : decode cX4_takeOperand 91 = .ok (.aload_n 0, 1) := by decide +kernel
theorem dX4_takeOperand_92 : decode cX4_takeOperand 92 = .ok (.dup, 1) := by decide +kernel
theorem dX4_takeOperand_93 : decode cX4_takeOperand 93 = .ok (.getfield 32, 3) := by decide +kernel
theorem dX4_takeOperand_96 : decode cX4_takeOperand 96 = .ok (.iconst 1, 1) := by decide +kernel
theorem dX4_takeOperand_97 : decode cX4_takeOperand 97 = .ok (.iadd, 1) := by decide +kernel
theorem dX4_takeOperand_98 : decode cX4_takeOperand 98 = .ok (.putfield 32, 3) := by decide +kernel
theorem dX4_takeOperand_101 : decode cX4_takeOperand 101 = .ok (.iload_n 1, 1) := by decide +kernel
theorem dX4_takeOperand_102 : decode cX4_takeOperand 102 = .ok (.ifCond .eq 12, 3) := by decide +kernel
theorem dX4_takeOperand_105 : decode cX4_takeOperand 105 = .ok (.aload_n 0, 1) := by decide +kernel
theorem dX4_takeOperand_106 : decode cX4_takeOperand 106 = .ok (.bipush 10, 2) := by decide +kernel
theorem dX4_takeOperand_108 : decode cX4_takeOperand 108 = .ok (.invokevirtual 85, 3) := by decide +kernel
theorem dX4_takeOperand_111 : decode cX4_takeOperand 111 = .ok (.goto 31, 3) := by decide +kernel
theorem dX4_takeOperand_114 : decode cX4_takeOperand 114 = .ok (.aload_n 0, 1) := by decide +kernel
theorem dX4_takeOperand_115 : decode cX4_takeOperand 115 = .ok (.getfield 19, 3) := by decide +kernel
theorem dX4_takeOperand_118 : decode cX4_takeOperand 118 = .ok (.iload_n 2, 1) := by decide +kernel
theorem dX4_takeOperand_119 : decode cX4_takeOperand 119 = .ok (.iload_n 2, 1) := by decide +kernel
theorem dX4_takeOperand_120 : decode cX4_takeOperand 120 = .ok (.ifCond .ne 13, 3) := by decide +kernel
theorem dX4_takeOperand_123 : decode cX4_takeOperand 123 = .ok (.aload_n 0, 1) := by decide +kernel
theorem dX4_takeOperand_124 : decode cX4_takeOperand 124 = .ok (.getfield 15, 3) := by decide +kernel
theorem dX4_takeOperand_127 : decode cX4_takeOperand 127 = .ok (.getfield 82, 3) := by decide +kernel
theorem dX4_takeOperand_130 : decode cX4_takeOperand 130 = .ok (.goto 4, 3) := by decide +kernel
theorem dX4_takeOperand_133 : decode cX4_takeOperand 133 = .ok (.iconst 0, 1) := by decide +kernel
theorem dX4_takeOperand_134 : decode cX4_takeOperand 134 = .ok (.invokevirtual 88, 3) := by decide +kernel
theorem dX4_takeOperand_137 : decode cX4_takeOperand 137 = .ok (.aload_n 0, 1) := by decide +kernel
theorem dX4_takeOperand_138 : decode cX4_takeOperand 138 = .ok (.iconst 0, 1) := by decide +kernel
theorem dX4_takeOperand_139 : decode cX4_takeOperand 139 = .ok (.putfield 39, 3) := by decide +kernel
theorem dX4_takeOperand_142 : decode cX4_takeOperand 142 = .ok (.iconst 0, 1) := by decide +kernel
theorem dX4_takeOperand_143 : decode cX4_takeOperand 143 = .ok (.ireturn, 1) := by decide +kernel
theorem dX4_takeOpen_0 : decode cX4_takeOpen 0 = .ok (.aload_n 0, 1) := by decide +kernel
theorem dX4_takeOpen_1 : decode cX4_takeOpen 1 = .ok (.getfield 33, 3) := by decide +kernel
theorem dX4_takeOpen_4 : decode cX4_takeOpen 4 = .ok (.bipush 8, 2) := by decide +kernel
theorem dX4_takeOpen_6 : decode cX4_takeOpen 6 = .ok (.if_icmp .ne 5, 3) := by decide +kernel
theorem dX4_takeOpen_9 : decode cX4_takeOpen 9 = .ok (.iconst 2, 1) := by decide +kernel
theorem dX4_takeOpen_10 : decode cX4_takeOpen 10 = .ok (.ireturn, 1) := by decide +kernel
theorem dX4_takeOpen_11 : decode cX4_takeOpen 11 = .ok (.aload_n 0, 1) := by decide +kernel
theorem dX4_takeOpen_12 : decode cX4_takeOpen 12 = .ok (.bipush 21, 2) := by decide +kernel
theorem dX4_takeOpen_14 : decode cX4_takeOpen 14 = .ok (.invokevirtual 85, 3) := by decide +kernel
theorem dX4_takeOpen_17 : decode cX4_takeOpen 17 = .ok (.aload_n 0, 1) := by decide +kernel
theorem dX4_takeOpen_18 : decode cX4_takeOpen 18 = .ok (.dup, 1) := by decide +kernel
theorem dX4_takeOpen_19 : decode cX4_takeOpen 19 = .ok (.getfield 33, 3) := by decide +kernel
theorem dX4_takeOpen_22 : decode cX4_takeOpen 22 = .ok (.iconst 1, 1) := by decide +kernel
theorem dX4_takeOpen_23 : decode cX4_takeOpen 23 = .ok (.iadd, 1) := by decide +kernel
theorem dX4_takeOpen_24 : decode cX4_takeOpen 24 = .ok (.putfield 33, 3) := by decide +kernel
theorem dX4_takeOpen_27 : decode cX4_takeOpen 27 = .ok (.aload_n 0, 1) := by decide +kernel
theorem dX4_takeOpen_28 : decode cX4_takeOpen 28 = .ok (.dup, 1) := by decide +kernel
theorem dX4_takeOpen_29 : decode cX4_takeOpen 29 = .ok (.getfield 36, 3) := by decide +kernel
theorem dX4_takeOpen_32 : decode cX4_takeOpen 32 = .ok (.iconst 1, 1) := by decide +kernel
theorem dX4_takeOpen_33 : decode cX4_takeOpen 33 = .ok (.aload_n 0, 1) := by decide +kernel
theorem dX4_takeOpen_34 : decode cX4_takeOpen 34 = .ok (.getfield 33, 3) := by decide +kernel
theorem dX4_takeOpen_37 : decode cX4_takeOpen 37 = .ok (.ishl, 1) := by decide +kernel
theorem dX4_takeOpen_38 : decode cX4_takeOpen 38 = .ok (.iconst (-1), 1) := by decide +kernel
theorem dX4_takeOpen_39 : decode cX4_takeOpen 39 = .ok (.ixor, 1) := by decide +kernel
theorem dX4_takeOpen_40 : decode cX4_takeOpen 40 = .ok (.iand, 1) := by decide +kernel
theorem dX4_takeOpen_41 : decode cX4_takeOpen 41 = .ok (.putfield 36, 3) := by decide +kernel
theorem dX4_takeOpen_44 : decode cX4_takeOpen 44 = .ok (.aload_n 0, 1) := by decide +kernel
theorem dX4_takeOpen_45 : decode cX4_takeOpen 45 = .ok (.iconst 1, 1) := by decide +kernel
theorem dX4_takeOpen_46 : decode cX4_takeOpen 46 = .ok (.putfield 43, 3) := by decide +kernel
theorem dX4_takeOpen_49 : decode cX4_takeOpen 49 = .ok (.iconst 0, 1) := by decide +kernel
theorem dX4_takeOpen_50 : decode cX4_takeOpen 50 = .ok (.ireturn, 1) := by decide +kernel
theorem dX4_takeJoint_0 : decode cX4_takeJoint 0 = .ok (.aload_n 0, 1) := by decide +kernel
theorem dX4_takeJoint_1 : decode cX4_takeJoint 1 = .ok (.getfield 33, 3) := by decide +kernel
theorem dX4_takeJoint_4 : decode cX4_takeJoint 4 = .ok (.ifCond .le 42, 3) := by decide +kernel
theorem dX4_takeJoint_7 : decode cX4_takeJoint 7 = .ok (.aload_n 0, 1) := by decide +kernel
theorem dX4_takeJoint_8 : decode cX4_takeJoint 8 = .ok (.getfield 15, 3) := by decide +kernel
theorem dX4_takeJoint_11 : decode cX4_takeJoint 11 = .ok (.bipush 22, 2) := by decide +kernel
theorem dX4_takeJoint_13 : decode cX4_takeJoint 13 = .ok (.invokevirtual 46, 3) := by decide +kernel
theorem dX4_takeJoint_16 : decode cX4_takeJoint 16 = .ok (.ifCond .eq 30, 3) := by decide +kernel
theorem dX4_takeJoint_19 : decode cX4_takeJoint 19 = .ok (.aload_n 0, 1) := by decide +kernel
theorem dX4_takeJoint_20 : decode cX4_takeJoint 20 = .ok (.iconst 0, 1) := by decide +kernel
theorem dX4_takeJoint_21 : decode cX4_takeJoint 21 = .ok (.invokevirtual 52, 3) := by decide +kernel
theorem dX4_takeJoint_24 : decode cX4_takeJoint 24 = .ok (.aload_n 0, 1) := by decide +kernel
theorem dX4_takeJoint_25 : decode cX4_takeJoint 25 = .ok (.dup, 1) := by decide +kernel
theorem dX4_takeJoint_26 : decode cX4_takeJoint 26 = .ok (.getfield 23, 3) := by decide +kernel
theorem dX4_takeJoint_29 : decode cX4_takeJoint 29 = .ok (.iconst 1, 1) := by decide +kernel
theorem dX4_takeJoint_30 : decode cX4_takeJoint 30 = .ok (.isub, 1) := by decide +kernel
theorem dX4_takeJoint_31 : decode cX4_takeJoint 31 = .ok (.putfield 23, 3) := by decide +kernel
theorem dX4_takeJoint_34 : decode cX4_takeJoint 34 = .ok (.aload_n 0, 1) := by decide +kernel
theorem dX4_takeJoint_35 : decode cX4_takeJoint 35 = .ok (.dup, 1) := by decide +kernel
theorem dX4_takeJoint_36 : decode cX4_takeJoint 36 = .ok (.getfield 33, 3) := by decide +kernel
theorem dX4_takeJoint_39 : decode cX4_takeJoint 39 = .ok (.iconst 1, 1) := by decide +kernel
theorem dX4_takeJoint_40 : decode cX4_takeJoint 40 = .ok (.isub, 1) := by decide +kernel
theorem dX4_takeJoint_41 : decode cX4_takeJoint 41 = .ok (.putfield 33, 3) := by decide +kernel
theorem dX4_takeJoint_44 : decode cX4_takeJoint 44 = .ok (.iconst 0, 1) := by decide +kernel
theorem dX4_takeJoint_45 : decode cX4_takeJoint 45 = .ok (.ireturn, 1) := by decide +kernel
theorem dX4_takeJoint_46 : decode cX4_takeJoint 46 = .ok (.aload_n 0, 1) := by decide +kernel
theorem dX4_takeJoint_47 : decode cX4_takeJoint 47 = .ok (.invokevirtual 92, 3) := by decide +kernel
theorem dX4_takeJoint_50 : decode cX4_takeJoint 50 = .ok (.istore_n 1, 1) := by decide +kernel
theorem dX4_takeJoint_51 : decode cX4_takeJoint 51 = .ok (.iload_n 1, 1) := by decide +kernel
theorem dX4_takeJoint_52 : decode cX4_takeJoint 52 = .ok (.bipush 11, 2) := by decide +kernel
theorem dX4_takeJoint_54 : decode cX4_takeJoint 54 = .ok (.if_icmp .lt 13, 3) := by decide +kernel
theorem dX4_takeJoint_57 : decode cX4_takeJoint 57 = .ok (.iload_n 1, 1) := by decide +kernel
theorem dX4_takeJoint_58 : decode cX4_takeJoint 58 = .ok (.bipush 16, 2) := by decide +kernel
theorem dX4_takeJoint_60 : decode cX4_takeJoint 60 = .ok (.if_icmp .gt 7, 3) := by decide +kernel
theorem dX4_takeJoint_63 : decode cX4_takeJoint 63 = .ok (.iconst 1, 1) := by decide +kernel
theorem dX4_takeJoint_64 : decode cX4_takeJoint 64 = .ok (.goto 4, 3) := by decide +kernel
theorem dX4_takeJoint_67 : decode cX4_takeJoint 67 = .ok (.iconst 0, 1) := by decide +kernel
theorem dX4_takeJoint_68 : decode cX4_takeJoint 68 = .ok (.istore_n 2, 1) := by decide +kernel
theorem dX4_takeJoint_69 : decode cX4_takeJoint 69 = .ok (.iload_n 1, 1) := by decide +kernel
theorem dX4_takeJoint_70 : decode cX4_takeJoint 70 = .ok (.iconst (-1), 1) := by decide +kernel
theorem dX4_takeJoint_71 : decode cX4_takeJoint 71 = .ok (.if_icmp .eq 22, 3) := by decide +kernel
theorem dX4_takeJoint_74 : decode cX4_takeJoint 74 = .ok (.iload_n 2, 1) := by decide +kernel
theorem dX4_takeJoint_75 : decode cX4_takeJoint 75 = .ok (.ifCond .eq 20, 3) := by decide +kernel
theorem dX4_takeJoint_78 : decode cX4_takeJoint 78 = .ok (.aload_n 0, 1) := by decide +kernel
theorem dX4_takeJoint_79 : decode cX4_takeJoint 79 = .ok (.getfield 36, 3) := by decide +kernel
theorem dX4_takeJoint_82 : decode cX4_takeJoint 82 = .ok (.aload_n 0, 1) := by decide +kernel
theorem dX4_takeJoint_83 : decode cX4_takeJoint 83 = .ok (.getfield 33, 3) := by decide +kernel
theorem dX4_takeJoint_86 : decode cX4_takeJoint 86 = .ok (.ishr, 1) := by decide +kernel
theorem dX4_takeJoint_87 : decode cX4_takeJoint 87 = .ok (.iconst 1, 1) := by decide +kernel
theorem dX4_takeJoint_88 : decode cX4_takeJoint 88 = .ok (.iand, 1) := by decide +kernel
theorem dX4_takeJoint_89 : decode cX4_takeJoint 89 = .ok (.iconst 1, 1) := by decide +kernel
theorem dX4_takeJoint_90 : decode cX4_takeJoint 90 = .ok (.if_icmp .ne 5, 3) := by decide +kernel
theorem dX4_takeJoint_93 : decode cX4_takeJoint 93 = .ok (.iconst 1, 1) := by decide +kernel
theorem dX4_takeJoint_94 : decode cX4_takeJoint 94 = .ok (.ireturn, 1) := by decide +kernel
theorem dX4_takeJoint_95 : decode cX4_takeJoint 95 = .ok (.aload_n 0, 1) := by decide +kernel
theorem dX4_takeJoint_96 : decode cX4_takeJoint 96 = .ok (.getfield 32, 3) := by decide +kernel
theorem dX4_takeJoint_99 : decode cX4_takeJoint 99 = .ok (.bipush 64, 2) := by decide +kernel
theorem dX4_takeJoint_101 : decode cX4_takeJoint 101 = .ok (.if_icmp .ne 5, 3) := by decide +kernel
theorem dX4_takeJoint_104 : decode cX4_takeJoint 104 = .ok (.iconst 2, 1) := by decide +kernel
theorem dX4_takeJoint_105 : decode cX4_takeJoint 105 = .ok (.ireturn, 1) := by decide +kernel
theorem dX4_takeJoint_106 : decode cX4_takeJoint 106 = .ok (.aload_n 0, 1) := by decide +kernel
theorem dX4_takeJoint_107 : decode cX4_takeJoint 107 = .ok (.dup, 1) := by decide +kernel
theorem dX4_takeJoint_108 : decode cX4_takeJoint 108 = .ok (.getfield 32, 3) := by decide +kernel
theorem dX4_takeJoint_111 : decode cX4_takeJoint 111 = .ok (.iconst 1, 1) := by decide +kernel
theorem dX4_takeJoint_112 : decode cX4_takeJoint 112 = .ok (.iadd, 1) := by decide +kernel
theorem dX4_takeJoint_113 : decode cX4_takeJoint 113 = .ok (.putfield 32, 3) := by decide +kernel
theorem dX4_takeJoint_116 : decode cX4_takeJoint 116 = .ok (.aload_n 0, 1) := by decide +kernel
theorem dX4_takeJoint_117 : decode cX4_takeJoint 117 = .ok (.iload_n 1, 1) := by decide +kernel
theorem dX4_takeJoint_118 : decode cX4_takeJoint 118 = .ok (.invokestatic 95, 3) := by decide +kernel
theorem dX4_takeJoint_121 : decode cX4_takeJoint 121 = .ok (.invokevirtual 52, 3) := by decide +kernel
theorem dX4_takeJoint_124 : decode cX4_takeJoint 124 = .ok (.aload_n 0, 1) := by decide +kernel
theorem dX4_takeJoint_125 : decode cX4_takeJoint 125 = .ok (.iload_n 1, 1) := by decide +kernel
theorem dX4_takeJoint_126 : decode cX4_takeJoint 126 = .ok (.invokevirtual 85, 3) := by decide +kernel
theorem dX4_takeJoint_129 : decode cX4_takeJoint 129 = .ok (.aload_n 0, 1) := by decide +kernel
theorem dX4_takeJoint_130 : decode cX4_takeJoint 130 = .ok (.iconst 1, 1) := by decide +kernel
theorem dX4_takeJoint_131 : decode cX4_takeJoint 131 = .ok (.putfield 39, 3) := by decide +kernel
theorem dX4_takeJoint_134 : decode cX4_takeJoint 134 = .ok (.aload_n 0, 1) := by decide +kernel
theorem dX4_takeJoint_135 : decode cX4_takeJoint 135 = .ok (.iload_n 1, 1) := by decide +kernel
theorem dX4_takeJoint_136 : decode cX4_takeJoint 136 = .ok (.bipush 9, 2) := by decide +kernel
theorem dX4_takeJoint_138 : decode cX4_takeJoint 138 = .ok (.if_icmp .eq 9, 3) := by decide +kernel
theorem dX4_takeJoint_141 : decode cX4_takeJoint 141 = .ok (.iload_n 1, 1) := by decide +kernel
theorem dX4_takeJoint_142 : decode cX4_takeJoint 142 = .ok (.bipush 8, 2) := by decide +kernel
theorem dX4_takeJoint_144 : decode cX4_takeJoint 144 = .ok (.if_icmp .ne 7, 3) := by decide +kernel
theorem dX4_takeJoint_147 : decode cX4_takeJoint 147 = .ok (.iconst 1, 1) := by decide +kernel
theorem dX4_takeJoint_148 : decode cX4_takeJoint 148 = .ok (.goto 4, 3) := by decide +kernel
theorem dX4_takeJoint_151 : decode cX4_takeJoint 151 = .ok (.iconst 0, 1) := by decide +kernel
theorem dX4_takeJoint_152 : decode cX4_takeJoint 152 = .ok (.putfield 43, 3) := by decide +kernel
theorem dX4_takeJoint_155 : decode cX4_takeJoint 155 = .ok (.iload_n 2, 1) := by decide +kernel
theorem dX4_takeJoint_156 : decode cX4_takeJoint 156 = .ok (.ifCond .eq 21, 3) := by decide +kernel
theorem dX4_takeJoint_159 : decode cX4_takeJoint 159 = .ok (.aload_n 0, 1) := by decide +kernel
theorem dX4_takeJoint_160 : decode cX4_takeJoint 160 = .ok (.dup, 1) := by decide +kernel
theorem dX4_takeJoint_161 : decode cX4_takeJoint 161 = .ok (.getfield 36, 3) := by decide +kernel
theorem dX4_takeJoint_164 : decode cX4_takeJoint 164 = .ok (.iconst 1, 1) := by decide +kernel
theorem dX4_takeJoint_165 : decode cX4_takeJoint 165 = .ok (.aload_n 0, 1) := by decide +kernel
theorem dX4_takeJoint_166 : decode cX4_takeJoint 166 = .ok (.getfield 33, 3) := by decide +kernel
theorem dX4_takeJoint_169 : decode cX4_takeJoint 169 = .ok (.ishl, 1) := by decide +kernel
theorem dX4_takeJoint_170 : decode cX4_takeJoint 170 = .ok (.ior, 1) := by decide +kernel
theorem dX4_takeJoint_171 : decode cX4_takeJoint 171 = .ok (.putfield 36, 3) := by decide +kernel
theorem dX4_takeJoint_174 : decode cX4_takeJoint 174 = .ok (.goto 27, 3) := by decide +kernel
theorem dX4_takeJoint_177 : decode cX4_takeJoint 177 = .ok (.aload_n 0, 1) := by decide +kernel
theorem dX4_takeJoint_178 : decode cX4_takeJoint 178 = .ok (.getfield 43, 3) := by decide +kernel
theorem dX4_takeJoint_181 : decode cX4_takeJoint 181 = .ok (.ifCond .eq 20, 3) := by decide +kernel
theorem dX4_takeJoint_184 : decode cX4_takeJoint 184 = .ok (.aload_n 0, 1) := by decide +kernel
theorem dX4_takeJoint_185 : decode cX4_takeJoint 185 = .ok (.dup, 1) := by decide +kernel
theorem dX4_takeJoint_186 : decode cX4_takeJoint 186 = .ok (.getfield 36, 3) := by decide +kernel
theorem dX4_takeJoint_189 : decode cX4_takeJoint 189 = .ok (.iconst 1, 1) := by decide +kernel
theorem dX4_takeJoint_190 : decode cX4_takeJoint 190 = .ok (.aload_n 0, 1) := by decide +kernel
theorem dX4_takeJoint_191 : decode cX4_takeJoint 191 = .ok (.getfield 33, 3) := by decide +kernel
theorem dX4_takeJoint_194 : decode cX4_takeJoint 194 = .ok (.ishl, 1) := by decide +kernel
theorem dX4_takeJoint_195 : decode cX4_takeJoint 195 = .ok (.iconst (-1), 1) := by decide +kernel
theorem dX4_takeJoint_196 : decode cX4_takeJoint 196 = .ok (.ixor, 1) := by decide +kernel
theorem dX4_takeJoint_197 : decode cX4_takeJoint 197 = .ok (.iand, 1) := by decide +kernel
theorem dX4_takeJoint_198 : decode cX4_takeJoint 198 = .ok (.putfield 36, 3) := by decide +kernel
theorem dX4_takeJoint_201 : decode cX4_takeJoint 201 = .ok (.iconst 0, 1) := by decide +kernel
theorem dX4_takeJoint_202 : decode cX4_takeJoint 202 = .ok (.ireturn, 1) := by decide +kernel
theorem dX4_await_0 : decode cX4_await 0 = .ok (.aload_n 0, 1) := by decide +kernel
theorem dX4_await_1 : decode cX4_await 1 = .ok (.getfield 23, 3) := by decide +kernel
theorem dX4_await_4 : decode cX4_await 4 = .ok (.aload_n 0, 1) := by decide +kernel
theorem dX4_await_5 : decode cX4_await 5 = .ok (.getfield 9, 3) := by decide +kernel
theorem dX4_await_8 : decode cX4_await 8 = .ok (.arraylength, 1) := by decide +kernel
theorem dX4_await_9 : decode cX4_await 9 = .ok (.if_icmp .ge 23, 3) := by decide +kernel
theorem dX4_await_12 : decode cX4_await 12 = .ok (.aload_n 0, 1) := by decide +kernel
theorem dX4_await_13 : decode cX4_await 13 = .ok (.getfield 9, 3) := by decide +kernel
theorem dX4_await_16 : decode cX4_await 16 = .ok (.aload_n 0, 1) := by decide +kernel
theorem dX4_await_17 : decode cX4_await 17 = .ok (.getfield 23, 3) := by decide +kernel
theorem dX4_await_20 : decode cX4_await 20 = .ok (.iload_n 1, 1) := by decide +kernel
theorem dX4_await_21 : decode cX4_await 21 = .ok (.iastore, 1) := by decide +kernel
theorem dX4_await_22 : decode cX4_await 22 = .ok (.aload_n 0, 1) := by decide +kernel
theorem dX4_await_23 : decode cX4_await 23 = .ok (.dup, 1) := by decide +kernel
theorem dX4_await_24 : decode cX4_await 24 = .ok (.getfield 23, 3) := by decide +kernel
theorem dX4_await_27 : decode cX4_await 27 = .ok (.iconst 1, 1) := by decide +kernel
theorem dX4_await_28 : decode cX4_await 28 = .ok (.iadd, 1) := by decide +kernel
theorem dX4_await_29 : decode cX4_await 29 = .ok (.putfield 23, 3) := by decide +kernel
theorem dX4_await_32 : decode cX4_await 32 = .ok (.return_, 1) := by decide +kernel
theorem dX4_putAbove_0 : decode cX4_putAbove 0 = .ok (.aload_n 0, 1) := by decide +kernel
theorem dX4_putAbove_1 : decode cX4_putAbove 1 = .ok (.getfield 23, 3) := by decide +kernel
theorem dX4_putAbove_4 : decode cX4_putAbove 4 = .ok (.ifCond .le 67, 3) := by decide +kernel
theorem dX4_putAbove_7 : decode cX4_putAbove 7 = .ok (.aload_n 0, 1) := by decide +kernel
theorem dX4_putAbove_8 : decode cX4_putAbove 8 = .ok (.getfield 9, 3) := by decide +kernel
theorem dX4_putAbove_11 : decode cX4_putAbove 11 = .ok (.aload_n 0, 1) := by decide +kernel
theorem dX4_putAbove_12 : decode cX4_putAbove 12 = .ok (.getfield 23, 3) := by decide +kernel
theorem dX4_putAbove_15 : decode cX4_putAbove 15 = .ok (.iconst 1, 1) := by decide +kernel
theorem dX4_putAbove_16 : decode cX4_putAbove 16 = .ok (.isub, 1) := by decide +kernel
theorem dX4_putAbove_17 : decode cX4_putAbove 17 = .ok (.iaload, 1) := by decide +kernel
theorem dX4_putAbove_18 : decode cX4_putAbove 18 = .ok (.bipush 21, 2) := by decide +kernel
theorem dX4_putAbove_20 : decode cX4_putAbove 20 = .ok (.if_icmp .eq 51, 3) := by decide +kernel
theorem dX4_putAbove_23 : decode cX4_putAbove 23 = .ok (.aload_n 0, 1) := by decide +kernel
theorem dX4_putAbove_24 : decode cX4_putAbove 24 = .ok (.getfield 9, 3) := by decide +kernel
theorem dX4_putAbove_27 : decode cX4_putAbove 27 = .ok (.aload_n 0, 1) := by decide +kernel
theorem dX4_putAbove_28 : decode cX4_putAbove 28 = .ok (.getfield 23, 3) := by decide +kernel
theorem dX4_putAbove_31 : decode cX4_putAbove 31 = .ok (.iconst 1, 1) := by decide +kernel
theorem dX4_putAbove_32 : decode cX4_putAbove 32 = .ok (.isub, 1) := by decide +kernel
theorem dX4_putAbove_33 : decode cX4_putAbove 33 = .ok (.iaload, 1) := by decide +kernel
theorem dX4_putAbove_34 : decode cX4_putAbove 34 = .ok (.invokestatic 95, 3) := by decide +kernel
theorem dX4_putAbove_37 : decode cX4_putAbove 37 = .ok (.iload_n 1, 1) := by decide +kernel
theorem dX4_putAbove_38 : decode cX4_putAbove 38 = .ok (.if_icmp .lt 33, 3) := by decide +kernel
theorem dX4_putAbove_41 : decode cX4_putAbove 41 = .ok (.aload_n 0, 1) := by decide +kernel
theorem dX4_putAbove_42 : decode cX4_putAbove 42 = .ok (.dup, 1) := by decide +kernel
theorem dX4_putAbove_43 : decode cX4_putAbove 43 = .ok (.getfield 23, 3) := by decide +kernel
theorem dX4_putAbove_46 : decode cX4_putAbove 46 = .ok (.iconst 1, 1) := by decide +kernel
theorem dX4_putAbove_47 : decode cX4_putAbove 47 = .ok (.isub, 1) := by decide +kernel
theorem dX4_putAbove_48 : decode cX4_putAbove 48 = .ok (.putfield 23, 3) := by decide +kernel
theorem dX4_putAbove_51 : decode cX4_putAbove 51 = .ok (.aload_n 0, 1) := by decide +kernel
theorem dX4_putAbove_52 : decode cX4_putAbove 52 = .ok (.getfield 19, 3) := by decide +kernel
theorem dX4_putAbove_55 : decode cX4_putAbove 55 = .ok (.aload_n 0, 1) := by decide +kernel
theorem dX4_putAbove_56 : decode cX4_putAbove 56 = .ok (.getfield 9, 3) := by decide +kernel
theorem dX4_putAbove_59 : decode cX4_putAbove 59 = .ok (.aload_n 0, 1) := by decide +kernel
theorem dX4_putAbove_60 : decode cX4_putAbove 60 = .ok (.getfield 23, 3) := by decide +kernel
theorem dX4_putAbove_63 : decode cX4_putAbove 63 = .ok (.iaload, 1) := by decide +kernel
theorem dX4_putAbove_64 : decode cX4_putAbove 64 = .ok (.iconst 0, 1) := by decide +kernel
theorem dX4_putAbove_65 : decode cX4_putAbove 65 = .ok (.invokevirtual 88, 3) := by decide +kernel
theorem dX4_putAbove_68 : decode cX4_putAbove 68 = .ok (.goto (-68), 3) := by decide +kernel
theorem dX4_putAbove_71 : decode cX4_putAbove 71 = .ok (.return_, 1) := by decide +kernel
theorem dX4_operandKind_0 : decode cX4_operandKind 0 = .ok (.aload_n 0, 1) := by decide +kernel
theorem dX4_operandKind_1 : decode cX4_operandKind 1 = .ok (.getfield 15, 3) := by decide +kernel
theorem dX4_operandKind_4 : decode cX4_operandKind 4 = .ok (.getfield 99, 3) := by decide +kernel
theorem dX4_operandKind_7 : decode cX4_operandKind 7 = .ok (.iconst 2, 1) := by decide +kernel
theorem dX4_operandKind_8 : decode cX4_operandKind 8 = .ok (.if_icmp .ne 5, 3) := by decide +kernel
theorem dX4_operandKind_11 : decode cX4_operandKind 11 = .ok (.iconst 0, 1) := by decide +kernel
theorem dX4_operandKind_12 : decode cX4_operandKind 12 = .ok (.ireturn, 1) := by decide +kernel
theorem dX4_operandKind_13 : decode cX4_operandKind 13 = .ok (.aload_n 0, 1) := by decide +kernel
theorem dX4_operandKind_14 : decode cX4_operandKind 14 = .ok (.getfield 15, 3) := by decide +kernel
theorem dX4_operandKind_17 : decode cX4_operandKind 17 = .ok (.getfield 99, 3) := by decide +kernel
theorem dX4_operandKind_20 : decode cX4_operandKind 20 = .ok (.iconst 1, 1) := by decide +kernel
theorem dX4_operandKind_21 : decode cX4_operandKind 21 = .ok (.if_icmp .ne 13, 3) := by decide +kernel
theorem dX4_operandKind_24 : decode cX4_operandKind 24 = .ok (.aload_n 0, 1) := by decide +kernel
theorem dX4_operandKind_25 : decode cX4_operandKind 25 = .ok (.getfield 15, 3) := by decide +kernel
theorem dX4_operandKind_28 : decode cX4_operandKind 28 = .ok (.getfield 82, 3) := by decide +kernel
theorem dX4_operandKind_31 : decode cX4_operandKind 31 = .ok (.goto 4, 3) := by decide +kernel
theorem dX4_operandKind_34 : decode cX4_operandKind 34 = .ok (.iconst 0, 1) := by decide +kernel
theorem dX4_operandKind_35 : decode cX4_operandKind 35 = .ok (.lookupswitch 81 #[(202788000, 71), (546786304, 69), (549512800, 75), (650632192, 67), (654910919, 65), (676516096, 73), (844154880, 78)], 65) := by decide +kernel
theorem dX4_operandKind_100 : decode cX4_operandKind 100 = .ok (.iconst 1, 1) := by decide +kernel
theorem dX4_operandKind_101 : decode cX4_operandKind 101 = .ok (.ireturn, 1) := by decide +kernel
theorem dX4_operandKind_102 : decode cX4_operandKind 102 = .ok (.iconst 2, 1) := by decide +kernel
theorem dX4_operandKind_103 : decode cX4_operandKind 103 = .ok (.ireturn, 1) := by decide +kernel
theorem dX4_operandKind_104 : decode cX4_operandKind 104 = .ok (.iconst 3, 1) := by decide +kernel
theorem dX4_operandKind_105 : decode cX4_operandKind 105 = .ok (.ireturn, 1) := by decide +kernel
theorem dX4_operandKind_106 : decode cX4_operandKind 106 = .ok (.iconst 4, 1) := by decide +kernel
theorem dX4_operandKind_107 : decode cX4_operandKind 107 = .ok (.ireturn, 1) := by decide +kernel
theorem dX4_operandKind_108 : decode cX4_operandKind 108 = .ok (.iconst 5, 1) := by decide +kernel
theorem dX4_operandKind_109 : decode cX4_operandKind 109 = .ok (.ireturn, 1) := by decide +kernel
theorem dX4_operandKind_110 : decode cX4_operandKind 110 = .ok (.bipush 6, 2) := by decide +kernel
theorem dX4_operandKind_112 : decode cX4_operandKind 112 = .ok (.ireturn, 1) := by decide +kernel
theorem dX4_operandKind_113 : decode cX4_operandKind 113 = .ok (.bipush 7, 2) := by decide +kernel
theorem dX4_operandKind_115 : decode cX4_operandKind 115 = .ok (.ireturn, 1) := by decide +kernel
theorem dX4_operandKind_116 : decode cX4_operandKind 116 = .ok (.iconst (-1), 1) := by decide +kernel
theorem dX4_operandKind_117 : decode cX4_operandKind 117 = .ok (.ireturn, 1) := by decide +kernel
theorem dX4_jointKind_0 : decode cX4_jointKind 0 = .ok (.aload_n 0, 1) := by decide +kernel
theorem dX4_jointKind_1 : decode cX4_jointKind 1 = .ok (.getfield 15, 3) := by decide +kernel
theorem dX4_jointKind_4 : decode cX4_jointKind 4 = .ok (.ldc 102, 2) := by decide +kernel
theorem dX4_jointKind_6 : decode cX4_jointKind 6 = .ok (.invokevirtual 76, 3) := by decide +kernel
theorem dX4_jointKind_9 : decode cX4_jointKind 9 = .ok (.ifCond .eq 6, 3) := by decide +kernel
theorem dX4_jointKind_12 : decode cX4_jointKind 12 = .ok (.bipush 8, 2) := by decide +kernel
theorem dX4_jointKind_14 : decode cX4_jointKind 14 = .ok (.ireturn, 1) := by decide +kernel
theorem dX4_jointKind_15 : decode cX4_jointKind 15 = .ok (.aload_n 0, 1) := by decide +kernel
theorem dX4_jointKind_16 : decode cX4_jointKind 16 = .ok (.getfield 15, 3) := by decide +kernel
theorem dX4_jointKind_19 : decode cX4_jointKind 19 = .ok (.ldc 103, 2) := by decide +kernel
theorem dX4_jointKind_21 : decode cX4_jointKind 21 = .ok (.invokevirtual 76, 3) := by decide +kernel
theorem dX4_jointKind_24 : decode cX4_jointKind 24 = .ok (.ifCond .eq 6, 3) := by decide +kernel
theorem dX4_jointKind_27 : decode cX4_jointKind 27 = .ok (.bipush 9, 2) := by decide +kernel
theorem dX4_jointKind_29 : decode cX4_jointKind 29 = .ok (.ireturn, 1) := by decide +kernel
theorem dX4_jointKind_30 : decode cX4_jointKind 30 = .ok (.aload_n 0, 1) := by decide +kernel
theorem dX4_jointKind_31 : decode cX4_jointKind 31 = .ok (.getfield 15, 3) := by decide +kernel
theorem dX4_jointKind_34 : decode cX4_jointKind 34 = .ok (.getfield 99, 3) := by decide +kernel
theorem dX4_jointKind_37 : decode cX4_jointKind 37 = .ok (.iconst 3, 1) := by decide +kernel
theorem dX4_jointKind_38 : decode cX4_jointKind 38 = .ok (.if_icmp .ne 25, 3) := by decide +kernel
theorem dX4_jointKind_41 : decode cX4_jointKind 41 = .ok (.aload_n 0, 1) := by decide +kernel
theorem dX4_jointKind_42 : decode cX4_jointKind 42 = .ok (.getfield 15, 3) := by decide +kernel
theorem dX4_jointKind_45 : decode cX4_jointKind 45 = .ok (.getfield 82, 3) := by decide +kernel
theorem dX4_jointKind_48 : decode cX4_jointKind 48 = .ok (.bipush 20, 2) := by decide +kernel
theorem dX4_jointKind_50 : decode cX4_jointKind 50 = .ok (.if_icmp .gt 13, 3) := by decide +kernel
theorem dX4_jointKind_53 : decode cX4_jointKind 53 = .ok (.aload_n 0, 1) := by decide +kernel
theorem dX4_jointKind_54 : decode cX4_jointKind 54 = .ok (.getfield 15, 3) := by decide +kernel
theorem dX4_jointKind_57 : decode cX4_jointKind 57 = .ok (.getfield 82, 3) := by decide +kernel
theorem dX4_jointKind_60 : decode cX4_jointKind 60 = .ok (.goto 4, 3) := by decide +kernel
theorem dX4_jointKind_63 : decode cX4_jointKind 63 = .ok (.iconst (-1), 1) := by decide +kernel
theorem dX4_jointKind_64 : decode cX4_jointKind 64 = .ok (.ireturn, 1) := by decide +kernel
theorem dX4_rank_0 : decode cX4_rank 0 = .ok (.iload_n 0, 1) := by decide +kernel
theorem dX4_rank_1 : decode cX4_rank 1 = .ok (.bipush 19, 2) := by decide +kernel
theorem dX4_rank_3 : decode cX4_rank 3 = .ok (.if_icmp .lt 6, 3) := by decide +kernel
theorem dX4_rank_6 : decode cX4_rank 6 = .ok (.bipush 6, 2) := by decide +kernel
theorem dX4_rank_8 : decode cX4_rank 8 = .ok (.ireturn, 1) := by decide +kernel
theorem dX4_rank_9 : decode cX4_rank 9 = .ok (.iload_n 0, 1) := by decide +kernel
theorem dX4_rank_10 : decode cX4_rank 10 = .ok (.bipush 17, 2) := by decide +kernel
theorem dX4_rank_12 : decode cX4_rank 12 = .ok (.if_icmp .lt 5, 3) := by decide +kernel
theorem dX4_rank_15 : decode cX4_rank 15 = .ok (.iconst 5, 1) := by decide +kernel
theorem dX4_rank_16 : decode cX4_rank 16 = .ok (.ireturn, 1) := by decide +kernel
theorem dX4_rank_17 : decode cX4_rank 17 = .ok (.iload_n 0, 1) := by decide +kernel
theorem dX4_rank_18 : decode cX4_rank 18 = .ok (.bipush 11, 2) := by decide +kernel
theorem dX4_rank_20 : decode cX4_rank 20 = .ok (.if_icmp .lt 7, 3) := by decide +kernel
theorem dX4_rank_23 : decode cX4_rank 23 = .ok (.iconst 4, 1) := by decide +kernel
theorem dX4_rank_24 : decode cX4_rank 24 = .ok (.goto 9, 3) := by decide +kernel
theorem dX4_rank_27 : decode cX4_rank 27 = .ok (.iload_n 0, 1) := by decide +kernel
theorem dX4_rank_28 : decode cX4_rank 28 = .ok (.bipush 8, 2) := by decide +kernel
theorem dX4_rank_30 : decode cX4_rank 30 = .ok (.isub, 1) := by decide +kernel
theorem dX4_rank_31 : decode cX4_rank 31 = .ok (.iconst 1, 1) := by decide +kernel
theorem dX4_rank_32 : decode cX4_rank 32 = .ok (.iadd, 1) := by decide +kernel
theorem dX4_rank_33 : decode cX4_rank 33 = .ok (.ireturn, 1) := by decide +kernel
theorem dX5_init_0 : decode cX5_init 0 = .ok (.aload_n 0, 1) := by decide +kernel
theorem dX5_init_1 : decode cX5_init 1 = .ok (.invokespecial 3, 3) := by decide +kernel
theorem dX5_init_4 : decode cX5_init 4 = .ok (.aload_n 0, 1) := by decide +kernel
theorem dX5_init_5 : decode cX5_init 5 = .ok (.bipush 64, 2) := by decide +kernel
theorem dX5_init_7 : decode cX5_init 7 = .ok (.newarray .int, 2) := by decide +kernel
theorem dX5_init_9 : decode cX5_init 9 = .ok (.putfield 9, 3) := by decide +kernel
theorem dX5_init_12 : decode cX5_init 12 = .ok (.aload_n 0, 1) := by decide +kernel
theorem dX5_init_13 : decode cX5_init 13 = .ok (.bipush 64, 2) := by decide +kernel
theorem dX5_init_15 : decode cX5_init 15 = .ok (.newarray .int, 2) := by decide +kernel
theorem dX5_init_17 : decode cX5_init 17 = .ok (.putfield 15, 3) := by decide +kernel
theorem dX5_init_20 : decode cX5_init 20 = .ok (.aload_n 0, 1) := by decide +kernel
theorem dX5_init_21 : decode cX5_init 21 = .ok (.iconst 3, 1) := by decide +kernel
theorem dX5_init_22 : decode cX5_init 22 = .ok (.newarray .int, 2) := by decide +kernel
theorem dX5_init_24 : decode cX5_init 24 = .ok (.putfield 18, 3) := by decide +kernel
theorem dX5_init_27 : decode cX5_init 27 = .ok (.aload_n 0, 1) := by decide +kernel
theorem dX5_init_28 : decode cX5_init 28 = .ok (.iconst 3, 1) := by decide +kernel
theorem dX5_init_29 : decode cX5_init 29 = .ok (.newarray .int, 2) := by decide +kernel
theorem dX5_init_31 : decode cX5_init 31 = .ok (.putfield 21, 3) := by decide +kernel
theorem dX5_init_34 : decode cX5_init 34 = .ok (.aload_n 0, 1) := by decide +kernel
theorem dX5_init_35 : decode cX5_init 35 = .ok (.bipush 64, 2) := by decide +kernel
theorem dX5_init_37 : decode cX5_init 37 = .ok (.newarray .long, 2) := by decide +kernel
theorem dX5_init_39 : decode cX5_init 39 = .ok (.putfield 24, 3) := by decide +kernel
theorem dX5_init_42 : decode cX5_init 42 = .ok (.return_, 1) := by decide +kernel
theorem dX5_clear_0 : decode cX5_clear 0 = .ok (.aload_n 0, 1) := by decide +kernel
theorem dX5_clear_1 : decode cX5_clear 1 = .ok (.iconst 0, 1) := by decide +kernel
theorem dX5_clear_2 : decode cX5_clear 2 = .ok (.putfield 28, 3) := by decide +kernel
theorem dX5_clear_5 : decode cX5_clear 5 = .ok (.iconst 0, 1) := by decide +kernel
theorem dX5_clear_6 : decode cX5_clear 6 = .ok (.istore_n 1, 1) := by decide +kernel
theorem dX5_clear_7 : decode cX5_clear 7 = .ok (.iload_n 1, 1) := by decide +kernel
theorem dX5_clear_8 : decode cX5_clear 8 = .ok (.iconst 3, 1) := by decide +kernel
theorem dX5_clear_9 : decode cX5_clear 9 = .ok (.if_icmp .ge 23, 3) := by decide +kernel
theorem dX5_clear_12 : decode cX5_clear 12 = .ok (.aload_n 0, 1) := by decide +kernel
theorem dX5_clear_13 : decode cX5_clear 13 = .ok (.getfield 18, 3) := by decide +kernel
theorem dX5_clear_16 : decode cX5_clear 16 = .ok (.iload_n 1, 1) := by decide +kernel
theorem dX5_clear_17 : decode cX5_clear 17 = .ok (.iconst 0, 1) := by decide +kernel
theorem dX5_clear_18 : decode cX5_clear 18 = .ok (.iastore, 1) := by decide +kernel
theorem dX5_clear_19 : decode cX5_clear 19 = .ok (.aload_n 0, 1) := by decide +kernel
theorem dX5_clear_20 : decode cX5_clear 20 = .ok (.getfield 21, 3) := by decide +kernel
theorem dX5_clear_23 : decode cX5_clear 23 = .ok (.iload_n 1, 1) := by decide +kernel
theorem dX5_clear_24 : decode cX5_clear 24 = .ok (.iconst 0, 1) := by decide +kernel
theorem dX5_clear_25 : decode cX5_clear 25 = .ok (.iastore, 1) := by decide +kernel
theorem dX5_clear_26 : decode cX5_clear 26 = .ok (.iinc 1 1, 3) := by decide +kernel
theorem dX5_clear_29 : decode cX5_clear 29 = .ok (.goto (-22), 3) := by decide +kernel
theorem dX5_clear_32 : decode cX5_clear 32 = .ok (.return_, 1) := by decide +kernel
theorem dX5_isTold_0 : decode cX5_isTold 0 = .ok (.aload_n 0, 1) := by decide +kernel
theorem dX5_isTold_1 : decode cX5_isTold 1 = .ok (.getfield 21, 3) := by decide +kernel
theorem dX5_isTold_4 : decode cX5_isTold 4 = .ok (.iload_n 1, 1) := by decide +kernel
theorem dX5_isTold_5 : decode cX5_isTold 5 = .ok (.iaload, 1) := by decide +kernel
theorem dX5_isTold_6 : decode cX5_isTold 6 = .ok (.aload_n 0, 1) := by decide +kernel
theorem dX5_isTold_7 : decode cX5_isTold 7 = .ok (.getfield 18, 3) := by decide +kernel
theorem dX5_isTold_10 : decode cX5_isTold 10 = .ok (.iload_n 1, 1) := by decide +kernel
theorem dX5_isTold_11 : decode cX5_isTold 11 = .ok (.iaload, 1) := by decide +kernel
theorem dX5_isTold_12 : decode cX5_isTold 12 = .ok (.if_icmp .le 7, 3) := by decide +kernel
theorem dX5_isTold_15 : decode cX5_isTold 15 = .ok (.iconst 1, 1) := by decide +kernel
theorem dX5_isTold_16 : decode cX5_isTold 16 = .ok (.goto 4, 3) := by decide +kernel
theorem dX5_isTold_19 : decode cX5_isTold 19 = .ok (.iconst 0, 1) := by decide +kernel
theorem dX5_isTold_20 : decode cX5_isTold 20 = .ok (.ireturn, 1) := by decide +kernel
theorem dX5_put_0 : decode cX5_put 0 = .ok (.aload_n 0, 1) := by decide +kernel
theorem dX5_put_1 : decode cX5_put 1 = .ok (.getfield 28, 3) := by decide +kernel
theorem dX5_put_4 : decode cX5_put 4 = .ok (.bipush 64, 2) := by decide +kernel
theorem dX5_put_6 : decode cX5_put 6 = .ok (.if_icmp .ge 33, 3) := by decide +kernel
theorem dX5_put_9 : decode cX5_put 9 = .ok (.aload_n 0, 1) := by decide +kernel
theorem dX5_put_10 : decode cX5_put 10 = .ok (.getfield 9, 3) := by decide +kernel
theorem dX5_put_13 : decode cX5_put 13 = .ok (.aload_n 0, 1) := by decide +kernel
theorem dX5_put_14 : decode cX5_put 14 = .ok (.getfield 28, 3) := by decide +kernel
theorem dX5_put_17 : decode cX5_put 17 = .ok (.iload_n 1, 1) := by decide +kernel
theorem dX5_put_18 : decode cX5_put 18 = .ok (.iastore, 1) := by decide +kernel
theorem dX5_put_19 : decode cX5_put 19 = .ok (.aload_n 0, 1) := by decide +kernel
theorem dX5_put_20 : decode cX5_put 20 = .ok (.getfield 15, 3) := by decide +kernel
theorem dX5_put_23 : decode cX5_put 23 = .ok (.aload_n 0, 1) := by decide +kernel
theorem dX5_put_24 : decode cX5_put 24 = .ok (.getfield 28, 3) := by decide +kernel
theorem dX5_put_27 : decode cX5_put 27 = .ok (.iload_n 2, 1) := by decide +kernel
theorem dX5_put_28 : decode cX5_put 28 = .ok (.iastore, 1) := by decide +kernel
theorem dX5_put_29 : decode cX5_put 29 = .ok (.aload_n 0, 1) := by decide +kernel
theorem dX5_put_30 : decode cX5_put 30 = .ok (.dup, 1) := by decide +kernel
theorem dX5_put_31 : decode cX5_put 31 = .ok (.getfield 28, 3) := by decide +kernel
theorem dX5_put_34 : decode cX5_put 34 = .ok (.iconst 1, 1) := by decide +kernel
theorem dX5_put_35 : decode cX5_put 35 = .ok (.iadd, 1) := by decide +kernel
theorem dX5_put_36 : decode cX5_put 36 = .ok (.putfield 28, 3) := by decide +kernel
theorem dX5_put_39 : decode cX5_put 39 = .ok (.return_, 1) := by decide +kernel
theorem dX5_worth_0 : decode cX5_worth 0 = .ok (.iconst 0, 1) := by decide +kernel
theorem dX5_worth_1 : decode cX5_worth 1 = .ok (.istore 4, 2) := by decide +kernel
theorem dX5_worth_3 : decode cX5_worth 3 = .ok (.aload_n 0, 1) := by decide +kernel
theorem dX5_worth_4 : decode cX5_worth 4 = .ok (.getfield 18, 3) := by decide +kernel
theorem dX5_worth_7 : decode cX5_worth 7 = .ok (.iload_n 1, 1) := by decide +kernel
theorem dX5_worth_8 : decode cX5_worth 8 = .ok (.iaload, 1) := by decide +kernel
theorem dX5_worth_9 : decode cX5_worth 9 = .ok (.istore 5, 2) := by decide +kernel
theorem dX5_worth_11 : decode cX5_worth 11 = .ok (.iload 5, 2) := by decide +kernel
theorem dX5_worth_13 : decode cX5_worth 13 = .ok (.aload_n 0, 1) := by decide +kernel
theorem dX5_worth_14 : decode cX5_worth 14 = .ok (.getfield 21, 3) := by decide +kernel
theorem dX5_worth_17 : decode cX5_worth 17 = .ok (.iload_n 1, 1) := by decide +kernel
theorem dX5_worth_18 : decode cX5_worth 18 = .ok (.iaload, 1) := by decide +kernel
theorem dX5_worth_19 : decode cX5_worth 19 = .ok (.if_icmp .ge 172, 3) := by decide +kernel
theorem dX5_worth_22 : decode cX5_worth 22 = .ok (.aload_n 0, 1) := by decide +kernel
theorem dX5_worth_23 : decode cX5_worth 23 = .ok (.getfield 9, 3) := by decide +kernel
theorem dX5_worth_26 : decode cX5_worth 26 = .ok (.iload 5, 2) := by decide +kernel
theorem dX5_worth_28 : decode cX5_worth 28 = .ok (.iaload, 1) := by decide +kernel
theorem dX5_worth_29 : decode cX5_worth 29 = .ok (.istore 6, 2) := by decide +kernel
theorem dX5_worth_31 : decode cX5_worth 31 = .ok (.iload 6, 2) := by decide +kernel
theorem dX5_worth_33 : decode cX5_worth 33 = .ok (.bipush 7, 2) := by decide +kernel
theorem dX5_worth_35 : decode cX5_worth 35 = .ok (.if_icmp .gt 39, 3) := by decide +kernel
theorem dX5_worth_38 : decode cX5_worth 38 = .ok (.aload_n 0, 1) := by decide +kernel
theorem dX5_worth_39 : decode cX5_worth 39 = .ok (.getfield 24, 3) := by decide +kernel
theorem dX5_worth_42 : decode cX5_worth 42 = .ok (.iload 4, 2) := by decide +kernel
theorem dX5_worth_44 : decode cX5_worth 44 = .ok (.iload 6, 2) := by decide +kernel
theorem dX5_worth_46 : decode cX5_worth 46 = .ok (.ifCond .ne 14, 3) := by decide +kernel
theorem dX5_worth_49 : decode cX5_worth 49 = .ok (.aload_n 0, 1) := by decide +kernel
theorem dX5_worth_50 : decode cX5_worth 50 = .ok (.getfield 15, 3) := by decide +kernel
theorem dX5_worth_53 : decode cX5_worth 53 = .ok (.iload 5, 2) := by decide +kernel
theorem dX5_worth_55 : decode cX5_worth 55 = .ok (.iaload, 1) := by decide +kernel
theorem dX5_worth_56 : decode cX5_worth 56 = .ok (.i2l, 1) := by decide +kernel
theorem dX5_worth_57 : decode cX5_worth 57 = .ok (.goto 10, 3) := by decide +kernel
theorem dX5_worth_60 : decode cX5_worth 60 = .ok (.iload 6, 2) := by decide +kernel
theorem dX5_worth_62 : decode cX5_worth 62 = .ok (.aload_n 2, 1) := by decide +kernel
theorem dX5_worth_63 : decode cX5_worth 63 = .ok (.iload_n 3, 1) := by decide +kernel
theorem dX5_worth_64 : decode cX5_worth 64 = .ok (.invokestatic 32, 3) := by decide +kernel
theorem dX5_worth_67 : decode cX5_worth 67 = .ok (.lastore, 1) := by decide +kernel
theorem dX5_worth_68 : decode cX5_worth 68 = .ok (.iinc 4 1, 3) := by decide +kernel
theorem dX5_worth_71 : decode cX5_worth 71 = .ok (.goto 114, 3) := by decide +kernel
theorem dX5_worth_74 : decode cX5_worth 74 = .ok (.iload 6, 2) := by decide +kernel
theorem dX5_worth_76 : decode cX5_worth 76 = .ok (.bipush 10, 2) := by decide +kernel
theorem dX5_worth_78 : decode cX5_worth 78 = .ok (.if_icmp .ne 42, 3) := by decide +kernel
theorem dX5_worth_81 : decode cX5_worth 81 = .ok (.iload 4, 2) := by decide +kernel
theorem dX5_worth_83 : decode cX5_worth 83 = .ok (.ifCond .le 37, 3) := by decide +kernel
theorem dX5_worth_86 : decode cX5_worth 86 = .ok (.aload_n 0, 1) := by decide +kernel
theorem dX5_worth_87 : decode cX5_worth 87 = .ok (.getfield 24, 3) := by decide +kernel
theorem dX5_worth_90 : decode cX5_worth 90 = .ok (.iload 4, 2) := by decide +kernel
theorem dX5_worth_92 : decode cX5_worth 92 = .ok (.iconst 1, 1) := by decide +kernel
theorem dX5_worth_93 : decode cX5_worth 93 = .ok (.isub, 1) := by decide +kernel
theorem dX5_worth_94 : decode cX5_worth 94 = .ok (.aload_n 0, 1) := by decide +kernel
theorem dX5_worth_95 : decode cX5_worth 95 = .ok (.getfield 24, 3) := by decide +kernel
theorem dX5_worth_98 : decode cX5_worth 98 = .ok (.iload 4, 2) := by decide +kernel
theorem dX5_worth_100 : decode cX5_worth 100 = .ok (.iconst 1, 1) := by decide +kernel
theorem dX5_worth_101 : decode cX5_worth 101 = .ok (.isub, 1) := by decide +kernel
theorem dX5_worth_102 : decode cX5_worth 102 = .ok (.laload, 1) := by decide +kernel
theorem dX5_worth_103 : decode cX5_worth 103 = .ok (.lconst 0, 1) := by decide +kernel
theorem dX5_worth_104 : decode cX5_worth 104 = .ok (.lcmp, 1) := by decide +kernel
theorem dX5_worth_105 : decode cX5_worth 105 = .ok (.ifCond .ne 7, 3) := by decide +kernel
theorem dX5_worth_108 : decode cX5_worth 108 = .ok (.iconst 1, 1) := by decide +kernel
theorem dX5_worth_109 : decode cX5_worth 109 = .ok (.goto 4, 3) := by decide +kernel
theorem dX5_worth_112 : decode cX5_worth 112 = .ok (.iconst 0, 1) := by decide +kernel
theorem dX5_worth_113 : decode cX5_worth 113 = .ok (.invokestatic 36, 3) := by decide +kernel
theorem dX5_worth_116 : decode cX5_worth 116 = .ok (.lastore, 1) := by decide +kernel
theorem dX5_worth_117 : decode cX5_worth 117 = .ok (.goto 68, 3) := by decide +kernel
theorem dX5_worth_120 : decode cX5_worth 120 = .ok (.iload 4, 2) := by decide +kernel
theorem dX5_worth_122 : decode cX5_worth 122 = .ok (.iconst 1, 1) := by decide +kernel
theorem dX5_worth_123 : decode cX5_worth 123 = .ok (.if_icmp .le 62, 3) := by decide +kernel
theorem dX5_worth_126 : decode cX5_worth 126 = .ok (.iinc 4 (-1), 3) := by decide +kernel
theorem dX5_worth_129 : decode cX5_worth 129 = .ok (.iload 6, 2) := by decide +kernel
theorem dX5_worth_131 : decode cX5_worth 131 = .ok (.aload_n 0, 1) := by decide +kernel
theorem dX5_worth_132 : decode cX5_worth 132 = .ok (.getfield 24, 3) := by decide +kernel
theorem dX5_worth_135 : decode cX5_worth 135 = .ok (.iload 4, 2) := by decide +kernel
theorem dX5_worth_137 : decode cX5_worth 137 = .ok (.iconst 1, 1) := by decide +kernel
theorem dX5_worth_138 : decode cX5_worth 138 = .ok (.isub, 1) := by decide +kernel
theorem dX5_worth_139 : decode cX5_worth 139 = .ok (.laload, 1) := by decide +kernel
theorem dX5_worth_140 : decode cX5_worth 140 = .ok (.aload_n 0, 1) := by decide +kernel
theorem dX5_worth_141 : decode cX5_worth 141 = .ok (.getfield 24, 3) := by decide +kernel
theorem dX5_worth_144 : decode cX5_worth 144 = .ok (.iload 4, 2) := by decide +kernel
theorem dX5_worth_146 : decode cX5_worth 146 = .ok (.laload, 1) := by decide +kernel
theorem dX5_worth_147 : decode cX5_worth 147 = .ok (.invokestatic 40, 3) := by decide +kernel
theorem dX5_worth_150 : decode cX5_worth 150 = .ok (.lstore 7, 2) := by decide +kernel
theorem dX5_worth_152 : decode cX5_worth 152 = .ok (.lload 7, 2) := by decide +kernel
theorem dX5_worth_154 : decode cX5_worth 154 = .ok (.ldc2_w 44, 3) := by decide +kernel
theorem dX5_worth_157 : decode cX5_worth 157 = .ok (.lcmp, 1) := by decide +kernel
theorem dX5_worth_158 : decode cX5_worth 158 = .ok (.ifCond .gt 12, 3) := by decide +kernel
theorem dX5_worth_161 : decode cX5_worth 161 = .ok (.lload 7, 2) := by decide +kernel
theorem dX5_worth_163 : decode cX5_worth 163 = .ok (.ldc2_w 46, 3) := by decide +kernel
theorem dX5_worth_166 : decode cX5_worth 166 = .ok (.lcmp, 1) := by decide +kernel
theorem dX5_worth_167 : decode cX5_worth 167 = .ok (.ifCond .ge 7, 3) := by decide +kernel
theorem dX5_worth_170 : decode cX5_worth 170 = .ok (.ldc2_w 48, 3) := by decide +kernel
theorem dX5_worth_173 : decode cX5_worth 173 = .ok (.lreturn, 1) := by decide +kernel
theorem dX5_worth_174 : decode cX5_worth 174 = .ok (.aload_n 0, 1) := by decide +kernel
theorem dX5_worth_175 : decode cX5_worth 175 = .ok (.getfield 24, 3) := by decide +kernel
theorem dX5_worth_178 : decode cX5_worth 178 = .ok (.iload 4, 2) := by decide +kernel
theorem dX5_worth_180 : decode cX5_worth 180 = .ok (.iconst 1, 1) := by decide +kernel
theorem dX5_worth_181 : decode cX5_worth 181 = .ok (.isub, 1) := by decide +kernel
theorem dX5_worth_182 : decode cX5_worth 182 = .ok (.lload 7, 2) := by decide +kernel
theorem dX5_worth_184 : decode cX5_worth 184 = .ok (.lastore, 1) := by decide +kernel
theorem dX5_worth_185 : decode cX5_worth 185 = .ok (.iinc 5 1, 3) := by decide +kernel
theorem dX5_worth_188 : decode cX5_worth 188 = .ok (.goto (-177), 3) := by decide +kernel
theorem dX5_worth_191 : decode cX5_worth 191 = .ok (.iload 4, 2) := by decide +kernel
theorem dX5_worth_193 : decode cX5_worth 193 = .ok (.iconst 1, 1) := by decide +kernel
theorem dX5_worth_194 : decode cX5_worth 194 = .ok (.if_icmp .ne 12, 3) := by decide +kernel
theorem dX5_worth_197 : decode cX5_worth 197 = .ok (.aload_n 0, 1) := by decide +kernel
theorem dX5_worth_198 : decode cX5_worth 198 = .ok (.getfield 24, 3) := by decide +kernel
theorem dX5_worth_201 : decode cX5_worth 201 = .ok (.iconst 0, 1) := by decide +kernel
theorem dX5_worth_202 : decode cX5_worth 202 = .ok (.laload, 1) := by decide +kernel
theorem dX5_worth_203 : decode cX5_worth 203 = .ok (.goto 6, 3) := by decide +kernel
theorem dX5_worth_206 : decode cX5_worth 206 = .ok (.ldc2_w 48, 3) := by decide +kernel
theorem dX5_worth_209 : decode cX5_worth 209 = .ok (.lreturn, 1) := by decide +kernel
theorem dX5_nameOf_0 : decode cX5_nameOf 0 = .ok (.iload_n 0, 1) := by decide +kernel
theorem dX5_nameOf_1 : decode cX5_nameOf 1 = .ok (.tableswitch 78 1 6 #[39, 45, 51, 57, 63, 72], 39) := by decide +kernel
theorem dX5_nameOf_40 : decode cX5_nameOf 40 = .ok (.aload_n 1, 1) := by decide +kernel
theorem dX5_nameOf_41 : decode cX5_nameOf 41 = .ok (.getfield 50, 3) := by decide +kernel
theorem dX5_nameOf_44 : decode cX5_nameOf 44 = .ok (.i2l, 1) := by decide +kernel
theorem dX5_nameOf_45 : decode cX5_nameOf 45 = .ok (.lreturn, 1) := by decide +kernel
theorem dX5_nameOf_46 : decode cX5_nameOf 46 = .ok (.aload_n 1, 1) := by decide +kernel
theorem dX5_nameOf_47 : decode cX5_nameOf 47 = .ok (.getfield 55, 3) := by decide +kernel
theorem dX5_nameOf_50 : decode cX5_nameOf 50 = .ok (.i2l, 1) := by decide +kernel
theorem dX5_nameOf_51 : decode cX5_nameOf 51 = .ok (.lreturn, 1) := by decide +kernel
theorem dX5_nameOf_52 : decode cX5_nameOf 52 = .ok (.aload_n 1, 1) := by decide +kernel
theorem dX5_nameOf_53 : decode cX5_nameOf 53 = .ok (.getfield 58, 3) := by decide +kernel
theorem dX5_nameOf_56 : decode cX5_nameOf 56 = .ok (.i2l, 1) := by decide +kernel
theorem dX5_nameOf_57 : decode cX5_nameOf 57 = .ok (.lreturn, 1) := by decide +kernel
theorem dX5_nameOf_58 : decode cX5_nameOf 58 = .ok (.aload_n 1, 1) := by decide +kernel
theorem dX5_nameOf_59 : decode cX5_nameOf 59 = .ok (.getfield 61, 3) := by decide +kernel
theorem dX5_nameOf_62 : decode cX5_nameOf 62 = .ok (.i2l, 1) := by decide +kernel
theorem dX5_nameOf_63 : decode cX5_nameOf 63 = .ok (.lreturn, 1) := by decide +kernel
theorem dX5_nameOf_64 : decode cX5_nameOf 64 = .ok (.aload_n 1, 1) := by decide +kernel
theorem dX5_nameOf_65 : decode cX5_nameOf 65 = .ok (.getfield 64, 3) := by decide +kernel
theorem dX5_nameOf_68 : decode cX5_nameOf 68 = .ok (.invokestatic 67, 3) := by decide +kernel
theorem dX5_nameOf_71 : decode cX5_nameOf 71 = .ok (.i2l, 1) := by decide +kernel
theorem dX5_nameOf_72 : decode cX5_nameOf 72 = .ok (.lreturn, 1) := by decide +kernel
theorem dX5_nameOf_73 : decode cX5_nameOf 73 = .ok (.aload_n 1, 1) := by decide +kernel
theorem dX5_nameOf_74 : decode cX5_nameOf 74 = .ok (.getfield 73, 3) := by decide +kernel
theorem dX5_nameOf_77 : decode cX5_nameOf 77 = .ok (.i2l, 1) := by decide +kernel
theorem dX5_nameOf_78 : decode cX5_nameOf 78 = .ok (.lreturn, 1) := by decide +kernel
theorem dX5_nameOf_79 : decode cX5_nameOf 79 = .ok (.iload_n 2, 1) := by decide +kernel
theorem dX5_nameOf_80 : decode cX5_nameOf 80 = .ok (.i2l, 1) := by decide +kernel
theorem dX5_nameOf_81 : decode cX5_nameOf 81 = .ok (.lreturn, 1) := by decide +kernel
theorem dX5_sign_0 : decode cX5_sign 0 = .ok (.iload_n 0, 1) := by decide +kernel
theorem dX5_sign_1 : decode cX5_sign 1 = .ok (.tableswitch 209 8 19 #[63, 84, 209, 105, 120, 135, 150, 165, 180, 195, 199, 203], 63) := by decide +kernel
theorem dX5_sign_64 : decode cX5_sign 64 = .ok (.lload_n 1, 1) := by decide +kernel
theorem dX5_sign_65 : decode cX5_sign 65 = .ok (.lconst 0, 1) := by decide +kernel
theorem dX5_sign_66 : decode cX5_sign 66 = .ok (.lcmp, 1) := by decide +kernel
theorem dX5_sign_67 : decode cX5_sign 67 = .ok (.ifCond .ne 9, 3) := by decide +kernel
theorem dX5_sign_70 : decode cX5_sign 70 = .ok (.lload_n 3, 1) := by decide +kernel
theorem dX5_sign_71 : decode cX5_sign 71 = .ok (.lconst 0, 1) := by decide +kernel
theorem dX5_sign_72 : decode cX5_sign 72 = .ok (.lcmp, 1) := by decide +kernel
theorem dX5_sign_73 : decode cX5_sign 73 = .ok (.ifCond .eq 7, 3) := by decide +kernel
theorem dX5_sign_76 : decode cX5_sign 76 = .ok (.iconst 1, 1) := by decide +kernel
theorem dX5_sign_77 : decode cX5_sign 77 = .ok (.goto 4, 3) := by decide +kernel
theorem dX5_sign_80 : decode cX5_sign 80 = .ok (.iconst 0, 1) := by decide +kernel
theorem dX5_sign_81 : decode cX5_sign 81 = .ok (.invokestatic 36, 3) := by decide +kernel
theorem dX5_sign_84 : decode cX5_sign 84 = .ok (.lreturn, 1) := by decide +kernel
theorem dX5_sign_85 : decode cX5_sign 85 = .ok (.lload_n 1, 1) := by decide +kernel
theorem dX5_sign_86 : decode cX5_sign 86 = .ok (.lconst 0, 1) := by decide +kernel
theorem dX5_sign_87 : decode cX5_sign 87 = .ok (.lcmp, 1) := by decide +kernel
theorem dX5_sign_88 : decode cX5_sign 88 = .ok (.ifCond .eq 13, 3) := by decide +kernel
theorem dX5_sign_91 : decode cX5_sign 91 = .ok (.lload_n 3, 1) := by decide +kernel
theorem dX5_sign_92 : decode cX5_sign 92 = .ok (.lconst 0, 1) := by decide +kernel
theorem dX5_sign_93 : decode cX5_sign 93 = .ok (.lcmp, 1) := by decide +kernel
theorem dX5_sign_94 : decode cX5_sign 94 = .ok (.ifCond .eq 7, 3) := by decide +kernel
theorem dX5_sign_97 : decode cX5_sign 97 = .ok (.iconst 1, 1) := by decide +kernel
theorem dX5_sign_98 : decode cX5_sign 98 = .ok (.goto 4, 3) := by decide +kernel
theorem dX5_sign_101 : decode cX5_sign 101 = .ok (.iconst 0, 1) := by decide +kernel
theorem dX5_sign_102 : decode cX5_sign 102 = .ok (.invokestatic 36, 3) := by decide +kernel
theorem dX5_sign_105 : decode cX5_sign 105 = .ok (.lreturn, 1) := by decide +kernel
theorem dX5_sign_106 : decode cX5_sign 106 = .ok (.lload_n 1, 1) := by decide +kernel
theorem dX5_sign_107 : decode cX5_sign 107 = .ok (.lload_n 3, 1) := by decide +kernel
theorem dX5_sign_108 : decode cX5_sign 108 = .ok (.lcmp, 1) := by decide +kernel
theorem dX5_sign_109 : decode cX5_sign 109 = .ok (.ifCond .ge 7, 3) := by decide +kernel
theorem dX5_sign_112 : decode cX5_sign 112 = .ok (.iconst 1, 1) := by decide +kernel
theorem dX5_sign_113 : decode cX5_sign 113 = .ok (.goto 4, 3) := by decide +kernel
theorem dX5_sign_116 : decode cX5_sign 116 = .ok (.iconst 0, 1) := by decide +kernel
theorem dX5_sign_117 : decode cX5_sign 117 = .ok (.invokestatic 36, 3) := by decide +kernel
theorem dX5_sign_120 : decode cX5_sign 120 = .ok (.lreturn, 1) := by decide +kernel
theorem dX5_sign_121 : decode cX5_sign 121 = .ok (.lload_n 1, 1) := by decide +kernel
theorem dX5_sign_122 : decode cX5_sign 122 = .ok (.lload_n 3, 1) := by decide +kernel
theorem dX5_sign_123 : decode cX5_sign 123 = .ok (.lcmp, 1) := by decide +kernel
theorem dX5_sign_124 : decode cX5_sign 124 = .ok (.ifCond .gt 7, 3) := by decide +kernel
theorem dX5_sign_127 : decode cX5_sign 127 = .ok (.iconst 1, 1) := by decide +kernel
theorem dX5_sign_128 : decode cX5_sign 128 = .ok (.goto 4, 3) := by decide +kernel
theorem dX5_sign_131 : decode cX5_sign 131 = .ok (.iconst 0, 1) := by decide +kernel
theorem dX5_sign_132 : decode cX5_sign 132 = .ok (.invokestatic 36, 3) := by decide +kernel
theorem dX5_sign_135 : decode cX5_sign 135 = .ok (.lreturn, 1) := by decide +kernel
theorem dX5_sign_136 : decode cX5_sign 136 = .ok (.lload_n 1, 1) := by decide +kernel
theorem dX5_sign_137 : decode cX5_sign 137 = .ok (.lload_n 3, 1) := by decide +kernel
theorem dX5_sign_138 : decode cX5_sign 138 = .ok (.lcmp, 1) := by decide +kernel
theorem dX5_sign_139 : decode cX5_sign 139 = .ok (.ifCond .ne 7, 3) := by decide +kernel
theorem dX5_sign_142 : decode cX5_sign 142 = .ok (.iconst 1, 1) := by decide +kernel
theorem dX5_sign_143 : decode cX5_sign 143 = .ok (.goto 4, 3) := by decide +kernel
theorem dX5_sign_146 : decode cX5_sign 146 = .ok (.iconst 0, 1) := by decide +kernel
theorem dX5_sign_147 : decode cX5_sign 147 = .ok (.invokestatic 36, 3) := by decide +kernel
theorem dX5_sign_150 : decode cX5_sign 150 = .ok (.lreturn, 1) := by decide +kernel
theorem dX5_sign_151 : decode cX5_sign 151 = .ok (.lload_n 1, 1) := by decide +kernel
theorem dX5_sign_152 : decode cX5_sign 152 = .ok (.lload_n 3, 1) := by decide +kernel
theorem dX5_sign_153 : decode cX5_sign 153 = .ok (.lcmp, 1) := by decide +kernel
theorem dX5_sign_154 : decode cX5_sign 154 = .ok (.ifCond .eq 7, 3) := by decide +kernel
theorem dX5_sign_157 : decode cX5_sign 157 = .ok (.iconst 1, 1) := by decide +kernel
theorem dX5_sign_158 : decode cX5_sign 158 = .ok (.goto 4, 3) := by decide +kernel
theorem dX5_sign_161 : decode cX5_sign 161 = .ok (.iconst 0, 1) := by decide +kernel
theorem dX5_sign_162 : decode cX5_sign 162 = .ok (.invokestatic 36, 3) := by decide +kernel
theorem dX5_sign_165 : decode cX5_sign 165 = .ok (.lreturn, 1) := by decide +kernel
theorem dX5_sign_166 : decode cX5_sign 166 = .ok (.lload_n 1, 1) := by decide +kernel
theorem dX5_sign_167 : decode cX5_sign 167 = .ok (.lload_n 3, 1) := by decide +kernel
theorem dX5_sign_168 : decode cX5_sign 168 = .ok (.lcmp, 1) := by decide +kernel
theorem dX5_sign_169 : decode cX5_sign 169 = .ok (.ifCond .lt 7, 3) := by decide +kernel
theorem dX5_sign_172 : decode cX5_sign 172 = .ok (.iconst 1, 1) := by decide +kernel
theorem dX5_sign_173 : decode cX5_sign 173 = .ok (.goto 4, 3) := by decide +kernel
theorem dX5_sign_176 : decode cX5_sign 176 = .ok (.iconst 0, 1) := by decide +kernel
theorem dX5_sign_177 : decode cX5_sign 177 = .ok (.invokestatic 36, 3) := by decide +kernel
theorem dX5_sign_180 : decode cX5_sign 180 = .ok (.lreturn, 1) := by decide +kernel
theorem dX5_sign_181 : decode cX5_sign 181 = .ok (.lload_n 1, 1) := by decide +kernel
theorem dX5_sign_182 : decode cX5_sign 182 = .ok (.lload_n 3, 1) := by decide +kernel
theorem dX5_sign_183 : decode cX5_sign 183 = .ok (.lcmp, 1) := by decide +kernel
theorem dX5_sign_184 : decode cX5_sign 184 = .ok (.ifCond .le 7, 3) := by decide +kernel
theorem dX5_sign_187 : decode cX5_sign 187 = .ok (.iconst 1, 1) := by decide +kernel
theorem dX5_sign_188 : decode cX5_sign 188 = .ok (.goto 4, 3) := by decide +kernel
theorem dX5_sign_191 : decode cX5_sign 191 = .ok (.iconst 0, 1) := by decide +kernel
theorem dX5_sign_192 : decode cX5_sign 192 = .ok (.invokestatic 36, 3) := by decide +kernel
theorem dX5_sign_195 : decode cX5_sign 195 = .ok (.lreturn, 1) := by decide +kernel
theorem dX5_sign_196 : decode cX5_sign 196 = .ok (.lload_n 1, 1) := by decide +kernel
theorem dX5_sign_197 : decode cX5_sign 197 = .ok (.lload_n 3, 1) := by decide +kernel
theorem dX5_sign_198 : decode cX5_sign 198 = .ok (.ladd, 1) := by decide +kernel
theorem dX5_sign_199 : decode cX5_sign 199 = .ok (.lreturn, 1) := by decide +kernel
theorem dX5_sign_200 : decode cX5_sign 200 = .ok (.lload_n 1, 1) := by decide +kernel
theorem dX5_sign_201 : decode cX5_sign 201 = .ok (.lload_n 3, 1) := by decide +kernel
theorem dX5_sign_202 : decode cX5_sign 202 = .ok (.lsub, 1) := by decide +kernel
theorem dX5_sign_203 : decode cX5_sign 203 = .ok (.lreturn, 1) := by decide +kernel
theorem dX5_sign_204 : decode cX5_sign 204 = .ok (.lload_n 1, 1) := by decide +kernel
theorem dX5_sign_205 : decode cX5_sign 205 = .ok (.lload_n 3, 1) := by decide +kernel
theorem dX5_sign_206 : decode cX5_sign 206 = .ok (.invokestatic 76, 3) := by decide +kernel
theorem dX5_sign_209 : decode cX5_sign 209 = .ok (.lreturn, 1) := by decide +kernel
theorem dX5_sign_210 : decode cX5_sign 210 = .ok (.lload_n 3, 1) := by decide +kernel
theorem dX5_sign_211 : decode cX5_sign 211 = .ok (.lconst 0, 1) := by decide +kernel
theorem dX5_sign_212 : decode cX5_sign 212 = .ok (.lcmp, 1) := by decide +kernel
theorem dX5_sign_213 : decode cX5_sign 213 = .ok (.ifCond .ne 9, 3) := by decide +kernel
theorem dX5_sign_216 : decode cX5_sign 216 = .ok (.ldc2_w 48, 3) := by decide +kernel
theorem dX5_sign_219 : decode cX5_sign 219 = .ok (.goto 6, 3) := by decide +kernel
theorem dX5_sign_222 : decode cX5_sign 222 = .ok (.lload_n 1, 1) := by decide +kernel
theorem dX5_sign_223 : decode cX5_sign 223 = .ok (.lload_n 3, 1) := by decide +kernel
theorem dX5_sign_224 : decode cX5_sign 224 = .ok (.ldiv, 1) := by decide +kernel
theorem dX5_sign_225 : decode cX5_sign 225 = .ok (.lreturn, 1) := by decide +kernel
theorem dX5_product_0 : decode cX5_product 0 = .ok (.lload_n 0, 1) := by decide +kernel
theorem dX5_product_1 : decode cX5_product 1 = .ok (.lconst 0, 1) := by decide +kernel
theorem dX5_product_2 : decode cX5_product 2 = .ok (.lcmp, 1) := by decide +kernel
theorem dX5_product_3 : decode cX5_product 3 = .ok (.ifCond .eq 9, 3) := by decide +kernel
theorem dX5_product_6 : decode cX5_product 6 = .ok (.lload_n 2, 1) := by decide +kernel
theorem dX5_product_7 : decode cX5_product 7 = .ok (.lconst 0, 1) := by decide +kernel
theorem dX5_product_8 : decode cX5_product 8 = .ok (.lcmp, 1) := by decide +kernel
theorem dX5_product_9 : decode cX5_product 9 = .ok (.ifCond .ne 5, 3) := by decide +kernel
theorem dX5_product_12 : decode cX5_product 12 = .ok (.lconst 0, 1) := by decide +kernel
theorem dX5_product_13 : decode cX5_product 13 = .ok (.lreturn, 1) := by decide +kernel
theorem dX5_product_14 : decode cX5_product 14 = .ok (.lload_n 2, 1) := by decide +kernel
theorem dX5_product_15 : decode cX5_product 15 = .ok (.lconst 0, 1) := by decide +kernel
theorem dX5_product_16 : decode cX5_product 16 = .ok (.lcmp, 1) := by decide +kernel
theorem dX5_product_17 : decode cX5_product 17 = .ok (.ifCond .ge 8, 3) := by decide +kernel
theorem dX5_product_20 : decode cX5_product 20 = .ok (.lload_n 2, 1) := by decide +kernel
theorem dX5_product_21 : decode cX5_product 21 = .ok (.lneg, 1) := by decide +kernel
theorem dX5_product_22 : decode cX5_product 22 = .ok (.goto 4, 3) := by decide +kernel
theorem dX5_product_25 : decode cX5_product 25 = .ok (.lload_n 2, 1) := by decide +kernel
theorem dX5_product_26 : decode cX5_product 26 = .ok (.ldc2_w 44, 3) := by decide +kernel
theorem dX5_product_29 : decode cX5_product 29 = .ok (.lload_n 0, 1) := by decide +kernel
theorem dX5_product_30 : decode cX5_product 30 = .ok (.lconst 0, 1) := by decide +kernel
theorem dX5_product_31 : decode cX5_product 31 = .ok (.lcmp, 1) := by decide +kernel
theorem dX5_product_32 : decode cX5_product 32 = .ok (.ifCond .ge 8, 3) := by decide +kernel
theorem dX5_product_35 : decode cX5_product 35 = .ok (.lload_n 0, 1) := by decide +kernel
theorem dX5_product_36 : decode cX5_product 36 = .ok (.lneg, 1) := by decide +kernel
theorem dX5_product_37 : decode cX5_product 37 = .ok (.goto 4, 3) := by decide +kernel
theorem dX5_product_40 : decode cX5_product 40 = .ok (.lload_n 0, 1) := by decide +kernel
theorem dX5_product_41 : decode cX5_product 41 = .ok (.ldiv, 1) := by decide +kernel
theorem dX5_product_42 : decode cX5_product 42 = .ok (.lcmp, 1) := by decide +kernel
theorem dX5_product_43 : decode cX5_product 43 = .ok (.ifCond .le 9, 3) := by decide +kernel
theorem dX5_product_46 : decode cX5_product 46 = .ok (.ldc2_w 48, 3) := by decide +kernel
theorem dX5_product_49 : decode cX5_product 49 = .ok (.goto 6, 3) := by decide +kernel
theorem dX5_product_52 : decode cX5_product 52 = .ok (.lload_n 0, 1) := by decide +kernel
theorem dX5_product_53 : decode cX5_product 53 = .ok (.lload_n 2, 1) := by decide +kernel
theorem dX5_product_54 : decode cX5_product 54 = .ok (.lmul, 1) := by decide +kernel
theorem dX5_product_55 : decode cX5_product 55 = .ok (.lreturn, 1) := by decide +kernel
theorem dX5_truth_0 : decode cX5_truth 0 = .ok (.iload_n 0, 1) := by decide +kernel
theorem dX5_truth_1 : decode cX5_truth 1 = .ok (.ifCond .eq 7, 3) := by decide +kernel
theorem dX5_truth_4 : decode cX5_truth 4 = .ok (.lconst 1, 1) := by decide +kernel
theorem dX5_truth_5 : decode cX5_truth 5 = .ok (.goto 4, 3) := by decide +kernel
theorem dX5_truth_8 : decode cX5_truth 8 = .ok (.lconst 0, 1) := by decide +kernel
theorem dX5_truth_9 : decode cX5_truth 9 = .ok (.lreturn, 1) := by decide +kernel
theorem dX6_init_0 : decode cX6_init 0 = .ok (.aload_n 0, 1) := by decide +kernel
theorem dX6_init_1 : decode cX6_init 1 = .ok (.invokespecial 3, 3) := by decide +kernel
theorem dX6_init_4 : decode cX6_init 4 = .ok (.aload_n 0, 1) := by decide +kernel
theorem dX6_init_5 : decode cX6_init 5 = .ok (.sipush 384, 3) := by decide +kernel
theorem dX6_init_8 : decode cX6_init 8 = .ok (.newarray .int, 2) := by decide +kernel
theorem dX6_init_10 : decode cX6_init 10 = .ok (.putfield 9, 3) := by decide +kernel
theorem dX6_init_13 : decode cX6_init 13 = .ok (.aload_n 0, 1) := by decide +kernel
theorem dX6_init_14 : decode cX6_init 14 = .ok (.bipush 36, 2) := by decide +kernel
theorem dX6_init_16 : decode cX6_init 16 = .ok (.newarray .int, 2) := by decide +kernel
theorem dX6_init_18 : decode cX6_init 18 = .ok (.putfield 15, 3) := by decide +kernel
theorem dX6_init_21 : decode cX6_init 21 = .ok (.aload_n 0, 1) := by decide +kernel
theorem dX6_init_22 : decode cX6_init 22 = .ok (.bipush 6, 2) := by decide +kernel
theorem dX6_init_24 : decode cX6_init 24 = .ok (.newarray .int, 2) := by decide +kernel
theorem dX6_init_26 : decode cX6_init 26 = .ok (.putfield 18, 3) := by decide +kernel
theorem dX6_init_29 : decode cX6_init 29 = .ok (.return_, 1) := by decide +kernel
theorem dX6_shortest_0 : decode cX6_shortest 0 = .ok (.aload_n 0, 1) := by decide +kernel
theorem dX6_shortest_1 : decode cX6_shortest 1 = .ok (.iconst 0, 1) := by decide +kernel
theorem dX6_shortest_2 : decode cX6_shortest 2 = .ok (.putfield 21, 3) := by decide +kernel
theorem dX6_shortest_5 : decode cX6_shortest 5 = .ok (.iconst 0, 1) := by decide +kernel
theorem dX6_shortest_6 : decode cX6_shortest 6 = .ok (.istore_n 3, 1) := by decide +kernel
theorem dX6_shortest_7 : decode cX6_shortest 7 = .ok (.iload_n 3, 1) := by decide +kernel
theorem dX6_shortest_8 : decode cX6_shortest 8 = .ok (.bipush 6, 2) := by decide +kernel
theorem dX6_shortest_10 : decode cX6_shortest 10 = .ok (.if_icmp .ge 47, 3) := by decide +kernel
theorem dX6_shortest_13 : decode cX6_shortest 13 = .ok (.iconst 0, 1) := by decide +kernel
theorem dX6_shortest_14 : decode cX6_shortest 14 = .ok (.istore 4, 2) := by decide +kernel
theorem dX6_shortest_16 : decode cX6_shortest 16 = .ok (.iload 4, 2) := by decide +kernel
theorem dX6_shortest_18 : decode cX6_shortest 18 = .ok (.bipush 6, 2) := by decide +kernel
theorem dX6_shortest_20 : decode cX6_shortest 20 = .ok (.if_icmp .ge 31, 3) := by decide +kernel
theorem dX6_shortest_23 : decode cX6_shortest 23 = .ok (.aload_n 0, 1) := by decide +kernel
theorem dX6_shortest_24 : decode cX6_shortest 24 = .ok (.getfield 15, 3) := by decide +kernel
theorem dX6_shortest_27 : decode cX6_shortest 27 = .ok (.iload_n 3, 1) := by decide +kernel
theorem dX6_shortest_28 : decode cX6_shortest 28 = .ok (.bipush 6, 2) := by decide +kernel
theorem dX6_shortest_30 : decode cX6_shortest 30 = .ok (.imul, 1) := by decide +kernel
theorem dX6_shortest_31 : decode cX6_shortest 31 = .ok (.iload 4, 2) := by decide +kernel
theorem dX6_shortest_33 : decode cX6_shortest 33 = .ok (.iadd, 1) := by decide +kernel
theorem dX6_shortest_34 : decode cX6_shortest 34 = .ok (.bipush 8, 2) := by decide +kernel
theorem dX6_shortest_36 : decode cX6_shortest 36 = .ok (.aload_n 1, 1) := by decide +kernel
theorem dX6_shortest_37 : decode cX6_shortest 37 = .ok (.iload_n 3, 1) := by decide +kernel
theorem dX6_shortest_38 : decode cX6_shortest 38 = .ok (.iload 4, 2) := by decide +kernel
theorem dX6_shortest_40 : decode cX6_shortest 40 = .ok (.invokevirtual 25, 3) := by decide +kernel
theorem dX6_shortest_43 : decode cX6_shortest 43 = .ok (.isub, 1) := by decide +kernel
theorem dX6_shortest_44 : decode cX6_shortest 44 = .ok (.iastore, 1) := by decide +kernel
theorem dX6_shortest_45 : decode cX6_shortest 45 = .ok (.iinc 4 1, 3) := by decide +kernel
theorem dX6_shortest_48 : decode cX6_shortest 48 = .ok (.goto (-32), 3) := by decide +kernel
theorem dX6_shortest_51 : decode cX6_shortest 51 = .ok (.iinc 3 1, 3) := by decide +kernel
theorem dX6_shortest_54 : decode cX6_shortest 54 = .ok (.goto (-47), 3) := by decide +kernel
theorem dX6_shortest_57 : decode cX6_shortest 57 = .ok (.iconst 1, 1) := by decide +kernel
theorem dX6_shortest_58 : decode cX6_shortest 58 = .ok (.istore_n 3, 1) := by decide +kernel
theorem dX6_shortest_59 : decode cX6_shortest 59 = .ok (.iload_n 3, 1) := by decide +kernel
theorem dX6_shortest_60 : decode cX6_shortest 60 = .ok (.iload_n 2, 1) := by decide +kernel
theorem dX6_shortest_61 : decode cX6_shortest 61 = .ok (.if_icmp .gt 69, 3) := by decide +kernel
theorem dX6_shortest_64 : decode cX6_shortest 64 = .ok (.iconst 0, 1) := by decide +kernel
theorem dX6_shortest_65 : decode cX6_shortest 65 = .ok (.istore 4, 2) := by decide +kernel
theorem dX6_shortest_67 : decode cX6_shortest 67 = .ok (.iload 4, 2) := by decide +kernel
theorem dX6_shortest_69 : decode cX6_shortest 69 = .ok (.bipush 6, 2) := by decide +kernel
theorem dX6_shortest_71 : decode cX6_shortest 71 = .ok (.if_icmp .ge 53, 3) := by decide +kernel
theorem dX6_shortest_74 : decode cX6_shortest 74 = .ok (.iload_n 3, 1) := by decide +kernel
theorem dX6_shortest_75 : decode cX6_shortest 75 = .ok (.iload_n 2, 1) := by decide +kernel
theorem dX6_shortest_76 : decode cX6_shortest 76 = .ok (.iconst (-1), 1) := by decide +kernel
theorem dX6_shortest_77 : decode cX6_shortest 77 = .ok (.ixor, 1) := by decide +kernel
theorem dX6_shortest_78 : decode cX6_shortest 78 = .ok (.iand, 1) := by decide +kernel
theorem dX6_shortest_79 : decode cX6_shortest 79 = .ok (.ifCond .ne 39, 3) := by decide +kernel
theorem dX6_shortest_82 : decode cX6_shortest 82 = .ok (.iload_n 3, 1) := by decide +kernel
theorem dX6_shortest_83 : decode cX6_shortest 83 = .ok (.iload 4, 2) := by decide +kernel
theorem dX6_shortest_85 : decode cX6_shortest 85 = .ok (.ishr, 1) := by decide +kernel
theorem dX6_shortest_86 : decode cX6_shortest 86 = .ok (.iconst 1, 1) := by decide +kernel
theorem dX6_shortest_87 : decode cX6_shortest 87 = .ok (.iand, 1) := by decide +kernel
theorem dX6_shortest_88 : decode cX6_shortest 88 = .ok (.iconst 1, 1) := by decide +kernel
theorem dX6_shortest_89 : decode cX6_shortest 89 = .ok (.if_icmp .ne 29, 3) := by decide +kernel
theorem dX6_shortest_92 : decode cX6_shortest 92 = .ok (.aload_n 0, 1) := by decide +kernel
theorem dX6_shortest_93 : decode cX6_shortest 93 = .ok (.getfield 9, 3) := by decide +kernel
theorem dX6_shortest_96 : decode cX6_shortest 96 = .ok (.iload_n 3, 1) := by decide +kernel
theorem dX6_shortest_97 : decode cX6_shortest 97 = .ok (.bipush 6, 2) := by decide +kernel
theorem dX6_shortest_99 : decode cX6_shortest 99 = .ok (.imul, 1) := by decide +kernel
theorem dX6_shortest_100 : decode cX6_shortest 100 = .ok (.iload 4, 2) := by decide +kernel
theorem dX6_shortest_102 : decode cX6_shortest 102 = .ok (.iadd, 1) := by decide +kernel
theorem dX6_shortest_103 : decode cX6_shortest 103 = .ok (.aload_n 0, 1) := by decide +kernel
theorem dX6_shortest_104 : decode cX6_shortest 104 = .ok (.iload 4, 2) := by decide +kernel
theorem dX6_shortest_106 : decode cX6_shortest 106 = .ok (.iload_n 3, 1) := by decide +kernel
theorem dX6_shortest_107 : decode cX6_shortest 107 = .ok (.iconst 1, 1) := by decide +kernel
theorem dX6_shortest_108 : decode cX6_shortest 108 = .ok (.iload 4, 2) := by decide +kernel
theorem dX6_shortest_110 : decode cX6_shortest 110 = .ok (.ishl, 1) := by decide +kernel
theorem dX6_shortest_111 : decode cX6_shortest 111 = .ok (.iconst (-1), 1) := by decide +kernel
theorem dX6_shortest_112 : decode cX6_shortest 112 = .ok (.ixor, 1) := by decide +kernel
theorem dX6_shortest_113 : decode cX6_shortest 113 = .ok (.iand, 1) := by decide +kernel
theorem dX6_shortest_114 : decode cX6_shortest 114 = .ok (.invokevirtual 31, 3) := by decide +kernel
theorem dX6_shortest_117 : decode cX6_shortest 117 = .ok (.iastore, 1) := by decide +kernel
theorem dX6_shortest_118 : decode cX6_shortest 118 = .ok (.iinc 4 1, 3) := by decide +kernel
theorem dX6_shortest_121 : decode cX6_shortest 121 = .ok (.goto (-54), 3) := by decide +kernel
theorem dX6_shortest_124 : decode cX6_shortest 124 = .ok (.iinc 3 1, 3) := by decide +kernel
theorem dX6_shortest_127 : decode cX6_shortest 127 = .ok (.goto (-68), 3) := by decide +kernel
theorem dX6_shortest_130 : decode cX6_shortest 130 = .ok (.aload_n 0, 1) := by decide +kernel
theorem dX6_shortest_131 : decode cX6_shortest 131 = .ok (.iconst (-1), 1) := by decide +kernel
theorem dX6_shortest_132 : decode cX6_shortest 132 = .ok (.iload_n 2, 1) := by decide +kernel
theorem dX6_shortest_133 : decode cX6_shortest 133 = .ok (.invokevirtual 34, 3) := by decide +kernel
theorem dX6_shortest_136 : decode cX6_shortest 136 = .ok (.istore_n 3, 1) := by decide +kernel
theorem dX6_shortest_137 : decode cX6_shortest 137 = .ok (.iconst (-1), 1) := by decide +kernel
theorem dX6_shortest_138 : decode cX6_shortest 138 = .ok (.istore 4, 2) := by decide +kernel
theorem dX6_shortest_140 : decode cX6_shortest 140 = .ok (.iload_n 2, 1) := by decide +kernel
theorem dX6_shortest_141 : decode cX6_shortest 141 = .ok (.istore 5, 2) := by decide +kernel
theorem dX6_shortest_143 : decode cX6_shortest 143 = .ok (.iconst 0, 1) := by decide +kernel
theorem dX6_shortest_144 : decode cX6_shortest 144 = .ok (.istore 6, 2) := by decide +kernel
theorem dX6_shortest_146 : decode cX6_shortest 146 = .ok (.iload 6, 2) := by decide +kernel
theorem dX6_shortest_148 : decode cX6_shortest 148 = .ok (.bipush 6, 2) := by decide +kernel
theorem dX6_shortest_150 : decode cX6_shortest 150 = .ok (.if_icmp .ge 54, 3) := by decide +kernel
theorem dX6_shortest_153 : decode cX6_shortest 153 = .ok (.iload 5, 2) := by decide +kernel
theorem dX6_shortest_155 : decode cX6_shortest 155 = .ok (.ifCond .eq 49, 3) := by decide +kernel
theorem dX6_shortest_158 : decode cX6_shortest 158 = .ok (.aload_n 0, 1) := by decide +kernel
theorem dX6_shortest_159 : decode cX6_shortest 159 = .ok (.iload 4, 2) := by decide +kernel
theorem dX6_shortest_161 : decode cX6_shortest 161 = .ok (.iload 5, 2) := by decide +kernel
theorem dX6_shortest_163 : decode cX6_shortest 163 = .ok (.invokevirtual 37, 3) := by decide +kernel
theorem dX6_shortest_166 : decode cX6_shortest 166 = .ok (.istore 4, 2) := by decide +kernel
theorem dX6_shortest_168 : decode cX6_shortest 168 = .ok (.iload 5, 2) := by decide +kernel
theorem dX6_shortest_170 : decode cX6_shortest 170 = .ok (.iconst 1, 1) := by decide +kernel
theorem dX6_shortest_171 : decode cX6_shortest 171 = .ok (.iload 4, 2) := by decide +kernel
theorem dX6_shortest_173 : decode cX6_shortest 173 = .ok (.ishl, 1) := by decide +kernel
theorem dX6_shortest_174 : decode cX6_shortest 174 = .ok (.iconst (-1), 1) := by decide +kernel
theorem dX6_shortest_175 : decode cX6_shortest 175 = .ok (.ixor, 1) := by decide +kernel
theorem dX6_shortest_176 : decode cX6_shortest 176 = .ok (.iand, 1) := by decide +kernel
theorem dX6_shortest_177 : decode cX6_shortest 177 = .ok (.istore 5, 2) := by decide +kernel
theorem dX6_shortest_179 : decode cX6_shortest 179 = .ok (.aload_n 0, 1) := by decide +kernel
theorem dX6_shortest_180 : decode cX6_shortest 180 = .ok (.getfield 18, 3) := by decide +kernel
theorem dX6_shortest_183 : decode cX6_shortest 183 = .ok (.iload 6, 2) := by decide +kernel
theorem dX6_shortest_185 : decode cX6_shortest 185 = .ok (.iload 4, 2) := by decide +kernel
theorem dX6_shortest_187 : decode cX6_shortest 187 = .ok (.iastore, 1) := by decide +kernel
theorem dX6_shortest_188 : decode cX6_shortest 188 = .ok (.aload_n 0, 1) := by decide +kernel
theorem dX6_shortest_189 : decode cX6_shortest 189 = .ok (.dup, 1) := by decide +kernel
theorem dX6_shortest_190 : decode cX6_shortest 190 = .ok (.getfield 21, 3) := by decide +kernel
theorem dX6_shortest_193 : decode cX6_shortest 193 = .ok (.iconst 1, 1) := by decide +kernel
theorem dX6_shortest_194 : decode cX6_shortest 194 = .ok (.iadd, 1) := by decide +kernel
theorem dX6_shortest_195 : decode cX6_shortest 195 = .ok (.putfield 21, 3) := by decide +kernel
theorem dX6_shortest_198 : decode cX6_shortest 198 = .ok (.iinc 6 1, 3) := by decide +kernel
theorem dX6_shortest_201 : decode cX6_shortest 201 = .ok (.goto (-55), 3) := by decide +kernel
theorem dX6_shortest_204 : decode cX6_shortest 204 = .ok (.iload_n 3, 1) := by decide +kernel
theorem dX6_shortest_205 : decode cX6_shortest 205 = .ok (.ireturn, 1) := by decide +kernel
theorem dX6_shortestFrom_0 : decode cX6_shortestFrom 0 = .ok (.iload_n 2, 1) := by decide +kernel
theorem dX6_shortestFrom_1 : decode cX6_shortestFrom 1 = .ok (.ifCond .ne 8, 3) := by decide +kernel
theorem dX6_shortestFrom_4 : decode cX6_shortestFrom 4 = .ok (.bipush 8, 2) := by decide +kernel
theorem dX6_shortestFrom_6 : decode cX6_shortestFrom 6 = .ok (.goto 9, 3) := by decide +kernel
theorem dX6_shortestFrom_9 : decode cX6_shortestFrom 9 = .ok (.aload_n 0, 1) := by decide +kernel
theorem dX6_shortestFrom_10 : decode cX6_shortestFrom 10 = .ok (.iload_n 1, 1) := by decide +kernel
theorem dX6_shortestFrom_11 : decode cX6_shortestFrom 11 = .ok (.iload_n 2, 1) := by decide +kernel
theorem dX6_shortestFrom_12 : decode cX6_shortestFrom 12 = .ok (.invokevirtual 34, 3) := by decide +kernel
theorem dX6_shortestFrom_15 : decode cX6_shortestFrom 15 = .ok (.ireturn, 1) := by decide +kernel
theorem dX6_lengthBy_0 : decode cX6_lengthBy 0 = .ok (.aload_n 0, 1) := by decide +kernel
theorem dX6_lengthBy_1 : decode cX6_lengthBy 1 = .ok (.getfield 9, 3) := by decide +kernel
theorem dX6_lengthBy_4 : decode cX6_lengthBy 4 = .ok (.iload_n 3, 1) := by decide +kernel
theorem dX6_lengthBy_5 : decode cX6_lengthBy 5 = .ok (.bipush 6, 2) := by decide +kernel
theorem dX6_lengthBy_7 : decode cX6_lengthBy 7 = .ok (.imul, 1) := by decide +kernel
theorem dX6_lengthBy_8 : decode cX6_lengthBy 8 = .ok (.iload_n 2, 1) := by decide +kernel
theorem dX6_lengthBy_9 : decode cX6_lengthBy 9 = .ok (.iadd, 1) := by decide +kernel
theorem dX6_lengthBy_10 : decode cX6_lengthBy 10 = .ok (.iaload, 1) := by decide +kernel
theorem dX6_lengthBy_11 : decode cX6_lengthBy 11 = .ok (.iload_n 1, 1) := by decide +kernel
theorem dX6_lengthBy_12 : decode cX6_lengthBy 12 = .ok (.iconst (-1), 1) := by decide +kernel
theorem dX6_lengthBy_13 : decode cX6_lengthBy 13 = .ok (.if_icmp .ne 7, 3) := by decide +kernel
theorem dX6_lengthBy_16 : decode cX6_lengthBy 16 = .ok (.iconst 0, 1) := by decide +kernel
theorem dX6_lengthBy_17 : decode cX6_lengthBy 17 = .ok (.goto 14, 3) := by decide +kernel
theorem dX6_lengthBy_20 : decode cX6_lengthBy 20 = .ok (.aload_n 0, 1) := by decide +kernel
theorem dX6_lengthBy_21 : decode cX6_lengthBy 21 = .ok (.getfield 15, 3) := by decide +kernel
theorem dX6_lengthBy_24 : decode cX6_lengthBy 24 = .ok (.iload_n 1, 1) := by decide +kernel
theorem dX6_lengthBy_25 : decode cX6_lengthBy 25 = .ok (.bipush 6, 2) := by decide +kernel
theorem dX6_lengthBy_27 : decode cX6_lengthBy 27 = .ok (.imul, 1) := by decide +kernel
theorem dX6_lengthBy_28 : decode cX6_lengthBy 28 = .ok (.iload_n 2, 1) := by decide +kernel
theorem dX6_lengthBy_29 : decode cX6_lengthBy 29 = .ok (.iadd, 1) := by decide +kernel
theorem dX6_lengthBy_30 : decode cX6_lengthBy 30 = .ok (.iaload, 1) := by decide +kernel
theorem dX6_lengthBy_31 : decode cX6_lengthBy 31 = .ok (.iadd, 1) := by decide +kernel
theorem dX6_lengthBy_32 : decode cX6_lengthBy 32 = .ok (.ireturn, 1) := by decide +kernel
theorem dX6_shortestNext_0 : decode cX6_shortestNext 0 = .ok (.iconst (-1), 1) := by decide +kernel
theorem dX6_shortestNext_1 : decode cX6_shortestNext 1 = .ok (.istore_n 3, 1) := by decide +kernel
theorem dX6_shortestNext_2 : decode cX6_shortestNext 2 = .ok (.iconst 5, 1) := by decide +kernel
theorem dX6_shortestNext_3 : decode cX6_shortestNext 3 = .ok (.istore 4, 2) := by decide +kernel
theorem dX6_shortestNext_5 : decode cX6_shortestNext 5 = .ok (.iload 4, 2) := by decide +kernel
theorem dX6_shortestNext_7 : decode cX6_shortestNext 7 = .ok (.ifCond .lt 45, 3) := by decide +kernel
theorem dX6_shortestNext_10 : decode cX6_shortestNext 10 = .ok (.iload_n 2, 1) := by decide +kernel
theorem dX6_shortestNext_11 : decode cX6_shortestNext 11 = .ok (.iload 4, 2) := by decide +kernel
theorem dX6_shortestNext_13 : decode cX6_shortestNext 13 = .ok (.ishr, 1) := by decide +kernel
theorem dX6_shortestNext_14 : decode cX6_shortestNext 14 = .ok (.iconst 1, 1) := by decide +kernel
theorem dX6_shortestNext_15 : decode cX6_shortestNext 15 = .ok (.iand, 1) := by decide +kernel
theorem dX6_shortestNext_16 : decode cX6_shortestNext 16 = .ok (.iconst 1, 1) := by decide +kernel
theorem dX6_shortestNext_17 : decode cX6_shortestNext 17 = .ok (.if_icmp .ne 29, 3) := by decide +kernel
theorem dX6_shortestNext_20 : decode cX6_shortestNext 20 = .ok (.iload_n 3, 1) := by decide +kernel
theorem dX6_shortestNext_21 : decode cX6_shortestNext 21 = .ok (.iconst (-1), 1) := by decide +kernel
theorem dX6_shortestNext_22 : decode cX6_shortestNext 22 = .ok (.if_icmp .eq 21, 3) := by decide +kernel
theorem dX6_shortestNext_25 : decode cX6_shortestNext 25 = .ok (.aload_n 0, 1) := by decide +kernel
theorem dX6_shortestNext_26 : decode cX6_shortestNext 26 = .ok (.iload_n 1, 1) := by decide +kernel
theorem dX6_shortestNext_27 : decode cX6_shortestNext 27 = .ok (.iload 4, 2) := by decide +kernel
theorem dX6_shortestNext_29 : decode cX6_shortestNext 29 = .ok (.iload_n 2, 1) := by decide +kernel
theorem dX6_shortestNext_30 : decode cX6_shortestNext 30 = .ok (.invokevirtual 40, 3) := by decide +kernel
theorem dX6_shortestNext_33 : decode cX6_shortestNext 33 = .ok (.aload_n 0, 1) := by decide +kernel
theorem dX6_shortestNext_34 : decode cX6_shortestNext 34 = .ok (.iload_n 1, 1) := by decide +kernel
theorem dX6_shortestNext_35 : decode cX6_shortestNext 35 = .ok (.iload_n 3, 1) := by decide +kernel
theorem dX6_shortestNext_36 : decode cX6_shortestNext 36 = .ok (.iload_n 2, 1) := by decide +kernel
theorem dX6_shortestNext_37 : decode cX6_shortestNext 37 = .ok (.invokevirtual 40, 3) := by decide +kernel
theorem dX6_shortestNext_40 : decode cX6_shortestNext 40 = .ok (.if_icmp .gt 6, 3) := by decide +kernel
theorem dX6_shortestNext_43 : decode cX6_shortestNext 43 = .ok (.iload 4, 2) := by decide +kernel
theorem dX6_shortestNext_45 : decode cX6_shortestNext 45 = .ok (.istore_n 3, 1) := by decide +kernel
theorem dX6_shortestNext_46 : decode cX6_shortestNext 46 = .ok (.iinc 4 (-1), 3) := by decide +kernel
theorem dX6_shortestNext_49 : decode cX6_shortestNext 49 = .ok (.goto (-44), 3) := by decide +kernel
theorem dX6_shortestNext_52 : decode cX6_shortestNext 52 = .ok (.iload_n 3, 1) := by decide +kernel
theorem dX6_shortestNext_53 : decode cX6_shortestNext 53 = .ok (.ireturn, 1) := by decide +kernel
theorem dX6_shortestOf_0 : decode cX6_shortestOf 0 = .ok (.aload_n 0, 1) := by decide +kernel
theorem dX6_shortestOf_1 : decode cX6_shortestOf 1 = .ok (.iload_n 1, 1) := by decide +kernel
theorem dX6_shortestOf_2 : decode cX6_shortestOf 2 = .ok (.iload_n 2, 1) := by decide +kernel
theorem dX6_shortestOf_3 : decode cX6_shortestOf 3 = .ok (.invokevirtual 37, 3) := by decide +kernel
theorem dX6_shortestOf_6 : decode cX6_shortestOf 6 = .ok (.istore_n 3, 1) := by decide +kernel
theorem dX6_shortestOf_7 : decode cX6_shortestOf 7 = .ok (.iload_n 3, 1) := by decide +kernel
theorem dX6_shortestOf_8 : decode cX6_shortestOf 8 = .ok (.iconst (-1), 1) := by decide +kernel
theorem dX6_shortestOf_9 : decode cX6_shortestOf 9 = .ok (.if_icmp .ne 7, 3) := by decide +kernel
theorem dX6_shortestOf_12 : decode cX6_shortestOf 12 = .ok (.iconst 0, 1) := by decide +kernel
theorem dX6_shortestOf_13 : decode cX6_shortestOf 13 = .ok (.goto 10, 3) := by decide +kernel
theorem dX6_shortestOf_16 : decode cX6_shortestOf 16 = .ok (.aload_n 0, 1) := by decide +kernel
theorem dX6_shortestOf_17 : decode cX6_shortestOf 17 = .ok (.iload_n 1, 1) := by decide +kernel
theorem dX6_shortestOf_18 : decode cX6_shortestOf 18 = .ok (.iload_n 3, 1) := by decide +kernel
theorem dX6_shortestOf_19 : decode cX6_shortestOf 19 = .ok (.iload_n 2, 1) := by decide +kernel
theorem dX6_shortestOf_20 : decode cX6_shortestOf 20 = .ok (.invokevirtual 40, 3) := by decide +kernel
theorem dX6_shortestOf_23 : decode cX6_shortestOf 23 = .ok (.ireturn, 1) := by decide +kernel
theorem dX6_longest_0 : decode cX6_longest 0 = .ok (.iconst 1, 1) := by decide +kernel
theorem dX6_longest_1 : decode cX6_longest 1 = .ok (.aload_n 1, 1) := by decide +kernel
theorem dX6_longest_2 : decode cX6_longest 2 = .ok (.getfield 44, 3) := by decide +kernel
theorem dX6_longest_5 : decode cX6_longest 5 = .ok (.ishl, 1) := by decide +kernel
theorem dX6_longest_6 : decode cX6_longest 6 = .ok (.iconst 1, 1) := by decide +kernel
theorem dX6_longest_7 : decode cX6_longest 7 = .ok (.isub, 1) := by decide +kernel
theorem dX6_longest_8 : decode cX6_longest 8 = .ok (.istore_n 2, 1) := by decide +kernel
theorem dX6_longest_9 : decode cX6_longest 9 = .ok (.iconst 1, 1) := by decide +kernel
theorem dX6_longest_10 : decode cX6_longest 10 = .ok (.istore_n 3, 1) := by decide +kernel
theorem dX6_longest_11 : decode cX6_longest 11 = .ok (.iload_n 3, 1) := by decide +kernel
theorem dX6_longest_12 : decode cX6_longest 12 = .ok (.iload_n 2, 1) := by decide +kernel
theorem dX6_longest_13 : decode cX6_longest 13 = .ok (.if_icmp .gt 105, 3) := by decide +kernel
theorem dX6_longest_16 : decode cX6_longest 16 = .ok (.iconst 0, 1) := by decide +kernel
theorem dX6_longest_17 : decode cX6_longest 17 = .ok (.istore 4, 2) := by decide +kernel
theorem dX6_longest_19 : decode cX6_longest 19 = .ok (.iload 4, 2) := by decide +kernel
theorem dX6_longest_21 : decode cX6_longest 21 = .ok (.aload_n 1, 1) := by decide +kernel
theorem dX6_longest_22 : decode cX6_longest 22 = .ok (.getfield 44, 3) := by decide +kernel
theorem dX6_longest_25 : decode cX6_longest 25 = .ok (.if_icmp .ge 87, 3) := by decide +kernel
theorem dX6_longest_28 : decode cX6_longest 28 = .ok (.iload_n 3, 1) := by decide +kernel
theorem dX6_longest_29 : decode cX6_longest 29 = .ok (.iload 4, 2) := by decide +kernel
theorem dX6_longest_31 : decode cX6_longest 31 = .ok (.ishr, 1) := by decide +kernel
theorem dX6_longest_32 : decode cX6_longest 32 = .ok (.iconst 1, 1) := by decide +kernel
theorem dX6_longest_33 : decode cX6_longest 33 = .ok (.iand, 1) := by decide +kernel
theorem dX6_longest_34 : decode cX6_longest 34 = .ok (.iconst 1, 1) := by decide +kernel
theorem dX6_longest_35 : decode cX6_longest 35 = .ok (.if_icmp .ne 71, 3) := by decide +kernel
theorem dX6_longest_38 : decode cX6_longest 38 = .ok (.iload_n 3, 1) := by decide +kernel
theorem dX6_longest_39 : decode cX6_longest 39 = .ok (.iconst 1, 1) := by decide +kernel
theorem dX6_longest_40 : decode cX6_longest 40 = .ok (.iload 4, 2) := by decide +kernel
theorem dX6_longest_42 : decode cX6_longest 42 = .ok (.ishl, 1) := by decide +kernel
theorem dX6_longest_43 : decode cX6_longest 43 = .ok (.iconst (-1), 1) := by decide +kernel
theorem dX6_longest_44 : decode cX6_longest 44 = .ok (.ixor, 1) := by decide +kernel
theorem dX6_longest_45 : decode cX6_longest 45 = .ok (.iand, 1) := by decide +kernel
theorem dX6_longest_46 : decode cX6_longest 46 = .ok (.istore 5, 2) := by decide +kernel
theorem dX6_longest_48 : decode cX6_longest 48 = .ok (.aload_n 0, 1) := by decide +kernel
theorem dX6_longest_49 : decode cX6_longest 49 = .ok (.iload 5, 2) := by decide +kernel
theorem dX6_longest_51 : decode cX6_longest 51 = .ok (.aload_n 1, 1) := by decide +kernel
theorem dX6_longest_52 : decode cX6_longest 52 = .ok (.getfield 49, 3) := by decide +kernel
theorem dX6_longest_55 : decode cX6_longest 55 = .ok (.iload 4, 2) := by decide +kernel
theorem dX6_longest_57 : decode cX6_longest 57 = .ok (.aaload, 1) := by decide +kernel
theorem dX6_longest_58 : decode cX6_longest 58 = .ok (.getfield 53, 3) := by decide +kernel
theorem dX6_longest_61 : decode cX6_longest 61 = .ok (.iand, 1) := by decide +kernel
theorem dX6_longest_62 : decode cX6_longest 62 = .ok (.iload 5, 2) := by decide +kernel
theorem dX6_longest_64 : decode cX6_longest 64 = .ok (.invokevirtual 58, 3) := by decide +kernel
theorem dX6_longest_67 : decode cX6_longest 67 = .ok (.istore 6, 2) := by decide +kernel
theorem dX6_longest_69 : decode cX6_longest 69 = .ok (.aload_n 0, 1) := by decide +kernel
theorem dX6_longest_70 : decode cX6_longest 70 = .ok (.getfield 9, 3) := by decide +kernel
theorem dX6_longest_73 : decode cX6_longest 73 = .ok (.iload_n 3, 1) := by decide +kernel
theorem dX6_longest_74 : decode cX6_longest 74 = .ok (.bipush 6, 2) := by decide +kernel
theorem dX6_longest_76 : decode cX6_longest 76 = .ok (.imul, 1) := by decide +kernel
theorem dX6_longest_77 : decode cX6_longest 77 = .ok (.iload 4, 2) := by decide +kernel
theorem dX6_longest_79 : decode cX6_longest 79 = .ok (.iadd, 1) := by decide +kernel
theorem dX6_longest_80 : decode cX6_longest 80 = .ok (.iload 6, 2) := by decide +kernel
theorem dX6_longest_82 : decode cX6_longest 82 = .ok (.iconst (-1), 1) := by decide +kernel
theorem dX6_longest_83 : decode cX6_longest 83 = .ok (.if_icmp .ne 7, 3) := by decide +kernel
theorem dX6_longest_86 : decode cX6_longest 86 = .ok (.iconst 1, 1) := by decide +kernel
theorem dX6_longest_87 : decode cX6_longest 87 = .ok (.goto 18, 3) := by decide +kernel
theorem dX6_longest_90 : decode cX6_longest 90 = .ok (.iconst 1, 1) := by decide +kernel
theorem dX6_longest_91 : decode cX6_longest 91 = .ok (.aload_n 0, 1) := by decide +kernel
theorem dX6_longest_92 : decode cX6_longest 92 = .ok (.getfield 9, 3) := by decide +kernel
theorem dX6_longest_95 : decode cX6_longest 95 = .ok (.iload 5, 2) := by decide +kernel
theorem dX6_longest_97 : decode cX6_longest 97 = .ok (.bipush 6, 2) := by decide +kernel
theorem dX6_longest_99 : decode cX6_longest 99 = .ok (.imul, 1) := by decide +kernel
theorem dX6_longest_100 : decode cX6_longest 100 = .ok (.iload 6, 2) := by decide +kernel
theorem dX6_longest_102 : decode cX6_longest 102 = .ok (.iadd, 1) := by decide +kernel
theorem dX6_longest_103 : decode cX6_longest 103 = .ok (.iaload, 1) := by decide +kernel
theorem dX6_longest_104 : decode cX6_longest 104 = .ok (.iadd, 1) := by decide +kernel
theorem dX6_longest_105 : decode cX6_longest 105 = .ok (.iastore, 1) := by decide +kernel
theorem dX6_longest_106 : decode cX6_longest 106 = .ok (.iinc 4 1, 3) := by decide +kernel
theorem dX6_longest_109 : decode cX6_longest 109 = .ok (.goto (-90), 3) := by decide +kernel
theorem dX6_longest_112 : decode cX6_longest 112 = .ok (.iinc 3 1, 3) := by decide +kernel
theorem dX6_longest_115 : decode cX6_longest 115 = .ok (.goto (-104), 3) := by decide +kernel
theorem dX6_longest_118 : decode cX6_longest 118 = .ok (.aload_n 0, 1) := by decide +kernel
theorem dX6_longest_119 : decode cX6_longest 119 = .ok (.iconst 0, 1) := by decide +kernel
theorem dX6_longest_120 : decode cX6_longest 120 = .ok (.putfield 21, 3) := by decide +kernel
theorem dX6_longest_123 : decode cX6_longest 123 = .ok (.iload_n 2, 1) := by decide +kernel
theorem dX6_longest_124 : decode cX6_longest 124 = .ok (.istore_n 3, 1) := by decide +kernel
theorem dX6_longest_125 : decode cX6_longest 125 = .ok (.aload_n 0, 1) := by decide +kernel
theorem dX6_longest_126 : decode cX6_longest 126 = .ok (.iload_n 2, 1) := by decide +kernel
theorem dX6_longest_127 : decode cX6_longest 127 = .ok (.iload_n 2, 1) := by decide +kernel
theorem dX6_longest_128 : decode cX6_longest 128 = .ok (.invokevirtual 58, 3) := by decide +kernel
theorem dX6_longest_131 : decode cX6_longest 131 = .ok (.istore 4, 2) := by decide +kernel
theorem dX6_longest_133 : decode cX6_longest 133 = .ok (.iconst 0, 1) := by decide +kernel
theorem dX6_longest_134 : decode cX6_longest 134 = .ok (.istore 5, 2) := by decide +kernel
theorem dX6_longest_136 : decode cX6_longest 136 = .ok (.iload 5, 2) := by decide +kernel
theorem dX6_longest_138 : decode cX6_longest 138 = .ok (.bipush 6, 2) := by decide +kernel
theorem dX6_longest_140 : decode cX6_longest 140 = .ok (.if_icmp .ge 62, 3) := by decide +kernel
theorem dX6_longest_143 : decode cX6_longest 143 = .ok (.iload 4, 2) := by decide +kernel
theorem dX6_longest_145 : decode cX6_longest 145 = .ok (.iconst (-1), 1) := by decide +kernel
theorem dX6_longest_146 : decode cX6_longest 146 = .ok (.if_icmp .eq 56, 3) := by decide +kernel
theorem dX6_longest_149 : decode cX6_longest 149 = .ok (.aload_n 0, 1) := by decide +kernel
theorem dX6_longest_150 : decode cX6_longest 150 = .ok (.getfield 18, 3) := by decide +kernel
theorem dX6_longest_153 : decode cX6_longest 153 = .ok (.iload 5, 2) := by decide +kernel
theorem dX6_longest_155 : decode cX6_longest 155 = .ok (.iload 4, 2) := by decide +kernel
theorem dX6_longest_157 : decode cX6_longest 157 = .ok (.iastore, 1) := by decide +kernel
theorem dX6_longest_158 : decode cX6_longest 158 = .ok (.aload_n 0, 1) := by decide +kernel
theorem dX6_longest_159 : decode cX6_longest 159 = .ok (.dup, 1) := by decide +kernel
theorem dX6_longest_160 : decode cX6_longest 160 = .ok (.getfield 21, 3) := by decide +kernel
theorem dX6_longest_163 : decode cX6_longest 163 = .ok (.iconst 1, 1) := by decide +kernel
theorem dX6_longest_164 : decode cX6_longest 164 = .ok (.iadd, 1) := by decide +kernel
theorem dX6_longest_165 : decode cX6_longest 165 = .ok (.putfield 21, 3) := by decide +kernel
theorem dX6_longest_168 : decode cX6_longest 168 = .ok (.iload_n 3, 1) := by decide +kernel
theorem dX6_longest_169 : decode cX6_longest 169 = .ok (.iconst 1, 1) := by decide +kernel
theorem dX6_longest_170 : decode cX6_longest 170 = .ok (.iload 4, 2) := by decide +kernel
theorem dX6_longest_172 : decode cX6_longest 172 = .ok (.ishl, 1) := by decide +kernel
theorem dX6_longest_173 : decode cX6_longest 173 = .ok (.iconst (-1), 1) := by decide +kernel
theorem dX6_longest_174 : decode cX6_longest 174 = .ok (.ixor, 1) := by decide +kernel
theorem dX6_longest_175 : decode cX6_longest 175 = .ok (.iand, 1) := by decide +kernel
theorem dX6_longest_176 : decode cX6_longest 176 = .ok (.istore_n 3, 1) := by decide +kernel
theorem dX6_longest_177 : decode cX6_longest 177 = .ok (.aload_n 0, 1) := by decide +kernel
theorem dX6_longest_178 : decode cX6_longest 178 = .ok (.iload_n 3, 1) := by decide +kernel
theorem dX6_longest_179 : decode cX6_longest 179 = .ok (.aload_n 1, 1) := by decide +kernel
theorem dX6_longest_180 : decode cX6_longest 180 = .ok (.getfield 49, 3) := by decide +kernel
theorem dX6_longest_183 : decode cX6_longest 183 = .ok (.iload 4, 2) := by decide +kernel
theorem dX6_longest_185 : decode cX6_longest 185 = .ok (.aaload, 1) := by decide +kernel
theorem dX6_longest_186 : decode cX6_longest 186 = .ok (.getfield 53, 3) := by decide +kernel
theorem dX6_longest_189 : decode cX6_longest 189 = .ok (.iand, 1) := by decide +kernel
theorem dX6_longest_190 : decode cX6_longest 190 = .ok (.iload_n 3, 1) := by decide +kernel
theorem dX6_longest_191 : decode cX6_longest 191 = .ok (.invokevirtual 58, 3) := by decide +kernel
theorem dX6_longest_194 : decode cX6_longest 194 = .ok (.istore 4, 2) := by decide +kernel
theorem dX6_longest_196 : decode cX6_longest 196 = .ok (.iinc 5 1, 3) := by decide +kernel
theorem dX6_longest_199 : decode cX6_longest 199 = .ok (.goto (-63), 3) := by decide +kernel
theorem dX6_longest_202 : decode cX6_longest 202 = .ok (.return_, 1) := by decide +kernel
theorem dX6_longestNext_0 : decode cX6_longestNext 0 = .ok (.iconst (-1), 1) := by decide +kernel
theorem dX6_longestNext_1 : decode cX6_longestNext 1 = .ok (.istore_n 3, 1) := by decide +kernel
theorem dX6_longestNext_2 : decode cX6_longestNext 2 = .ok (.iconst 5, 1) := by decide +kernel
theorem dX6_longestNext_3 : decode cX6_longestNext 3 = .ok (.istore 4, 2) := by decide +kernel
theorem dX6_longestNext_5 : decode cX6_longestNext 5 = .ok (.iload 4, 2) := by decide +kernel
theorem dX6_longestNext_7 : decode cX6_longestNext 7 = .ok (.ifCond .lt 53, 3) := by decide +kernel
theorem dX6_longestNext_10 : decode cX6_longestNext 10 = .ok (.iload_n 1, 1) := by decide +kernel
theorem dX6_longestNext_11 : decode cX6_longestNext 11 = .ok (.iload 4, 2) := by decide +kernel
theorem dX6_longestNext_13 : decode cX6_longestNext 13 = .ok (.ishr, 1) := by decide +kernel
theorem dX6_longestNext_14 : decode cX6_longestNext 14 = .ok (.iconst 1, 1) := by decide +kernel
theorem dX6_longestNext_15 : decode cX6_longestNext 15 = .ok (.iand, 1) := by decide +kernel
theorem dX6_longestNext_16 : decode cX6_longestNext 16 = .ok (.iconst 1, 1) := by decide +kernel
theorem dX6_longestNext_17 : decode cX6_longestNext 17 = .ok (.if_icmp .ne 37, 3) := by decide +kernel
theorem dX6_longestNext_20 : decode cX6_longestNext 20 = .ok (.iload_n 3, 1) := by decide +kernel
theorem dX6_longestNext_21 : decode cX6_longestNext 21 = .ok (.iconst (-1), 1) := by decide +kernel
theorem dX6_longestNext_22 : decode cX6_longestNext 22 = .ok (.if_icmp .eq 29, 3) := by decide +kernel
theorem dX6_longestNext_25 : decode cX6_longestNext 25 = .ok (.aload_n 0, 1) := by decide +kernel
theorem dX6_longestNext_26 : decode cX6_longestNext 26 = .ok (.getfield 9, 3) := by decide +kernel
theorem dX6_longestNext_29 : decode cX6_longestNext 29 = .ok (.iload_n 2, 1) := by decide +kernel
theorem dX6_longestNext_30 : decode cX6_longestNext 30 = .ok (.bipush 6, 2) := by decide +kernel
theorem dX6_longestNext_32 : decode cX6_longestNext 32 = .ok (.imul, 1) := by decide +kernel
theorem dX6_longestNext_33 : decode cX6_longestNext 33 = .ok (.iload 4, 2) := by decide +kernel
theorem dX6_longestNext_35 : decode cX6_longestNext 35 = .ok (.iadd, 1) := by decide +kernel
theorem dX6_longestNext_36 : decode cX6_longestNext 36 = .ok (.iaload, 1) := by decide +kernel
theorem dX6_longestNext_37 : decode cX6_longestNext 37 = .ok (.aload_n 0, 1) := by decide +kernel
theorem dX6_longestNext_38 : decode cX6_longestNext 38 = .ok (.getfield 9, 3) := by decide +kernel
theorem dX6_longestNext_41 : decode cX6_longestNext 41 = .ok (.iload_n 2, 1) := by decide +kernel
theorem dX6_longestNext_42 : decode cX6_longestNext 42 = .ok (.bipush 6, 2) := by decide +kernel
theorem dX6_longestNext_44 : decode cX6_longestNext 44 = .ok (.imul, 1) := by decide +kernel
theorem dX6_longestNext_45 : decode cX6_longestNext 45 = .ok (.iload_n 3, 1) := by decide +kernel
theorem dX6_longestNext_46 : decode cX6_longestNext 46 = .ok (.iadd, 1) := by decide +kernel
theorem dX6_longestNext_47 : decode cX6_longestNext 47 = .ok (.iaload, 1) := by decide +kernel
theorem dX6_longestNext_48 : decode cX6_longestNext 48 = .ok (.if_icmp .lt 6, 3) := by decide +kernel
theorem dX6_longestNext_51 : decode cX6_longestNext 51 = .ok (.iload 4, 2) := by decide +kernel
theorem dX6_longestNext_53 : decode cX6_longestNext 53 = .ok (.istore_n 3, 1) := by decide +kernel
theorem dX6_longestNext_54 : decode cX6_longestNext 54 = .ok (.iinc 4 (-1), 3) := by decide +kernel
theorem dX6_longestNext_57 : decode cX6_longestNext 57 = .ok (.goto (-52), 3) := by decide +kernel
theorem dX6_longestNext_60 : decode cX6_longestNext 60 = .ok (.iload_n 3, 1) := by decide +kernel
theorem dX6_longestNext_61 : decode cX6_longestNext 61 = .ok (.ireturn, 1) := by decide +kernel
theorem dX7_init_0 : decode cX7_init 0 = .ok (.aload_n 0, 1) := by decide +kernel
theorem dX7_init_1 : decode cX7_init 1 = .ok (.invokespecial 3, 3) := by decide +kernel
theorem dX7_init_4 : decode cX7_init 4 = .ok (.aload_n 0, 1) := by decide +kernel
theorem dX7_init_5 : decode cX7_init 5 = .ok (.iconst 0, 1) := by decide +kernel
theorem dX7_init_6 : decode cX7_init 6 = .ok (.putfield 9, 3) := by decide +kernel
theorem dX7_init_9 : decode cX7_init 9 = .ok (.aload_n 0, 1) := by decide +kernel
theorem dX7_init_10 : decode cX7_init 10 = .ok (.iconst (-1), 1) := by decide +kernel
theorem dX7_init_11 : decode cX7_init 11 = .ok (.putfield 15, 3) := by decide +kernel
theorem dX7_init_14 : decode cX7_init 14 = .ok (.aload_n 0, 1) := by decide +kernel
theorem dX7_init_15 : decode cX7_init 15 = .ok (.aload_n 1, 1) := by decide +kernel
theorem dX7_init_16 : decode cX7_init 16 = .ok (.putfield 18, 3) := by decide +kernel
theorem dX7_init_19 : decode cX7_init 19 = .ok (.aload_n 0, 1) := by decide +kernel
theorem dX7_init_20 : decode cX7_init 20 = .ok (.new 22, 3) := by decide +kernel
theorem dX7_init_23 : decode cX7_init 23 = .ok (.dup, 1) := by decide +kernel
theorem dX7_init_24 : decode cX7_init 24 = .ok (.aload_n 1, 1) := by decide +kernel
theorem dX7_init_25 : decode cX7_init 25 = .ok (.invokespecial 24, 3) := by decide +kernel
theorem dX7_init_28 : decode cX7_init 28 = .ok (.putfield 27, 3) := by decide +kernel
theorem dX7_init_31 : decode cX7_init 31 = .ok (.return_, 1) := by decide +kernel
theorem dX7_readAll_0 : decode cX7_readAll 0 = .ok (.aload_n 0, 1) := by decide +kernel
theorem dX7_readAll_1 : decode cX7_readAll 1 = .ok (.aload_n 1, 1) := by decide +kernel
theorem dX7_readAll_2 : decode cX7_readAll 2 = .ok (.putfield 31, 3) := by decide +kernel
theorem dX7_readAll_5 : decode cX7_readAll 5 = .ok (.aload_n 0, 1) := by decide +kernel
theorem dX7_readAll_6 : decode cX7_readAll 6 = .ok (.getfield 31, 3) := by decide +kernel
theorem dX7_readAll_9 : decode cX7_readAll 9 = .ok (.invokevirtual 35, 3) := by decide +kernel
theorem dX7_readAll_12 : decode cX7_readAll 12 = .ok (.aload_n 0, 1) := by decide +kernel
theorem dX7_readAll_13 : decode cX7_readAll 13 = .ok (.iconst 0, 1) := by decide +kernel
theorem dX7_readAll_14 : decode cX7_readAll 14 = .ok (.putfield 9, 3) := by decide +kernel
theorem dX7_readAll_17 : decode cX7_readAll 17 = .ok (.aload_n 0, 1) := by decide +kernel
theorem dX7_readAll_18 : decode cX7_readAll 18 = .ok (.iconst (-1), 1) := by decide +kernel
theorem dX7_readAll_19 : decode cX7_readAll 19 = .ok (.putfield 15, 3) := by decide +kernel
theorem dX7_readAll_22 : decode cX7_readAll 22 = .ok (.aload_n 0, 1) := by decide +kernel
theorem dX7_readAll_23 : decode cX7_readAll 23 = .ok (.getfield 18, 3) := by decide +kernel
theorem dX7_readAll_26 : decode cX7_readAll 26 = .ok (.iload_n 2, 1) := by decide +kernel
theorem dX7_readAll_27 : decode cX7_readAll 27 = .ok (.invokevirtual 40, 3) := by decide +kernel
theorem dX7_readAll_30 : decode cX7_readAll 30 = .ok (.iconst 0, 1) := by decide +kernel
theorem dX7_readAll_31 : decode cX7_readAll 31 = .ok (.istore_n 3, 1) := by decide +kernel
theorem dX7_readAll_32 : decode cX7_readAll 32 = .ok (.iload_n 3, 1) := by decide +kernel
theorem dX7_readAll_33 : decode cX7_readAll 33 = .ok (.sipush 700, 3) := by decide +kernel
theorem dX7_readAll_36 : decode cX7_readAll 36 = .ok (.if_icmp .ge 50, 3) := by decide +kernel
theorem dX7_readAll_39 : decode cX7_readAll 39 = .ok (.aload_n 0, 1) := by decide +kernel
theorem dX7_readAll_40 : decode cX7_readAll 40 = .ok (.getfield 9, 3) := by decide +kernel
theorem dX7_readAll_43 : decode cX7_readAll 43 = .ok (.ifCond .ne 43, 3) := by decide +kernel
theorem dX7_readAll_46 : decode cX7_readAll 46 = .ok (.aload_n 0, 1) := by decide +kernel
theorem dX7_readAll_47 : decode cX7_readAll 47 = .ok (.getfield 18, 3) := by decide +kernel
theorem dX7_readAll_50 : decode cX7_readAll 50 = .ok (.getfield 46, 3) := by decide +kernel
theorem dX7_readAll_53 : decode cX7_readAll 53 = .ok (.ifCond .eq 33, 3) := by decide +kernel
theorem dX7_readAll_56 : decode cX7_readAll 56 = .ok (.aload_n 0, 1) := by decide +kernel
theorem dX7_readAll_57 : decode cX7_readAll 57 = .ok (.invokevirtual 49, 3) := by decide +kernel
theorem dX7_readAll_60 : decode cX7_readAll 60 = .ok (.aload_n 0, 1) := by decide +kernel
theorem dX7_readAll_61 : decode cX7_readAll 61 = .ok (.getfield 9, 3) := by decide +kernel
theorem dX7_readAll_64 : decode cX7_readAll 64 = .ok (.ifCond .ne 16, 3) := by decide +kernel
theorem dX7_readAll_67 : decode cX7_readAll 67 = .ok (.aload_n 0, 1) := by decide +kernel
theorem dX7_readAll_68 : decode cX7_readAll 68 = .ok (.getfield 31, 3) := by decide +kernel
theorem dX7_readAll_71 : decode cX7_readAll 71 = .ok (.dup, 1) := by decide +kernel
theorem dX7_readAll_72 : decode cX7_readAll 72 = .ok (.getfield 52, 3) := by decide +kernel
theorem dX7_readAll_75 : decode cX7_readAll 75 = .ok (.iconst 1, 1) := by decide +kernel
theorem dX7_readAll_76 : decode cX7_readAll 76 = .ok (.iadd, 1) := by decide +kernel
theorem dX7_readAll_77 : decode cX7_readAll 77 = .ok (.putfield 52, 3) := by decide +kernel
theorem dX7_readAll_80 : decode cX7_readAll 80 = .ok (.iinc 3 1, 3) := by decide +kernel
theorem dX7_readAll_83 : decode cX7_readAll 83 = .ok (.goto (-51), 3) := by decide +kernel
theorem dX7_readAll_86 : decode cX7_readAll 86 = .ok (.return_, 1) := by decide +kernel
theorem dX7_fail_0 : decode cX7_fail 0 = .ok (.aload_n 0, 1) := by decide +kernel
theorem dX7_fail_1 : decode cX7_fail 1 = .ok (.getfield 9, 3) := by decide +kernel
theorem dX7_fail_4 : decode cX7_fail 4 = .ok (.ifCond .ne 19, 3) := by decide +kernel
theorem dX7_fail_7 : decode cX7_fail 7 = .ok (.aload_n 0, 1) := by decide +kernel
theorem dX7_fail_8 : decode cX7_fail 8 = .ok (.iload_n 1, 1) := by decide +kernel
theorem dX7_fail_9 : decode cX7_fail 9 = .ok (.putfield 9, 3) := by decide +kernel
theorem dX7_fail_12 : decode cX7_fail 12 = .ok (.aload_n 0, 1) := by decide +kernel
theorem dX7_fail_13 : decode cX7_fail 13 = .ok (.aload_n 0, 1) := by decide +kernel
theorem dX7_fail_14 : decode cX7_fail 14 = .ok (.getfield 18, 3) := by decide +kernel
theorem dX7_fail_17 : decode cX7_fail 17 = .ok (.getfield 55, 3) := by decide +kernel
theorem dX7_fail_20 : decode cX7_fail 20 = .ok (.putfield 15, 3) := by decide +kernel
theorem dX7_fail_23 : decode cX7_fail 23 = .ok (.return_, 1) := by decide +kernel
theorem dX7_check_0 : decode cX7_check 0 = .ok (.iload_n 1, 1) := by decide +kernel
theorem dX7_check_1 : decode cX7_check 1 = .ok (.ifCond .ne 8, 3) := by decide +kernel
theorem dX7_check_4 : decode cX7_check 4 = .ok (.aload_n 0, 1) := by decide +kernel
theorem dX7_check_5 : decode cX7_check 5 = .ok (.iload_n 2, 1) := by decide +kernel
theorem dX7_check_6 : decode cX7_check 6 = .ok (.invokevirtual 58, 3) := by decide +kernel
theorem dX7_check_9 : decode cX7_check 9 = .ok (.return_, 1) := by decide +kernel
theorem dX7_step_0 : decode cX7_step 0 = .ok (.aload_n 0, 1) := by decide +kernel
theorem dX7_step_1 : decode cX7_step 1 = .ok (.getfield 9, 3) := by decide +kernel
theorem dX7_step_4 : decode cX7_step 4 = .ok (.ifCond .ne 10, 3) := by decide +kernel
theorem dX7_step_7 : decode cX7_step 7 = .ok (.aload_n 0, 1) := by decide +kernel
theorem dX7_step_8 : decode cX7_step 8 = .ok (.getfield 18, 3) := by decide +kernel
theorem dX7_step_11 : decode cX7_step 11 = .ok (.invokevirtual 61, 3) := by decide +kernel
theorem dX7_step_14 : decode cX7_step 14 = .ok (.return_, 1) := by decide +kernel
theorem dX7_readLine_0 : decode cX7_readLine 0 = .ok (.aload_n 0, 1) := by decide +kernel
theorem dX7_readLine_1 : decode cX7_readLine 1 = .ok (.getfield 18, 3) := by decide +kernel
theorem dX7_readLine_4 : decode cX7_readLine 4 = .ok (.getfield 46, 3) := by decide +kernel
theorem dX7_readLine_7 : decode cX7_readLine 7 = .ok (.iconst 1, 1) := by decide +kernel
theorem dX7_readLine_8 : decode cX7_readLine 8 = .ok (.if_icmp .ne 13, 3) := by decide +kernel
theorem dX7_readLine_11 : decode cX7_readLine 11 = .ok (.aload_n 0, 1) := by decide +kernel
theorem dX7_readLine_12 : decode cX7_readLine 12 = .ok (.getfield 18, 3) := by decide +kernel
theorem dX7_readLine_15 : decode cX7_readLine 15 = .ok (.getfield 64, 3) := by decide +kernel
theorem dX7_readLine_18 : decode cX7_readLine 18 = .ok (.goto 4, 3) := by decide +kernel
theorem dX7_readLine_21 : decode cX7_readLine 21 = .ok (.iconst 0, 1) := by decide +kernel
theorem dX7_readLine_22 : decode cX7_readLine 22 = .ok (.lookupswitch 115 #[(83623936, 66), (135708672, 94), (257085056, 87), (378994688, 80), (404455424, 108), (642945024, 101), (687329536, 73)], 66) := by decide +kernel
theorem dX7_readLine_88 : decode cX7_readLine 88 = .ok (.aload_n 0, 1) := by decide +kernel
theorem dX7_readLine_89 : decode cX7_readLine 89 = .ok (.invokevirtual 67, 3) := by decide +kernel
theorem dX7_readLine_92 : decode cX7_readLine 92 = .ok (.goto 50, 3) := by decide +kernel
theorem dX7_readLine_95 : decode cX7_readLine 95 = .ok (.aload_n 0, 1) := by decide +kernel
theorem dX7_readLine_96 : decode cX7_readLine 96 = .ok (.invokevirtual 70, 3) := by decide +kernel
theorem dX7_readLine_99 : decode cX7_readLine 99 = .ok (.goto 43, 3) := by decide +kernel
theorem dX7_readLine_102 : decode cX7_readLine 102 = .ok (.aload_n 0, 1) := by decide +kernel
theorem dX7_readLine_103 : decode cX7_readLine 103 = .ok (.invokevirtual 73, 3) := by decide +kernel
theorem dX7_readLine_106 : decode cX7_readLine 106 = .ok (.goto 36, 3) := by decide +kernel
theorem dX7_readLine_109 : decode cX7_readLine 109 = .ok (.aload_n 0, 1) := by decide +kernel
theorem dX7_readLine_110 : decode cX7_readLine 110 = .ok (.invokevirtual 76, 3) := by decide +kernel
theorem dX7_readLine_113 : decode cX7_readLine 113 = .ok (.goto 29, 3) := by decide +kernel
theorem dX7_readLine_116 : decode cX7_readLine 116 = .ok (.aload_n 0, 1) := by decide +kernel
theorem dX7_readLine_117 : decode cX7_readLine 117 = .ok (.invokevirtual 79, 3) := by decide +kernel
theorem dX7_readLine_120 : decode cX7_readLine 120 = .ok (.goto 22, 3) := by decide +kernel
theorem dX7_readLine_123 : decode cX7_readLine 123 = .ok (.aload_n 0, 1) := by decide +kernel
theorem dX7_readLine_124 : decode cX7_readLine 124 = .ok (.invokevirtual 82, 3) := by decide +kernel
theorem dX7_readLine_127 : decode cX7_readLine 127 = .ok (.goto 15, 3) := by decide +kernel
theorem dX7_readLine_130 : decode cX7_readLine 130 = .ok (.aload_n 0, 1) := by decide +kernel
theorem dX7_readLine_131 : decode cX7_readLine 131 = .ok (.invokevirtual 85, 3) := by decide +kernel
theorem dX7_readLine_134 : decode cX7_readLine 134 = .ok (.goto 8, 3) := by decide +kernel
theorem dX7_readLine_137 : decode cX7_readLine 137 = .ok (.aload_n 0, 1) := by decide +kernel
theorem dX7_readLine_138 : decode cX7_readLine 138 = .ok (.iconst 1, 1) := by decide +kernel
theorem dX7_readLine_139 : decode cX7_readLine 139 = .ok (.invokevirtual 58, 3) := by decide +kernel
theorem dX7_readLine_142 : decode cX7_readLine 142 = .ok (.aload_n 0, 1) := by decide +kernel
theorem dX7_readLine_143 : decode cX7_readLine 143 = .ok (.aload_n 0, 1) := by decide +kernel
theorem dX7_readLine_144 : decode cX7_readLine 144 = .ok (.getfield 18, 3) := by decide +kernel
theorem dX7_readLine_147 : decode cX7_readLine 147 = .ok (.bipush 23, 2) := by decide +kernel
theorem dX7_readLine_149 : decode cX7_readLine 149 = .ok (.invokevirtual 88, 3) := by decide +kernel
theorem dX7_readLine_152 : decode cX7_readLine 152 = .ok (.iconst 1, 1) := by decide +kernel
theorem dX7_readLine_153 : decode cX7_readLine 153 = .ok (.invokevirtual 92, 3) := by decide +kernel
theorem dX7_readLine_156 : decode cX7_readLine 156 = .ok (.aload_n 0, 1) := by decide +kernel
theorem dX7_readLine_157 : decode cX7_readLine 157 = .ok (.invokevirtual 96, 3) := by decide +kernel
theorem dX7_readLine_160 : decode cX7_readLine 160 = .ok (.return_, 1) := by decide +kernel
theorem dX7_readBox_0 : decode cX7_readBox 0 = .ok (.aload_n 0, 1) := by decide +kernel
theorem dX7_readBox_1 : decode cX7_readBox 1 = .ok (.aload_n 0, 1) := by decide +kernel
theorem dX7_readBox_2 : decode cX7_readBox 2 = .ok (.getfield 31, 3) := by decide +kernel
theorem dX7_readBox_5 : decode cX7_readBox 5 = .ok (.getfield 99, 3) := by decide +kernel
theorem dX7_readBox_8 : decode cX7_readBox 8 = .ok (.bipush 6, 2) := by decide +kernel
theorem dX7_readBox_10 : decode cX7_readBox 10 = .ok (.if_icmp .ge 7, 3) := by decide +kernel
theorem dX7_readBox_13 : decode cX7_readBox 13 = .ok (.iconst 1, 1) := by decide +kernel
theorem dX7_readBox_14 : decode cX7_readBox 14 = .ok (.goto 4, 3) := by decide +kernel
theorem dX7_readBox_17 : decode cX7_readBox 17 = .ok (.iconst 0, 1) := by decide +kernel
theorem dX7_readBox_18 : decode cX7_readBox 18 = .ok (.iconst 2, 1) := by decide +kernel
theorem dX7_readBox_19 : decode cX7_readBox 19 = .ok (.invokevirtual 92, 3) := by decide +kernel
theorem dX7_readBox_22 : decode cX7_readBox 22 = .ok (.aload_n 0, 1) := by decide +kernel
theorem dX7_readBox_23 : decode cX7_readBox 23 = .ok (.invokevirtual 96, 3) := by decide +kernel
theorem dX7_readBox_26 : decode cX7_readBox 26 = .ok (.aload_n 0, 1) := by decide +kernel
theorem dX7_readBox_27 : decode cX7_readBox 27 = .ok (.invokevirtual 102, 3) := by decide +kernel
theorem dX7_readBox_30 : decode cX7_readBox 30 = .ok (.istore_n 1, 1) := by decide +kernel
theorem dX7_readBox_31 : decode cX7_readBox 31 = .ok (.aload_n 0, 1) := by decide +kernel
theorem dX7_readBox_32 : decode cX7_readBox 32 = .ok (.aload_n 0, 1) := by decide +kernel
theorem dX7_readBox_33 : decode cX7_readBox 33 = .ok (.getfield 31, 3) := by decide +kernel
theorem dX7_readBox_36 : decode cX7_readBox 36 = .ok (.iload_n 1, 1) := by decide +kernel
theorem dX7_readBox_37 : decode cX7_readBox 37 = .ok (.invokevirtual 106, 3) := by decide +kernel
theorem dX7_readBox_40 : decode cX7_readBox 40 = .ok (.iconst (-1), 1) := by decide +kernel
theorem dX7_readBox_41 : decode cX7_readBox 41 = .ok (.if_icmp .ne 7, 3) := by decide +kernel
theorem dX7_readBox_44 : decode cX7_readBox 44 = .ok (.iconst 1, 1) := by decide +kernel
theorem dX7_readBox_45 : decode cX7_readBox 45 = .ok (.goto 4, 3) := by decide +kernel
theorem dX7_readBox_48 : decode cX7_readBox 48 = .ok (.iconst 0, 1) := by decide +kernel
theorem dX7_readBox_49 : decode cX7_readBox 49 = .ok (.iconst 3, 1) := by decide +kernel
theorem dX7_readBox_50 : decode cX7_readBox 50 = .ok (.invokevirtual 92, 3) := by decide +kernel
theorem dX7_readBox_53 : decode cX7_readBox 53 = .ok (.aload_n 0, 1) := by decide +kernel
theorem dX7_readBox_54 : decode cX7_readBox 54 = .ok (.invokevirtual 96, 3) := by decide +kernel
theorem dX7_readBox_57 : decode cX7_readBox 57 = .ok (.aload_n 0, 1) := by decide +kernel
theorem dX7_readBox_58 : decode cX7_readBox 58 = .ok (.getfield 9, 3) := by decide +kernel
theorem dX7_readBox_61 : decode cX7_readBox 61 = .ok (.ifCond .ne 124, 3) := by decide +kernel
theorem dX7_readBox_64 : decode cX7_readBox 64 = .ok (.aload_n 0, 1) := by decide +kernel
theorem dX7_readBox_65 : decode cX7_readBox 65 = .ok (.getfield 31, 3) := by decide +kernel
theorem dX7_readBox_68 : decode cX7_readBox 68 = .ok (.getfield 110, 3) := by decide +kernel
theorem dX7_readBox_71 : decode cX7_readBox 71 = .ok (.aload_n 0, 1) := by decide +kernel
theorem dX7_readBox_72 : decode cX7_readBox 72 = .ok (.getfield 31, 3) := by decide +kernel
theorem dX7_readBox_75 : decode cX7_readBox 75 = .ok (.getfield 99, 3) := by decide +kernel
theorem dX7_readBox_78 : decode cX7_readBox 78 = .ok (.aaload, 1) := by decide +kernel
theorem dX7_readBox_79 : decode cX7_readBox 79 = .ok (.astore_n 2, 1) := by decide +kernel
theorem dX7_readBox_80 : decode cX7_readBox 80 = .ok (.aload_n 2, 1) := by decide +kernel
theorem dX7_readBox_81 : decode cX7_readBox 81 = .ok (.iload_n 1, 1) := by decide +kernel
theorem dX7_readBox_82 : decode cX7_readBox 82 = .ok (.putfield 114, 3) := by decide +kernel
theorem dX7_readBox_85 : decode cX7_readBox 85 = .ok (.aload_n 2, 1) := by decide +kernel
theorem dX7_readBox_86 : decode cX7_readBox 86 = .ok (.aload_n 0, 1) := by decide +kernel
theorem dX7_readBox_87 : decode cX7_readBox 87 = .ok (.iconst 0, 1) := by decide +kernel
theorem dX7_readBox_88 : decode cX7_readBox 88 = .ok (.bipush 99, 2) := by decide +kernel
theorem dX7_readBox_90 : decode cX7_readBox 90 = .ok (.invokevirtual 119, 3) := by decide +kernel
theorem dX7_readBox_93 : decode cX7_readBox 93 = .ok (.putfield 123, 3) := by decide +kernel
theorem dX7_readBox_96 : decode cX7_readBox 96 = .ok (.aload_n 2, 1) := by decide +kernel
theorem dX7_readBox_97 : decode cX7_readBox 97 = .ok (.aload_n 0, 1) := by decide +kernel
theorem dX7_readBox_98 : decode cX7_readBox 98 = .ok (.iconst 1, 1) := by decide +kernel
theorem dX7_readBox_99 : decode cX7_readBox 99 = .ok (.bipush 9, 2) := by decide +kernel
theorem dX7_readBox_101 : decode cX7_readBox 101 = .ok (.invokevirtual 119, 3) := by decide +kernel
theorem dX7_readBox_104 : decode cX7_readBox 104 = .ok (.putfield 126, 3) := by decide +kernel
theorem dX7_readBox_107 : decode cX7_readBox 107 = .ok (.aload_n 2, 1) := by decide +kernel
theorem dX7_readBox_108 : decode cX7_readBox 108 = .ok (.iconst 0, 1) := by decide +kernel
theorem dX7_readBox_109 : decode cX7_readBox 109 = .ok (.putfield 129, 3) := by decide +kernel
theorem dX7_readBox_112 : decode cX7_readBox 112 = .ok (.iconst 0, 1) := by decide +kernel
theorem dX7_readBox_113 : decode cX7_readBox 113 = .ok (.istore_n 3, 1) := by decide +kernel
theorem dX7_readBox_114 : decode cX7_readBox 114 = .ok (.iload_n 3, 1) := by decide +kernel
theorem dX7_readBox_115 : decode cX7_readBox 115 = .ok (.bipush 8, 2) := by decide +kernel
theorem dX7_readBox_117 : decode cX7_readBox 117 = .ok (.if_icmp .ge 45, 3) := by decide +kernel
theorem dX7_readBox_120 : decode cX7_readBox 120 = .ok (.aload_n 2, 1) := by decide +kernel
theorem dX7_readBox_121 : decode cX7_readBox 121 = .ok (.getfield 132, 3) := by decide +kernel
theorem dX7_readBox_124 : decode cX7_readBox 124 = .ok (.iload_n 3, 1) := by decide +kernel
theorem dX7_readBox_125 : decode cX7_readBox 125 = .ok (.aload_n 0, 1) := by decide +kernel
theorem dX7_readBox_126 : decode cX7_readBox 126 = .ok (.iconst 0, 1) := by decide +kernel
theorem dX7_readBox_127 : decode cX7_readBox 127 = .ok (.bipush 9, 2) := by decide +kernel
theorem dX7_readBox_129 : decode cX7_readBox 129 = .ok (.invokevirtual 119, 3) := by decide +kernel
theorem dX7_readBox_132 : decode cX7_readBox 132 = .ok (.iastore, 1) := by decide +kernel
theorem dX7_readBox_133 : decode cX7_readBox 133 = .ok (.aload_n 2, 1) := by decide +kernel
theorem dX7_readBox_134 : decode cX7_readBox 134 = .ok (.dup, 1) := by decide +kernel
theorem dX7_readBox_135 : decode cX7_readBox 135 = .ok (.getfield 129, 3) := by decide +kernel
theorem dX7_readBox_138 : decode cX7_readBox 138 = .ok (.aload_n 2, 1) := by decide +kernel
theorem dX7_readBox_139 : decode cX7_readBox 139 = .ok (.getfield 132, 3) := by decide +kernel
theorem dX7_readBox_142 : decode cX7_readBox 142 = .ok (.iload_n 3, 1) := by decide +kernel
theorem dX7_readBox_143 : decode cX7_readBox 143 = .ok (.iaload, 1) := by decide +kernel
theorem dX7_readBox_144 : decode cX7_readBox 144 = .ok (.ifCond .le 7, 3) := by decide +kernel
theorem dX7_readBox_147 : decode cX7_readBox 147 = .ok (.iconst 1, 1) := by decide +kernel
theorem dX7_readBox_148 : decode cX7_readBox 148 = .ok (.goto 4, 3) := by decide +kernel
theorem dX7_readBox_151 : decode cX7_readBox 151 = .ok (.iconst 0, 1) := by decide +kernel
theorem dX7_readBox_152 : decode cX7_readBox 152 = .ok (.iadd, 1) := by decide +kernel
theorem dX7_readBox_153 : decode cX7_readBox 153 = .ok (.putfield 129, 3) := by decide +kernel
theorem dX7_readBox_156 : decode cX7_readBox 156 = .ok (.iinc 3 1, 3) := by decide +kernel
theorem dX7_readBox_159 : decode cX7_readBox 159 = .ok (.goto (-45), 3) := by decide +kernel
theorem dX7_readBox_162 : decode cX7_readBox 162 = .ok (.aload_n 2, 1) := by decide +kernel
theorem dX7_readBox_163 : decode cX7_readBox 163 = .ok (.iconst 0, 1) := by decide +kernel
theorem dX7_readBox_164 : decode cX7_readBox 164 = .ok (.putfield 136, 3) := by decide +kernel
theorem dX7_readBox_167 : decode cX7_readBox 167 = .ok (.aload_n 2, 1) := by decide +kernel
theorem dX7_readBox_168 : decode cX7_readBox 168 = .ok (.iconst 0, 1) := by decide +kernel
theorem dX7_readBox_169 : decode cX7_readBox 169 = .ok (.putfield 139, 3) := by decide +kernel
theorem dX7_readBox_172 : decode cX7_readBox 172 = .ok (.aload_n 0, 1) := by decide +kernel
theorem dX7_readBox_173 : decode cX7_readBox 173 = .ok (.getfield 31, 3) := by decide +kernel
theorem dX7_readBox_176 : decode cX7_readBox 176 = .ok (.dup, 1) := by decide +kernel
theorem dX7_readBox_177 : decode cX7_readBox 177 = .ok (.getfield 99, 3) := by decide +kernel
theorem dX7_readBox_180 : decode cX7_readBox 180 = .ok (.iconst 1, 1) := by decide +kernel
theorem dX7_readBox_181 : decode cX7_readBox 181 = .ok (.iadd, 1) := by decide +kernel
theorem dX7_readBox_182 : decode cX7_readBox 182 = .ok (.putfield 99, 3) := by decide +kernel
theorem dX7_readBox_185 : decode cX7_readBox 185 = .ok (.return_, 1) := by decide +kernel
theorem dX7_readTooth_0 : decode cX7_readTooth 0 = .ok (.aload_n 0, 1) := by decide +kernel
theorem dX7_readTooth_1 : decode cX7_readTooth 1 = .ok (.aload_n 0, 1) := by decide +kernel
theorem dX7_readTooth_2 : decode cX7_readTooth 2 = .ok (.getfield 31, 3) := by decide +kernel
theorem dX7_readTooth_5 : decode cX7_readTooth 5 = .ok (.getfield 142, 3) := by decide +kernel
theorem dX7_readTooth_8 : decode cX7_readTooth 8 = .ok (.bipush 12, 2) := by decide +kernel
theorem dX7_readTooth_10 : decode cX7_readTooth 10 = .ok (.if_icmp .ge 7, 3) := by decide +kernel
theorem dX7_readTooth_13 : decode cX7_readTooth 13 = .ok (.iconst 1, 1) := by decide +kernel
theorem dX7_readTooth_14 : decode cX7_readTooth 14 = .ok (.goto 4, 3) := by decide +kernel
theorem dX7_readTooth_17 : decode cX7_readTooth 17 = .ok (.iconst 0, 1) := by decide +kernel
theorem dX7_readTooth_18 : decode cX7_readTooth 18 = .ok (.iconst 2, 1) := by decide +kernel
theorem dX7_readTooth_19 : decode cX7_readTooth 19 = .ok (.invokevirtual 92, 3) := by decide +kernel
theorem dX7_readTooth_22 : decode cX7_readTooth 22 = .ok (.aload_n 0, 1) := by decide +kernel
theorem dX7_readTooth_23 : decode cX7_readTooth 23 = .ok (.invokevirtual 96, 3) := by decide +kernel
theorem dX7_readTooth_26 : decode cX7_readTooth 26 = .ok (.aload_n 0, 1) := by decide +kernel
theorem dX7_readTooth_27 : decode cX7_readTooth 27 = .ok (.invokevirtual 145, 3) := by decide +kernel
theorem dX7_readTooth_30 : decode cX7_readTooth 30 = .ok (.istore_n 1, 1) := by decide +kernel
theorem dX7_readTooth_31 : decode cX7_readTooth 31 = .ok (.aload_n 0, 1) := by decide +kernel
theorem dX7_readTooth_32 : decode cX7_readTooth 32 = .ok (.invokevirtual 96, 3) := by decide +kernel
theorem dX7_readTooth_35 : decode cX7_readTooth 35 = .ok (.aload_n 0, 1) := by decide +kernel
theorem dX7_readTooth_36 : decode cX7_readTooth 36 = .ok (.getfield 18, 3) := by decide +kernel
theorem dX7_readTooth_39 : decode cX7_readTooth 39 = .ok (.getfield 64, 3) := by decide +kernel
theorem dX7_readTooth_42 : decode cX7_readTooth 42 = .ok (.istore_n 2, 1) := by decide +kernel
theorem dX7_readTooth_43 : decode cX7_readTooth 43 = .ok (.aload_n 0, 1) := by decide +kernel
theorem dX7_readTooth_44 : decode cX7_readTooth 44 = .ok (.iconst 1, 1) := by decide +kernel
theorem dX7_readTooth_45 : decode cX7_readTooth 45 = .ok (.bipush 9, 2) := by decide +kernel
theorem dX7_readTooth_47 : decode cX7_readTooth 47 = .ok (.invokevirtual 148, 3) := by decide +kernel
theorem dX7_readTooth_50 : decode cX7_readTooth 50 = .ok (.aload_n 0, 1) := by decide +kernel
theorem dX7_readTooth_51 : decode cX7_readTooth 51 = .ok (.getfield 9, 3) := by decide +kernel
theorem dX7_readTooth_54 : decode cX7_readTooth 54 = .ok (.ifCond .ne 62, 3) := by decide +kernel
theorem dX7_readTooth_57 : decode cX7_readTooth 57 = .ok (.aload_n 0, 1) := by decide +kernel
theorem dX7_readTooth_58 : decode cX7_readTooth 58 = .ok (.aload_n 0, 1) := by decide +kernel
theorem dX7_readTooth_59 : decode cX7_readTooth 59 = .ok (.getfield 31, 3) := by decide +kernel
theorem dX7_readTooth_62 : decode cX7_readTooth 62 = .ok (.getfield 110, 3) := by decide +kernel
theorem dX7_readTooth_65 : decode cX7_readTooth 65 = .ok (.iload_n 1, 1) := by decide +kernel
theorem dX7_readTooth_66 : decode cX7_readTooth 66 = .ok (.aaload, 1) := by decide +kernel
theorem dX7_readTooth_67 : decode cX7_readTooth 67 = .ok (.iload_n 2, 1) := by decide +kernel
theorem dX7_readTooth_68 : decode cX7_readTooth 68 = .ok (.invokevirtual 152, 3) := by decide +kernel
theorem dX7_readTooth_71 : decode cX7_readTooth 71 = .ok (.ifCond .ne 7, 3) := by decide +kernel
theorem dX7_readTooth_74 : decode cX7_readTooth 74 = .ok (.iconst 1, 1) := by decide +kernel
theorem dX7_readTooth_75 : decode cX7_readTooth 75 = .ok (.goto 4, 3) := by decide +kernel
theorem dX7_readTooth_78 : decode cX7_readTooth 78 = .ok (.iconst 0, 1) := by decide +kernel
theorem dX7_readTooth_79 : decode cX7_readTooth 79 = .ok (.iconst 3, 1) := by decide +kernel
theorem dX7_readTooth_80 : decode cX7_readTooth 80 = .ok (.invokevirtual 92, 3) := by decide +kernel
theorem dX7_readTooth_83 : decode cX7_readTooth 83 = .ok (.aload_n 0, 1) := by decide +kernel
theorem dX7_readTooth_84 : decode cX7_readTooth 84 = .ok (.getfield 31, 3) := by decide +kernel
theorem dX7_readTooth_87 : decode cX7_readTooth 87 = .ok (.getfield 110, 3) := by decide +kernel
theorem dX7_readTooth_90 : decode cX7_readTooth 90 = .ok (.iload_n 1, 1) := by decide +kernel
theorem dX7_readTooth_91 : decode cX7_readTooth 91 = .ok (.aaload, 1) := by decide +kernel
theorem dX7_readTooth_92 : decode cX7_readTooth 92 = .ok (.dup, 1) := by decide +kernel
theorem dX7_readTooth_93 : decode cX7_readTooth 93 = .ok (.getfield 136, 3) := by decide +kernel
theorem dX7_readTooth_96 : decode cX7_readTooth 96 = .ok (.iconst 1, 1) := by decide +kernel
theorem dX7_readTooth_97 : decode cX7_readTooth 97 = .ok (.iload_n 2, 1) := by decide +kernel
theorem dX7_readTooth_98 : decode cX7_readTooth 98 = .ok (.ishl, 1) := by decide +kernel
theorem dX7_readTooth_99 : decode cX7_readTooth 99 = .ok (.ior, 1) := by decide +kernel
theorem dX7_readTooth_100 : decode cX7_readTooth 100 = .ok (.putfield 136, 3) := by decide +kernel
theorem dX7_readTooth_103 : decode cX7_readTooth 103 = .ok (.aload_n 0, 1) := by decide +kernel
theorem dX7_readTooth_104 : decode cX7_readTooth 104 = .ok (.getfield 31, 3) := by decide +kernel
theorem dX7_readTooth_107 : decode cX7_readTooth 107 = .ok (.dup, 1) := by decide +kernel
theorem dX7_readTooth_108 : decode cX7_readTooth 108 = .ok (.getfield 142, 3) := by decide +kernel
theorem dX7_readTooth_111 : decode cX7_readTooth 111 = .ok (.iconst 1, 1) := by decide +kernel
theorem dX7_readTooth_112 : decode cX7_readTooth 112 = .ok (.iadd, 1) := by decide +kernel
theorem dX7_readTooth_113 : decode cX7_readTooth 113 = .ok (.putfield 142, 3) := by decide +kernel
theorem dX7_readTooth_116 : decode cX7_readTooth 116 = .ok (.aload_n 0, 1) := by decide +kernel
theorem dX7_readTooth_117 : decode cX7_readTooth 117 = .ok (.invokevirtual 96, 3) := by decide +kernel
theorem dX7_readTooth_120 : decode cX7_readTooth 120 = .ok (.return_, 1) := by decide +kernel
theorem dX7_readKin_0 : decode cX7_readKin 0 = .ok (.aload_n 0, 1) := by decide +kernel
theorem dX7_readKin_1 : decode cX7_readKin 1 = .ok (.aload_n 0, 1) := by decide +kernel
theorem dX7_readKin_2 : decode cX7_readKin 2 = .ok (.getfield 31, 3) := by decide +kernel
theorem dX7_readKin_5 : decode cX7_readKin 5 = .ok (.getfield 155, 3) := by decide +kernel
theorem dX7_readKin_8 : decode cX7_readKin 8 = .ok (.bipush 9, 2) := by decide +kernel
theorem dX7_readKin_10 : decode cX7_readKin 10 = .ok (.if_icmp .ge 7, 3) := by decide +kernel
theorem dX7_readKin_13 : decode cX7_readKin 13 = .ok (.iconst 1, 1) := by decide +kernel
theorem dX7_readKin_14 : decode cX7_readKin 14 = .ok (.goto 4, 3) := by decide +kernel
theorem dX7_readKin_17 : decode cX7_readKin 17 = .ok (.iconst 0, 1) := by decide +kernel
theorem dX7_readKin_18 : decode cX7_readKin 18 = .ok (.iconst 2, 1) := by decide +kernel
theorem dX7_readKin_19 : decode cX7_readKin 19 = .ok (.invokevirtual 92, 3) := by decide +kernel
theorem dX7_readKin_22 : decode cX7_readKin 22 = .ok (.aload_n 0, 1) := by decide +kernel
theorem dX7_readKin_23 : decode cX7_readKin 23 = .ok (.invokevirtual 96, 3) := by decide +kernel
theorem dX7_readKin_26 : decode cX7_readKin 26 = .ok (.aload_n 0, 1) := by decide +kernel
theorem dX7_readKin_27 : decode cX7_readKin 27 = .ok (.invokevirtual 145, 3) := by decide +kernel
theorem dX7_readKin_30 : decode cX7_readKin 30 = .ok (.istore_n 1, 1) := by decide +kernel
theorem dX7_readKin_31 : decode cX7_readKin 31 = .ok (.aload_n 0, 1) := by decide +kernel
theorem dX7_readKin_32 : decode cX7_readKin 32 = .ok (.invokevirtual 96, 3) := by decide +kernel
theorem dX7_readKin_35 : decode cX7_readKin 35 = .ok (.aload_n 0, 1) := by decide +kernel
theorem dX7_readKin_36 : decode cX7_readKin 36 = .ok (.invokevirtual 145, 3) := by decide +kernel
theorem dX7_readKin_39 : decode cX7_readKin 39 = .ok (.istore_n 2, 1) := by decide +kernel
theorem dX7_readKin_40 : decode cX7_readKin 40 = .ok (.aload_n 0, 1) := by decide +kernel
theorem dX7_readKin_41 : decode cX7_readKin 41 = .ok (.getfield 9, 3) := by decide +kernel
theorem dX7_readKin_44 : decode cX7_readKin 44 = .ok (.ifCond .ne 97, 3) := by decide +kernel
theorem dX7_readKin_47 : decode cX7_readKin 47 = .ok (.aload_n 0, 1) := by decide +kernel
theorem dX7_readKin_48 : decode cX7_readKin 48 = .ok (.aload_n 0, 1) := by decide +kernel
theorem dX7_readKin_49 : decode cX7_readKin 49 = .ok (.getfield 31, 3) := by decide +kernel
theorem dX7_readKin_52 : decode cX7_readKin 52 = .ok (.getfield 110, 3) := by decide +kernel
theorem dX7_readKin_55 : decode cX7_readKin 55 = .ok (.iload_n 1, 1) := by decide +kernel
theorem dX7_readKin_56 : decode cX7_readKin 56 = .ok (.aaload, 1) := by decide +kernel
theorem dX7_readKin_57 : decode cX7_readKin 57 = .ok (.iload_n 2, 1) := by decide +kernel
theorem dX7_readKin_58 : decode cX7_readKin 58 = .ok (.invokevirtual 158, 3) := by decide +kernel
theorem dX7_readKin_61 : decode cX7_readKin 61 = .ok (.ifCond .ne 7, 3) := by decide +kernel
theorem dX7_readKin_64 : decode cX7_readKin 64 = .ok (.iconst 1, 1) := by decide +kernel
theorem dX7_readKin_65 : decode cX7_readKin 65 = .ok (.goto 4, 3) := by decide +kernel
theorem dX7_readKin_68 : decode cX7_readKin 68 = .ok (.iconst 0, 1) := by decide +kernel
theorem dX7_readKin_69 : decode cX7_readKin 69 = .ok (.iconst 3, 1) := by decide +kernel
theorem dX7_readKin_70 : decode cX7_readKin 70 = .ok (.invokevirtual 92, 3) := by decide +kernel
theorem dX7_readKin_73 : decode cX7_readKin 73 = .ok (.aload_n 0, 1) := by decide +kernel
theorem dX7_readKin_74 : decode cX7_readKin 74 = .ok (.iload_n 1, 1) := by decide +kernel
theorem dX7_readKin_75 : decode cX7_readKin 75 = .ok (.iload_n 2, 1) := by decide +kernel
theorem dX7_readKin_76 : decode cX7_readKin 76 = .ok (.if_icmp .eq 7, 3) := by decide +kernel
theorem dX7_readKin_79 : decode cX7_readKin 79 = .ok (.iconst 1, 1) := by decide +kernel
theorem dX7_readKin_80 : decode cX7_readKin 80 = .ok (.goto 4, 3) := by decide +kernel
theorem dX7_readKin_83 : decode cX7_readKin 83 = .ok (.iconst 0, 1) := by decide +kernel
theorem dX7_readKin_84 : decode cX7_readKin 84 = .ok (.iconst 5, 1) := by decide +kernel
theorem dX7_readKin_85 : decode cX7_readKin 85 = .ok (.invokevirtual 92, 3) := by decide +kernel
theorem dX7_readKin_88 : decode cX7_readKin 88 = .ok (.aload_n 0, 1) := by decide +kernel
theorem dX7_readKin_89 : decode cX7_readKin 89 = .ok (.getfield 31, 3) := by decide +kernel
theorem dX7_readKin_92 : decode cX7_readKin 92 = .ok (.getfield 110, 3) := by decide +kernel
theorem dX7_readKin_95 : decode cX7_readKin 95 = .ok (.iload_n 1, 1) := by decide +kernel
theorem dX7_readKin_96 : decode cX7_readKin 96 = .ok (.aaload, 1) := by decide +kernel
theorem dX7_readKin_97 : decode cX7_readKin 97 = .ok (.dup, 1) := by decide +kernel
theorem dX7_readKin_98 : decode cX7_readKin 98 = .ok (.getfield 139, 3) := by decide +kernel
theorem dX7_readKin_101 : decode cX7_readKin 101 = .ok (.iconst 1, 1) := by decide +kernel
theorem dX7_readKin_102 : decode cX7_readKin 102 = .ok (.iload_n 2, 1) := by decide +kernel
theorem dX7_readKin_103 : decode cX7_readKin 103 = .ok (.ishl, 1) := by decide +kernel
theorem dX7_readKin_104 : decode cX7_readKin 104 = .ok (.ior, 1) := by decide +kernel
theorem dX7_readKin_105 : decode cX7_readKin 105 = .ok (.putfield 139, 3) := by decide +kernel
theorem dX7_readKin_108 : decode cX7_readKin 108 = .ok (.aload_n 0, 1) := by decide +kernel
theorem dX7_readKin_109 : decode cX7_readKin 109 = .ok (.getfield 31, 3) := by decide +kernel
theorem dX7_readKin_112 : decode cX7_readKin 112 = .ok (.getfield 110, 3) := by decide +kernel
theorem dX7_readKin_115 : decode cX7_readKin 115 = .ok (.iload_n 2, 1) := by decide +kernel
theorem dX7_readKin_116 : decode cX7_readKin 116 = .ok (.aaload, 1) := by decide +kernel
theorem dX7_readKin_117 : decode cX7_readKin 117 = .ok (.dup, 1) := by decide +kernel
theorem dX7_readKin_118 : decode cX7_readKin 118 = .ok (.getfield 139, 3) := by decide +kernel
theorem dX7_readKin_121 : decode cX7_readKin 121 = .ok (.iconst 1, 1) := by decide +kernel
theorem dX7_readKin_122 : decode cX7_readKin 122 = .ok (.iload_n 1, 1) := by decide +kernel
theorem dX7_readKin_123 : decode cX7_readKin 123 = .ok (.ishl, 1) := by decide +kernel
theorem dX7_readKin_124 : decode cX7_readKin 124 = .ok (.ior, 1) := by decide +kernel
theorem dX7_readKin_125 : decode cX7_readKin 125 = .ok (.putfield 139, 3) := by decide +kernel
theorem dX7_readKin_128 : decode cX7_readKin 128 = .ok (.aload_n 0, 1) := by decide +kernel
theorem dX7_readKin_129 : decode cX7_readKin 129 = .ok (.getfield 31, 3) := by decide +kernel
theorem dX7_readKin_132 : decode cX7_readKin 132 = .ok (.dup, 1) := by decide +kernel
theorem dX7_readKin_133 : decode cX7_readKin 133 = .ok (.getfield 155, 3) := by decide +kernel
theorem dX7_readKin_136 : decode cX7_readKin 136 = .ok (.iconst 1, 1) := by decide +kernel
theorem dX7_readKin_137 : decode cX7_readKin 137 = .ok (.iadd, 1) := by decide +kernel
theorem dX7_readKin_138 : decode cX7_readKin 138 = .ok (.putfield 155, 3) := by decide +kernel
theorem dX7_readKin_141 : decode cX7_readKin 141 = .ok (.aload_n 0, 1) := by decide +kernel
theorem dX7_readKin_142 : decode cX7_readKin 142 = .ok (.invokevirtual 96, 3) := by decide +kernel
theorem dX7_readKin_145 : decode cX7_readKin 145 = .ok (.return_, 1) := by decide +kernel
theorem dX7_readGuest_0 : decode cX7_readGuest 0 = .ok (.aload_n 0, 1) := by decide +kernel
theorem dX7_readGuest_1 : decode cX7_readGuest 1 = .ok (.aload_n 0, 1) := by decide +kernel
theorem dX7_readGuest_2 : decode cX7_readGuest 2 = .ok (.getfield 31, 3) := by decide +kernel
theorem dX7_readGuest_5 : decode cX7_readGuest 5 = .ok (.getfield 161, 3) := by decide +kernel
theorem dX7_readGuest_8 : decode cX7_readGuest 8 = .ok (.iconst 5, 1) := by decide +kernel
theorem dX7_readGuest_9 : decode cX7_readGuest 9 = .ok (.if_icmp .ge 7, 3) := by decide +kernel
theorem dX7_readGuest_12 : decode cX7_readGuest 12 = .ok (.iconst 1, 1) := by decide +kernel
theorem dX7_readGuest_13 : decode cX7_readGuest 13 = .ok (.goto 4, 3) := by decide +kernel
theorem dX7_readGuest_16 : decode cX7_readGuest 16 = .ok (.iconst 0, 1) := by decide +kernel
theorem dX7_readGuest_17 : decode cX7_readGuest 17 = .ok (.iconst 2, 1) := by decide +kernel
theorem dX7_readGuest_18 : decode cX7_readGuest 18 = .ok (.invokevirtual 92, 3) := by decide +kernel
theorem dX7_readGuest_21 : decode cX7_readGuest 21 = .ok (.aload_n 0, 1) := by decide +kernel
theorem dX7_readGuest_22 : decode cX7_readGuest 22 = .ok (.invokevirtual 96, 3) := by decide +kernel
theorem dX7_readGuest_25 : decode cX7_readGuest 25 = .ok (.aload_n 0, 1) := by decide +kernel
theorem dX7_readGuest_26 : decode cX7_readGuest 26 = .ok (.invokevirtual 102, 3) := by decide +kernel
theorem dX7_readGuest_29 : decode cX7_readGuest 29 = .ok (.istore_n 1, 1) := by decide +kernel
theorem dX7_readGuest_30 : decode cX7_readGuest 30 = .ok (.aload_n 0, 1) := by decide +kernel
theorem dX7_readGuest_31 : decode cX7_readGuest 31 = .ok (.aload_n 0, 1) := by decide +kernel
theorem dX7_readGuest_32 : decode cX7_readGuest 32 = .ok (.getfield 31, 3) := by decide +kernel
theorem dX7_readGuest_35 : decode cX7_readGuest 35 = .ok (.iload_n 1, 1) := by decide +kernel
theorem dX7_readGuest_36 : decode cX7_readGuest 36 = .ok (.invokevirtual 164, 3) := by decide +kernel
theorem dX7_readGuest_39 : decode cX7_readGuest 39 = .ok (.iconst (-1), 1) := by decide +kernel
theorem dX7_readGuest_40 : decode cX7_readGuest 40 = .ok (.if_icmp .ne 7, 3) := by decide +kernel
theorem dX7_readGuest_43 : decode cX7_readGuest 43 = .ok (.iconst 1, 1) := by decide +kernel
theorem dX7_readGuest_44 : decode cX7_readGuest 44 = .ok (.goto 4, 3) := by decide +kernel
theorem dX7_readGuest_47 : decode cX7_readGuest 47 = .ok (.iconst 0, 1) := by decide +kernel
theorem dX7_readGuest_48 : decode cX7_readGuest 48 = .ok (.iconst 3, 1) := by decide +kernel
theorem dX7_readGuest_49 : decode cX7_readGuest 49 = .ok (.invokevirtual 92, 3) := by decide +kernel
theorem dX7_readGuest_52 : decode cX7_readGuest 52 = .ok (.aload_n 0, 1) := by decide +kernel
theorem dX7_readGuest_53 : decode cX7_readGuest 53 = .ok (.invokevirtual 96, 3) := by decide +kernel
theorem dX7_readGuest_56 : decode cX7_readGuest 56 = .ok (.aload_n 0, 1) := by decide +kernel
theorem dX7_readGuest_57 : decode cX7_readGuest 57 = .ok (.iconst 0, 1) := by decide +kernel
theorem dX7_readGuest_58 : decode cX7_readGuest 58 = .ok (.bipush 99, 2) := by decide +kernel
theorem dX7_readGuest_60 : decode cX7_readGuest 60 = .ok (.invokevirtual 119, 3) := by decide +kernel
theorem dX7_readGuest_63 : decode cX7_readGuest 63 = .ok (.istore_n 2, 1) := by decide +kernel
theorem dX7_readGuest_64 : decode cX7_readGuest 64 = .ok (.aload_n 0, 1) := by decide +kernel
theorem dX7_readGuest_65 : decode cX7_readGuest 65 = .ok (.iconst 0, 1) := by decide +kernel
theorem dX7_readGuest_66 : decode cX7_readGuest 66 = .ok (.bipush 9, 2) := by decide +kernel
theorem dX7_readGuest_68 : decode cX7_readGuest 68 = .ok (.invokevirtual 119, 3) := by decide +kernel
theorem dX7_readGuest_71 : decode cX7_readGuest 71 = .ok (.istore_n 3, 1) := by decide +kernel
theorem dX7_readGuest_72 : decode cX7_readGuest 72 = .ok (.aload_n 0, 1) := by decide +kernel
theorem dX7_readGuest_73 : decode cX7_readGuest 73 = .ok (.getfield 9, 3) := by decide +kernel
theorem dX7_readGuest_76 : decode cX7_readGuest 76 = .ok (.ifCond .ne 64, 3) := by decide +kernel
theorem dX7_readGuest_79 : decode cX7_readGuest 79 = .ok (.aload_n 0, 1) := by decide +kernel
theorem dX7_readGuest_80 : decode cX7_readGuest 80 = .ok (.getfield 31, 3) := by decide +kernel
theorem dX7_readGuest_83 : decode cX7_readGuest 83 = .ok (.getfield 167, 3) := by decide +kernel
theorem dX7_readGuest_86 : decode cX7_readGuest 86 = .ok (.aload_n 0, 1) := by decide +kernel
theorem dX7_readGuest_87 : decode cX7_readGuest 87 = .ok (.getfield 31, 3) := by decide +kernel
theorem dX7_readGuest_90 : decode cX7_readGuest 90 = .ok (.getfield 161, 3) := by decide +kernel
theorem dX7_readGuest_93 : decode cX7_readGuest 93 = .ok (.iload_n 1, 1) := by decide +kernel
theorem dX7_readGuest_94 : decode cX7_readGuest 94 = .ok (.iastore, 1) := by decide +kernel
theorem dX7_readGuest_95 : decode cX7_readGuest 95 = .ok (.aload_n 0, 1) := by decide +kernel
theorem dX7_readGuest_96 : decode cX7_readGuest 96 = .ok (.getfield 31, 3) := by decide +kernel
theorem dX7_readGuest_99 : decode cX7_readGuest 99 = .ok (.getfield 170, 3) := by decide +kernel
theorem dX7_readGuest_102 : decode cX7_readGuest 102 = .ok (.aload_n 0, 1) := by decide +kernel
theorem dX7_readGuest_103 : decode cX7_readGuest 103 = .ok (.getfield 31, 3) := by decide +kernel
theorem dX7_readGuest_106 : decode cX7_readGuest 106 = .ok (.getfield 161, 3) := by decide +kernel
theorem dX7_readGuest_109 : decode cX7_readGuest 109 = .ok (.iload_n 2, 1) := by decide +kernel
theorem dX7_readGuest_110 : decode cX7_readGuest 110 = .ok (.iastore, 1) := by decide +kernel
theorem dX7_readGuest_111 : decode cX7_readGuest 111 = .ok (.aload_n 0, 1) := by decide +kernel
theorem dX7_readGuest_112 : decode cX7_readGuest 112 = .ok (.getfield 31, 3) := by decide +kernel
theorem dX7_readGuest_115 : decode cX7_readGuest 115 = .ok (.getfield 173, 3) := by decide +kernel
theorem dX7_readGuest_118 : decode cX7_readGuest 118 = .ok (.aload_n 0, 1) := by decide +kernel
theorem dX7_readGuest_119 : decode cX7_readGuest 119 = .ok (.getfield 31, 3) := by decide +kernel
theorem dX7_readGuest_122 : decode cX7_readGuest 122 = .ok (.getfield 161, 3) := by decide +kernel
theorem dX7_readGuest_125 : decode cX7_readGuest 125 = .ok (.iload_n 3, 1) := by decide +kernel
theorem dX7_readGuest_126 : decode cX7_readGuest 126 = .ok (.iastore, 1) := by decide +kernel
theorem dX7_readGuest_127 : decode cX7_readGuest 127 = .ok (.aload_n 0, 1) := by decide +kernel
theorem dX7_readGuest_128 : decode cX7_readGuest 128 = .ok (.getfield 31, 3) := by decide +kernel
theorem dX7_readGuest_131 : decode cX7_readGuest 131 = .ok (.dup, 1) := by decide +kernel
theorem dX7_readGuest_132 : decode cX7_readGuest 132 = .ok (.getfield 161, 3) := by decide +kernel
theorem dX7_readGuest_135 : decode cX7_readGuest 135 = .ok (.iconst 1, 1) := by decide +kernel
theorem dX7_readGuest_136 : decode cX7_readGuest 136 = .ok (.iadd, 1) := by decide +kernel
theorem dX7_readGuest_137 : decode cX7_readGuest 137 = .ok (.putfield 161, 3) := by decide +kernel
theorem dX7_readGuest_140 : decode cX7_readGuest 140 = .ok (.return_, 1) := by decide +kernel
theorem dX7_readDamp_0 : decode cX7_readDamp 0 = .ok (.aload_n 0, 1) := by decide +kernel
theorem dX7_readDamp_1 : decode cX7_readDamp 1 = .ok (.aload_n 0, 1) := by decide +kernel
theorem dX7_readDamp_2 : decode cX7_readDamp 2 = .ok (.getfield 31, 3) := by decide +kernel
theorem dX7_readDamp_5 : decode cX7_readDamp 5 = .ok (.getfield 176, 3) := by decide +kernel
theorem dX7_readDamp_8 : decode cX7_readDamp 8 = .ok (.ifCond .ne 7, 3) := by decide +kernel
theorem dX7_readDamp_11 : decode cX7_readDamp 11 = .ok (.iconst 1, 1) := by decide +kernel
theorem dX7_readDamp_12 : decode cX7_readDamp 12 = .ok (.goto 4, 3) := by decide +kernel
theorem dX7_readDamp_15 : decode cX7_readDamp 15 = .ok (.iconst 0, 1) := by decide +kernel
theorem dX7_readDamp_16 : decode cX7_readDamp 16 = .ok (.iconst 3, 1) := by decide +kernel
theorem dX7_readDamp_17 : decode cX7_readDamp 17 = .ok (.invokevirtual 92, 3) := by decide +kernel
theorem dX7_readDamp_20 : decode cX7_readDamp 20 = .ok (.aload_n 0, 1) := by decide +kernel
theorem dX7_readDamp_21 : decode cX7_readDamp 21 = .ok (.invokevirtual 96, 3) := by decide +kernel
theorem dX7_readDamp_24 : decode cX7_readDamp 24 = .ok (.aload_n 0, 1) := by decide +kernel
theorem dX7_readDamp_25 : decode cX7_readDamp 25 = .ok (.getfield 31, 3) := by decide +kernel
theorem dX7_readDamp_28 : decode cX7_readDamp 28 = .ok (.aload_n 0, 1) := by decide +kernel
theorem dX7_readDamp_29 : decode cX7_readDamp 29 = .ok (.iconst 0, 1) := by decide +kernel
theorem dX7_readDamp_30 : decode cX7_readDamp 30 = .ok (.bipush 100, 2) := by decide +kernel
theorem dX7_readDamp_32 : decode cX7_readDamp 32 = .ok (.invokevirtual 119, 3) := by decide +kernel
theorem dX7_readDamp_35 : decode cX7_readDamp 35 = .ok (.putfield 180, 3) := by decide +kernel
theorem dX7_readDamp_38 : decode cX7_readDamp 38 = .ok (.aload_n 0, 1) := by decide +kernel
theorem dX7_readDamp_39 : decode cX7_readDamp 39 = .ok (.getfield 31, 3) := by decide +kernel
theorem dX7_readDamp_42 : decode cX7_readDamp 42 = .ok (.iconst 1, 1) := by decide +kernel
theorem dX7_readDamp_43 : decode cX7_readDamp 43 = .ok (.putfield 176, 3) := by decide +kernel
theorem dX7_readDamp_46 : decode cX7_readDamp 46 = .ok (.return_, 1) := by decide +kernel
theorem dX7_readSeed_0 : decode cX7_readSeed 0 = .ok (.aload_n 0, 1) := by decide +kernel
theorem dX7_readSeed_1 : decode cX7_readSeed 1 = .ok (.aload_n 0, 1) := by decide +kernel
theorem dX7_readSeed_2 : decode cX7_readSeed 2 = .ok (.getfield 31, 3) := by decide +kernel
theorem dX7_readSeed_5 : decode cX7_readSeed 5 = .ok (.getfield 183, 3) := by decide +kernel
theorem dX7_readSeed_8 : decode cX7_readSeed 8 = .ok (.ifCond .ne 7, 3) := by decide +kernel
theorem dX7_readSeed_11 : decode cX7_readSeed 11 = .ok (.iconst 1, 1) := by decide +kernel
theorem dX7_readSeed_12 : decode cX7_readSeed 12 = .ok (.goto 4, 3) := by decide +kernel
theorem dX7_readSeed_15 : decode cX7_readSeed 15 = .ok (.iconst 0, 1) := by decide +kernel
theorem dX7_readSeed_16 : decode cX7_readSeed 16 = .ok (.iconst 3, 1) := by decide +kernel
theorem dX7_readSeed_17 : decode cX7_readSeed 17 = .ok (.invokevirtual 92, 3) := by decide +kernel
theorem dX7_readSeed_20 : decode cX7_readSeed 20 = .ok (.aload_n 0, 1) := by decide +kernel
theorem dX7_readSeed_21 : decode cX7_readSeed 21 = .ok (.invokevirtual 96, 3) := by decide +kernel
theorem dX7_readSeed_24 : decode cX7_readSeed 24 = .ok (.aload_n 0, 1) := by decide +kernel
theorem dX7_readSeed_25 : decode cX7_readSeed 25 = .ok (.getfield 31, 3) := by decide +kernel
theorem dX7_readSeed_28 : decode cX7_readSeed 28 = .ok (.aload_n 0, 1) := by decide +kernel
theorem dX7_readSeed_29 : decode cX7_readSeed 29 = .ok (.iconst 0, 1) := by decide +kernel
theorem dX7_readSeed_30 : decode cX7_readSeed 30 = .ok (.ldc 186, 2) := by decide +kernel
theorem dX7_readSeed_32 : decode cX7_readSeed 32 = .ok (.invokevirtual 119, 3) := by decide +kernel
theorem dX7_readSeed_35 : decode cX7_readSeed 35 = .ok (.putfield 187, 3) := by decide +kernel
theorem dX7_readSeed_38 : decode cX7_readSeed 38 = .ok (.aload_n 0, 1) := by decide +kernel
theorem dX7_readSeed_39 : decode cX7_readSeed 39 = .ok (.getfield 31, 3) := by decide +kernel
theorem dX7_readSeed_42 : decode cX7_readSeed 42 = .ok (.iconst 1, 1) := by decide +kernel
theorem dX7_readSeed_43 : decode cX7_readSeed 43 = .ok (.putfield 183, 3) := by decide +kernel
theorem dX7_readSeed_46 : decode cX7_readSeed 46 = .ok (.return_, 1) := by decide +kernel
theorem dX7_readLaw_0 : decode cX7_readLaw 0 = .ok (.aload_n 0, 1) := by decide +kernel
theorem dX7_readLaw_1 : decode cX7_readLaw 1 = .ok (.invokevirtual 96, 3) := by decide +kernel
theorem dX7_readLaw_4 : decode cX7_readLaw 4 = .ok (.aload_n 0, 1) := by decide +kernel
theorem dX7_readLaw_5 : decode cX7_readLaw 5 = .ok (.getfield 18, 3) := by decide +kernel
theorem dX7_readLaw_8 : decode cX7_readLaw 8 = .ok (.ldc 190, 2) := by decide +kernel
theorem dX7_readLaw_10 : decode cX7_readLaw 10 = .ok (.invokevirtual 191, 3) := by decide +kernel
theorem dX7_readLaw_13 : decode cX7_readLaw 13 = .ok (.ifCond .eq 7, 3) := by decide +kernel
theorem dX7_readLaw_16 : decode cX7_readLaw 16 = .ok (.iconst 0, 1) := by decide +kernel
theorem dX7_readLaw_17 : decode cX7_readLaw 17 = .ok (.goto 36, 3) := by decide +kernel
theorem dX7_readLaw_20 : decode cX7_readLaw 20 = .ok (.aload_n 0, 1) := by decide +kernel
theorem dX7_readLaw_21 : decode cX7_readLaw 21 = .ok (.getfield 18, 3) := by decide +kernel
theorem dX7_readLaw_24 : decode cX7_readLaw 24 = .ok (.ldc 194, 2) := by decide +kernel
theorem dX7_readLaw_26 : decode cX7_readLaw 26 = .ok (.invokevirtual 191, 3) := by decide +kernel
theorem dX7_readLaw_29 : decode cX7_readLaw 29 = .ok (.ifCond .eq 7, 3) := by decide +kernel
theorem dX7_readLaw_32 : decode cX7_readLaw 32 = .ok (.iconst 1, 1) := by decide +kernel
theorem dX7_readLaw_33 : decode cX7_readLaw 33 = .ok (.goto 20, 3) := by decide +kernel
theorem dX7_readLaw_36 : decode cX7_readLaw 36 = .ok (.aload_n 0, 1) := by decide +kernel
theorem dX7_readLaw_37 : decode cX7_readLaw 37 = .ok (.getfield 18, 3) := by decide +kernel
theorem dX7_readLaw_40 : decode cX7_readLaw 40 = .ok (.ldc 195, 2) := by decide +kernel
theorem dX7_readLaw_42 : decode cX7_readLaw 42 = .ok (.invokevirtual 191, 3) := by decide +kernel
theorem dX7_readLaw_45 : decode cX7_readLaw 45 = .ok (.ifCond .eq 7, 3) := by decide +kernel
theorem dX7_readLaw_48 : decode cX7_readLaw 48 = .ok (.iconst 2, 1) := by decide +kernel
theorem dX7_readLaw_49 : decode cX7_readLaw 49 = .ok (.goto 4, 3) := by decide +kernel
theorem dX7_readLaw_52 : decode cX7_readLaw 52 = .ok (.iconst (-1), 1) := by decide +kernel
theorem dX7_readLaw_53 : decode cX7_readLaw 53 = .ok (.istore_n 1, 1) := by decide +kernel
theorem dX7_readLaw_54 : decode cX7_readLaw 54 = .ok (.aload_n 0, 1) := by decide +kernel
theorem dX7_readLaw_55 : decode cX7_readLaw 55 = .ok (.iload_n 1, 1) := by decide +kernel
theorem dX7_readLaw_56 : decode cX7_readLaw 56 = .ok (.iconst (-1), 1) := by decide +kernel
theorem dX7_readLaw_57 : decode cX7_readLaw 57 = .ok (.if_icmp .eq 7, 3) := by decide +kernel
theorem dX7_readLaw_60 : decode cX7_readLaw 60 = .ok (.iconst 1, 1) := by decide +kernel
theorem dX7_readLaw_61 : decode cX7_readLaw 61 = .ok (.goto 4, 3) := by decide +kernel
theorem dX7_readLaw_64 : decode cX7_readLaw 64 = .ok (.iconst 0, 1) := by decide +kernel
theorem dX7_readLaw_65 : decode cX7_readLaw 65 = .ok (.iconst 1, 1) := by decide +kernel
theorem dX7_readLaw_66 : decode cX7_readLaw 66 = .ok (.invokevirtual 92, 3) := by decide +kernel
theorem dX7_readLaw_69 : decode cX7_readLaw 69 = .ok (.iload_n 1, 1) := by decide +kernel
theorem dX7_readLaw_70 : decode cX7_readLaw 70 = .ok (.iconst (-1), 1) := by decide +kernel
theorem dX7_readLaw_71 : decode cX7_readLaw 71 = .ok (.if_icmp .eq 31, 3) := by decide +kernel
theorem dX7_readLaw_74 : decode cX7_readLaw 74 = .ok (.aload_n 0, 1) := by decide +kernel
theorem dX7_readLaw_75 : decode cX7_readLaw 75 = .ok (.aload_n 0, 1) := by decide +kernel
theorem dX7_readLaw_76 : decode cX7_readLaw 76 = .ok (.getfield 31, 3) := by decide +kernel
theorem dX7_readLaw_79 : decode cX7_readLaw 79 = .ok (.getfield 196, 3) := by decide +kernel
theorem dX7_readLaw_82 : decode cX7_readLaw 82 = .ok (.iload_n 1, 1) := by decide +kernel
theorem dX7_readLaw_83 : decode cX7_readLaw 83 = .ok (.invokevirtual 200, 3) := by decide +kernel
theorem dX7_readLaw_86 : decode cX7_readLaw 86 = .ok (.ifCond .ne 7, 3) := by decide +kernel
theorem dX7_readLaw_89 : decode cX7_readLaw 89 = .ok (.iconst 1, 1) := by decide +kernel
theorem dX7_readLaw_90 : decode cX7_readLaw 90 = .ok (.goto 4, 3) := by decide +kernel
theorem dX7_readLaw_93 : decode cX7_readLaw 93 = .ok (.iconst 0, 1) := by decide +kernel
theorem dX7_readLaw_94 : decode cX7_readLaw 94 = .ok (.iconst 3, 1) := by decide +kernel
theorem dX7_readLaw_95 : decode cX7_readLaw 95 = .ok (.invokevirtual 92, 3) := by decide +kernel
theorem dX7_readLaw_98 : decode cX7_readLaw 98 = .ok (.aload_n 0, 1) := by decide +kernel
theorem dX7_readLaw_99 : decode cX7_readLaw 99 = .ok (.invokevirtual 96, 3) := by decide +kernel
theorem dX7_readLaw_102 : decode cX7_readLaw 102 = .ok (.aload_n 0, 1) := by decide +kernel
theorem dX7_readLaw_103 : decode cX7_readLaw 103 = .ok (.getfield 9, 3) := by decide +kernel
theorem dX7_readLaw_106 : decode cX7_readLaw 106 = .ok (.ifCond .ne 33, 3) := by decide +kernel
theorem dX7_readLaw_109 : decode cX7_readLaw 109 = .ok (.aload_n 0, 1) := by decide +kernel
theorem dX7_readLaw_110 : decode cX7_readLaw 110 = .ok (.getfield 27, 3) := by decide +kernel
theorem dX7_readLaw_113 : decode cX7_readLaw 113 = .ok (.aload_n 0, 1) := by decide +kernel
theorem dX7_readLaw_114 : decode cX7_readLaw 114 = .ok (.getfield 31, 3) := by decide +kernel
theorem dX7_readLaw_117 : decode cX7_readLaw 117 = .ok (.getfield 196, 3) := by decide +kernel
theorem dX7_readLaw_120 : decode cX7_readLaw 120 = .ok (.iload_n 1, 1) := by decide +kernel
theorem dX7_readLaw_121 : decode cX7_readLaw 121 = .ok (.invokevirtual 205, 3) := by decide +kernel
theorem dX7_readLaw_124 : decode cX7_readLaw 124 = .ok (.istore_n 2, 1) := by decide +kernel
theorem dX7_readLaw_125 : decode cX7_readLaw 125 = .ok (.aload_n 0, 1) := by decide +kernel
theorem dX7_readLaw_126 : decode cX7_readLaw 126 = .ok (.iload_n 2, 1) := by decide +kernel
theorem dX7_readLaw_127 : decode cX7_readLaw 127 = .ok (.ifCond .ne 7, 3) := by decide +kernel
theorem dX7_readLaw_130 : decode cX7_readLaw 130 = .ok (.iconst 1, 1) := by decide +kernel
theorem dX7_readLaw_131 : decode cX7_readLaw 131 = .ok (.goto 4, 3) := by decide +kernel
theorem dX7_readLaw_134 : decode cX7_readLaw 134 = .ok (.iconst 0, 1) := by decide +kernel
theorem dX7_readLaw_135 : decode cX7_readLaw 135 = .ok (.iload_n 2, 1) := by decide +kernel
theorem dX7_readLaw_136 : decode cX7_readLaw 136 = .ok (.invokevirtual 92, 3) := by decide +kernel
theorem dX7_readLaw_139 : decode cX7_readLaw 139 = .ok (.return_, 1) := by decide +kernel
theorem dX7_takeName_0 : decode cX7_takeName 0 = .ok (.aload_n 0, 1) := by decide +kernel
theorem dX7_takeName_1 : decode cX7_takeName 1 = .ok (.aload_n 0, 1) := by decide +kernel
theorem dX7_takeName_2 : decode cX7_takeName 2 = .ok (.getfield 18, 3) := by decide +kernel
theorem dX7_takeName_5 : decode cX7_takeName 5 = .ok (.getfield 46, 3) := by decide +kernel
theorem dX7_takeName_8 : decode cX7_takeName 8 = .ok (.iconst 1, 1) := by decide +kernel
theorem dX7_takeName_9 : decode cX7_takeName 9 = .ok (.if_icmp .ne 20, 3) := by decide +kernel
theorem dX7_takeName_12 : decode cX7_takeName 12 = .ok (.aload_n 0, 1) := by decide +kernel
theorem dX7_takeName_13 : decode cX7_takeName 13 = .ok (.getfield 18, 3) := by decide +kernel
theorem dX7_takeName_16 : decode cX7_takeName 16 = .ok (.getfield 64, 3) := by decide +kernel
theorem dX7_takeName_19 : decode cX7_takeName 19 = .ok (.invokestatic 209, 3) := by decide +kernel
theorem dX7_takeName_22 : decode cX7_takeName 22 = .ok (.ifCond .ne 7, 3) := by decide +kernel
theorem dX7_takeName_25 : decode cX7_takeName 25 = .ok (.iconst 1, 1) := by decide +kernel
theorem dX7_takeName_26 : decode cX7_takeName 26 = .ok (.goto 4, 3) := by decide +kernel
theorem dX7_takeName_29 : decode cX7_takeName 29 = .ok (.iconst 0, 1) := by decide +kernel
theorem dX7_takeName_30 : decode cX7_takeName 30 = .ok (.iconst 1, 1) := by decide +kernel
theorem dX7_takeName_31 : decode cX7_takeName 31 = .ok (.invokevirtual 92, 3) := by decide +kernel
theorem dX7_takeName_34 : decode cX7_takeName 34 = .ok (.aload_n 0, 1) := by decide +kernel
theorem dX7_takeName_35 : decode cX7_takeName 35 = .ok (.getfield 18, 3) := by decide +kernel
theorem dX7_takeName_38 : decode cX7_takeName 38 = .ok (.getfield 64, 3) := by decide +kernel
theorem dX7_takeName_41 : decode cX7_takeName 41 = .ok (.ireturn, 1) := by decide +kernel
theorem dX7_takeBox_0 : decode cX7_takeBox 0 = .ok (.aload_n 0, 1) := by decide +kernel
theorem dX7_takeBox_1 : decode cX7_takeBox 1 = .ok (.getfield 31, 3) := by decide +kernel
theorem dX7_takeBox_4 : decode cX7_takeBox 4 = .ok (.aload_n 0, 1) := by decide +kernel
theorem dX7_takeBox_5 : decode cX7_takeBox 5 = .ok (.invokevirtual 102, 3) := by decide +kernel
theorem dX7_takeBox_8 : decode cX7_takeBox 8 = .ok (.invokevirtual 106, 3) := by decide +kernel
theorem dX7_takeBox_11 : decode cX7_takeBox 11 = .ok (.istore_n 1, 1) := by decide +kernel
theorem dX7_takeBox_12 : decode cX7_takeBox 12 = .ok (.aload_n 0, 1) := by decide +kernel
theorem dX7_takeBox_13 : decode cX7_takeBox 13 = .ok (.iload_n 1, 1) := by decide +kernel
theorem dX7_takeBox_14 : decode cX7_takeBox 14 = .ok (.iconst (-1), 1) := by decide +kernel
theorem dX7_takeBox_15 : decode cX7_takeBox 15 = .ok (.if_icmp .eq 7, 3) := by decide +kernel
theorem dX7_takeBox_18 : decode cX7_takeBox 18 = .ok (.iconst 1, 1) := by decide +kernel
theorem dX7_takeBox_19 : decode cX7_takeBox 19 = .ok (.goto 4, 3) := by decide +kernel
theorem dX7_takeBox_22 : decode cX7_takeBox 22 = .ok (.iconst 0, 1) := by decide +kernel
theorem dX7_takeBox_23 : decode cX7_takeBox 23 = .ok (.iconst 4, 1) := by decide +kernel
theorem dX7_takeBox_24 : decode cX7_takeBox 24 = .ok (.invokevirtual 92, 3) := by decide +kernel
theorem dX7_takeBox_27 : decode cX7_takeBox 27 = .ok (.iload_n 1, 1) := by decide +kernel
theorem dX7_takeBox_28 : decode cX7_takeBox 28 = .ok (.ireturn, 1) := by decide +kernel
theorem dX7_checkNumber_0 : decode cX7_checkNumber 0 = .ok (.aload_n 0, 1) := by decide +kernel
theorem dX7_checkNumber_1 : decode cX7_checkNumber 1 = .ok (.aload_n 0, 1) := by decide +kernel
theorem dX7_checkNumber_2 : decode cX7_checkNumber 2 = .ok (.getfield 18, 3) := by decide +kernel
theorem dX7_checkNumber_5 : decode cX7_checkNumber 5 = .ok (.getfield 46, 3) := by decide +kernel
theorem dX7_checkNumber_8 : decode cX7_checkNumber 8 = .ok (.iconst 2, 1) := by decide +kernel
theorem dX7_checkNumber_9 : decode cX7_checkNumber 9 = .ok (.if_icmp .ne 7, 3) := by decide +kernel
theorem dX7_checkNumber_12 : decode cX7_checkNumber 12 = .ok (.iconst 1, 1) := by decide +kernel
theorem dX7_checkNumber_13 : decode cX7_checkNumber 13 = .ok (.goto 4, 3) := by decide +kernel
theorem dX7_checkNumber_16 : decode cX7_checkNumber 16 = .ok (.iconst 0, 1) := by decide +kernel
theorem dX7_checkNumber_17 : decode cX7_checkNumber 17 = .ok (.iconst 1, 1) := by decide +kernel
theorem dX7_checkNumber_18 : decode cX7_checkNumber 18 = .ok (.invokevirtual 92, 3) := by decide +kernel
theorem dX7_checkNumber_21 : decode cX7_checkNumber 21 = .ok (.aload_n 0, 1) := by decide +kernel
theorem dX7_checkNumber_22 : decode cX7_checkNumber 22 = .ok (.aload_n 0, 1) := by decide +kernel
theorem dX7_checkNumber_23 : decode cX7_checkNumber 23 = .ok (.getfield 18, 3) := by decide +kernel
theorem dX7_checkNumber_26 : decode cX7_checkNumber 26 = .ok (.getfield 64, 3) := by decide +kernel
theorem dX7_checkNumber_29 : decode cX7_checkNumber 29 = .ok (.iload_n 1, 1) := by decide +kernel
theorem dX7_checkNumber_30 : decode cX7_checkNumber 30 = .ok (.if_icmp .lt 18, 3) := by decide +kernel
theorem dX7_checkNumber_33 : decode cX7_checkNumber 33 = .ok (.aload_n 0, 1) := by decide +kernel
theorem dX7_checkNumber_34 : decode cX7_checkNumber 34 = .ok (.getfield 18, 3) := by decide +kernel
theorem dX7_checkNumber_37 : decode cX7_checkNumber 37 = .ok (.getfield 64, 3) := by decide +kernel
theorem dX7_checkNumber_40 : decode cX7_checkNumber 40 = .ok (.iload_n 2, 1) := by decide +kernel
theorem dX7_checkNumber_41 : decode cX7_checkNumber 41 = .ok (.if_icmp .gt 7, 3) := by decide +kernel
theorem dX7_checkNumber_44 : decode cX7_checkNumber 44 = .ok (.iconst 1, 1) := by decide +kernel
theorem dX7_checkNumber_45 : decode cX7_checkNumber 45 = .ok (.goto 4, 3) := by decide +kernel
theorem dX7_checkNumber_48 : decode cX7_checkNumber 48 = .ok (.iconst 0, 1) := by decide +kernel
theorem dX7_checkNumber_49 : decode cX7_checkNumber 49 = .ok (.iconst 2, 1) := by decide +kernel
theorem dX7_checkNumber_50 : decode cX7_checkNumber 50 = .ok (.invokevirtual 92, 3) := by decide +kernel
theorem dX7_checkNumber_53 : decode cX7_checkNumber 53 = .ok (.return_, 1) := by decide +kernel
theorem dX7_takeNumber_0 : decode cX7_takeNumber 0 = .ok (.aload_n 0, 1) := by decide +kernel
theorem dX7_takeNumber_1 : decode cX7_takeNumber 1 = .ok (.getfield 18, 3) := by decide +kernel
theorem dX7_takeNumber_4 : decode cX7_takeNumber 4 = .ok (.getfield 64, 3) := by decide +kernel
theorem dX7_takeNumber_7 : decode cX7_takeNumber 7 = .ok (.istore_n 3, 1) := by decide +kernel
theorem dX7_takeNumber_8 : decode cX7_takeNumber 8 = .ok (.aload_n 0, 1) := by decide +kernel
theorem dX7_takeNumber_9 : decode cX7_takeNumber 9 = .ok (.iload_n 1, 1) := by decide +kernel
theorem dX7_takeNumber_10 : decode cX7_takeNumber 10 = .ok (.iload_n 2, 1) := by decide +kernel
theorem dX7_takeNumber_11 : decode cX7_takeNumber 11 = .ok (.invokevirtual 148, 3) := by decide +kernel
theorem dX7_takeNumber_14 : decode cX7_takeNumber 14 = .ok (.aload_n 0, 1) := by decide +kernel
theorem dX7_takeNumber_15 : decode cX7_takeNumber 15 = .ok (.getfield 9, 3) := by decide +kernel
theorem dX7_takeNumber_18 : decode cX7_takeNumber 18 = .ok (.ifCond .ne 10, 3) := by decide +kernel
theorem dX7_takeNumber_21 : decode cX7_takeNumber 21 = .ok (.aload_n 0, 1) := by decide +kernel
theorem dX7_takeNumber_22 : decode cX7_takeNumber 22 = .ok (.getfield 18, 3) := by decide +kernel
theorem dX7_takeNumber_25 : decode cX7_takeNumber 25 = .ok (.invokevirtual 61, 3) := by decide +kernel
theorem dX7_takeNumber_28 : decode cX7_takeNumber 28 = .ok (.iload_n 3, 1) := by decide +kernel
theorem dX7_takeNumber_29 : decode cX7_takeNumber 29 = .ok (.ireturn, 1) := by decide +kernel
theorem dX7_isOfLanguage_0 : decode cX7_isOfLanguage 0 = .ok (.iconst 0, 1) := by decide +kernel
theorem dX7_isOfLanguage_1 : decode cX7_isOfLanguage 1 = .ok (.istore_n 1, 1) := by decide +kernel
theorem dX7_isOfLanguage_2 : decode cX7_isOfLanguage 2 = .ok (.iload_n 1, 1) := by decide +kernel
theorem dX7_isOfLanguage_3 : decode cX7_isOfLanguage 3 = .ok (.getstatic 212, 3) := by decide +kernel
theorem dX7_isOfLanguage_6 : decode cX7_isOfLanguage 6 = .ok (.arraylength, 1) := by decide +kernel
theorem dX7_isOfLanguage_7 : decode cX7_isOfLanguage 7 = .ok (.if_icmp .ge 20, 3) := by decide +kernel
theorem dX7_isOfLanguage_10 : decode cX7_isOfLanguage 10 = .ok (.getstatic 212, 3) := by decide +kernel
theorem dX7_isOfLanguage_13 : decode cX7_isOfLanguage 13 = .ok (.iload_n 1, 1) := by decide +kernel
theorem dX7_isOfLanguage_14 : decode cX7_isOfLanguage 14 = .ok (.iaload, 1) := by decide +kernel
theorem dX7_isOfLanguage_15 : decode cX7_isOfLanguage 15 = .ok (.iload_n 0, 1) := by decide +kernel
theorem dX7_isOfLanguage_16 : decode cX7_isOfLanguage 16 = .ok (.if_icmp .ne 5, 3) := by decide +kernel
theorem dX7_isOfLanguage_19 : decode cX7_isOfLanguage 19 = .ok (.iconst 1, 1) := by decide +kernel
theorem dX7_isOfLanguage_20 : decode cX7_isOfLanguage 20 = .ok (.ireturn, 1) := by decide +kernel
theorem dX7_isOfLanguage_21 : decode cX7_isOfLanguage 21 = .ok (.iinc 1 1, 3) := by decide +kernel
theorem dX7_isOfLanguage_24 : decode cX7_isOfLanguage 24 = .ok (.goto (-22), 3) := by decide +kernel
theorem dX7_isOfLanguage_27 : decode cX7_isOfLanguage 27 = .ok (.iconst 0, 1) := by decide +kernel
theorem dX7_isOfLanguage_28 : decode cX7_isOfLanguage 28 = .ok (.ireturn, 1) := by decide +kernel
theorem dX8_init_0 : decode cX8_init 0 = .ok (.aload_n 0, 1) := by decide +kernel
theorem dX8_init_1 : decode cX8_init 1 = .ok (.invokespecial 3, 3) := by decide +kernel
theorem dX8_init_4 : decode cX8_init 4 = .ok (.aload_n 0, 1) := by decide +kernel
theorem dX8_init_5 : decode cX8_init 5 = .ok (.sipush 700, 3) := by decide +kernel
theorem dX8_init_8 : decode cX8_init 8 = .ok (.newarray .byte, 2) := by decide +kernel
theorem dX8_init_10 : decode cX8_init 10 = .ok (.putfield 9, 3) := by decide +kernel
theorem dX8_init_13 : decode cX8_init 13 = .ok (.return_, 1) := by decide +kernel
theorem dX8_put_0 : decode cX8_put 0 = .ok (.bipush 24, 2) := by decide +kernel
theorem dX8_put_2 : decode cX8_put 2 = .ok (.istore_n 2, 1) := by decide +kernel
theorem dX8_put_3 : decode cX8_put 3 = .ok (.iload_n 2, 1) := by decide +kernel
theorem dX8_put_4 : decode cX8_put 4 = .ok (.ifCond .lt 42, 3) := by decide +kernel
theorem dX8_put_7 : decode cX8_put 7 = .ok (.aload_n 0, 1) := by decide +kernel
theorem dX8_put_8 : decode cX8_put 8 = .ok (.getfield 15, 3) := by decide +kernel
theorem dX8_put_11 : decode cX8_put 11 = .ok (.sipush 700, 3) := by decide +kernel
theorem dX8_put_14 : decode cX8_put 14 = .ok (.if_icmp .ge 32, 3) := by decide +kernel
theorem dX8_put_17 : decode cX8_put 17 = .ok (.aload_n 0, 1) := by decide +kernel
theorem dX8_put_18 : decode cX8_put 18 = .ok (.getfield 9, 3) := by decide +kernel
theorem dX8_put_21 : decode cX8_put 21 = .ok (.aload_n 0, 1) := by decide +kernel
theorem dX8_put_22 : decode cX8_put 22 = .ok (.getfield 15, 3) := by decide +kernel
theorem dX8_put_25 : decode cX8_put 25 = .ok (.iload_n 1, 1) := by decide +kernel
theorem dX8_put_26 : decode cX8_put 26 = .ok (.iload_n 2, 1) := by decide +kernel
theorem dX8_put_27 : decode cX8_put 27 = .ok (.ishr, 1) := by decide +kernel
theorem dX8_put_28 : decode cX8_put 28 = .ok (.i2b, 1) := by decide +kernel
theorem dX8_put_29 : decode cX8_put 29 = .ok (.bastore, 1) := by decide +kernel
theorem dX8_put_30 : decode cX8_put 30 = .ok (.aload_n 0, 1) := by decide +kernel
theorem dX8_put_31 : decode cX8_put 31 = .ok (.dup, 1) := by decide +kernel
theorem dX8_put_32 : decode cX8_put 32 = .ok (.getfield 15, 3) := by decide +kernel
theorem dX8_put_35 : decode cX8_put 35 = .ok (.iconst 1, 1) := by decide +kernel
theorem dX8_put_36 : decode cX8_put 36 = .ok (.iadd, 1) := by decide +kernel
theorem dX8_put_37 : decode cX8_put 37 = .ok (.putfield 15, 3) := by decide +kernel
theorem dX8_put_40 : decode cX8_put 40 = .ok (.iinc 2 (-8), 3) := by decide +kernel
theorem dX8_put_43 : decode cX8_put 43 = .ok (.goto (-40), 3) := by decide +kernel
theorem dX8_put_46 : decode cX8_put 46 = .ok (.return_, 1) := by decide +kernel
theorem dX8_begin_0 : decode cX8_begin 0 = .ok (.aload_n 0, 1) := by decide +kernel
theorem dX8_begin_1 : decode cX8_begin 1 = .ok (.iload_n 1, 1) := by decide +kernel
theorem dX8_begin_2 : decode cX8_begin 2 = .ok (.aload_n 0, 1) := by decide +kernel
theorem dX8_begin_3 : decode cX8_begin 3 = .ok (.getfield 15, 3) := by decide +kernel
theorem dX8_begin_6 : decode cX8_begin 6 = .ok (.invokestatic 19, 3) := by decide +kernel
theorem dX8_begin_9 : decode cX8_begin 9 = .ok (.putfield 25, 3) := by decide +kernel
theorem dX8_begin_12 : decode cX8_begin 12 = .ok (.aload_n 0, 1) := by decide +kernel
theorem dX8_begin_13 : decode cX8_begin 13 = .ok (.iconst 0, 1) := by decide +kernel
theorem dX8_begin_14 : decode cX8_begin 14 = .ok (.putfield 28, 3) := by decide +kernel
theorem dX8_begin_17 : decode cX8_begin 17 = .ok (.aload_n 0, 1) := by decide +kernel
theorem dX8_begin_18 : decode cX8_begin 18 = .ok (.invokevirtual 31, 3) := by decide +kernel
theorem dX8_begin_21 : decode cX8_begin 21 = .ok (.return_, 1) := by decide +kernel
theorem dX8_isWord_0 : decode cX8_isWord 0 = .ok (.aload_n 0, 1) := by decide +kernel
theorem dX8_isWord_1 : decode cX8_isWord 1 = .ok (.getfield 34, 3) := by decide +kernel
theorem dX8_isWord_4 : decode cX8_isWord 4 = .ok (.iconst 1, 1) := by decide +kernel
theorem dX8_isWord_5 : decode cX8_isWord 5 = .ok (.if_icmp .ne 15, 3) := by decide +kernel
theorem dX8_isWord_8 : decode cX8_isWord 8 = .ok (.aload_n 0, 1) := by decide +kernel
theorem dX8_isWord_9 : decode cX8_isWord 9 = .ok (.getfield 37, 3) := by decide +kernel
theorem dX8_isWord_12 : decode cX8_isWord 12 = .ok (.iload_n 1, 1) := by decide +kernel
theorem dX8_isWord_13 : decode cX8_isWord 13 = .ok (.if_icmp .ne 7, 3) := by decide +kernel
theorem dX8_isWord_16 : decode cX8_isWord 16 = .ok (.iconst 1, 1) := by decide +kernel
theorem dX8_isWord_17 : decode cX8_isWord 17 = .ok (.goto 4, 3) := by decide +kernel
theorem dX8_isWord_20 : decode cX8_isWord 20 = .ok (.iconst 0, 1) := by decide +kernel
theorem dX8_isWord_21 : decode cX8_isWord 21 = .ok (.ireturn, 1) := by decide +kernel
theorem dX8_isSign_0 : decode cX8_isSign 0 = .ok (.aload_n 0, 1) := by decide +kernel
theorem dX8_isSign_1 : decode cX8_isSign 1 = .ok (.getfield 34, 3) := by decide +kernel
theorem dX8_isSign_4 : decode cX8_isSign 4 = .ok (.iconst 3, 1) := by decide +kernel
theorem dX8_isSign_5 : decode cX8_isSign 5 = .ok (.if_icmp .ne 15, 3) := by decide +kernel
theorem dX8_isSign_8 : decode cX8_isSign 8 = .ok (.aload_n 0, 1) := by decide +kernel
theorem dX8_isSign_9 : decode cX8_isSign 9 = .ok (.getfield 37, 3) := by decide +kernel
theorem dX8_isSign_12 : decode cX8_isSign 12 = .ok (.iload_n 1, 1) := by decide +kernel
theorem dX8_isSign_13 : decode cX8_isSign 13 = .ok (.if_icmp .ne 7, 3) := by decide +kernel
theorem dX8_isSign_16 : decode cX8_isSign 16 = .ok (.iconst 1, 1) := by decide +kernel
theorem dX8_isSign_17 : decode cX8_isSign 17 = .ok (.goto 4, 3) := by decide +kernel
theorem dX8_isSign_20 : decode cX8_isSign 20 = .ok (.iconst 0, 1) := by decide +kernel
theorem dX8_isSign_21 : decode cX8_isSign 21 = .ok (.ireturn, 1) := by decide +kernel
theorem dX8_next_0 : decode cX8_next 0 = .ok (.aload_n 0, 1) := by decide +kernel
theorem dX8_next_1 : decode cX8_next 1 = .ok (.getfield 28, 3) := by decide +kernel
theorem dX8_next_4 : decode cX8_next 4 = .ok (.aload_n 0, 1) := by decide +kernel
theorem dX8_next_5 : decode cX8_next 5 = .ok (.getfield 25, 3) := by decide +kernel
theorem dX8_next_8 : decode cX8_next 8 = .ok (.if_icmp .ge 44, 3) := by decide +kernel
theorem dX8_next_11 : decode cX8_next 11 = .ok (.aload_n 0, 1) := by decide +kernel
theorem dX8_next_12 : decode cX8_next 12 = .ok (.getfield 9, 3) := by decide +kernel
theorem dX8_next_15 : decode cX8_next 15 = .ok (.aload_n 0, 1) := by decide +kernel
theorem dX8_next_16 : decode cX8_next 16 = .ok (.getfield 28, 3) := by decide +kernel
theorem dX8_next_19 : decode cX8_next 19 = .ok (.baload, 1) := by decide +kernel
theorem dX8_next_20 : decode cX8_next 20 = .ok (.bipush 10, 2) := by decide +kernel
theorem dX8_next_22 : decode cX8_next 22 = .ok (.if_icmp .eq 17, 3) := by decide +kernel
theorem dX8_next_25 : decode cX8_next 25 = .ok (.aload_n 0, 1) := by decide +kernel
theorem dX8_next_26 : decode cX8_next 26 = .ok (.getfield 9, 3) := by decide +kernel
theorem dX8_next_29 : decode cX8_next 29 = .ok (.aload_n 0, 1) := by decide +kernel
theorem dX8_next_30 : decode cX8_next 30 = .ok (.getfield 28, 3) := by decide +kernel
theorem dX8_next_33 : decode cX8_next 33 = .ok (.baload, 1) := by decide +kernel
theorem dX8_next_34 : decode cX8_next 34 = .ok (.bipush 32, 2) := by decide +kernel
theorem dX8_next_36 : decode cX8_next 36 = .ok (.if_icmp .ne 16, 3) := by decide +kernel
theorem dX8_next_39 : decode cX8_next 39 = .ok (.aload_n 0, 1) := by decide +kernel
theorem dX8_next_40 : decode cX8_next 40 = .ok (.dup, 1) := by decide +kernel
theorem dX8_next_41 : decode cX8_next 41 = .ok (.getfield 28, 3) := by decide +kernel
theorem dX8_next_44 : decode cX8_next 44 = .ok (.iconst 1, 1) := by decide +kernel
theorem dX8_next_45 : decode cX8_next 45 = .ok (.iadd, 1) := by decide +kernel
theorem dX8_next_46 : decode cX8_next 46 = .ok (.putfield 28, 3) := by decide +kernel
theorem dX8_next_49 : decode cX8_next 49 = .ok (.goto (-49), 3) := by decide +kernel
theorem dX8_next_52 : decode cX8_next 52 = .ok (.aload_n 0, 1) := by decide +kernel
theorem dX8_next_53 : decode cX8_next 53 = .ok (.aload_n 0, 1) := by decide +kernel
theorem dX8_next_54 : decode cX8_next 54 = .ok (.getfield 28, 3) := by decide +kernel
theorem dX8_next_57 : decode cX8_next 57 = .ok (.putfield 40, 3) := by decide +kernel
theorem dX8_next_60 : decode cX8_next 60 = .ok (.aload_n 0, 1) := by decide +kernel
theorem dX8_next_61 : decode cX8_next 61 = .ok (.iconst 0, 1) := by decide +kernel
theorem dX8_next_62 : decode cX8_next 62 = .ok (.putfield 37, 3) := by decide +kernel
theorem dX8_next_65 : decode cX8_next 65 = .ok (.aload_n 0, 1) := by decide +kernel
theorem dX8_next_66 : decode cX8_next 66 = .ok (.getfield 28, 3) := by decide +kernel
theorem dX8_next_69 : decode cX8_next 69 = .ok (.aload_n 0, 1) := by decide +kernel
theorem dX8_next_70 : decode cX8_next 70 = .ok (.getfield 25, 3) := by decide +kernel
theorem dX8_next_73 : decode cX8_next 73 = .ok (.if_icmp .lt 11, 3) := by decide +kernel
theorem dX8_next_76 : decode cX8_next 76 = .ok (.aload_n 0, 1) := by decide +kernel
theorem dX8_next_77 : decode cX8_next 77 = .ok (.iconst 0, 1) := by decide +kernel
theorem dX8_next_78 : decode cX8_next 78 = .ok (.putfield 34, 3) := by decide +kernel
theorem dX8_next_81 : decode cX8_next 81 = .ok (.goto 51, 3) := by decide +kernel
theorem dX8_next_84 : decode cX8_next 84 = .ok (.aload_n 0, 1) := by decide +kernel
theorem dX8_next_85 : decode cX8_next 85 = .ok (.getfield 9, 3) := by decide +kernel
theorem dX8_next_88 : decode cX8_next 88 = .ok (.aload_n 0, 1) := by decide +kernel
theorem dX8_next_89 : decode cX8_next 89 = .ok (.getfield 28, 3) := by decide +kernel
theorem dX8_next_92 : decode cX8_next 92 = .ok (.baload, 1) := by decide +kernel
theorem dX8_next_93 : decode cX8_next 93 = .ok (.invokestatic 43, 3) := by decide +kernel
theorem dX8_next_96 : decode cX8_next 96 = .ok (.ifCond .eq 10, 3) := by decide +kernel
theorem dX8_next_99 : decode cX8_next 99 = .ok (.aload_n 0, 1) := by decide +kernel
theorem dX8_next_100 : decode cX8_next 100 = .ok (.invokevirtual 47, 3) := by decide +kernel
theorem dX8_next_103 : decode cX8_next 103 = .ok (.goto 29, 3) := by decide +kernel
theorem dX8_next_106 : decode cX8_next 106 = .ok (.aload_n 0, 1) := by decide +kernel
theorem dX8_next_107 : decode cX8_next 107 = .ok (.getfield 9, 3) := by decide +kernel
theorem dX8_next_110 : decode cX8_next 110 = .ok (.aload_n 0, 1) := by decide +kernel
theorem dX8_next_111 : decode cX8_next 111 = .ok (.getfield 28, 3) := by decide +kernel
theorem dX8_next_114 : decode cX8_next 114 = .ok (.baload, 1) := by decide +kernel
theorem dX8_next_115 : decode cX8_next 115 = .ok (.invokestatic 50, 3) := by decide +kernel
theorem dX8_next_118 : decode cX8_next 118 = .ok (.ifCond .eq 10, 3) := by decide +kernel
theorem dX8_next_121 : decode cX8_next 121 = .ok (.aload_n 0, 1) := by decide +kernel
theorem dX8_next_122 : decode cX8_next 122 = .ok (.invokevirtual 53, 3) := by decide +kernel
theorem dX8_next_125 : decode cX8_next 125 = .ok (.goto 7, 3) := by decide +kernel
theorem dX8_next_128 : decode cX8_next 128 = .ok (.aload_n 0, 1) := by decide +kernel
theorem dX8_next_129 : decode cX8_next 129 = .ok (.invokevirtual 56, 3) := by decide +kernel
theorem dX8_next_132 : decode cX8_next 132 = .ok (.return_, 1) := by decide +kernel
theorem dX8_takeWord_0 : decode cX8_takeWord 0 = .ok (.iconst 0, 1) := by decide +kernel
theorem dX8_takeWord_1 : decode cX8_takeWord 1 = .ok (.istore_n 1, 1) := by decide +kernel
theorem dX8_takeWord_2 : decode cX8_takeWord 2 = .ok (.aload_n 0, 1) := by decide +kernel
theorem dX8_takeWord_3 : decode cX8_takeWord 3 = .ok (.getfield 28, 3) := by decide +kernel
theorem dX8_takeWord_6 : decode cX8_takeWord 6 = .ok (.aload_n 0, 1) := by decide +kernel
theorem dX8_takeWord_7 : decode cX8_takeWord 7 = .ok (.getfield 25, 3) := by decide +kernel
theorem dX8_takeWord_10 : decode cX8_takeWord 10 = .ok (.if_icmp .ge 68, 3) := by decide +kernel
theorem dX8_takeWord_13 : decode cX8_takeWord 13 = .ok (.aload_n 0, 1) := by decide +kernel
theorem dX8_takeWord_14 : decode cX8_takeWord 14 = .ok (.getfield 9, 3) := by decide +kernel
theorem dX8_takeWord_17 : decode cX8_takeWord 17 = .ok (.aload_n 0, 1) := by decide +kernel
theorem dX8_takeWord_18 : decode cX8_takeWord 18 = .ok (.getfield 28, 3) := by decide +kernel
theorem dX8_takeWord_21 : decode cX8_takeWord 21 = .ok (.baload, 1) := by decide +kernel
theorem dX8_takeWord_22 : decode cX8_takeWord 22 = .ok (.invokestatic 43, 3) := by decide +kernel
theorem dX8_takeWord_25 : decode cX8_takeWord 25 = .ok (.ifCond .eq 53, 3) := by decide +kernel
theorem dX8_takeWord_28 : decode cX8_takeWord 28 = .ok (.iload_n 1, 1) := by decide +kernel
theorem dX8_takeWord_29 : decode cX8_takeWord 29 = .ok (.bipush 6, 2) := by decide +kernel
theorem dX8_takeWord_31 : decode cX8_takeWord 31 = .ok (.if_icmp .ge 31, 3) := by decide +kernel
theorem dX8_takeWord_34 : decode cX8_takeWord 34 = .ok (.aload_n 0, 1) := by decide +kernel
theorem dX8_takeWord_35 : decode cX8_takeWord 35 = .ok (.dup, 1) := by decide +kernel
theorem dX8_takeWord_36 : decode cX8_takeWord 36 = .ok (.getfield 37, 3) := by decide +kernel
theorem dX8_takeWord_39 : decode cX8_takeWord 39 = .ok (.aload_n 0, 1) := by decide +kernel
theorem dX8_takeWord_40 : decode cX8_takeWord 40 = .ok (.getfield 9, 3) := by decide +kernel
theorem dX8_takeWord_43 : decode cX8_takeWord 43 = .ok (.aload_n 0, 1) := by decide +kernel
theorem dX8_takeWord_44 : decode cX8_takeWord 44 = .ok (.getfield 28, 3) := by decide +kernel
theorem dX8_takeWord_47 : decode cX8_takeWord 47 = .ok (.baload, 1) := by decide +kernel
theorem dX8_takeWord_48 : decode cX8_takeWord 48 = .ok (.bipush 96, 2) := by decide +kernel
theorem dX8_takeWord_50 : decode cX8_takeWord 50 = .ok (.isub, 1) := by decide +kernel
theorem dX8_takeWord_51 : decode cX8_takeWord 51 = .ok (.bipush 25, 2) := by decide +kernel
theorem dX8_takeWord_53 : decode cX8_takeWord 53 = .ok (.iconst 5, 1) := by decide +kernel
theorem dX8_takeWord_54 : decode cX8_takeWord 54 = .ok (.iload_n 1, 1) := by decide +kernel
theorem dX8_takeWord_55 : decode cX8_takeWord 55 = .ok (.imul, 1) := by decide +kernel
theorem dX8_takeWord_56 : decode cX8_takeWord 56 = .ok (.isub, 1) := by decide +kernel
theorem dX8_takeWord_57 : decode cX8_takeWord 57 = .ok (.ishl, 1) := by decide +kernel
theorem dX8_takeWord_58 : decode cX8_takeWord 58 = .ok (.ior, 1) := by decide +kernel
theorem dX8_takeWord_59 : decode cX8_takeWord 59 = .ok (.putfield 37, 3) := by decide +kernel
theorem dX8_takeWord_62 : decode cX8_takeWord 62 = .ok (.iinc 1 1, 3) := by decide +kernel
theorem dX8_takeWord_65 : decode cX8_takeWord 65 = .ok (.aload_n 0, 1) := by decide +kernel
theorem dX8_takeWord_66 : decode cX8_takeWord 66 = .ok (.dup, 1) := by decide +kernel
theorem dX8_takeWord_67 : decode cX8_takeWord 67 = .ok (.getfield 28, 3) := by decide +kernel
theorem dX8_takeWord_70 : decode cX8_takeWord 70 = .ok (.iconst 1, 1) := by decide +kernel
theorem dX8_takeWord_71 : decode cX8_takeWord 71 = .ok (.iadd, 1) := by decide +kernel
theorem dX8_takeWord_72 : decode cX8_takeWord 72 = .ok (.putfield 28, 3) := by decide +kernel
theorem dX8_takeWord_75 : decode cX8_takeWord 75 = .ok (.goto (-73), 3) := by decide +kernel
theorem dX8_takeWord_78 : decode cX8_takeWord 78 = .ok (.aload_n 0, 1) := by decide +kernel
theorem dX8_takeWord_79 : decode cX8_takeWord 79 = .ok (.iload_n 1, 1) := by decide +kernel
theorem dX8_takeWord_80 : decode cX8_takeWord 80 = .ok (.bipush 6, 2) := by decide +kernel
theorem dX8_takeWord_82 : decode cX8_takeWord 82 = .ok (.if_icmp .le 7, 3) := by decide +kernel
theorem dX8_takeWord_85 : decode cX8_takeWord 85 = .ok (.iconst 4, 1) := by decide +kernel
theorem dX8_takeWord_86 : decode cX8_takeWord 86 = .ok (.goto 4, 3) := by decide +kernel
theorem dX8_takeWord_89 : decode cX8_takeWord 89 = .ok (.iconst 1, 1) := by decide +kernel
theorem dX8_takeWord_90 : decode cX8_takeWord 90 = .ok (.putfield 34, 3) := by decide +kernel
theorem dX8_takeWord_93 : decode cX8_takeWord 93 = .ok (.return_, 1) := by decide +kernel
theorem dX8_takeDigits_0 : decode cX8_takeDigits 0 = .ok (.aload_n 0, 1) := by decide +kernel
theorem dX8_takeDigits_1 : decode cX8_takeDigits 1 = .ok (.iconst 2, 1) := by decide +kernel
theorem dX8_takeDigits_2 : decode cX8_takeDigits 2 = .ok (.putfield 34, 3) := by decide +kernel
theorem dX8_takeDigits_5 : decode cX8_takeDigits 5 = .ok (.aload_n 0, 1) := by decide +kernel
theorem dX8_takeDigits_6 : decode cX8_takeDigits 6 = .ok (.getfield 28, 3) := by decide +kernel
theorem dX8_takeDigits_9 : decode cX8_takeDigits 9 = .ok (.aload_n 0, 1) := by decide +kernel
theorem dX8_takeDigits_10 : decode cX8_takeDigits 10 = .ok (.getfield 25, 3) := by decide +kernel
theorem dX8_takeDigits_13 : decode cX8_takeDigits 13 = .ok (.if_icmp .ge 60, 3) := by decide +kernel
theorem dX8_takeDigits_16 : decode cX8_takeDigits 16 = .ok (.aload_n 0, 1) := by decide +kernel
theorem dX8_takeDigits_17 : decode cX8_takeDigits 17 = .ok (.getfield 9, 3) := by decide +kernel
theorem dX8_takeDigits_20 : decode cX8_takeDigits 20 = .ok (.aload_n 0, 1) := by decide +kernel
theorem dX8_takeDigits_21 : decode cX8_takeDigits 21 = .ok (.getfield 28, 3) := by decide +kernel
theorem dX8_takeDigits_24 : decode cX8_takeDigits 24 = .ok (.baload, 1) := by decide +kernel
theorem dX8_takeDigits_25 : decode cX8_takeDigits 25 = .ok (.invokestatic 50, 3) := by decide +kernel
theorem dX8_takeDigits_28 : decode cX8_takeDigits 28 = .ok (.ifCond .eq 45, 3) := by decide +kernel
theorem dX8_takeDigits_31 : decode cX8_takeDigits 31 = .ok (.aload_n 0, 1) := by decide +kernel
theorem dX8_takeDigits_32 : decode cX8_takeDigits 32 = .ok (.ldc 59, 2) := by decide +kernel
theorem dX8_takeDigits_34 : decode cX8_takeDigits 34 = .ok (.aload_n 0, 1) := by decide +kernel
theorem dX8_takeDigits_35 : decode cX8_takeDigits 35 = .ok (.getfield 37, 3) := by decide +kernel
theorem dX8_takeDigits_38 : decode cX8_takeDigits 38 = .ok (.bipush 10, 2) := by decide +kernel
theorem dX8_takeDigits_40 : decode cX8_takeDigits 40 = .ok (.imul, 1) := by decide +kernel
theorem dX8_takeDigits_41 : decode cX8_takeDigits 41 = .ok (.aload_n 0, 1) := by decide +kernel
theorem dX8_takeDigits_42 : decode cX8_takeDigits 42 = .ok (.getfield 9, 3) := by decide +kernel
theorem dX8_takeDigits_45 : decode cX8_takeDigits 45 = .ok (.aload_n 0, 1) := by decide +kernel
theorem dX8_takeDigits_46 : decode cX8_takeDigits 46 = .ok (.getfield 28, 3) := by decide +kernel
theorem dX8_takeDigits_49 : decode cX8_takeDigits 49 = .ok (.baload, 1) := by decide +kernel
theorem dX8_takeDigits_50 : decode cX8_takeDigits 50 = .ok (.iadd, 1) := by decide +kernel
theorem dX8_takeDigits_51 : decode cX8_takeDigits 51 = .ok (.bipush 48, 2) := by decide +kernel
theorem dX8_takeDigits_53 : decode cX8_takeDigits 53 = .ok (.isub, 1) := by decide +kernel
theorem dX8_takeDigits_54 : decode cX8_takeDigits 54 = .ok (.invokestatic 19, 3) := by decide +kernel
theorem dX8_takeDigits_57 : decode cX8_takeDigits 57 = .ok (.putfield 37, 3) := by decide +kernel
theorem dX8_takeDigits_60 : decode cX8_takeDigits 60 = .ok (.aload_n 0, 1) := by decide +kernel
theorem dX8_takeDigits_61 : decode cX8_takeDigits 61 = .ok (.dup, 1) := by decide +kernel
theorem dX8_takeDigits_62 : decode cX8_takeDigits 62 = .ok (.getfield 28, 3) := by decide +kernel
theorem dX8_takeDigits_65 : decode cX8_takeDigits 65 = .ok (.iconst 1, 1) := by decide +kernel
theorem dX8_takeDigits_66 : decode cX8_takeDigits 66 = .ok (.iadd, 1) := by decide +kernel
theorem dX8_takeDigits_67 : decode cX8_takeDigits 67 = .ok (.putfield 28, 3) := by decide +kernel
theorem dX8_takeDigits_70 : decode cX8_takeDigits 70 = .ok (.goto (-65), 3) := by decide +kernel
theorem dX8_takeDigits_73 : decode cX8_takeDigits 73 = .ok (.return_, 1) := by decide +kernel
theorem dX8_takeSign_0 : decode cX8_takeSign 0 = .ok (.aload_n 0, 1) := by decide +kernel
theorem dX8_takeSign_1 : decode cX8_takeSign 1 = .ok (.getfield 9, 3) := by decide +kernel
theorem dX8_takeSign_4 : decode cX8_takeSign 4 = .ok (.aload_n 0, 1) := by decide +kernel
theorem dX8_takeSign_5 : decode cX8_takeSign 5 = .ok (.getfield 28, 3) := by decide +kernel
theorem dX8_takeSign_8 : decode cX8_takeSign 8 = .ok (.baload, 1) := by decide +kernel
theorem dX8_takeSign_9 : decode cX8_takeSign 9 = .ok (.istore_n 1, 1) := by decide +kernel
theorem dX8_takeSign_10 : decode cX8_takeSign 10 = .ok (.aload_n 0, 1) := by decide +kernel
theorem dX8_takeSign_11 : decode cX8_takeSign 11 = .ok (.dup, 1) := by decide +kernel
theorem dX8_takeSign_12 : decode cX8_takeSign 12 = .ok (.getfield 28, 3) := by decide +kernel
theorem dX8_takeSign_15 : decode cX8_takeSign 15 = .ok (.iconst 1, 1) := by decide +kernel
theorem dX8_takeSign_16 : decode cX8_takeSign 16 = .ok (.iadd, 1) := by decide +kernel
theorem dX8_takeSign_17 : decode cX8_takeSign 17 = .ok (.putfield 28, 3) := by decide +kernel
theorem dX8_takeSign_20 : decode cX8_takeSign 20 = .ok (.aload_n 0, 1) := by decide +kernel
theorem dX8_takeSign_21 : decode cX8_takeSign 21 = .ok (.getfield 28, 3) := by decide +kernel
theorem dX8_takeSign_24 : decode cX8_takeSign 24 = .ok (.aload_n 0, 1) := by decide +kernel
theorem dX8_takeSign_25 : decode cX8_takeSign 25 = .ok (.getfield 25, 3) := by decide +kernel
theorem dX8_takeSign_28 : decode cX8_takeSign 28 = .ok (.if_icmp .ge 15, 3) := by decide +kernel
theorem dX8_takeSign_31 : decode cX8_takeSign 31 = .ok (.aload_n 0, 1) := by decide +kernel
theorem dX8_takeSign_32 : decode cX8_takeSign 32 = .ok (.getfield 9, 3) := by decide +kernel
theorem dX8_takeSign_35 : decode cX8_takeSign 35 = .ok (.aload_n 0, 1) := by decide +kernel
theorem dX8_takeSign_36 : decode cX8_takeSign 36 = .ok (.getfield 28, 3) := by decide +kernel
theorem dX8_takeSign_39 : decode cX8_takeSign 39 = .ok (.baload, 1) := by decide +kernel
theorem dX8_takeSign_40 : decode cX8_takeSign 40 = .ok (.goto 4, 3) := by decide +kernel
theorem dX8_takeSign_43 : decode cX8_takeSign 43 = .ok (.iconst 0, 1) := by decide +kernel
theorem dX8_takeSign_44 : decode cX8_takeSign 44 = .ok (.istore_n 2, 1) := by decide +kernel
theorem dX8_takeSign_45 : decode cX8_takeSign 45 = .ok (.aload_n 0, 1) := by decide +kernel
theorem dX8_takeSign_46 : decode cX8_takeSign 46 = .ok (.iload_n 1, 1) := by decide +kernel
theorem dX8_takeSign_47 : decode cX8_takeSign 47 = .ok (.invokestatic 60, 3) := by decide +kernel
theorem dX8_takeSign_50 : decode cX8_takeSign 50 = .ok (.putfield 37, 3) := by decide +kernel
theorem dX8_takeSign_53 : decode cX8_takeSign 53 = .ok (.aload_n 0, 1) := by decide +kernel
theorem dX8_takeSign_54 : decode cX8_takeSign 54 = .ok (.getfield 37, 3) := by decide +kernel
theorem dX8_takeSign_57 : decode cX8_takeSign 57 = .ok (.bipush 11, 2) := by decide +kernel
theorem dX8_takeSign_59 : decode cX8_takeSign 59 = .ok (.if_icmp .ne 28, 3) := by decide +kernel
theorem dX8_takeSign_62 : decode cX8_takeSign 62 = .ok (.iload_n 2, 1) := by decide +kernel
theorem dX8_takeSign_63 : decode cX8_takeSign 63 = .ok (.bipush 62, 2) := by decide +kernel
theorem dX8_takeSign_65 : decode cX8_takeSign 65 = .ok (.if_icmp .ne 22, 3) := by decide +kernel
theorem dX8_takeSign_68 : decode cX8_takeSign 68 = .ok (.aload_n 0, 1) := by decide +kernel
theorem dX8_takeSign_69 : decode cX8_takeSign 69 = .ok (.bipush 14, 2) := by decide +kernel
theorem dX8_takeSign_71 : decode cX8_takeSign 71 = .ok (.putfield 37, 3) := by decide +kernel
theorem dX8_takeSign_74 : decode cX8_takeSign 74 = .ok (.aload_n 0, 1) := by decide +kernel
theorem dX8_takeSign_75 : decode cX8_takeSign 75 = .ok (.dup, 1) := by decide +kernel
theorem dX8_takeSign_76 : decode cX8_takeSign 76 = .ok (.getfield 28, 3) := by decide +kernel
theorem dX8_takeSign_79 : decode cX8_takeSign 79 = .ok (.iconst 1, 1) := by decide +kernel
theorem dX8_takeSign_80 : decode cX8_takeSign 80 = .ok (.iadd, 1) := by decide +kernel
theorem dX8_takeSign_81 : decode cX8_takeSign 81 = .ok (.putfield 28, 3) := by decide +kernel
theorem dX8_takeSign_84 : decode cX8_takeSign 84 = .ok (.goto 68, 3) := by decide +kernel
theorem dX8_takeSign_87 : decode cX8_takeSign 87 = .ok (.aload_n 0, 1) := by decide +kernel
theorem dX8_takeSign_88 : decode cX8_takeSign 88 = .ok (.getfield 37, 3) := by decide +kernel
theorem dX8_takeSign_91 : decode cX8_takeSign 91 = .ok (.bipush 11, 2) := by decide +kernel
theorem dX8_takeSign_93 : decode cX8_takeSign 93 = .ok (.if_icmp .ne 28, 3) := by decide +kernel
theorem dX8_takeSign_96 : decode cX8_takeSign 96 = .ok (.iload_n 2, 1) := by decide +kernel
theorem dX8_takeSign_97 : decode cX8_takeSign 97 = .ok (.bipush 61, 2) := by decide +kernel
theorem dX8_takeSign_99 : decode cX8_takeSign 99 = .ok (.if_icmp .ne 22, 3) := by decide +kernel
theorem dX8_takeSign_102 : decode cX8_takeSign 102 = .ok (.aload_n 0, 1) := by decide +kernel
theorem dX8_takeSign_103 : decode cX8_takeSign 103 = .ok (.bipush 12, 2) := by decide +kernel
theorem dX8_takeSign_105 : decode cX8_takeSign 105 = .ok (.putfield 37, 3) := by decide +kernel
theorem dX8_takeSign_108 : decode cX8_takeSign 108 = .ok (.aload_n 0, 1) := by decide +kernel
theorem dX8_takeSign_109 : decode cX8_takeSign 109 = .ok (.dup, 1) := by decide +kernel
theorem dX8_takeSign_110 : decode cX8_takeSign 110 = .ok (.getfield 28, 3) := by decide +kernel
theorem dX8_takeSign_113 : decode cX8_takeSign 113 = .ok (.iconst 1, 1) := by decide +kernel
theorem dX8_takeSign_114 : decode cX8_takeSign 114 = .ok (.iadd, 1) := by decide +kernel
theorem dX8_takeSign_115 : decode cX8_takeSign 115 = .ok (.putfield 28, 3) := by decide +kernel
theorem dX8_takeSign_118 : decode cX8_takeSign 118 = .ok (.goto 34, 3) := by decide +kernel
theorem dX8_takeSign_121 : decode cX8_takeSign 121 = .ok (.aload_n 0, 1) := by decide +kernel
theorem dX8_takeSign_122 : decode cX8_takeSign 122 = .ok (.getfield 37, 3) := by decide +kernel
theorem dX8_takeSign_125 : decode cX8_takeSign 125 = .ok (.bipush 16, 2) := by decide +kernel
theorem dX8_takeSign_127 : decode cX8_takeSign 127 = .ok (.if_icmp .ne 25, 3) := by decide +kernel
theorem dX8_takeSign_130 : decode cX8_takeSign 130 = .ok (.iload_n 2, 1) := by decide +kernel
theorem dX8_takeSign_131 : decode cX8_takeSign 131 = .ok (.bipush 61, 2) := by decide +kernel
theorem dX8_takeSign_133 : decode cX8_takeSign 133 = .ok (.if_icmp .ne 19, 3) := by decide +kernel
theorem dX8_takeSign_136 : decode cX8_takeSign 136 = .ok (.aload_n 0, 1) := by decide +kernel
theorem dX8_takeSign_137 : decode cX8_takeSign 137 = .ok (.bipush 15, 2) := by decide +kernel
theorem dX8_takeSign_139 : decode cX8_takeSign 139 = .ok (.putfield 37, 3) := by decide +kernel
theorem dX8_takeSign_142 : decode cX8_takeSign 142 = .ok (.aload_n 0, 1) := by decide +kernel
theorem dX8_takeSign_143 : decode cX8_takeSign 143 = .ok (.dup, 1) := by decide +kernel
theorem dX8_takeSign_144 : decode cX8_takeSign 144 = .ok (.getfield 28, 3) := by decide +kernel
theorem dX8_takeSign_147 : decode cX8_takeSign 147 = .ok (.iconst 1, 1) := by decide +kernel
theorem dX8_takeSign_148 : decode cX8_takeSign 148 = .ok (.iadd, 1) := by decide +kernel
theorem dX8_takeSign_149 : decode cX8_takeSign 149 = .ok (.putfield 28, 3) := by decide +kernel
theorem dX8_takeSign_152 : decode cX8_takeSign 152 = .ok (.aload_n 0, 1) := by decide +kernel
theorem dX8_takeSign_153 : decode cX8_takeSign 153 = .ok (.aload_n 0, 1) := by decide +kernel
theorem dX8_takeSign_154 : decode cX8_takeSign 154 = .ok (.getfield 37, 3) := by decide +kernel
theorem dX8_takeSign_157 : decode cX8_takeSign 157 = .ok (.iconst (-1), 1) := by decide +kernel
theorem dX8_takeSign_158 : decode cX8_takeSign 158 = .ok (.if_icmp .ne 7, 3) := by decide +kernel
theorem dX8_takeSign_161 : decode cX8_takeSign 161 = .ok (.iconst 4, 1) := by decide +kernel
theorem dX8_takeSign_162 : decode cX8_takeSign 162 = .ok (.goto 4, 3) := by decide +kernel
theorem dX8_takeSign_165 : decode cX8_takeSign 165 = .ok (.iconst 3, 1) := by decide +kernel
theorem dX8_takeSign_166 : decode cX8_takeSign 166 = .ok (.putfield 34, 3) := by decide +kernel
theorem dX8_takeSign_169 : decode cX8_takeSign 169 = .ok (.return_, 1) := by decide +kernel
theorem dX8_signOf_0 : decode cX8_signOf 0 = .ok (.iload_n 0, 1) := by decide +kernel
theorem dX8_signOf_1 : decode cX8_signOf 1 = .ok (.tableswitch 137 40 62 #[110, 113, 122, 116, 137, 119, 137, 125, 137, 137, 137, 137, 137, 137, 137, 137, 137, 137, 137, 107, 128, 131, 134], 107) := by decide +kernel
theorem dX8_signOf_108 : decode cX8_signOf 108 = .ok (.bipush 23, 2) := by decide +kernel
theorem dX8_signOf_110 : decode cX8_signOf 110 = .ok (.ireturn, 1) := by decide +kernel
theorem dX8_signOf_111 : decode cX8_signOf 111 = .ok (.bipush 21, 2) := by decide +kernel
theorem dX8_signOf_113 : decode cX8_signOf 113 = .ok (.ireturn, 1) := by decide +kernel
theorem dX8_signOf_114 : decode cX8_signOf 114 = .ok (.bipush 22, 2) := by decide +kernel
theorem dX8_signOf_116 : decode cX8_signOf 116 = .ok (.ireturn, 1) := by decide +kernel
theorem dX8_signOf_117 : decode cX8_signOf 117 = .ok (.bipush 17, 2) := by decide +kernel
theorem dX8_signOf_119 : decode cX8_signOf 119 = .ok (.ireturn, 1) := by decide +kernel
theorem dX8_signOf_120 : decode cX8_signOf 120 = .ok (.bipush 18, 2) := by decide +kernel
theorem dX8_signOf_122 : decode cX8_signOf 122 = .ok (.ireturn, 1) := by decide +kernel
theorem dX8_signOf_123 : decode cX8_signOf 123 = .ok (.bipush 19, 2) := by decide +kernel
theorem dX8_signOf_125 : decode cX8_signOf 125 = .ok (.ireturn, 1) := by decide +kernel
theorem dX8_signOf_126 : decode cX8_signOf 126 = .ok (.bipush 20, 2) := by decide +kernel
theorem dX8_signOf_128 : decode cX8_signOf 128 = .ok (.ireturn, 1) := by decide +kernel
theorem dX8_signOf_129 : decode cX8_signOf 129 = .ok (.bipush 11, 2) := by decide +kernel
theorem dX8_signOf_131 : decode cX8_signOf 131 = .ok (.ireturn, 1) := by decide +kernel
theorem dX8_signOf_132 : decode cX8_signOf 132 = .ok (.bipush 13, 2) := by decide +kernel
theorem dX8_signOf_134 : decode cX8_signOf 134 = .ok (.ireturn, 1) := by decide +kernel
theorem dX8_signOf_135 : decode cX8_signOf 135 = .ok (.bipush 16, 2) := by decide +kernel
theorem dX8_signOf_137 : decode cX8_signOf 137 = .ok (.ireturn, 1) := by decide +kernel
theorem dX8_signOf_138 : decode cX8_signOf 138 = .ok (.iconst (-1), 1) := by decide +kernel
theorem dX8_signOf_139 : decode cX8_signOf 139 = .ok (.ireturn, 1) := by decide +kernel
theorem dX8_isLetter_0 : decode cX8_isLetter 0 = .ok (.iload_n 0, 1) := by decide +kernel
theorem dX8_isLetter_1 : decode cX8_isLetter 1 = .ok (.bipush 97, 2) := by decide +kernel
theorem dX8_isLetter_3 : decode cX8_isLetter 3 = .ok (.if_icmp .lt 13, 3) := by decide +kernel
theorem dX8_isLetter_6 : decode cX8_isLetter 6 = .ok (.iload_n 0, 1) := by decide +kernel
theorem dX8_isLetter_7 : decode cX8_isLetter 7 = .ok (.bipush 122, 2) := by decide +kernel
theorem dX8_isLetter_9 : decode cX8_isLetter 9 = .ok (.if_icmp .gt 7, 3) := by decide +kernel
theorem dX8_isLetter_12 : decode cX8_isLetter 12 = .ok (.iconst 1, 1) := by decide +kernel
theorem dX8_isLetter_13 : decode cX8_isLetter 13 = .ok (.goto 4, 3) := by decide +kernel
theorem dX8_isLetter_16 : decode cX8_isLetter 16 = .ok (.iconst 0, 1) := by decide +kernel
theorem dX8_isLetter_17 : decode cX8_isLetter 17 = .ok (.ireturn, 1) := by decide +kernel
theorem dX8_isDigit_0 : decode cX8_isDigit 0 = .ok (.iload_n 0, 1) := by decide +kernel
theorem dX8_isDigit_1 : decode cX8_isDigit 1 = .ok (.bipush 48, 2) := by decide +kernel
theorem dX8_isDigit_3 : decode cX8_isDigit 3 = .ok (.if_icmp .lt 13, 3) := by decide +kernel
theorem dX8_isDigit_6 : decode cX8_isDigit 6 = .ok (.iload_n 0, 1) := by decide +kernel
theorem dX8_isDigit_7 : decode cX8_isDigit 7 = .ok (.bipush 57, 2) := by decide +kernel
theorem dX8_isDigit_9 : decode cX8_isDigit 9 = .ok (.if_icmp .gt 7, 3) := by decide +kernel
theorem dX8_isDigit_12 : decode cX8_isDigit 12 = .ok (.iconst 1, 1) := by decide +kernel
theorem dX8_isDigit_13 : decode cX8_isDigit 13 = .ok (.goto 4, 3) := by decide +kernel
theorem dX8_isDigit_16 : decode cX8_isDigit 16 = .ok (.iconst 0, 1) := by decide +kernel
theorem dX8_isDigit_17 : decode cX8_isDigit 17 = .ok (.ireturn, 1) := by decide +kernel
theorem dX9_init_0 : decode cX9_init 0 = .ok (.aload_n 0, 1) := by decide +kernel
theorem dX9_init_1 : decode cX9_init 1 = .ok (.invokespecial 3, 3) := by decide +kernel
theorem dX9_init_4 : decode cX9_init 4 = .ok (.aload_n 0, 1) := by decide +kernel
theorem dX9_init_5 : decode cX9_init 5 = .ok (.bipush 6, 2) := by decide +kernel
theorem dX9_init_7 : decode cX9_init 7 = .ok (.anewarray 9, 3) := by decide +kernel
theorem dX9_init_10 : decode cX9_init 10 = .ok (.putfield 11, 3) := by decide +kernel
theorem dX9_init_13 : decode cX9_init 13 = .ok (.iconst 0, 1) := by decide +kernel
theorem dX9_init_14 : decode cX9_init 14 = .ok (.istore_n 1, 1) := by decide +kernel
theorem dX9_init_15 : decode cX9_init 15 = .ok (.iload_n 1, 1) := by decide +kernel
theorem dX9_init_16 : decode cX9_init 16 = .ok (.bipush 6, 2) := by decide +kernel
theorem dX9_init_18 : decode cX9_init 18 = .ok (.if_icmp .ge 22, 3) := by decide +kernel
theorem dX9_init_21 : decode cX9_init 21 = .ok (.aload_n 0, 1) := by decide +kernel
theorem dX9_init_22 : decode cX9_init 22 = .ok (.getfield 11, 3) := by decide +kernel
theorem dX9_init_25 : decode cX9_init 25 = .ok (.iload_n 1, 1) := by decide +kernel
theorem dX9_init_26 : decode cX9_init 26 = .ok (.new 9, 3) := by decide +kernel
theorem dX9_init_29 : decode cX9_init 29 = .ok (.dup, 1) := by decide +kernel
theorem dX9_init_30 : decode cX9_init 30 = .ok (.invokespecial 17, 3) := by decide +kernel
theorem dX9_init_33 : decode cX9_init 33 = .ok (.aastore, 1) := by decide +kernel
theorem dX9_init_34 : decode cX9_init 34 = .ok (.iinc 1 1, 3) := by decide +kernel
theorem dX9_init_37 : decode cX9_init 37 = .ok (.goto (-22), 3) := by decide +kernel
theorem dX9_init_40 : decode cX9_init 40 = .ok (.return_, 1) := by decide +kernel
theorem dX9_setOut_0 : decode cX9_setOut 0 = .ok (.aload_n 0, 1) := by decide +kernel
theorem dX9_setOut_1 : decode cX9_setOut 1 = .ok (.aload_n 1, 1) := by decide +kernel
theorem dX9_setOut_2 : decode cX9_setOut 2 = .ok (.getfield 18, 3) := by decide +kernel
theorem dX9_setOut_5 : decode cX9_setOut 5 = .ok (.putfield 24, 3) := by decide +kernel
theorem dX9_setOut_8 : decode cX9_setOut 8 = .ok (.iconst 0, 1) := by decide +kernel
theorem dX9_setOut_9 : decode cX9_setOut 9 = .ok (.istore_n 2, 1) := by decide +kernel
theorem dX9_setOut_10 : decode cX9_setOut 10 = .ok (.iload_n 2, 1) := by decide +kernel
theorem dX9_setOut_11 : decode cX9_setOut 11 = .ok (.aload_n 0, 1) := by decide +kernel
theorem dX9_setOut_12 : decode cX9_setOut 12 = .ok (.getfield 24, 3) := by decide +kernel
theorem dX9_setOut_15 : decode cX9_setOut 15 = .ok (.if_icmp .ge 24, 3) := by decide +kernel
theorem dX9_setOut_18 : decode cX9_setOut 18 = .ok (.aload_n 0, 1) := by decide +kernel
theorem dX9_setOut_19 : decode cX9_setOut 19 = .ok (.getfield 11, 3) := by decide +kernel
theorem dX9_setOut_22 : decode cX9_setOut 22 = .ok (.iload_n 2, 1) := by decide +kernel
theorem dX9_setOut_23 : decode cX9_setOut 23 = .ok (.aaload, 1) := by decide +kernel
theorem dX9_setOut_24 : decode cX9_setOut 24 = .ok (.aload_n 1, 1) := by decide +kernel
theorem dX9_setOut_25 : decode cX9_setOut 25 = .ok (.getfield 25, 3) := by decide +kernel
theorem dX9_setOut_28 : decode cX9_setOut 28 = .ok (.iload_n 2, 1) := by decide +kernel
theorem dX9_setOut_29 : decode cX9_setOut 29 = .ok (.aaload, 1) := by decide +kernel
theorem dX9_setOut_30 : decode cX9_setOut 30 = .ok (.invokevirtual 26, 3) := by decide +kernel
theorem dX9_setOut_33 : decode cX9_setOut 33 = .ok (.iinc 2 1, 3) := by decide +kernel
theorem dX9_setOut_36 : decode cX9_setOut 36 = .ok (.goto (-26), 3) := by decide +kernel
theorem dX9_setOut_39 : decode cX9_setOut 39 = .ok (.aload_n 0, 1) := by decide +kernel
theorem dX9_setOut_40 : decode cX9_setOut 40 = .ok (.iconst 0, 1) := by decide +kernel
theorem dX9_setOut_41 : decode cX9_setOut 41 = .ok (.putfield 30, 3) := by decide +kernel
theorem dX9_setOut_44 : decode cX9_setOut 44 = .ok (.aload_n 0, 1) := by decide +kernel
theorem dX9_setOut_45 : decode cX9_setOut 45 = .ok (.aload_n 1, 1) := by decide +kernel
theorem dX9_setOut_46 : decode cX9_setOut 46 = .ok (.getfield 33, 3) := by decide +kernel
theorem dX9_setOut_49 : decode cX9_setOut 49 = .ok (.putfield 36, 3) := by decide +kernel
theorem dX9_setOut_52 : decode cX9_setOut 52 = .ok (.aload_n 0, 1) := by decide +kernel
theorem dX9_setOut_53 : decode cX9_setOut 53 = .ok (.iconst 0, 1) := by decide +kernel
theorem dX9_setOut_54 : decode cX9_setOut 54 = .ok (.putfield 39, 3) := by decide +kernel
theorem dX9_setOut_57 : decode cX9_setOut 57 = .ok (.return_, 1) := by decide +kernel
theorem dX9_copyOf_0 : decode cX9_copyOf 0 = .ok (.aload_n 0, 1) := by decide +kernel
theorem dX9_copyOf_1 : decode cX9_copyOf 1 = .ok (.aload_n 1, 1) := by decide +kernel
theorem dX9_copyOf_2 : decode cX9_copyOf 2 = .ok (.getfield 24, 3) := by decide +kernel
theorem dX9_copyOf_5 : decode cX9_copyOf 5 = .ok (.putfield 24, 3) := by decide +kernel
theorem dX9_copyOf_8 : decode cX9_copyOf 8 = .ok (.iconst 0, 1) := by decide +kernel
theorem dX9_copyOf_9 : decode cX9_copyOf 9 = .ok (.istore_n 2, 1) := by decide +kernel
theorem dX9_copyOf_10 : decode cX9_copyOf 10 = .ok (.iload_n 2, 1) := by decide +kernel
theorem dX9_copyOf_11 : decode cX9_copyOf 11 = .ok (.aload_n 0, 1) := by decide +kernel
theorem dX9_copyOf_12 : decode cX9_copyOf 12 = .ok (.getfield 24, 3) := by decide +kernel
theorem dX9_copyOf_15 : decode cX9_copyOf 15 = .ok (.if_icmp .ge 24, 3) := by decide +kernel
theorem dX9_copyOf_18 : decode cX9_copyOf 18 = .ok (.aload_n 0, 1) := by decide +kernel
theorem dX9_copyOf_19 : decode cX9_copyOf 19 = .ok (.getfield 11, 3) := by decide +kernel
theorem dX9_copyOf_22 : decode cX9_copyOf 22 = .ok (.iload_n 2, 1) := by decide +kernel
theorem dX9_copyOf_23 : decode cX9_copyOf 23 = .ok (.aaload, 1) := by decide +kernel
theorem dX9_copyOf_24 : decode cX9_copyOf 24 = .ok (.aload_n 1, 1) := by decide +kernel
theorem dX9_copyOf_25 : decode cX9_copyOf 25 = .ok (.getfield 11, 3) := by decide +kernel
theorem dX9_copyOf_28 : decode cX9_copyOf 28 = .ok (.iload_n 2, 1) := by decide +kernel
theorem dX9_copyOf_29 : decode cX9_copyOf 29 = .ok (.aaload, 1) := by decide +kernel
theorem dX9_copyOf_30 : decode cX9_copyOf 30 = .ok (.invokevirtual 26, 3) := by decide +kernel
theorem dX9_copyOf_33 : decode cX9_copyOf 33 = .ok (.iinc 2 1, 3) := by decide +kernel
theorem dX9_copyOf_36 : decode cX9_copyOf 36 = .ok (.goto (-26), 3) := by decide +kernel
theorem dX9_copyOf_39 : decode cX9_copyOf 39 = .ok (.aload_n 0, 1) := by decide +kernel
theorem dX9_copyOf_40 : decode cX9_copyOf 40 = .ok (.aload_n 1, 1) := by decide +kernel
theorem dX9_copyOf_41 : decode cX9_copyOf 41 = .ok (.getfield 30, 3) := by decide +kernel
theorem dX9_copyOf_44 : decode cX9_copyOf 44 = .ok (.putfield 30, 3) := by decide +kernel
theorem dX9_copyOf_47 : decode cX9_copyOf 47 = .ok (.aload_n 0, 1) := by decide +kernel
theorem dX9_copyOf_48 : decode cX9_copyOf 48 = .ok (.aload_n 1, 1) := by decide +kernel
theorem dX9_copyOf_49 : decode cX9_copyOf 49 = .ok (.getfield 36, 3) := by decide +kernel
theorem dX9_copyOf_52 : decode cX9_copyOf 52 = .ok (.putfield 36, 3) := by decide +kernel
theorem dX9_copyOf_55 : decode cX9_copyOf 55 = .ok (.aload_n 0, 1) := by decide +kernel
theorem dX9_copyOf_56 : decode cX9_copyOf 56 = .ok (.aload_n 1, 1) := by decide +kernel
theorem dX9_copyOf_57 : decode cX9_copyOf 57 = .ok (.getfield 39, 3) := by decide +kernel
theorem dX9_copyOf_60 : decode cX9_copyOf 60 = .ok (.putfield 39, 3) := by decide +kernel
theorem dX9_copyOf_63 : decode cX9_copyOf 63 = .ok (.return_, 1) := by decide +kernel
theorem dX9_goOneYear_0 : decode cX9_goOneYear 0 = .ok (.aload_n 1, 1) := by decide +kernel
theorem dX9_goOneYear_1 : decode cX9_goOneYear 1 = .ok (.invokevirtual 42, 3) := by decide +kernel
theorem dX9_goOneYear_4 : decode cX9_goOneYear 4 = .ok (.ifCond .eq 14, 3) := by decide +kernel
theorem dX9_goOneYear_7 : decode cX9_goOneYear 7 = .ok (.aload_n 0, 1) := by decide +kernel
theorem dX9_goOneYear_8 : decode cX9_goOneYear 8 = .ok (.aload_n 0, 1) := by decide +kernel
theorem dX9_goOneYear_9 : decode cX9_goOneYear 9 = .ok (.getfield 36, 3) := by decide +kernel
theorem dX9_goOneYear_12 : decode cX9_goOneYear 12 = .ok (.invokestatic 46, 3) := by decide +kernel
theorem dX9_goOneYear_15 : decode cX9_goOneYear 15 = .ok (.putfield 36, 3) := by decide +kernel
theorem dX9_goOneYear_18 : decode cX9_goOneYear 18 = .ok (.aload_n 1, 1) := by decide +kernel
theorem dX9_goOneYear_19 : decode cX9_goOneYear 19 = .ok (.aload_n 0, 1) := by decide +kernel
theorem dX9_goOneYear_20 : decode cX9_goOneYear 20 = .ok (.getfield 36, 3) := by decide +kernel
theorem dX9_goOneYear_23 : decode cX9_goOneYear 23 = .ok (.invokevirtual 50, 3) := by decide +kernel
theorem dX9_goOneYear_26 : decode cX9_goOneYear 26 = .ok (.istore_n 2, 1) := by decide +kernel
theorem dX9_goOneYear_27 : decode cX9_goOneYear 27 = .ok (.iconst 0, 1) := by decide +kernel
theorem dX9_goOneYear_28 : decode cX9_goOneYear 28 = .ok (.istore_n 3, 1) := by decide +kernel
theorem dX9_goOneYear_29 : decode cX9_goOneYear 29 = .ok (.iload_n 3, 1) := by decide +kernel
theorem dX9_goOneYear_30 : decode cX9_goOneYear 30 = .ok (.aload_n 0, 1) := by decide +kernel
theorem dX9_goOneYear_31 : decode cX9_goOneYear 31 = .ok (.getfield 24, 3) := by decide +kernel
theorem dX9_goOneYear_34 : decode cX9_goOneYear 34 = .ok (.if_icmp .ge 28, 3) := by decide +kernel
theorem dX9_goOneYear_37 : decode cX9_goOneYear 37 = .ok (.aload_n 0, 1) := by decide +kernel
theorem dX9_goOneYear_38 : decode cX9_goOneYear 38 = .ok (.getfield 11, 3) := by decide +kernel
theorem dX9_goOneYear_41 : decode cX9_goOneYear 41 = .ok (.iload_n 3, 1) := by decide +kernel
theorem dX9_goOneYear_42 : decode cX9_goOneYear 42 = .ok (.aaload, 1) := by decide +kernel
theorem dX9_goOneYear_43 : decode cX9_goOneYear 43 = .ok (.aload_n 1, 1) := by decide +kernel
theorem dX9_goOneYear_44 : decode cX9_goOneYear 44 = .ok (.getfield 54, 3) := by decide +kernel
theorem dX9_goOneYear_47 : decode cX9_goOneYear 47 = .ok (.aload_n 0, 1) := by decide +kernel
theorem dX9_goOneYear_48 : decode cX9_goOneYear 48 = .ok (.getfield 30, 3) := by decide +kernel
theorem dX9_goOneYear_51 : decode cX9_goOneYear 51 = .ok (.iload_n 2, 1) := by decide +kernel
theorem dX9_goOneYear_52 : decode cX9_goOneYear 52 = .ok (.iconst 1, 1) := by decide +kernel
theorem dX9_goOneYear_53 : decode cX9_goOneYear 53 = .ok (.invokevirtual 58, 3) := by decide +kernel
theorem dX9_goOneYear_56 : decode cX9_goOneYear 56 = .ok (.iinc 3 1, 3) := by decide +kernel
theorem dX9_goOneYear_59 : decode cX9_goOneYear 59 = .ok (.goto (-30), 3) := by decide +kernel
theorem dX9_goOneYear_62 : decode cX9_goOneYear 62 = .ok (.iload_n 2, 1) := by decide +kernel
theorem dX9_goOneYear_63 : decode cX9_goOneYear 63 = .ok (.ifCond .eq 13, 3) := by decide +kernel
theorem dX9_goOneYear_66 : decode cX9_goOneYear 66 = .ok (.aload_n 0, 1) := by decide +kernel
theorem dX9_goOneYear_67 : decode cX9_goOneYear 67 = .ok (.dup, 1) := by decide +kernel
theorem dX9_goOneYear_68 : decode cX9_goOneYear 68 = .ok (.getfield 39, 3) := by decide +kernel
theorem dX9_goOneYear_71 : decode cX9_goOneYear 71 = .ok (.iconst 1, 1) := by decide +kernel
theorem dX9_goOneYear_72 : decode cX9_goOneYear 72 = .ok (.iadd, 1) := by decide +kernel
theorem dX9_goOneYear_73 : decode cX9_goOneYear 73 = .ok (.putfield 39, 3) := by decide +kernel
theorem dX9_goOneYear_76 : decode cX9_goOneYear 76 = .ok (.aload_n 0, 1) := by decide +kernel
theorem dX9_goOneYear_77 : decode cX9_goOneYear 77 = .ok (.dup, 1) := by decide +kernel
theorem dX9_goOneYear_78 : decode cX9_goOneYear 78 = .ok (.getfield 30, 3) := by decide +kernel
theorem dX9_goOneYear_81 : decode cX9_goOneYear 81 = .ok (.iconst 1, 1) := by decide +kernel
theorem dX9_goOneYear_82 : decode cX9_goOneYear 82 = .ok (.iadd, 1) := by decide +kernel
theorem dX9_goOneYear_83 : decode cX9_goOneYear 83 = .ok (.putfield 30, 3) := by decide +kernel
theorem dX9_goOneYear_86 : decode cX9_goOneYear 86 = .ok (.return_, 1) := by decide +kernel
theorem dX9_nextNumber_0 : decode cX9_nextNumber 0 = .ok (.iload_n 0, 1) := by decide +kernel
theorem dX9_nextNumber_1 : decode cX9_nextNumber 1 = .ok (.i2l, 1) := by decide +kernel
theorem dX9_nextNumber_2 : decode cX9_nextNumber 2 = .ok (.ldc2_w 62, 3) := by decide +kernel
theorem dX9_nextNumber_5 : decode cX9_nextNumber 5 = .ok (.lmul, 1) := by decide +kernel
theorem dX9_nextNumber_6 : decode cX9_nextNumber 6 = .ok (.ldc2_w 64, 3) := by decide +kernel
theorem dX9_nextNumber_9 : decode cX9_nextNumber 9 = .ok (.ladd, 1) := by decide +kernel
theorem dX9_nextNumber_10 : decode cX9_nextNumber 10 = .ok (.ldc2_w 66, 3) := by decide +kernel
theorem dX9_nextNumber_13 : decode cX9_nextNumber 13 = .ok (.land, 1) := by decide +kernel
theorem dX9_nextNumber_14 : decode cX9_nextNumber 14 = .ok (.l2i, 1) := by decide +kernel
theorem dX9_nextNumber_15 : decode cX9_nextNumber 15 = .ok (.ireturn, 1) := by decide +kernel
theorem dX10_init_0 : decode cX10_init 0 = .ok (.aload_n 0, 1) := by decide +kernel
theorem dX10_init_1 : decode cX10_init 1 = .ok (.invokespecial 3, 3) := by decide +kernel
theorem dX10_init_4 : decode cX10_init 4 = .ok (.aload_n 0, 1) := by decide +kernel
theorem dX10_init_5 : decode cX10_init 5 = .ok (.bipush 6, 2) := by decide +kernel
theorem dX10_init_7 : decode cX10_init 7 = .ok (.anewarray 9, 3) := by decide +kernel
theorem dX10_init_10 : decode cX10_init 10 = .ok (.putfield 11, 3) := by decide +kernel
theorem dX10_init_13 : decode cX10_init 13 = .ok (.aload_n 0, 1) := by decide +kernel
theorem dX10_init_14 : decode cX10_init 14 = .ok (.new 17, 3) := by decide +kernel
theorem dX10_init_17 : decode cX10_init 17 = .ok (.dup, 1) := by decide +kernel
theorem dX10_init_18 : decode cX10_init 18 = .ok (.invokespecial 19, 3) := by decide +kernel
theorem dX10_init_21 : decode cX10_init 21 = .ok (.putfield 20, 3) := by decide +kernel
theorem dX10_init_24 : decode cX10_init 24 = .ok (.aload_n 0, 1) := by decide +kernel
theorem dX10_init_25 : decode cX10_init 25 = .ok (.iconst 5, 1) := by decide +kernel
theorem dX10_init_26 : decode cX10_init 26 = .ok (.newarray .int, 2) := by decide +kernel
theorem dX10_init_28 : decode cX10_init 28 = .ok (.putfield 24, 3) := by decide +kernel
theorem dX10_init_31 : decode cX10_init 31 = .ok (.aload_n 0, 1) := by decide +kernel
theorem dX10_init_32 : decode cX10_init 32 = .ok (.iconst 5, 1) := by decide +kernel
theorem dX10_init_33 : decode cX10_init 33 = .ok (.newarray .int, 2) := by decide +kernel
theorem dX10_init_35 : decode cX10_init 35 = .ok (.putfield 28, 3) := by decide +kernel
theorem dX10_init_38 : decode cX10_init 38 = .ok (.aload_n 0, 1) := by decide +kernel
theorem dX10_init_39 : decode cX10_init 39 = .ok (.iconst 5, 1) := by decide +kernel
theorem dX10_init_40 : decode cX10_init 40 = .ok (.newarray .int, 2) := by decide +kernel
theorem dX10_init_42 : decode cX10_init 42 = .ok (.putfield 31, 3) := by decide +kernel
theorem dX10_init_45 : decode cX10_init 45 = .ok (.iconst 0, 1) := by decide +kernel
theorem dX10_init_46 : decode cX10_init 46 = .ok (.istore_n 1, 1) := by decide +kernel
theorem dX10_init_47 : decode cX10_init 47 = .ok (.iload_n 1, 1) := by decide +kernel
theorem dX10_init_48 : decode cX10_init 48 = .ok (.bipush 6, 2) := by decide +kernel
theorem dX10_init_50 : decode cX10_init 50 = .ok (.if_icmp .ge 22, 3) := by decide +kernel
theorem dX10_init_53 : decode cX10_init 53 = .ok (.aload_n 0, 1) := by decide +kernel
theorem dX10_init_54 : decode cX10_init 54 = .ok (.getfield 11, 3) := by decide +kernel
theorem dX10_init_57 : decode cX10_init 57 = .ok (.iload_n 1, 1) := by decide +kernel
theorem dX10_init_58 : decode cX10_init 58 = .ok (.new 9, 3) := by decide +kernel
theorem dX10_init_61 : decode cX10_init 61 = .ok (.dup, 1) := by decide +kernel
theorem dX10_init_62 : decode cX10_init 62 = .ok (.invokespecial 34, 3) := by decide +kernel
theorem dX10_init_65 : decode cX10_init 65 = .ok (.aastore, 1) := by decide +kernel
theorem dX10_init_66 : decode cX10_init 66 = .ok (.iinc 1 1, 3) := by decide +kernel
theorem dX10_init_69 : decode cX10_init 69 = .ok (.goto (-22), 3) := by decide +kernel
theorem dX10_init_72 : decode cX10_init 72 = .ok (.return_, 1) := by decide +kernel
theorem dX10_clear_0 : decode cX10_clear 0 = .ok (.aload_n 0, 1) := by decide +kernel
theorem dX10_clear_1 : decode cX10_clear 1 = .ok (.getfield 20, 3) := by decide +kernel
theorem dX10_clear_4 : decode cX10_clear 4 = .ok (.invokevirtual 35, 3) := by decide +kernel
theorem dX10_clear_7 : decode cX10_clear 7 = .ok (.aload_n 0, 1) := by decide +kernel
theorem dX10_clear_8 : decode cX10_clear 8 = .ok (.iconst 0, 1) := by decide +kernel
theorem dX10_clear_9 : decode cX10_clear 9 = .ok (.putfield 38, 3) := by decide +kernel
theorem dX10_clear_12 : decode cX10_clear 12 = .ok (.aload_n 0, 1) := by decide +kernel
theorem dX10_clear_13 : decode cX10_clear 13 = .ok (.iconst 0, 1) := by decide +kernel
theorem dX10_clear_14 : decode cX10_clear 14 = .ok (.putfield 42, 3) := by decide +kernel
theorem dX10_clear_17 : decode cX10_clear 17 = .ok (.aload_n 0, 1) := by decide +kernel
theorem dX10_clear_18 : decode cX10_clear 18 = .ok (.iconst 0, 1) := by decide +kernel
theorem dX10_clear_19 : decode cX10_clear 19 = .ok (.putfield 45, 3) := by decide +kernel
theorem dX10_clear_22 : decode cX10_clear 22 = .ok (.aload_n 0, 1) := by decide +kernel
theorem dX10_clear_23 : decode cX10_clear 23 = .ok (.iconst 0, 1) := by decide +kernel
theorem dX10_clear_24 : decode cX10_clear 24 = .ok (.putfield 48, 3) := by decide +kernel
theorem dX10_clear_27 : decode cX10_clear 27 = .ok (.aload_n 0, 1) := by decide +kernel
theorem dX10_clear_28 : decode cX10_clear 28 = .ok (.iconst 0, 1) := by decide +kernel
theorem dX10_clear_29 : decode cX10_clear 29 = .ok (.putfield 51, 3) := by decide +kernel
theorem dX10_clear_32 : decode cX10_clear 32 = .ok (.aload_n 0, 1) := by decide +kernel
theorem dX10_clear_33 : decode cX10_clear 33 = .ok (.iconst 0, 1) := by decide +kernel
theorem dX10_clear_34 : decode cX10_clear 34 = .ok (.putfield 54, 3) := by decide +kernel
theorem dX10_clear_37 : decode cX10_clear 37 = .ok (.aload_n 0, 1) := by decide +kernel
theorem dX10_clear_38 : decode cX10_clear 38 = .ok (.iconst 0, 1) := by decide +kernel
theorem dX10_clear_39 : decode cX10_clear 39 = .ok (.putfield 57, 3) := by decide +kernel
theorem dX10_clear_42 : decode cX10_clear 42 = .ok (.aload_n 0, 1) := by decide +kernel
theorem dX10_clear_43 : decode cX10_clear 43 = .ok (.iconst 0, 1) := by decide +kernel
theorem dX10_clear_44 : decode cX10_clear 44 = .ok (.putfield 60, 3) := by decide +kernel
theorem dX10_clear_47 : decode cX10_clear 47 = .ok (.aload_n 0, 1) := by decide +kernel
theorem dX10_clear_48 : decode cX10_clear 48 = .ok (.iconst 0, 1) := by decide +kernel
theorem dX10_clear_49 : decode cX10_clear 49 = .ok (.putfield 64, 3) := by decide +kernel
theorem dX10_clear_52 : decode cX10_clear 52 = .ok (.return_, 1) := by decide +kernel
theorem dX10_boxNamed_0 : decode cX10_boxNamed 0 = .ok (.iconst 0, 1) := by decide +kernel
theorem dX10_boxNamed_1 : decode cX10_boxNamed 1 = .ok (.istore_n 2, 1) := by decide +kernel
theorem dX10_boxNamed_2 : decode cX10_boxNamed 2 = .ok (.iload_n 2, 1) := by decide +kernel
theorem dX10_boxNamed_3 : decode cX10_boxNamed 3 = .ok (.aload_n 0, 1) := by decide +kernel
theorem dX10_boxNamed_4 : decode cX10_boxNamed 4 = .ok (.getfield 38, 3) := by decide +kernel
theorem dX10_boxNamed_7 : decode cX10_boxNamed 7 = .ok (.if_icmp .ge 24, 3) := by decide +kernel
theorem dX10_boxNamed_10 : decode cX10_boxNamed 10 = .ok (.aload_n 0, 1) := by decide +kernel
theorem dX10_boxNamed_11 : decode cX10_boxNamed 11 = .ok (.getfield 11, 3) := by decide +kernel
theorem dX10_boxNamed_14 : decode cX10_boxNamed 14 = .ok (.iload_n 2, 1) := by decide +kernel
theorem dX10_boxNamed_15 : decode cX10_boxNamed 15 = .ok (.aaload, 1) := by decide +kernel
theorem dX10_boxNamed_16 : decode cX10_boxNamed 16 = .ok (.getfield 67, 3) := by decide +kernel
theorem dX10_boxNamed_19 : decode cX10_boxNamed 19 = .ok (.iload_n 1, 1) := by decide +kernel
theorem dX10_boxNamed_20 : decode cX10_boxNamed 20 = .ok (.if_icmp .ne 5, 3) := by decide +kernel
theorem dX10_boxNamed_23 : decode cX10_boxNamed 23 = .ok (.iload_n 2, 1) := by decide +kernel
theorem dX10_boxNamed_24 : decode cX10_boxNamed 24 = .ok (.ireturn, 1) := by decide +kernel
theorem dX10_boxNamed_25 : decode cX10_boxNamed 25 = .ok (.iinc 2 1, 3) := by decide +kernel
theorem dX10_boxNamed_28 : decode cX10_boxNamed 28 = .ok (.goto (-26), 3) := by decide +kernel
theorem dX10_boxNamed_31 : decode cX10_boxNamed 31 = .ok (.iconst (-1), 1) := by decide +kernel
theorem dX10_boxNamed_32 : decode cX10_boxNamed 32 = .ok (.ireturn, 1) := by decide +kernel
theorem dX10_guestNamed_0 : decode cX10_guestNamed 0 = .ok (.iconst 0, 1) := by decide +kernel
theorem dX10_guestNamed_1 : decode cX10_guestNamed 1 = .ok (.istore_n 2, 1) := by decide +kernel
theorem dX10_guestNamed_2 : decode cX10_guestNamed 2 = .ok (.iload_n 2, 1) := by decide +kernel
theorem dX10_guestNamed_3 : decode cX10_guestNamed 3 = .ok (.aload_n 0, 1) := by decide +kernel
theorem dX10_guestNamed_4 : decode cX10_guestNamed 4 = .ok (.getfield 48, 3) := by decide +kernel
theorem dX10_guestNamed_7 : decode cX10_guestNamed 7 = .ok (.if_icmp .ge 21, 3) := by decide +kernel
theorem dX10_guestNamed_10 : decode cX10_guestNamed 10 = .ok (.aload_n 0, 1) := by decide +kernel
theorem dX10_guestNamed_11 : decode cX10_guestNamed 11 = .ok (.getfield 24, 3) := by decide +kernel
theorem dX10_guestNamed_14 : decode cX10_guestNamed 14 = .ok (.iload_n 2, 1) := by decide +kernel
theorem dX10_guestNamed_15 : decode cX10_guestNamed 15 = .ok (.iaload, 1) := by decide +kernel
theorem dX10_guestNamed_16 : decode cX10_guestNamed 16 = .ok (.iload_n 1, 1) := by decide +kernel
theorem dX10_guestNamed_17 : decode cX10_guestNamed 17 = .ok (.if_icmp .ne 5, 3) := by decide +kernel
theorem dX10_guestNamed_20 : decode cX10_guestNamed 20 = .ok (.iload_n 2, 1) := by decide +kernel
theorem dX10_guestNamed_21 : decode cX10_guestNamed 21 = .ok (.ireturn, 1) := by decide +kernel
theorem dX10_guestNamed_22 : decode cX10_guestNamed 22 = .ok (.iinc 2 1, 3) := by decide +kernel
theorem dX10_guestNamed_25 : decode cX10_guestNamed 25 = .ok (.goto (-23), 3) := by decide +kernel
theorem dX10_guestNamed_28 : decode cX10_guestNamed 28 = .ok (.iconst (-1), 1) := by decide +kernel
theorem dX10_guestNamed_29 : decode cX10_guestNamed 29 = .ok (.ireturn, 1) := by decide +kernel
theorem dX10_isDrawn_0 : decode cX10_isDrawn 0 = .ok (.aload_n 0, 1) := by decide +kernel
theorem dX10_isDrawn_1 : decode cX10_isDrawn 1 = .ok (.getfield 51, 3) := by decide +kernel
theorem dX10_isDrawn_4 : decode cX10_isDrawn 4 = .ok (.ifCond .le 16, 3) := by decide +kernel
theorem dX10_isDrawn_7 : decode cX10_isDrawn 7 = .ok (.aload_n 0, 1) := by decide +kernel
theorem dX10_isDrawn_8 : decode cX10_isDrawn 8 = .ok (.getfield 51, 3) := by decide +kernel
theorem dX10_isDrawn_11 : decode cX10_isDrawn 11 = .ok (.bipush 100, 2) := by decide +kernel
theorem dX10_isDrawn_13 : decode cX10_isDrawn 13 = .ok (.if_icmp .ge 7, 3) := by decide +kernel
theorem dX10_isDrawn_16 : decode cX10_isDrawn 16 = .ok (.iconst 1, 1) := by decide +kernel
theorem dX10_isDrawn_17 : decode cX10_isDrawn 17 = .ok (.goto 4, 3) := by decide +kernel
theorem dX10_isDrawn_20 : decode cX10_isDrawn 20 = .ok (.iconst 0, 1) := by decide +kernel
theorem dX10_isDrawn_21 : decode cX10_isDrawn 21 = .ok (.ireturn, 1) := by decide +kernel
theorem dX10_isDampBy_0 : decode cX10_isDampBy 0 = .ok (.aload_n 0, 1) := by decide +kernel
theorem dX10_isDampBy_1 : decode cX10_isDampBy 1 = .ok (.invokevirtual 70, 3) := by decide +kernel
theorem dX10_isDampBy_4 : decode cX10_isDampBy 4 = .ok (.ifCond .eq 25, 3) := by decide +kernel
theorem dX10_isDampBy_7 : decode cX10_isDampBy 7 = .ok (.iload_n 1, 1) := by decide +kernel
theorem dX10_isDampBy_8 : decode cX10_isDampBy 8 = .ok (.ldc 74, 2) := by decide +kernel
theorem dX10_isDampBy_10 : decode cX10_isDampBy 10 = .ok (.idiv, 1) := by decide +kernel
theorem dX10_isDampBy_11 : decode cX10_isDampBy 11 = .ok (.bipush 100, 2) := by decide +kernel
theorem dX10_isDampBy_13 : decode cX10_isDampBy 13 = .ok (.irem, 1) := by decide +kernel
theorem dX10_isDampBy_14 : decode cX10_isDampBy 14 = .ok (.aload_n 0, 1) := by decide +kernel
theorem dX10_isDampBy_15 : decode cX10_isDampBy 15 = .ok (.getfield 51, 3) := by decide +kernel
theorem dX10_isDampBy_18 : decode cX10_isDampBy 18 = .ok (.if_icmp .ge 7, 3) := by decide +kernel
theorem dX10_isDampBy_21 : decode cX10_isDampBy 21 = .ok (.iconst 1, 1) := by decide +kernel
theorem dX10_isDampBy_22 : decode cX10_isDampBy 22 = .ok (.goto 21, 3) := by decide +kernel
theorem dX10_isDampBy_25 : decode cX10_isDampBy 25 = .ok (.iconst 0, 1) := by decide +kernel
theorem dX10_isDampBy_26 : decode cX10_isDampBy 26 = .ok (.goto 17, 3) := by decide +kernel
theorem dX10_isDampBy_29 : decode cX10_isDampBy 29 = .ok (.aload_n 0, 1) := by decide +kernel
theorem dX10_isDampBy_30 : decode cX10_isDampBy 30 = .ok (.getfield 51, 3) := by decide +kernel
theorem dX10_isDampBy_33 : decode cX10_isDampBy 33 = .ok (.bipush 100, 2) := by decide +kernel
theorem dX10_isDampBy_35 : decode cX10_isDampBy 35 = .ok (.if_icmp .ne 7, 3) := by decide +kernel
theorem dX10_isDampBy_38 : decode cX10_isDampBy 38 = .ok (.iconst 1, 1) := by decide +kernel
theorem dX10_isDampBy_39 : decode cX10_isDampBy 39 = .ok (.goto 4, 3) := by decide +kernel
theorem dX10_isDampBy_42 : decode cX10_isDampBy 42 = .ok (.iconst 0, 1) := by decide +kernel
theorem dX10_isDampBy_43 : decode cX10_isDampBy 43 = .ok (.ireturn, 1) := by decide +kernel
