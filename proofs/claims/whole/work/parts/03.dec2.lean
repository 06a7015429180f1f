theorem dX11_init_0 : decode cX11_init 0 = .ok (.aload_n 0, 1) := by decide +kernel
theorem dX11_init_1 : decode cX11_init 1 = .ok (.invokespecial 3, 3) := by decide +kernel
theorem dX11_init_4 : decode cX11_init 4 = .ok (.aload_n 0, 1) := by decide +kernel
theorem dX11_init_5 : decode cX11_init 5 = .ok (.new 9, 3) := by decide +kernel
theorem dX11_init_8 : decode cX11_init 8 = .ok (.dup, 1) := by decide +kernel
theorem dX11_init_9 : decode cX11_init 9 = .ok (.invokespecial 11, 3) := by decide +kernel
theorem dX11_init_12 : decode cX11_init 12 = .ok (.putfield 12, 3) := by decide +kernel
theorem dX11_init_15 : decode cX11_init 15 = .ok (.aload_n 0, 1) := by decide +kernel
theorem dX11_init_16 : decode cX11_init 16 = .ok (.new 18, 3) := by decide +kernel
theorem dX11_init_19 : decode cX11_init 19 = .ok (.dup, 1) := by decide +kernel
theorem dX11_init_20 : decode cX11_init 20 = .ok (.aload_n 0, 1) := by decide +kernel
theorem dX11_init_21 : decode cX11_init 21 = .ok (.getfield 12, 3) := by decide +kernel
theorem dX11_init_24 : decode cX11_init 24 = .ok (.invokespecial 20, 3) := by decide +kernel
theorem dX11_init_27 : decode cX11_init 27 = .ok (.putfield 23, 3) := by decide +kernel
theorem dX11_init_30 : decode cX11_init 30 = .ok (.aload_n 0, 1) := by decide +kernel
theorem dX11_init_31 : decode cX11_init 31 = .ok (.new 27, 3) := by decide +kernel
theorem dX11_init_34 : decode cX11_init 34 = .ok (.dup, 1) := by decide +kernel
theorem dX11_init_35 : decode cX11_init 35 = .ok (.invokespecial 29, 3) := by decide +kernel
theorem dX11_init_38 : decode cX11_init 38 = .ok (.putfield 30, 3) := by decide +kernel
theorem dX11_init_41 : decode cX11_init 41 = .ok (.aload_n 0, 1) := by decide +kernel
theorem dX11_init_42 : decode cX11_init 42 = .ok (.new 27, 3) := by decide +kernel
theorem dX11_init_45 : decode cX11_init 45 = .ok (.dup, 1) := by decide +kernel
theorem dX11_init_46 : decode cX11_init 46 = .ok (.invokespecial 29, 3) := by decide +kernel
theorem dX11_init_49 : decode cX11_init 49 = .ok (.putfield 34, 3) := by decide +kernel
theorem dX11_init_52 : decode cX11_init 52 = .ok (.aload_n 0, 1) := by decide +kernel
theorem dX11_init_53 : decode cX11_init 53 = .ok (.new 37, 3) := by decide +kernel
theorem dX11_init_56 : decode cX11_init 56 = .ok (.dup, 1) := by decide +kernel
theorem dX11_init_57 : decode cX11_init 57 = .ok (.invokespecial 39, 3) := by decide +kernel
theorem dX11_init_60 : decode cX11_init 60 = .ok (.putfield 40, 3) := by decide +kernel
theorem dX11_init_63 : decode cX11_init 63 = .ok (.aload_n 0, 1) := by decide +kernel
theorem dX11_init_64 : decode cX11_init 64 = .ok (.new 44, 3) := by decide +kernel
theorem dX11_init_67 : decode cX11_init 67 = .ok (.dup, 1) := by decide +kernel
theorem dX11_init_68 : decode cX11_init 68 = .ok (.invokespecial 46, 3) := by decide +kernel
theorem dX11_init_71 : decode cX11_init 71 = .ok (.putfield 47, 3) := by decide +kernel
theorem dX11_init_74 : decode cX11_init 74 = .ok (.aload_n 0, 1) := by decide +kernel
theorem dX11_init_75 : decode cX11_init 75 = .ok (.new 51, 3) := by decide +kernel
theorem dX11_init_78 : decode cX11_init 78 = .ok (.dup, 1) := by decide +kernel
theorem dX11_init_79 : decode cX11_init 79 = .ok (.invokespecial 53, 3) := by decide +kernel
theorem dX11_init_82 : decode cX11_init 82 = .ok (.putfield 54, 3) := by decide +kernel
theorem dX11_init_85 : decode cX11_init 85 = .ok (.aload_n 0, 1) := by decide +kernel
theorem dX11_init_86 : decode cX11_init 86 = .ok (.new 58, 3) := by decide +kernel
theorem dX11_init_89 : decode cX11_init 89 = .ok (.dup, 1) := by decide +kernel
theorem dX11_init_90 : decode cX11_init 90 = .ok (.invokespecial 60, 3) := by decide +kernel
theorem dX11_init_93 : decode cX11_init 93 = .ok (.putfield 61, 3) := by decide +kernel
theorem dX11_init_96 : decode cX11_init 96 = .ok (.aload_n 0, 1) := by decide +kernel
theorem dX11_init_97 : decode cX11_init 97 = .ok (.new 65, 3) := by decide +kernel
theorem dX11_init_100 : decode cX11_init 100 = .ok (.dup, 1) := by decide +kernel
theorem dX11_init_101 : decode cX11_init 101 = .ok (.invokespecial 67, 3) := by decide +kernel
theorem dX11_init_104 : decode cX11_init 104 = .ok (.putfield 68, 3) := by decide +kernel
theorem dX11_init_107 : decode cX11_init 107 = .ok (.aload_n 0, 1) := by decide +kernel
theorem dX11_init_108 : decode cX11_init 108 = .ok (.bipush 30, 2) := by decide +kernel
theorem dX11_init_110 : decode cX11_init 110 = .ok (.newarray .int, 2) := by decide +kernel
theorem dX11_init_112 : decode cX11_init 112 = .ok (.putfield 72, 3) := by decide +kernel
theorem dX11_init_115 : decode cX11_init 115 = .ok (.aload_n 0, 1) := by decide +kernel
theorem dX11_init_116 : decode cX11_init 116 = .ok (.iconst 3, 1) := by decide +kernel
theorem dX11_init_117 : decode cX11_init 117 = .ok (.newarray .int, 2) := by decide +kernel
theorem dX11_init_119 : decode cX11_init 119 = .ok (.putfield 76, 3) := by decide +kernel
theorem dX11_init_122 : decode cX11_init 122 = .ok (.aload_n 0, 1) := by decide +kernel
theorem dX11_init_123 : decode cX11_init 123 = .ok (.new 79, 3) := by decide +kernel
theorem dX11_init_126 : decode cX11_init 126 = .ok (.dup, 1) := by decide +kernel
theorem dX11_init_127 : decode cX11_init 127 = .ok (.invokespecial 81, 3) := by decide +kernel
theorem dX11_init_130 : decode cX11_init 130 = .ok (.putfield 82, 3) := by decide +kernel
theorem dX11_init_133 : decode cX11_init 133 = .ok (.aload_n 0, 1) := by decide +kernel
theorem dX11_init_134 : decode cX11_init 134 = .ok (.new 79, 3) := by decide +kernel
theorem dX11_init_137 : decode cX11_init 137 = .ok (.dup, 1) := by decide +kernel
theorem dX11_init_138 : decode cX11_init 138 = .ok (.invokespecial 81, 3) := by decide +kernel
theorem dX11_init_141 : decode cX11_init 141 = .ok (.putfield 86, 3) := by decide +kernel
theorem dX11_init_144 : decode cX11_init 144 = .ok (.aload_n 0, 1) := by decide +kernel
theorem dX11_init_145 : decode cX11_init 145 = .ok (.iconst 0, 1) := by decide +kernel
theorem dX11_init_146 : decode cX11_init 146 = .ok (.putfield 89, 3) := by decide +kernel
theorem dX11_init_149 : decode cX11_init 149 = .ok (.return_, 1) := by decide +kernel
theorem dX11_feed_0 : decode cX11_feed 0 = .ok (.aload_n 0, 1) := by decide +kernel
theorem dX11_feed_1 : decode cX11_feed 1 = .ok (.getfield 12, 3) := by decide +kernel
theorem dX11_feed_4 : decode cX11_feed 4 = .ok (.getfield 93, 3) := by decide +kernel
theorem dX11_feed_7 : decode cX11_feed 7 = .ok (.bipush 20, 2) := by decide +kernel
theorem dX11_feed_9 : decode cX11_feed 9 = .ok (.iadd, 1) := by decide +kernel
theorem dX11_feed_10 : decode cX11_feed 10 = .ok (.sipush 700, 3) := by decide +kernel
theorem dX11_feed_13 : decode cX11_feed 13 = .ok (.if_icmp .le 5, 3) := by decide +kernel
theorem dX11_feed_16 : decode cX11_feed 16 = .ok (.iconst (-1), 1) := by decide +kernel
theorem dX11_feed_17 : decode cX11_feed 17 = .ok (.ireturn, 1) := by decide +kernel
theorem dX11_feed_18 : decode cX11_feed 18 = .ok (.aload_n 0, 1) := by decide +kernel
theorem dX11_feed_19 : decode cX11_feed 19 = .ok (.getfield 12, 3) := by decide +kernel
theorem dX11_feed_22 : decode cX11_feed 22 = .ok (.iload_n 1, 1) := by decide +kernel
theorem dX11_feed_23 : decode cX11_feed 23 = .ok (.invokevirtual 97, 3) := by decide +kernel
theorem dX11_feed_26 : decode cX11_feed 26 = .ok (.aload_n 0, 1) := by decide +kernel
theorem dX11_feed_27 : decode cX11_feed 27 = .ok (.getfield 12, 3) := by decide +kernel
theorem dX11_feed_30 : decode cX11_feed 30 = .ok (.iload_n 2, 1) := by decide +kernel
theorem dX11_feed_31 : decode cX11_feed 31 = .ok (.invokevirtual 97, 3) := by decide +kernel
theorem dX11_feed_34 : decode cX11_feed 34 = .ok (.aload_n 0, 1) := by decide +kernel
theorem dX11_feed_35 : decode cX11_feed 35 = .ok (.getfield 12, 3) := by decide +kernel
theorem dX11_feed_38 : decode cX11_feed 38 = .ok (.iload_n 3, 1) := by decide +kernel
theorem dX11_feed_39 : decode cX11_feed 39 = .ok (.invokevirtual 97, 3) := by decide +kernel
theorem dX11_feed_42 : decode cX11_feed 42 = .ok (.aload_n 0, 1) := by decide +kernel
theorem dX11_feed_43 : decode cX11_feed 43 = .ok (.getfield 12, 3) := by decide +kernel
theorem dX11_feed_46 : decode cX11_feed 46 = .ok (.iload 4, 2) := by decide +kernel
theorem dX11_feed_48 : decode cX11_feed 48 = .ok (.invokevirtual 97, 3) := by decide +kernel
theorem dX11_feed_51 : decode cX11_feed 51 = .ok (.aload_n 0, 1) := by decide +kernel
theorem dX11_feed_52 : decode cX11_feed 52 = .ok (.getfield 12, 3) := by decide +kernel
theorem dX11_feed_55 : decode cX11_feed 55 = .ok (.iload 5, 2) := by decide +kernel
theorem dX11_feed_57 : decode cX11_feed 57 = .ok (.invokevirtual 97, 3) := by decide +kernel
theorem dX11_feed_60 : decode cX11_feed 60 = .ok (.aload_n 0, 1) := by decide +kernel
theorem dX11_feed_61 : decode cX11_feed 61 = .ok (.getfield 12, 3) := by decide +kernel
theorem dX11_feed_64 : decode cX11_feed 64 = .ok (.getfield 93, 3) := by decide +kernel
theorem dX11_feed_67 : decode cX11_feed 67 = .ok (.ireturn, 1) := by decide +kernel
theorem dX11_text_0 : decode cX11_text 0 = .ok (.iload_n 1, 1) := by decide +kernel
theorem dX11_text_1 : decode cX11_text 1 = .ok (.ifCond .lt 14, 3) := by decide +kernel
theorem dX11_text_4 : decode cX11_text 4 = .ok (.iload_n 1, 1) := by decide +kernel
theorem dX11_text_5 : decode cX11_text 5 = .ok (.aload_n 0, 1) := by decide +kernel
theorem dX11_text_6 : decode cX11_text 6 = .ok (.getfield 12, 3) := by decide +kernel
theorem dX11_text_9 : decode cX11_text 9 = .ok (.getfield 93, 3) := by decide +kernel
theorem dX11_text_12 : decode cX11_text 12 = .ok (.if_icmp .le 6, 3) := by decide +kernel
theorem dX11_text_15 : decode cX11_text 15 = .ok (.bipush (-2), 2) := by decide +kernel
theorem dX11_text_17 : decode cX11_text 17 = .ok (.ireturn, 1) := by decide +kernel
theorem dX11_text_18 : decode cX11_text 18 = .ok (.aload_n 0, 1) := by decide +kernel
theorem dX11_text_19 : decode cX11_text 19 = .ok (.getfield 23, 3) := by decide +kernel
theorem dX11_text_22 : decode cX11_text 22 = .ok (.aload_n 0, 1) := by decide +kernel
theorem dX11_text_23 : decode cX11_text 23 = .ok (.getfield 86, 3) := by decide +kernel
theorem dX11_text_26 : decode cX11_text 26 = .ok (.iload_n 1, 1) := by decide +kernel
theorem dX11_text_27 : decode cX11_text 27 = .ok (.invokevirtual 101, 3) := by decide +kernel
theorem dX11_text_30 : decode cX11_text 30 = .ok (.aload_n 0, 1) := by decide +kernel
theorem dX11_text_31 : decode cX11_text 31 = .ok (.getfield 12, 3) := by decide +kernel
theorem dX11_text_34 : decode cX11_text 34 = .ok (.iconst 0, 1) := by decide +kernel
theorem dX11_text_35 : decode cX11_text 35 = .ok (.putfield 93, 3) := by decide +kernel
theorem dX11_text_38 : decode cX11_text 38 = .ok (.aload_n 0, 1) := by decide +kernel
theorem dX11_text_39 : decode cX11_text 39 = .ok (.getfield 23, 3) := by decide +kernel
theorem dX11_text_42 : decode cX11_text 42 = .ok (.getfield 105, 3) := by decide +kernel
theorem dX11_text_45 : decode cX11_text 45 = .ok (.ifCond .eq 5, 3) := by decide +kernel
theorem dX11_text_48 : decode cX11_text 48 = .ok (.iconst (-1), 1) := by decide +kernel
theorem dX11_text_49 : decode cX11_text 49 = .ok (.ireturn, 1) := by decide +kernel
theorem dX11_text_50 : decode cX11_text 50 = .ok (.aload_n 0, 1) := by decide +kernel
theorem dX11_text_51 : decode cX11_text 51 = .ok (.getfield 82, 3) := by decide +kernel
theorem dX11_text_54 : decode cX11_text 54 = .ok (.astore_n 2, 1) := by decide +kernel
theorem dX11_text_55 : decode cX11_text 55 = .ok (.aload_n 0, 1) := by decide +kernel
theorem dX11_text_56 : decode cX11_text 56 = .ok (.aload_n 0, 1) := by decide +kernel
theorem dX11_text_57 : decode cX11_text 57 = .ok (.getfield 86, 3) := by decide +kernel
theorem dX11_text_60 : decode cX11_text 60 = .ok (.putfield 82, 3) := by decide +kernel
theorem dX11_text_63 : decode cX11_text 63 = .ok (.aload_n 0, 1) := by decide +kernel
theorem dX11_text_64 : decode cX11_text 64 = .ok (.aload_n 2, 1) := by decide +kernel
theorem dX11_text_65 : decode cX11_text 65 = .ok (.putfield 86, 3) := by decide +kernel
theorem dX11_text_68 : decode cX11_text 68 = .ok (.aload_n 0, 1) := by decide +kernel
theorem dX11_text_69 : decode cX11_text 69 = .ok (.getfield 30, 3) := by decide +kernel
theorem dX11_text_72 : decode cX11_text 72 = .ok (.aload_n 0, 1) := by decide +kernel
theorem dX11_text_73 : decode cX11_text 73 = .ok (.getfield 82, 3) := by decide +kernel
theorem dX11_text_76 : decode cX11_text 76 = .ok (.invokevirtual 108, 3) := by decide +kernel
theorem dX11_text_79 : decode cX11_text 79 = .ok (.aload_n 0, 1) := by decide +kernel
theorem dX11_text_80 : decode cX11_text 80 = .ok (.getfield 47, 3) := by decide +kernel
theorem dX11_text_83 : decode cX11_text 83 = .ok (.invokevirtual 112, 3) := by decide +kernel
theorem dX11_text_86 : decode cX11_text 86 = .ok (.aload_n 0, 1) := by decide +kernel
theorem dX11_text_87 : decode cX11_text 87 = .ok (.getfield 40, 3) := by decide +kernel
theorem dX11_text_90 : decode cX11_text 90 = .ok (.invokevirtual 115, 3) := by decide +kernel
theorem dX11_text_93 : decode cX11_text 93 = .ok (.aload_n 0, 1) := by decide +kernel
theorem dX11_text_94 : decode cX11_text 94 = .ok (.iconst 0, 1) := by decide +kernel
theorem dX11_text_95 : decode cX11_text 95 = .ok (.putfield 89, 3) := by decide +kernel
theorem dX11_text_98 : decode cX11_text 98 = .ok (.aload_n 0, 1) := by decide +kernel
theorem dX11_text_99 : decode cX11_text 99 = .ok (.getfield 82, 3) := by decide +kernel
theorem dX11_text_102 : decode cX11_text 102 = .ok (.getfield 116, 3) := by decide +kernel
theorem dX11_text_105 : decode cX11_text 105 = .ok (.ireturn, 1) := by decide +kernel
theorem dX11_fault_0 : decode cX11_fault 0 = .ok (.iload_n 1, 1) := by decide +kernel
theorem dX11_fault_1 : decode cX11_fault 1 = .ok (.ifCond .ne 11, 3) := by decide +kernel
theorem dX11_fault_4 : decode cX11_fault 4 = .ok (.aload_n 0, 1) := by decide +kernel
theorem dX11_fault_5 : decode cX11_fault 5 = .ok (.getfield 23, 3) := by decide +kernel
theorem dX11_fault_8 : decode cX11_fault 8 = .ok (.getfield 105, 3) := by decide +kernel
theorem dX11_fault_11 : decode cX11_fault 11 = .ok (.ireturn, 1) := by decide +kernel
theorem dX11_fault_12 : decode cX11_fault 12 = .ok (.iload_n 1, 1) := by decide +kernel
theorem dX11_fault_13 : decode cX11_fault 13 = .ok (.iconst 1, 1) := by decide +kernel
theorem dX11_fault_14 : decode cX11_fault 14 = .ok (.if_icmp .ne 13, 3) := by decide +kernel
theorem dX11_fault_17 : decode cX11_fault 17 = .ok (.aload_n 0, 1) := by decide +kernel
theorem dX11_fault_18 : decode cX11_fault 18 = .ok (.getfield 23, 3) := by decide +kernel
theorem dX11_fault_21 : decode cX11_fault 21 = .ok (.getfield 119, 3) := by decide +kernel
theorem dX11_fault_24 : decode cX11_fault 24 = .ok (.goto 4, 3) := by decide +kernel
theorem dX11_fault_27 : decode cX11_fault 27 = .ok (.iconst (-1), 1) := by decide +kernel
theorem dX11_fault_28 : decode cX11_fault 28 = .ok (.ireturn, 1) := by decide +kernel
theorem dX11_named_0 : decode cX11_named 0 = .ok (.iload_n 1, 1) := by decide +kernel
theorem dX11_named_1 : decode cX11_named 1 = .ok (.ifCond .ne 12, 3) := by decide +kernel
theorem dX11_named_4 : decode cX11_named 4 = .ok (.aload_n 0, 1) := by decide +kernel
theorem dX11_named_5 : decode cX11_named 5 = .ok (.getfield 82, 3) := by decide +kernel
theorem dX11_named_8 : decode cX11_named 8 = .ok (.iload_n 2, 1) := by decide +kernel
theorem dX11_named_9 : decode cX11_named 9 = .ok (.invokevirtual 122, 3) := by decide +kernel
theorem dX11_named_12 : decode cX11_named 12 = .ok (.ireturn, 1) := by decide +kernel
theorem dX11_named_13 : decode cX11_named 13 = .ok (.iload_n 1, 1) := by decide +kernel
theorem dX11_named_14 : decode cX11_named 14 = .ok (.iconst 1, 1) := by decide +kernel
theorem dX11_named_15 : decode cX11_named 15 = .ok (.if_icmp .ne 14, 3) := by decide +kernel
theorem dX11_named_18 : decode cX11_named 18 = .ok (.aload_n 0, 1) := by decide +kernel
theorem dX11_named_19 : decode cX11_named 19 = .ok (.getfield 82, 3) := by decide +kernel
theorem dX11_named_22 : decode cX11_named 22 = .ok (.iload_n 2, 1) := by decide +kernel
theorem dX11_named_23 : decode cX11_named 23 = .ok (.invokevirtual 126, 3) := by decide +kernel
theorem dX11_named_26 : decode cX11_named 26 = .ok (.goto 4, 3) := by decide +kernel
theorem dX11_named_29 : decode cX11_named 29 = .ok (.iconst (-1), 1) := by decide +kernel
theorem dX11_named_30 : decode cX11_named 30 = .ok (.ireturn, 1) := by decide +kernel
theorem dX11_box_0 : decode cX11_box 0 = .ok (.aload_n 0, 1) := by decide +kernel
theorem dX11_box_1 : decode cX11_box 1 = .ok (.iload_n 1, 1) := by decide +kernel
theorem dX11_box_2 : decode cX11_box 2 = .ok (.invokevirtual 129, 3) := by decide +kernel
theorem dX11_box_5 : decode cX11_box 5 = .ok (.ifCond .ne 13, 3) := by decide +kernel
theorem dX11_box_8 : decode cX11_box 8 = .ok (.new 133, 3) := by decide +kernel
theorem dX11_box_11 : decode cX11_box 11 = .ok (.dup, 1) := by decide +kernel
theorem dX11_box_12 : decode cX11_box 12 = .ok (.ldc 135, 2) := by decide +kernel
theorem dX11_box_14 : decode cX11_box 14 = .ok (.invokespecial 137, 3) := by decide +kernel
theorem dX11_box_17 : decode cX11_box 17 = .ok (.athrow, 1) := by decide +kernel
theorem dX11_box_18 : decode cX11_box 18 = .ok (.aload_n 0, 1) := by decide +kernel
theorem dX11_box_19 : decode cX11_box 19 = .ok (.getfield 30, 3) := by decide +kernel
theorem dX11_box_22 : decode cX11_box 22 = .ok (.getfield 140, 3) := by decide +kernel
theorem dX11_box_25 : decode cX11_box 25 = .ok (.iload_n 1, 1) := by decide +kernel
theorem dX11_box_26 : decode cX11_box 26 = .ok (.aaload, 1) := by decide +kernel
theorem dX11_box_27 : decode cX11_box 27 = .ok (.astore_n 3, 1) := by decide +kernel
theorem dX11_box_28 : decode cX11_box 28 = .ok (.iload_n 2, 1) := by decide +kernel
theorem dX11_box_29 : decode cX11_box 29 = .ok (.tableswitch 86 0 6 #[43, 48, 53, 58, 63, 68, 81], 43) := by decide +kernel
theorem dX11_box_72 : decode cX11_box 72 = .ok (.aload_n 3, 1) := by decide +kernel
theorem dX11_box_73 : decode cX11_box 73 = .ok (.getfield 144, 3) := by decide +kernel
theorem dX11_box_76 : decode cX11_box 76 = .ok (.ireturn, 1) := by decide +kernel
theorem dX11_box_77 : decode cX11_box 77 = .ok (.aload_n 3, 1) := by decide +kernel
theorem dX11_box_78 : decode cX11_box 78 = .ok (.getfield 147, 3) := by decide +kernel
theorem dX11_box_81 : decode cX11_box 81 = .ok (.ireturn, 1) := by decide +kernel
theorem dX11_box_82 : decode cX11_box 82 = .ok (.aload_n 3, 1) := by decide +kernel
theorem dX11_box_83 : decode cX11_box 83 = .ok (.getfield 150, 3) := by decide +kernel
theorem dX11_box_86 : decode cX11_box 86 = .ok (.ireturn, 1) := by decide +kernel
theorem dX11_box_87 : decode cX11_box 87 = .ok (.aload_n 3, 1) := by decide +kernel
theorem dX11_box_88 : decode cX11_box 88 = .ok (.getfield 153, 3) := by decide +kernel
theorem dX11_box_91 : decode cX11_box 91 = .ok (.ireturn, 1) := by decide +kernel
theorem dX11_box_92 : decode cX11_box 92 = .ok (.aload_n 3, 1) := by decide +kernel
theorem dX11_box_93 : decode cX11_box 93 = .ok (.getfield 156, 3) := by decide +kernel
theorem dX11_box_96 : decode cX11_box 96 = .ok (.ireturn, 1) := by decide +kernel
theorem dX11_box_97 : decode cX11_box 97 = .ok (.aload_n 3, 1) := by decide +kernel
theorem dX11_box_98 : decode cX11_box 98 = .ok (.getfield 159, 3) := by decide +kernel
theorem dX11_box_101 : decode cX11_box 101 = .ok (.ifCond .eq 7, 3) := by decide +kernel
theorem dX11_box_104 : decode cX11_box 104 = .ok (.iconst 1, 1) := by decide +kernel
theorem dX11_box_105 : decode cX11_box 105 = .ok (.goto 4, 3) := by decide +kernel
theorem dX11_box_108 : decode cX11_box 108 = .ok (.iconst 0, 1) := by decide +kernel
theorem dX11_box_109 : decode cX11_box 109 = .ok (.ireturn, 1) := by decide +kernel
theorem dX11_box_110 : decode cX11_box 110 = .ok (.aload_n 3, 1) := by decide +kernel
theorem dX11_box_111 : decode cX11_box 111 = .ok (.getfield 162, 3) := by decide +kernel
theorem dX11_box_114 : decode cX11_box 114 = .ok (.ireturn, 1) := by decide +kernel
theorem dX11_box_115 : decode cX11_box 115 = .ok (.new 165, 3) := by decide +kernel
theorem dX11_box_118 : decode cX11_box 118 = .ok (.dup, 1) := by decide +kernel
theorem dX11_box_119 : decode cX11_box 119 = .ok (.ldc 167, 2) := by decide +kernel
theorem dX11_box_121 : decode cX11_box 121 = .ok (.invokespecial 169, 3) := by decide +kernel
theorem dX11_box_124 : decode cX11_box 124 = .ok (.athrow, 1) := by decide +kernel
theorem dX11_pin_0 : decode cX11_pin 0 = .ok (.aload_n 0, 1) := by decide +kernel
theorem dX11_pin_1 : decode cX11_pin 1 = .ok (.iload_n 1, 1) := by decide +kernel
theorem dX11_pin_2 : decode cX11_pin 2 = .ok (.invokevirtual 129, 3) := by decide +kernel
theorem dX11_pin_5 : decode cX11_pin 5 = .ok (.ifCond .eq 30, 3) := by decide +kernel
theorem dX11_pin_8 : decode cX11_pin 8 = .ok (.iload_n 2, 1) := by decide +kernel
theorem dX11_pin_9 : decode cX11_pin 9 = .ok (.iconst 0, 1) := by decide +kernel
theorem dX11_pin_10 : decode cX11_pin 10 = .ok (.bipush 7, 2) := by decide +kernel
theorem dX11_pin_12 : decode cX11_pin 12 = .ok (.invokestatic 170, 3) := by decide +kernel
theorem dX11_pin_15 : decode cX11_pin 15 = .ok (.ifCond .eq 20, 3) := by decide +kernel
theorem dX11_pin_18 : decode cX11_pin 18 = .ok (.aload_n 0, 1) := by decide +kernel
theorem dX11_pin_19 : decode cX11_pin 19 = .ok (.getfield 30, 3) := by decide +kernel
theorem dX11_pin_22 : decode cX11_pin 22 = .ok (.getfield 140, 3) := by decide +kernel
theorem dX11_pin_25 : decode cX11_pin 25 = .ok (.iload_n 1, 1) := by decide +kernel
theorem dX11_pin_26 : decode cX11_pin 26 = .ok (.aaload, 1) := by decide +kernel
theorem dX11_pin_27 : decode cX11_pin 27 = .ok (.getfield 174, 3) := by decide +kernel
theorem dX11_pin_30 : decode cX11_pin 30 = .ok (.iload_n 2, 1) := by decide +kernel
theorem dX11_pin_31 : decode cX11_pin 31 = .ok (.iaload, 1) := by decide +kernel
theorem dX11_pin_32 : decode cX11_pin 32 = .ok (.goto 4, 3) := by decide +kernel
theorem dX11_pin_35 : decode cX11_pin 35 = .ok (.iconst (-1), 1) := by decide +kernel
theorem dX11_pin_36 : decode cX11_pin 36 = .ok (.ireturn, 1) := by decide +kernel
theorem dX11_heard_0 : decode cX11_heard 0 = .ok (.aload_n 0, 1) := by decide +kernel
theorem dX11_heard_1 : decode cX11_heard 1 = .ok (.iload_n 1, 1) := by decide +kernel
theorem dX11_heard_2 : decode cX11_heard 2 = .ok (.invokevirtual 129, 3) := by decide +kernel
theorem dX11_heard_5 : decode cX11_heard 5 = .ok (.ifCond .eq 29, 3) := by decide +kernel
theorem dX11_heard_8 : decode cX11_heard 8 = .ok (.iload_n 2, 1) := by decide +kernel
theorem dX11_heard_9 : decode cX11_heard 9 = .ok (.iconst 0, 1) := by decide +kernel
theorem dX11_heard_10 : decode cX11_heard 10 = .ok (.bipush 7, 2) := by decide +kernel
theorem dX11_heard_12 : decode cX11_heard 12 = .ok (.invokestatic 170, 3) := by decide +kernel
theorem dX11_heard_15 : decode cX11_heard 15 = .ok (.ifCond .eq 19, 3) := by decide +kernel
theorem dX11_heard_18 : decode cX11_heard 18 = .ok (.aload_n 0, 1) := by decide +kernel
theorem dX11_heard_19 : decode cX11_heard 19 = .ok (.getfield 30, 3) := by decide +kernel
theorem dX11_heard_22 : decode cX11_heard 22 = .ok (.getfield 140, 3) := by decide +kernel
theorem dX11_heard_25 : decode cX11_heard 25 = .ok (.iload_n 1, 1) := by decide +kernel
theorem dX11_heard_26 : decode cX11_heard 26 = .ok (.aaload, 1) := by decide +kernel
theorem dX11_heard_27 : decode cX11_heard 27 = .ok (.iload_n 2, 1) := by decide +kernel
theorem dX11_heard_28 : decode cX11_heard 28 = .ok (.invokevirtual 177, 3) := by decide +kernel
theorem dX11_heard_31 : decode cX11_heard 31 = .ok (.goto 4, 3) := by decide +kernel
theorem dX11_heard_34 : decode cX11_heard 34 = .ok (.iconst (-1), 1) := by decide +kernel
theorem dX11_heard_35 : decode cX11_heard 35 = .ok (.ireturn, 1) := by decide +kernel
theorem dX11_guest_0 : decode cX11_guest 0 = .ok (.iload_n 1, 1) := by decide +kernel
theorem dX11_guest_1 : decode cX11_guest 1 = .ok (.iconst 0, 1) := by decide +kernel
theorem dX11_guest_2 : decode cX11_guest 2 = .ok (.aload_n 0, 1) := by decide +kernel
theorem dX11_guest_3 : decode cX11_guest 3 = .ok (.getfield 82, 3) := by decide +kernel
theorem dX11_guest_6 : decode cX11_guest 6 = .ok (.getfield 180, 3) := by decide +kernel
theorem dX11_guest_9 : decode cX11_guest 9 = .ok (.iconst 1, 1) := by decide +kernel
theorem dX11_guest_10 : decode cX11_guest 10 = .ok (.isub, 1) := by decide +kernel
theorem dX11_guest_11 : decode cX11_guest 11 = .ok (.invokestatic 170, 3) := by decide +kernel
theorem dX11_guest_14 : decode cX11_guest 14 = .ok (.ifCond .ne 5, 3) := by decide +kernel
theorem dX11_guest_17 : decode cX11_guest 17 = .ok (.iconst (-1), 1) := by decide +kernel
theorem dX11_guest_18 : decode cX11_guest 18 = .ok (.ireturn, 1) := by decide +kernel
theorem dX11_guest_19 : decode cX11_guest 19 = .ok (.iload_n 2, 1) := by decide +kernel
theorem dX11_guest_20 : decode cX11_guest 20 = .ok (.ifCond .ne 13, 3) := by decide +kernel
theorem dX11_guest_23 : decode cX11_guest 23 = .ok (.aload_n 0, 1) := by decide +kernel
theorem dX11_guest_24 : decode cX11_guest 24 = .ok (.getfield 82, 3) := by decide +kernel
theorem dX11_guest_27 : decode cX11_guest 27 = .ok (.getfield 183, 3) := by decide +kernel
theorem dX11_guest_30 : decode cX11_guest 30 = .ok (.iload_n 1, 1) := by decide +kernel
theorem dX11_guest_31 : decode cX11_guest 31 = .ok (.iaload, 1) := by decide +kernel
theorem dX11_guest_32 : decode cX11_guest 32 = .ok (.ireturn, 1) := by decide +kernel
theorem dX11_guest_33 : decode cX11_guest 33 = .ok (.iload_n 2, 1) := by decide +kernel
theorem dX11_guest_34 : decode cX11_guest 34 = .ok (.iconst 1, 1) := by decide +kernel
theorem dX11_guest_35 : decode cX11_guest 35 = .ok (.if_icmp .ne 15, 3) := by decide +kernel
theorem dX11_guest_38 : decode cX11_guest 38 = .ok (.aload_n 0, 1) := by decide +kernel
theorem dX11_guest_39 : decode cX11_guest 39 = .ok (.getfield 82, 3) := by decide +kernel
theorem dX11_guest_42 : decode cX11_guest 42 = .ok (.getfield 186, 3) := by decide +kernel
theorem dX11_guest_45 : decode cX11_guest 45 = .ok (.iload_n 1, 1) := by decide +kernel
theorem dX11_guest_46 : decode cX11_guest 46 = .ok (.iaload, 1) := by decide +kernel
theorem dX11_guest_47 : decode cX11_guest 47 = .ok (.goto 4, 3) := by decide +kernel
theorem dX11_guest_50 : decode cX11_guest 50 = .ok (.iconst (-1), 1) := by decide +kernel
theorem dX11_guest_51 : decode cX11_guest 51 = .ok (.ireturn, 1) := by decide +kernel
theorem dX11_kin_0 : decode cX11_kin 0 = .ok (.aload_n 0, 1) := by decide +kernel
theorem dX11_kin_1 : decode cX11_kin 1 = .ok (.iload_n 1, 1) := by decide +kernel
theorem dX11_kin_2 : decode cX11_kin 2 = .ok (.invokevirtual 129, 3) := by decide +kernel
theorem dX11_kin_5 : decode cX11_kin 5 = .ok (.ifCond .eq 11, 3) := by decide +kernel
theorem dX11_kin_8 : decode cX11_kin 8 = .ok (.aload_n 0, 1) := by decide +kernel
theorem dX11_kin_9 : decode cX11_kin 9 = .ok (.iload_n 2, 1) := by decide +kernel
theorem dX11_kin_10 : decode cX11_kin 10 = .ok (.invokevirtual 129, 3) := by decide +kernel
theorem dX11_kin_13 : decode cX11_kin 13 = .ok (.ifCond .ne 5, 3) := by decide +kernel
theorem dX11_kin_16 : decode cX11_kin 16 = .ok (.iconst (-1), 1) := by decide +kernel
theorem dX11_kin_17 : decode cX11_kin 17 = .ok (.ireturn, 1) := by decide +kernel
theorem dX11_kin_18 : decode cX11_kin 18 = .ok (.aload_n 0, 1) := by decide +kernel
theorem dX11_kin_19 : decode cX11_kin 19 = .ok (.getfield 30, 3) := by decide +kernel
theorem dX11_kin_22 : decode cX11_kin 22 = .ok (.getfield 140, 3) := by decide +kernel
theorem dX11_kin_25 : decode cX11_kin 25 = .ok (.iload_n 1, 1) := by decide +kernel
theorem dX11_kin_26 : decode cX11_kin 26 = .ok (.aaload, 1) := by decide +kernel
theorem dX11_kin_27 : decode cX11_kin 27 = .ok (.iload_n 2, 1) := by decide +kernel
theorem dX11_kin_28 : decode cX11_kin 28 = .ok (.invokevirtual 189, 3) := by decide +kernel
theorem dX11_kin_31 : decode cX11_kin 31 = .ok (.ifCond .eq 7, 3) := by decide +kernel
theorem dX11_kin_34 : decode cX11_kin 34 = .ok (.iconst 1, 1) := by decide +kernel
theorem dX11_kin_35 : decode cX11_kin 35 = .ok (.goto 4, 3) := by decide +kernel
theorem dX11_kin_38 : decode cX11_kin 38 = .ok (.iconst 0, 1) := by decide +kernel
theorem dX11_kin_39 : decode cX11_kin 39 = .ok (.ireturn, 1) := by decide +kernel
theorem dX11_law_0 : decode cX11_law 0 = .ok (.aload_n 0, 1) := by decide +kernel
theorem dX11_law_1 : decode cX11_law 1 = .ok (.iload_n 2, 1) := by decide +kernel
theorem dX11_law_2 : decode cX11_law 2 = .ok (.invokevirtual 129, 3) := by decide +kernel
theorem dX11_law_5 : decode cX11_law 5 = .ok (.ifCond .eq 12, 3) := by decide +kernel
theorem dX11_law_8 : decode cX11_law 8 = .ok (.iload_n 1, 1) := by decide +kernel
theorem dX11_law_9 : decode cX11_law 9 = .ok (.iconst 0, 1) := by decide +kernel
theorem dX11_law_10 : decode cX11_law 10 = .ok (.iconst 2, 1) := by decide +kernel
theorem dX11_law_11 : decode cX11_law 11 = .ok (.invokestatic 170, 3) := by decide +kernel
theorem dX11_law_14 : decode cX11_law 14 = .ok (.ifCond .ne 7, 3) := by decide +kernel
theorem dX11_law_17 : decode cX11_law 17 = .ok (.ldc2_w 192, 3) := by decide +kernel
theorem dX11_law_20 : decode cX11_law 20 = .ok (.lreturn, 1) := by decide +kernel
theorem dX11_law_21 : decode cX11_law 21 = .ok (.aload_n 0, 1) := by decide +kernel
theorem dX11_law_22 : decode cX11_law 22 = .ok (.getfield 82, 3) := by decide +kernel
theorem dX11_law_25 : decode cX11_law 25 = .ok (.getfield 194, 3) := by decide +kernel
theorem dX11_law_28 : decode cX11_law 28 = .ok (.iload_n 1, 1) := by decide +kernel
theorem dX11_law_29 : decode cX11_law 29 = .ok (.aload_n 0, 1) := by decide +kernel
theorem dX11_law_30 : decode cX11_law 30 = .ok (.getfield 30, 3) := by decide +kernel
theorem dX11_law_33 : decode cX11_law 33 = .ok (.getfield 140, 3) := by decide +kernel
theorem dX11_law_36 : decode cX11_law 36 = .ok (.iload_n 2, 1) := by decide +kernel
theorem dX11_law_37 : decode cX11_law 37 = .ok (.aaload, 1) := by decide +kernel
theorem dX11_law_38 : decode cX11_law 38 = .ok (.aload_n 0, 1) := by decide +kernel
theorem dX11_law_39 : decode cX11_law 39 = .ok (.getfield 30, 3) := by decide +kernel
theorem dX11_law_42 : decode cX11_law 42 = .ok (.getfield 198, 3) := by decide +kernel
theorem dX11_law_45 : decode cX11_law 45 = .ok (.invokevirtual 201, 3) := by decide +kernel
theorem dX11_law_48 : decode cX11_law 48 = .ok (.lreturn, 1) := by decide +kernel
theorem dX11_wind_0 : decode cX11_wind 0 = .ok (.aload_n 0, 1) := by decide +kernel
theorem dX11_wind_1 : decode cX11_wind 1 = .ok (.iload_n 1, 1) := by decide +kernel
theorem dX11_wind_2 : decode cX11_wind 2 = .ok (.invokevirtual 129, 3) := by decide +kernel
theorem dX11_wind_5 : decode cX11_wind 5 = .ok (.ifCond .eq 13, 3) := by decide +kernel
theorem dX11_wind_8 : decode cX11_wind 8 = .ok (.iload_n 2, 1) := by decide +kernel
theorem dX11_wind_9 : decode cX11_wind 9 = .ok (.iconst 1, 1) := by decide +kernel
theorem dX11_wind_10 : decode cX11_wind 10 = .ok (.bipush 99, 2) := by decide +kernel
theorem dX11_wind_12 : decode cX11_wind 12 = .ok (.invokestatic 170, 3) := by decide +kernel
theorem dX11_wind_15 : decode cX11_wind 15 = .ok (.ifCond .ne 5, 3) := by decide +kernel
theorem dX11_wind_18 : decode cX11_wind 18 = .ok (.iconst (-1), 1) := by decide +kernel
theorem dX11_wind_19 : decode cX11_wind 19 = .ok (.ireturn, 1) := by decide +kernel
theorem dX11_wind_20 : decode cX11_wind 20 = .ok (.aload_n 0, 1) := by decide +kernel
theorem dX11_wind_21 : decode cX11_wind 21 = .ok (.getfield 30, 3) := by decide +kernel
theorem dX11_wind_24 : decode cX11_wind 24 = .ok (.getfield 140, 3) := by decide +kernel
theorem dX11_wind_27 : decode cX11_wind 27 = .ok (.iload_n 1, 1) := by decide +kernel
theorem dX11_wind_28 : decode cX11_wind 28 = .ok (.aaload, 1) := by decide +kernel
theorem dX11_wind_29 : decode cX11_wind 29 = .ok (.astore_n 3, 1) := by decide +kernel
theorem dX11_wind_30 : decode cX11_wind 30 = .ok (.aload_n 3, 1) := by decide +kernel
theorem dX11_wind_31 : decode cX11_wind 31 = .ok (.getfield 159, 3) := by decide +kernel
theorem dX11_wind_34 : decode cX11_wind 34 = .ok (.ifCond .ne 12, 3) := by decide +kernel
theorem dX11_wind_37 : decode cX11_wind 37 = .ok (.aload_n 3, 1) := by decide +kernel
theorem dX11_wind_38 : decode cX11_wind 38 = .ok (.getfield 144, 3) := by decide +kernel
theorem dX11_wind_41 : decode cX11_wind 41 = .ok (.bipush 99, 2) := by decide +kernel
theorem dX11_wind_43 : decode cX11_wind 43 = .ok (.if_icmp .lt 6, 3) := by decide +kernel
theorem dX11_wind_46 : decode cX11_wind 46 = .ok (.bipush (-2), 2) := by decide +kernel
theorem dX11_wind_48 : decode cX11_wind 48 = .ok (.ireturn, 1) := by decide +kernel
theorem dX11_wind_49 : decode cX11_wind 49 = .ok (.aload_n 0, 1) := by decide +kernel
theorem dX11_wind_50 : decode cX11_wind 50 = .ok (.getfield 40, 3) := by decide +kernel
theorem dX11_wind_53 : decode cX11_wind 53 = .ok (.iload_n 1, 1) := by decide +kernel
theorem dX11_wind_54 : decode cX11_wind 54 = .ok (.aload_n 3, 1) := by decide +kernel
theorem dX11_wind_55 : decode cX11_wind 55 = .ok (.invokevirtual 207, 3) := by decide +kernel
theorem dX11_wind_58 : decode cX11_wind 58 = .ok (.aload_n 3, 1) := by decide +kernel
theorem dX11_wind_59 : decode cX11_wind 59 = .ok (.bipush 99, 2) := by decide +kernel
theorem dX11_wind_61 : decode cX11_wind 61 = .ok (.aload_n 3, 1) := by decide +kernel
theorem dX11_wind_62 : decode cX11_wind 62 = .ok (.getfield 144, 3) := by decide +kernel
theorem dX11_wind_65 : decode cX11_wind 65 = .ok (.iload_n 2, 1) := by decide +kernel
theorem dX11_wind_66 : decode cX11_wind 66 = .ok (.iadd, 1) := by decide +kernel
theorem dX11_wind_67 : decode cX11_wind 67 = .ok (.invokestatic 211, 3) := by decide +kernel
theorem dX11_wind_70 : decode cX11_wind 70 = .ok (.putfield 144, 3) := by decide +kernel
theorem dX11_wind_73 : decode cX11_wind 73 = .ok (.aload_n 3, 1) := by decide +kernel
theorem dX11_wind_74 : decode cX11_wind 74 = .ok (.getfield 144, 3) := by decide +kernel
theorem dX11_wind_77 : decode cX11_wind 77 = .ok (.ireturn, 1) := by decide +kernel
theorem dX11_steal_0 : decode cX11_steal 0 = .ok (.aload_n 0, 1) := by decide +kernel
theorem dX11_steal_1 : decode cX11_steal 1 = .ok (.iload_n 1, 1) := by decide +kernel
theorem dX11_steal_2 : decode cX11_steal 2 = .ok (.invokevirtual 129, 3) := by decide +kernel
theorem dX11_steal_5 : decode cX11_steal 5 = .ok (.ifCond .eq 19, 3) := by decide +kernel
theorem dX11_steal_8 : decode cX11_steal 8 = .ok (.aload_n 0, 1) := by decide +kernel
theorem dX11_steal_9 : decode cX11_steal 9 = .ok (.getfield 30, 3) := by decide +kernel
theorem dX11_steal_12 : decode cX11_steal 12 = .ok (.getfield 140, 3) := by decide +kernel
theorem dX11_steal_15 : decode cX11_steal 15 = .ok (.iload_n 1, 1) := by decide +kernel
theorem dX11_steal_16 : decode cX11_steal 16 = .ok (.aaload, 1) := by decide +kernel
theorem dX11_steal_17 : decode cX11_steal 17 = .ok (.getfield 159, 3) := by decide +kernel
theorem dX11_steal_20 : decode cX11_steal 20 = .ok (.iload_n 2, 1) := by decide +kernel
theorem dX11_steal_21 : decode cX11_steal 21 = .ok (.if_icmp .ne 5, 3) := by decide +kernel
theorem dX11_steal_24 : decode cX11_steal 24 = .ok (.iconst 0, 1) := by decide +kernel
theorem dX11_steal_25 : decode cX11_steal 25 = .ok (.ireturn, 1) := by decide +kernel
theorem dX11_steal_26 : decode cX11_steal 26 = .ok (.aload_n 0, 1) := by decide +kernel
theorem dX11_steal_27 : decode cX11_steal 27 = .ok (.getfield 40, 3) := by decide +kernel
theorem dX11_steal_30 : decode cX11_steal 30 = .ok (.iload_n 1, 1) := by decide +kernel
theorem dX11_steal_31 : decode cX11_steal 31 = .ok (.aload_n 0, 1) := by decide +kernel
theorem dX11_steal_32 : decode cX11_steal 32 = .ok (.getfield 30, 3) := by decide +kernel
theorem dX11_steal_35 : decode cX11_steal 35 = .ok (.getfield 140, 3) := by decide +kernel
theorem dX11_steal_38 : decode cX11_steal 38 = .ok (.iload_n 1, 1) := by decide +kernel
theorem dX11_steal_39 : decode cX11_steal 39 = .ok (.aaload, 1) := by decide +kernel
theorem dX11_steal_40 : decode cX11_steal 40 = .ok (.invokevirtual 207, 3) := by decide +kernel
theorem dX11_steal_43 : decode cX11_steal 43 = .ok (.aload_n 0, 1) := by decide +kernel
theorem dX11_steal_44 : decode cX11_steal 44 = .ok (.getfield 30, 3) := by decide +kernel
theorem dX11_steal_47 : decode cX11_steal 47 = .ok (.getfield 140, 3) := by decide +kernel
theorem dX11_steal_50 : decode cX11_steal 50 = .ok (.iload_n 1, 1) := by decide +kernel
theorem dX11_steal_51 : decode cX11_steal 51 = .ok (.aaload, 1) := by decide +kernel
theorem dX11_steal_52 : decode cX11_steal 52 = .ok (.iload_n 2, 1) := by decide +kernel
theorem dX11_steal_53 : decode cX11_steal 53 = .ok (.putfield 159, 3) := by decide +kernel
theorem dX11_steal_56 : decode cX11_steal 56 = .ok (.iconst 1, 1) := by decide +kernel
theorem dX11_steal_57 : decode cX11_steal 57 = .ok (.ireturn, 1) := by decide +kernel
theorem dX11_tooth_0 : decode cX11_tooth 0 = .ok (.aload_n 0, 1) := by decide +kernel
theorem dX11_tooth_1 : decode cX11_tooth 1 = .ok (.iload_n 1, 1) := by decide +kernel
theorem dX11_tooth_2 : decode cX11_tooth 2 = .ok (.invokevirtual 129, 3) := by decide +kernel
theorem dX11_tooth_5 : decode cX11_tooth 5 = .ok (.ifCond .eq 13, 3) := by decide +kernel
theorem dX11_tooth_8 : decode cX11_tooth 8 = .ok (.iload_n 2, 1) := by decide +kernel
theorem dX11_tooth_9 : decode cX11_tooth 9 = .ok (.iconst 1, 1) := by decide +kernel
theorem dX11_tooth_10 : decode cX11_tooth 10 = .ok (.bipush 9, 2) := by decide +kernel
theorem dX11_tooth_12 : decode cX11_tooth 12 = .ok (.invokestatic 170, 3) := by decide +kernel
theorem dX11_tooth_15 : decode cX11_tooth 15 = .ok (.ifCond .ne 5, 3) := by decide +kernel
theorem dX11_tooth_18 : decode cX11_tooth 18 = .ok (.iconst 0, 1) := by decide +kernel
theorem dX11_tooth_19 : decode cX11_tooth 19 = .ok (.ireturn, 1) := by decide +kernel
theorem dX11_tooth_20 : decode cX11_tooth 20 = .ok (.aload_n 0, 1) := by decide +kernel
theorem dX11_tooth_21 : decode cX11_tooth 21 = .ok (.getfield 30, 3) := by decide +kernel
theorem dX11_tooth_24 : decode cX11_tooth 24 = .ok (.getfield 140, 3) := by decide +kernel
theorem dX11_tooth_27 : decode cX11_tooth 27 = .ok (.iload_n 1, 1) := by decide +kernel
theorem dX11_tooth_28 : decode cX11_tooth 28 = .ok (.aaload, 1) := by decide +kernel
theorem dX11_tooth_29 : decode cX11_tooth 29 = .ok (.astore 4, 2) := by decide +kernel
theorem dX11_tooth_31 : decode cX11_tooth 31 = .ok (.aload 4, 2) := by decide +kernel
theorem dX11_tooth_33 : decode cX11_tooth 33 = .ok (.iload_n 2, 1) := by decide +kernel
theorem dX11_tooth_34 : decode cX11_tooth 34 = .ok (.invokevirtual 217, 3) := by decide +kernel
theorem dX11_tooth_37 : decode cX11_tooth 37 = .ok (.iload_n 3, 1) := by decide +kernel
theorem dX11_tooth_38 : decode cX11_tooth 38 = .ok (.if_icmp .ne 5, 3) := by decide +kernel
theorem dX11_tooth_41 : decode cX11_tooth 41 = .ok (.iconst 0, 1) := by decide +kernel
theorem dX11_tooth_42 : decode cX11_tooth 42 = .ok (.ireturn, 1) := by decide +kernel
theorem dX11_tooth_43 : decode cX11_tooth 43 = .ok (.aload_n 0, 1) := by decide +kernel
theorem dX11_tooth_44 : decode cX11_tooth 44 = .ok (.getfield 40, 3) := by decide +kernel
theorem dX11_tooth_47 : decode cX11_tooth 47 = .ok (.iload_n 1, 1) := by decide +kernel
theorem dX11_tooth_48 : decode cX11_tooth 48 = .ok (.aload 4, 2) := by decide +kernel
theorem dX11_tooth_50 : decode cX11_tooth 50 = .ok (.invokevirtual 207, 3) := by decide +kernel
theorem dX11_tooth_53 : decode cX11_tooth 53 = .ok (.aload 4, 2) := by decide +kernel
theorem dX11_tooth_55 : decode cX11_tooth 55 = .ok (.dup, 1) := by decide +kernel
theorem dX11_tooth_56 : decode cX11_tooth 56 = .ok (.getfield 162, 3) := by decide +kernel
theorem dX11_tooth_59 : decode cX11_tooth 59 = .ok (.iconst 1, 1) := by decide +kernel
theorem dX11_tooth_60 : decode cX11_tooth 60 = .ok (.iload_n 2, 1) := by decide +kernel
theorem dX11_tooth_61 : decode cX11_tooth 61 = .ok (.ishl, 1) := by decide +kernel
theorem dX11_tooth_62 : decode cX11_tooth 62 = .ok (.ixor, 1) := by decide +kernel
theorem dX11_tooth_63 : decode cX11_tooth 63 = .ok (.putfield 162, 3) := by decide +kernel
theorem dX11_tooth_66 : decode cX11_tooth 66 = .ok (.iconst 1, 1) := by decide +kernel
theorem dX11_tooth_67 : decode cX11_tooth 67 = .ok (.ireturn, 1) := by decide +kernel
theorem dX11_years_0 : decode cX11_years 0 = .ok (.iload_n 1, 1) := by decide +kernel
theorem dX11_years_1 : decode cX11_years 1 = .ok (.iconst 0, 1) := by decide +kernel
theorem dX11_years_2 : decode cX11_years 2 = .ok (.bipush 99, 2) := by decide +kernel
theorem dX11_years_4 : decode cX11_years 4 = .ok (.invokestatic 170, 3) := by decide +kernel
theorem dX11_years_7 : decode cX11_years 7 = .ok (.ifCond .eq 18, 3) := by decide +kernel
theorem dX11_years_10 : decode cX11_years 10 = .ok (.aload_n 0, 1) := by decide +kernel
theorem dX11_years_11 : decode cX11_years 11 = .ok (.getfield 30, 3) := by decide +kernel
theorem dX11_years_14 : decode cX11_years 14 = .ok (.getfield 198, 3) := by decide +kernel
theorem dX11_years_17 : decode cX11_years 17 = .ok (.iload_n 1, 1) := by decide +kernel
theorem dX11_years_18 : decode cX11_years 18 = .ok (.iadd, 1) := by decide +kernel
theorem dX11_years_19 : decode cX11_years 19 = .ok (.sipush 9900, 3) := by decide +kernel
theorem dX11_years_22 : decode cX11_years 22 = .ok (.if_icmp .le 5, 3) := by decide +kernel
theorem dX11_years_25 : decode cX11_years 25 = .ok (.iconst (-1), 1) := by decide +kernel
theorem dX11_years_26 : decode cX11_years 26 = .ok (.ireturn, 1) := by decide +kernel
theorem dX11_years_27 : decode cX11_years 27 = .ok (.iconst 0, 1) := by decide +kernel
theorem dX11_years_28 : decode cX11_years 28 = .ok (.istore_n 2, 1) := by decide +kernel
theorem dX11_years_29 : decode cX11_years 29 = .ok (.iload_n 2, 1) := by decide +kernel
theorem dX11_years_30 : decode cX11_years 30 = .ok (.iload_n 1, 1) := by decide +kernel
theorem dX11_years_31 : decode cX11_years 31 = .ok (.if_icmp .ge 20, 3) := by decide +kernel
theorem dX11_years_34 : decode cX11_years 34 = .ok (.aload_n 0, 1) := by decide +kernel
theorem dX11_years_35 : decode cX11_years 35 = .ok (.getfield 30, 3) := by decide +kernel
theorem dX11_years_38 : decode cX11_years 38 = .ok (.aload_n 0, 1) := by decide +kernel
theorem dX11_years_39 : decode cX11_years 39 = .ok (.getfield 82, 3) := by decide +kernel
theorem dX11_years_42 : decode cX11_years 42 = .ok (.invokevirtual 220, 3) := by decide +kernel
theorem dX11_years_45 : decode cX11_years 45 = .ok (.iinc 2 1, 3) := by decide +kernel
theorem dX11_years_48 : decode cX11_years 48 = .ok (.goto (-19), 3) := by decide +kernel
theorem dX11_years_51 : decode cX11_years 51 = .ok (.iload_n 1, 1) := by decide +kernel
theorem dX11_years_52 : decode cX11_years 52 = .ok (.ifCond .le 10, 3) := by decide +kernel
theorem dX11_years_55 : decode cX11_years 55 = .ok (.aload_n 0, 1) := by decide +kernel
theorem dX11_years_56 : decode cX11_years 56 = .ok (.getfield 40, 3) := by decide +kernel
theorem dX11_years_59 : decode cX11_years 59 = .ok (.invokevirtual 115, 3) := by decide +kernel
theorem dX11_years_62 : decode cX11_years 62 = .ok (.aload_n 0, 1) := by decide +kernel
theorem dX11_years_63 : decode cX11_years 63 = .ok (.getfield 30, 3) := by decide +kernel
theorem dX11_years_66 : decode cX11_years 66 = .ok (.getfield 198, 3) := by decide +kernel
theorem dX11_years_69 : decode cX11_years 69 = .ok (.ireturn, 1) := by decide +kernel
theorem dX11_ahead_0 : decode cX11_ahead 0 = .ok (.aload_n 0, 1) := by decide +kernel
theorem dX11_ahead_1 : decode cX11_ahead 1 = .ok (.iload_n 1, 1) := by decide +kernel
theorem dX11_ahead_2 : decode cX11_ahead 2 = .ok (.invokevirtual 129, 3) := by decide +kernel
theorem dX11_ahead_5 : decode cX11_ahead 5 = .ok (.ifCond .eq 22, 3) := by decide +kernel
theorem dX11_ahead_8 : decode cX11_ahead 8 = .ok (.iload_n 2, 1) := by decide +kernel
theorem dX11_ahead_9 : decode cX11_ahead 9 = .ok (.iconst 0, 1) := by decide +kernel
theorem dX11_ahead_10 : decode cX11_ahead 10 = .ok (.bipush 99, 2) := by decide +kernel
theorem dX11_ahead_12 : decode cX11_ahead 12 = .ok (.invokestatic 170, 3) := by decide +kernel
theorem dX11_ahead_15 : decode cX11_ahead 15 = .ok (.ifCond .eq 12, 3) := by decide +kernel
theorem dX11_ahead_18 : decode cX11_ahead 18 = .ok (.iload_n 3, 1) := by decide +kernel
theorem dX11_ahead_19 : decode cX11_ahead 19 = .ok (.iconst 0, 1) := by decide +kernel
theorem dX11_ahead_20 : decode cX11_ahead 20 = .ok (.iconst 3, 1) := by decide +kernel
theorem dX11_ahead_21 : decode cX11_ahead 21 = .ok (.invokestatic 170, 3) := by decide +kernel
theorem dX11_ahead_24 : decode cX11_ahead 24 = .ok (.ifCond .ne 5, 3) := by decide +kernel
theorem dX11_ahead_27 : decode cX11_ahead 27 = .ok (.iconst (-1), 1) := by decide +kernel
theorem dX11_ahead_28 : decode cX11_ahead 28 = .ok (.ireturn, 1) := by decide +kernel
theorem dX11_ahead_29 : decode cX11_ahead 29 = .ok (.aload_n 0, 1) := by decide +kernel
theorem dX11_ahead_30 : decode cX11_ahead 30 = .ok (.getfield 30, 3) := by decide +kernel
theorem dX11_ahead_33 : decode cX11_ahead 33 = .ok (.getfield 140, 3) := by decide +kernel
theorem dX11_ahead_36 : decode cX11_ahead 36 = .ok (.iload_n 1, 1) := by decide +kernel
theorem dX11_ahead_37 : decode cX11_ahead 37 = .ok (.aaload, 1) := by decide +kernel
theorem dX11_ahead_38 : decode cX11_ahead 38 = .ok (.astore 4, 2) := by decide +kernel
theorem dX11_ahead_40 : decode cX11_ahead 40 = .ok (.aload_n 0, 1) := by decide +kernel
theorem dX11_ahead_41 : decode cX11_ahead 41 = .ok (.getfield 68, 3) := by decide +kernel
theorem dX11_ahead_44 : decode cX11_ahead 44 = .ok (.aload 4, 2) := by decide +kernel
theorem dX11_ahead_46 : decode cX11_ahead 46 = .ok (.invokevirtual 223, 3) := by decide +kernel
theorem dX11_ahead_49 : decode cX11_ahead 49 = .ok (.aload_n 0, 1) := by decide +kernel
theorem dX11_ahead_50 : decode cX11_ahead 50 = .ok (.iload_n 2, 1) := by decide +kernel
theorem dX11_ahead_51 : decode cX11_ahead 51 = .ok (.iload_n 3, 1) := by decide +kernel
theorem dX11_ahead_52 : decode cX11_ahead 52 = .ok (.iconst 2, 1) := by decide +kernel
theorem dX11_ahead_53 : decode cX11_ahead 53 = .ok (.if_icmp .ne 7, 3) := by decide +kernel
theorem dX11_ahead_56 : decode cX11_ahead 56 = .ok (.iconst 1, 1) := by decide +kernel
theorem dX11_ahead_57 : decode cX11_ahead 57 = .ok (.goto 4, 3) := by decide +kernel
theorem dX11_ahead_60 : decode cX11_ahead 60 = .ok (.iconst 0, 1) := by decide +kernel
theorem dX11_ahead_61 : decode cX11_ahead 61 = .ok (.invokevirtual 227, 3) := by decide +kernel
theorem dX11_ahead_64 : decode cX11_ahead 64 = .ok (.iload_n 3, 1) := by decide +kernel
theorem dX11_ahead_65 : decode cX11_ahead 65 = .ok (.tableswitch 57 0 2 #[27, 35, 43], 27) := by decide +kernel
theorem dX11_ahead_92 : decode cX11_ahead 92 = .ok (.aload_n 0, 1) := by decide +kernel
theorem dX11_ahead_93 : decode cX11_ahead 93 = .ok (.getfield 68, 3) := by decide +kernel
theorem dX11_ahead_96 : decode cX11_ahead 96 = .ok (.getfield 144, 3) := by decide +kernel
theorem dX11_ahead_99 : decode cX11_ahead 99 = .ok (.ireturn, 1) := by decide +kernel
theorem dX11_ahead_100 : decode cX11_ahead 100 = .ok (.aload_n 0, 1) := by decide +kernel
theorem dX11_ahead_101 : decode cX11_ahead 101 = .ok (.getfield 68, 3) := by decide +kernel
theorem dX11_ahead_104 : decode cX11_ahead 104 = .ok (.getfield 150, 3) := by decide +kernel
theorem dX11_ahead_107 : decode cX11_ahead 107 = .ok (.ireturn, 1) := by decide +kernel
theorem dX11_ahead_108 : decode cX11_ahead 108 = .ok (.aload_n 0, 1) := by decide +kernel
theorem dX11_ahead_109 : decode cX11_ahead 109 = .ok (.getfield 68, 3) := by decide +kernel
theorem dX11_ahead_112 : decode cX11_ahead 112 = .ok (.getfield 156, 3) := by decide +kernel
theorem dX11_ahead_115 : decode cX11_ahead 115 = .ok (.aload 4, 2) := by decide +kernel
theorem dX11_ahead_117 : decode cX11_ahead 117 = .ok (.getfield 156, 3) := by decide +kernel
theorem dX11_ahead_120 : decode cX11_ahead 120 = .ok (.isub, 1) := by decide +kernel
theorem dX11_ahead_121 : decode cX11_ahead 121 = .ok (.ireturn, 1) := by decide +kernel
theorem dX11_ahead_122 : decode cX11_ahead 122 = .ok (.aload_n 0, 1) := by decide +kernel
theorem dX11_ahead_123 : decode cX11_ahead 123 = .ok (.getfield 68, 3) := by decide +kernel
theorem dX11_ahead_126 : decode cX11_ahead 126 = .ok (.getfield 153, 3) := by decide +kernel
theorem dX11_ahead_129 : decode cX11_ahead 129 = .ok (.aload 4, 2) := by decide +kernel
theorem dX11_ahead_131 : decode cX11_ahead 131 = .ok (.getfield 153, 3) := by decide +kernel
theorem dX11_ahead_134 : decode cX11_ahead 134 = .ok (.isub, 1) := by decide +kernel
theorem dX11_ahead_135 : decode cX11_ahead 135 = .ok (.ireturn, 1) := by decide +kernel
theorem dX11_alike_0 : decode cX11_alike 0 = .ok (.aload_n 0, 1) := by decide +kernel
theorem dX11_alike_1 : decode cX11_alike 1 = .ok (.iload_n 1, 1) := by decide +kernel
theorem dX11_alike_2 : decode cX11_alike 2 = .ok (.invokevirtual 129, 3) := by decide +kernel
theorem dX11_alike_5 : decode cX11_alike 5 = .ok (.ifCond .eq 21, 3) := by decide +kernel
theorem dX11_alike_8 : decode cX11_alike 8 = .ok (.aload_n 0, 1) := by decide +kernel
theorem dX11_alike_9 : decode cX11_alike 9 = .ok (.iload_n 2, 1) := by decide +kernel
theorem dX11_alike_10 : decode cX11_alike 10 = .ok (.invokevirtual 129, 3) := by decide +kernel
theorem dX11_alike_13 : decode cX11_alike 13 = .ok (.ifCond .eq 13, 3) := by decide +kernel
theorem dX11_alike_16 : decode cX11_alike 16 = .ok (.iload_n 3, 1) := by decide +kernel
theorem dX11_alike_17 : decode cX11_alike 17 = .ok (.iconst 0, 1) := by decide +kernel
theorem dX11_alike_18 : decode cX11_alike 18 = .ok (.bipush 7, 2) := by decide +kernel
theorem dX11_alike_20 : decode cX11_alike 20 = .ok (.invokestatic 170, 3) := by decide +kernel
theorem dX11_alike_23 : decode cX11_alike 23 = .ok (.ifCond .ne 5, 3) := by decide +kernel
theorem dX11_alike_26 : decode cX11_alike 26 = .ok (.iconst (-1), 1) := by decide +kernel
theorem dX11_alike_27 : decode cX11_alike 27 = .ok (.ireturn, 1) := by decide +kernel
theorem dX11_alike_28 : decode cX11_alike 28 = .ok (.aload_n 0, 1) := by decide +kernel
theorem dX11_alike_29 : decode cX11_alike 29 = .ok (.getfield 54, 3) := by decide +kernel
theorem dX11_alike_32 : decode cX11_alike 32 = .ok (.aload_n 0, 1) := by decide +kernel
theorem dX11_alike_33 : decode cX11_alike 33 = .ok (.getfield 30, 3) := by decide +kernel
theorem dX11_alike_36 : decode cX11_alike 36 = .ok (.invokevirtual 231, 3) := by decide +kernel
theorem dX11_alike_39 : decode cX11_alike 39 = .ok (.aload_n 0, 1) := by decide +kernel
theorem dX11_alike_40 : decode cX11_alike 40 = .ok (.getfield 54, 3) := by decide +kernel
theorem dX11_alike_43 : decode cX11_alike 43 = .ok (.iload_n 1, 1) := by decide +kernel
theorem dX11_alike_44 : decode cX11_alike 44 = .ok (.iload_n 2, 1) := by decide +kernel
theorem dX11_alike_45 : decode cX11_alike 45 = .ok (.iload_n 3, 1) := by decide +kernel
theorem dX11_alike_46 : decode cX11_alike 46 = .ok (.invokevirtual 235, 3) := by decide +kernel
theorem dX11_alike_49 : decode cX11_alike 49 = .ok (.ireturn, 1) := by decide +kernel
theorem dX11_like_0 : decode cX11_like 0 = .ok (.aload_n 0, 1) := by decide +kernel
theorem dX11_like_1 : decode cX11_like 1 = .ok (.iload_n 1, 1) := by decide +kernel
theorem dX11_like_2 : decode cX11_like 2 = .ok (.invokevirtual 129, 3) := by decide +kernel
theorem dX11_like_5 : decode cX11_like 5 = .ok (.ifCond .eq 20, 3) := by decide +kernel
theorem dX11_like_8 : decode cX11_like 8 = .ok (.aload_n 0, 1) := by decide +kernel
theorem dX11_like_9 : decode cX11_like 9 = .ok (.iload_n 2, 1) := by decide +kernel
theorem dX11_like_10 : decode cX11_like 10 = .ok (.invokevirtual 129, 3) := by decide +kernel
theorem dX11_like_13 : decode cX11_like 13 = .ok (.ifCond .eq 12, 3) := by decide +kernel
theorem dX11_like_16 : decode cX11_like 16 = .ok (.iload_n 3, 1) := by decide +kernel
theorem dX11_like_17 : decode cX11_like 17 = .ok (.iconst 0, 1) := by decide +kernel
theorem dX11_like_18 : decode cX11_like 18 = .ok (.iconst 1, 1) := by decide +kernel
theorem dX11_like_19 : decode cX11_like 19 = .ok (.invokestatic 170, 3) := by decide +kernel
theorem dX11_like_22 : decode cX11_like 22 = .ok (.ifCond .ne 5, 3) := by decide +kernel
theorem dX11_like_25 : decode cX11_like 25 = .ok (.iconst (-1), 1) := by decide +kernel
theorem dX11_like_26 : decode cX11_like 26 = .ok (.ireturn, 1) := by decide +kernel
theorem dX11_like_27 : decode cX11_like 27 = .ok (.aload_n 0, 1) := by decide +kernel
theorem dX11_like_28 : decode cX11_like 28 = .ok (.getfield 54, 3) := by decide +kernel
theorem dX11_like_31 : decode cX11_like 31 = .ok (.aload_n 0, 1) := by decide +kernel
theorem dX11_like_32 : decode cX11_like 32 = .ok (.getfield 30, 3) := by decide +kernel
theorem dX11_like_35 : decode cX11_like 35 = .ok (.invokevirtual 231, 3) := by decide +kernel
theorem dX11_like_38 : decode cX11_like 38 = .ok (.iconst 0, 1) := by decide +kernel
theorem dX11_like_39 : decode cX11_like 39 = .ok (.istore 4, 2) := by decide +kernel
theorem dX11_like_41 : decode cX11_like 41 = .ok (.iconst 1, 1) := by decide +kernel
theorem dX11_like_42 : decode cX11_like 42 = .ok (.istore 5, 2) := by decide +kernel
theorem dX11_like_44 : decode cX11_like 44 = .ok (.iload 5, 2) := by decide +kernel
theorem dX11_like_46 : decode cX11_like 46 = .ok (.bipush 8, 2) := by decide +kernel
theorem dX11_like_48 : decode cX11_like 48 = .ok (.if_icmp .ge 38, 3) := by decide +kernel
theorem dX11_like_51 : decode cX11_like 51 = .ok (.aload_n 0, 1) := by decide +kernel
theorem dX11_like_52 : decode cX11_like 52 = .ok (.getfield 54, 3) := by decide +kernel
theorem dX11_like_55 : decode cX11_like 55 = .ok (.iload_n 1, 1) := by decide +kernel
theorem dX11_like_56 : decode cX11_like 56 = .ok (.iload_n 2, 1) := by decide +kernel
theorem dX11_like_57 : decode cX11_like 57 = .ok (.iload 5, 2) := by decide +kernel
theorem dX11_like_59 : decode cX11_like 59 = .ok (.invokevirtual 235, 3) := by decide +kernel
theorem dX11_like_62 : decode cX11_like 62 = .ok (.aload_n 0, 1) := by decide +kernel
theorem dX11_like_63 : decode cX11_like 63 = .ok (.getfield 54, 3) := by decide +kernel
theorem dX11_like_66 : decode cX11_like 66 = .ok (.iload_n 1, 1) := by decide +kernel
theorem dX11_like_67 : decode cX11_like 67 = .ok (.iload_n 2, 1) := by decide +kernel
theorem dX11_like_68 : decode cX11_like 68 = .ok (.iload 4, 2) := by decide +kernel
theorem dX11_like_70 : decode cX11_like 70 = .ok (.invokevirtual 235, 3) := by decide +kernel
theorem dX11_like_73 : decode cX11_like 73 = .ok (.if_icmp .le 7, 3) := by decide +kernel
theorem dX11_like_76 : decode cX11_like 76 = .ok (.iload 5, 2) := by decide +kernel
theorem dX11_like_78 : decode cX11_like 78 = .ok (.istore 4, 2) := by decide +kernel
theorem dX11_like_80 : decode cX11_like 80 = .ok (.iinc 5 1, 3) := by decide +kernel
theorem dX11_like_83 : decode cX11_like 83 = .ok (.goto (-39), 3) := by decide +kernel
theorem dX11_like_86 : decode cX11_like 86 = .ok (.iload_n 3, 1) := by decide +kernel
theorem dX11_like_87 : decode cX11_like 87 = .ok (.ifCond .ne 8, 3) := by decide +kernel
theorem dX11_like_90 : decode cX11_like 90 = .ok (.iload 4, 2) := by decide +kernel
theorem dX11_like_92 : decode cX11_like 92 = .ok (.goto 14, 3) := by decide +kernel
theorem dX11_like_95 : decode cX11_like 95 = .ok (.aload_n 0, 1) := by decide +kernel
theorem dX11_like_96 : decode cX11_like 96 = .ok (.getfield 54, 3) := by decide +kernel
theorem dX11_like_99 : decode cX11_like 99 = .ok (.iload_n 1, 1) := by decide +kernel
theorem dX11_like_100 : decode cX11_like 100 = .ok (.iload_n 2, 1) := by decide +kernel
theorem dX11_like_101 : decode cX11_like 101 = .ok (.iload 4, 2) := by decide +kernel
theorem dX11_like_103 : decode cX11_like 103 = .ok (.invokevirtual 235, 3) := by decide +kernel
theorem dX11_like_106 : decode cX11_like 106 = .ok (.ireturn, 1) := by decide +kernel
theorem dX11_whose_0 : decode cX11_whose 0 = .ok (.aload_n 0, 1) := by decide +kernel
theorem dX11_whose_1 : decode cX11_whose 1 = .ok (.invokevirtual 239, 3) := by decide +kernel
theorem dX11_whose_4 : decode cX11_whose 4 = .ok (.ireturn, 1) := by decide +kernel
theorem dX11_fill_0 : decode cX11_fill 0 = .ok (.aload_n 0, 1) := by decide +kernel
theorem dX11_fill_1 : decode cX11_fill 1 = .ok (.iload_n 1, 1) := by decide +kernel
theorem dX11_fill_2 : decode cX11_fill 2 = .ok (.invokevirtual 129, 3) := by decide +kernel
theorem dX11_fill_5 : decode cX11_fill 5 = .ok (.ifCond .eq 13, 3) := by decide +kernel
theorem dX11_fill_8 : decode cX11_fill 8 = .ok (.iload_n 2, 1) := by decide +kernel
theorem dX11_fill_9 : decode cX11_fill 9 = .ok (.iconst 1, 1) := by decide +kernel
theorem dX11_fill_10 : decode cX11_fill 10 = .ok (.bipush 9, 2) := by decide +kernel
theorem dX11_fill_12 : decode cX11_fill 12 = .ok (.invokestatic 170, 3) := by decide +kernel
theorem dX11_fill_15 : decode cX11_fill 15 = .ok (.ifCond .ne 5, 3) := by decide +kernel
theorem dX11_fill_18 : decode cX11_fill 18 = .ok (.iconst (-1), 1) := by decide +kernel
theorem dX11_fill_19 : decode cX11_fill 19 = .ok (.ireturn, 1) := by decide +kernel
theorem dX11_fill_20 : decode cX11_fill 20 = .ok (.aload_n 0, 1) := by decide +kernel
theorem dX11_fill_21 : decode cX11_fill 21 = .ok (.getfield 30, 3) := by decide +kernel
theorem dX11_fill_24 : decode cX11_fill 24 = .ok (.getfield 140, 3) := by decide +kernel
theorem dX11_fill_27 : decode cX11_fill 27 = .ok (.iload_n 1, 1) := by decide +kernel
theorem dX11_fill_28 : decode cX11_fill 28 = .ok (.aaload, 1) := by decide +kernel
theorem dX11_fill_29 : decode cX11_fill 29 = .ok (.iload_n 2, 1) := by decide +kernel
theorem dX11_fill_30 : decode cX11_fill 30 = .ok (.invokevirtual 217, 3) := by decide +kernel
theorem dX11_fill_33 : decode cX11_fill 33 = .ok (.ifCond .ne 6, 3) := by decide +kernel
theorem dX11_fill_36 : decode cX11_fill 36 = .ok (.bipush (-2), 2) := by decide +kernel
theorem dX11_fill_38 : decode cX11_fill 38 = .ok (.ireturn, 1) := by decide +kernel
theorem dX11_fill_39 : decode cX11_fill 39 = .ok (.aload_n 0, 1) := by decide +kernel
theorem dX11_fill_40 : decode cX11_fill 40 = .ok (.getfield 54, 3) := by decide +kernel
theorem dX11_fill_43 : decode cX11_fill 43 = .ok (.aload_n 0, 1) := by decide +kernel
theorem dX11_fill_44 : decode cX11_fill 44 = .ok (.getfield 30, 3) := by decide +kernel
theorem dX11_fill_47 : decode cX11_fill 47 = .ok (.invokevirtual 231, 3) := by decide +kernel
theorem dX11_fill_50 : decode cX11_fill 50 = .ok (.iconst 0, 1) := by decide +kernel
theorem dX11_fill_51 : decode cX11_fill 51 = .ok (.istore_n 3, 1) := by decide +kernel
theorem dX11_fill_52 : decode cX11_fill 52 = .ok (.iconst (-1), 1) := by decide +kernel
theorem dX11_fill_53 : decode cX11_fill 53 = .ok (.istore 4, 2) := by decide +kernel
theorem dX11_fill_55 : decode cX11_fill 55 = .ok (.iconst 1, 1) := by decide +kernel
theorem dX11_fill_56 : decode cX11_fill 56 = .ok (.istore 5, 2) := by decide +kernel
theorem dX11_fill_58 : decode cX11_fill 58 = .ok (.iload 5, 2) := by decide +kernel
theorem dX11_fill_60 : decode cX11_fill 60 = .ok (.bipush 9, 2) := by decide +kernel
theorem dX11_fill_62 : decode cX11_fill 62 = .ok (.if_icmp .gt 33, 3) := by decide +kernel
theorem dX11_fill_65 : decode cX11_fill 65 = .ok (.aload_n 0, 1) := by decide +kernel
theorem dX11_fill_66 : decode cX11_fill 66 = .ok (.iload_n 1, 1) := by decide +kernel
theorem dX11_fill_67 : decode cX11_fill 67 = .ok (.iload_n 2, 1) := by decide +kernel
theorem dX11_fill_68 : decode cX11_fill 68 = .ok (.iload 5, 2) := by decide +kernel
theorem dX11_fill_70 : decode cX11_fill 70 = .ok (.invokevirtual 243, 3) := by decide +kernel
theorem dX11_fill_73 : decode cX11_fill 73 = .ok (.istore 6, 2) := by decide +kernel
theorem dX11_fill_75 : decode cX11_fill 75 = .ok (.iload 6, 2) := by decide +kernel
theorem dX11_fill_77 : decode cX11_fill 77 = .ok (.iload 4, 2) := by decide +kernel
theorem dX11_fill_79 : decode cX11_fill 79 = .ok (.if_icmp .le 10, 3) := by decide +kernel
theorem dX11_fill_82 : decode cX11_fill 82 = .ok (.iload 6, 2) := by decide +kernel
theorem dX11_fill_84 : decode cX11_fill 84 = .ok (.istore 4, 2) := by decide +kernel
theorem dX11_fill_86 : decode cX11_fill 86 = .ok (.iload 5, 2) := by decide +kernel
theorem dX11_fill_88 : decode cX11_fill 88 = .ok (.istore_n 3, 1) := by decide +kernel
theorem dX11_fill_89 : decode cX11_fill 89 = .ok (.iinc 5 1, 3) := by decide +kernel
theorem dX11_fill_92 : decode cX11_fill 92 = .ok (.goto (-34), 3) := by decide +kernel
theorem dX11_fill_95 : decode cX11_fill 95 = .ok (.iload_n 3, 1) := by decide +kernel
theorem dX11_fill_96 : decode cX11_fill 96 = .ok (.ireturn, 1) := by decide +kernel
theorem dX11_join_0 : decode cX11_join 0 = .ok (.aload_n 0, 1) := by decide +kernel
theorem dX11_join_1 : decode cX11_join 1 = .ok (.iload_n 1, 1) := by decide +kernel
theorem dX11_join_2 : decode cX11_join 2 = .ok (.invokevirtual 246, 3) := by decide +kernel
theorem dX11_join_5 : decode cX11_join 5 = .ok (.ifCond .eq 13, 3) := by decide +kernel
theorem dX11_join_8 : decode cX11_join 8 = .ok (.iload_n 2, 1) := by decide +kernel
theorem dX11_join_9 : decode cX11_join 9 = .ok (.iconst 0, 1) := by decide +kernel
theorem dX11_join_10 : decode cX11_join 10 = .ok (.bipush 6, 2) := by decide +kernel
theorem dX11_join_12 : decode cX11_join 12 = .ok (.invokestatic 170, 3) := by decide +kernel
theorem dX11_join_15 : decode cX11_join 15 = .ok (.ifCond .ne 5, 3) := by decide +kernel
theorem dX11_join_18 : decode cX11_join 18 = .ok (.iconst (-1), 1) := by decide +kernel
theorem dX11_join_19 : decode cX11_join 19 = .ok (.ireturn, 1) := by decide +kernel
theorem dX11_join_20 : decode cX11_join 20 = .ok (.aload_n 0, 1) := by decide +kernel
theorem dX11_join_21 : decode cX11_join 21 = .ok (.getfield 54, 3) := by decide +kernel
theorem dX11_join_24 : decode cX11_join 24 = .ok (.aload_n 0, 1) := by decide +kernel
theorem dX11_join_25 : decode cX11_join 25 = .ok (.getfield 30, 3) := by decide +kernel
theorem dX11_join_28 : decode cX11_join 28 = .ok (.invokevirtual 231, 3) := by decide +kernel
theorem dX11_join_31 : decode cX11_join 31 = .ok (.aload_n 0, 1) := by decide +kernel
theorem dX11_join_32 : decode cX11_join 32 = .ok (.getfield 61, 3) := by decide +kernel
theorem dX11_join_35 : decode cX11_join 35 = .ok (.aload_n 0, 1) := by decide +kernel
theorem dX11_join_36 : decode cX11_join 36 = .ok (.getfield 54, 3) := by decide +kernel
theorem dX11_join_39 : decode cX11_join 39 = .ok (.iload_n 1, 1) := by decide +kernel
theorem dX11_join_40 : decode cX11_join 40 = .ok (.invokevirtual 249, 3) := by decide +kernel
theorem dX11_join_43 : decode cX11_join 43 = .ok (.istore_n 3, 1) := by decide +kernel
theorem dX11_join_44 : decode cX11_join 44 = .ok (.iload_n 2, 1) := by decide +kernel
theorem dX11_join_45 : decode cX11_join 45 = .ok (.bipush 6, 2) := by decide +kernel
theorem dX11_join_47 : decode cX11_join 47 = .ok (.if_icmp .ne 5, 3) := by decide +kernel
theorem dX11_join_50 : decode cX11_join 50 = .ok (.iload_n 3, 1) := by decide +kernel
theorem dX11_join_51 : decode cX11_join 51 = .ok (.ireturn, 1) := by decide +kernel
theorem dX11_join_52 : decode cX11_join 52 = .ok (.iload_n 2, 1) := by decide +kernel
theorem dX11_join_53 : decode cX11_join 53 = .ok (.aload_n 0, 1) := by decide +kernel
theorem dX11_join_54 : decode cX11_join 54 = .ok (.getfield 61, 3) := by decide +kernel
theorem dX11_join_57 : decode cX11_join 57 = .ok (.getfield 253, 3) := by decide +kernel
theorem dX11_join_60 : decode cX11_join 60 = .ok (.if_icmp .ge 15, 3) := by decide +kernel
theorem dX11_join_63 : decode cX11_join 63 = .ok (.aload_n 0, 1) := by decide +kernel
theorem dX11_join_64 : decode cX11_join 64 = .ok (.getfield 61, 3) := by decide +kernel
theorem dX11_join_67 : decode cX11_join 67 = .ok (.getfield 256, 3) := by decide +kernel
theorem dX11_join_70 : decode cX11_join 70 = .ok (.iload_n 2, 1) := by decide +kernel
theorem dX11_join_71 : decode cX11_join 71 = .ok (.iaload, 1) := by decide +kernel
theorem dX11_join_72 : decode cX11_join 72 = .ok (.goto 5, 3) := by decide +kernel
theorem dX11_join_75 : decode cX11_join 75 = .ok (.bipush (-2), 2) := by decide +kernel
theorem dX11_join_77 : decode cX11_join 77 = .ok (.ireturn, 1) := by decide +kernel
theorem dX11_duet_0 : decode cX11_duet 0 = .ok (.aload_n 0, 1) := by decide +kernel
theorem dX11_duet_1 : decode cX11_duet 1 = .ok (.iload_n 1, 1) := by decide +kernel
theorem dX11_duet_2 : decode cX11_duet 2 = .ok (.invokevirtual 129, 3) := by decide +kernel
theorem dX11_duet_5 : decode cX11_duet 5 = .ok (.ifCond .eq 16, 3) := by decide +kernel
theorem dX11_duet_8 : decode cX11_duet 8 = .ok (.aload_n 0, 1) := by decide +kernel
theorem dX11_duet_9 : decode cX11_duet 9 = .ok (.iload_n 2, 1) := by decide +kernel
theorem dX11_duet_10 : decode cX11_duet 10 = .ok (.invokevirtual 129, 3) := by decide +kernel
theorem dX11_duet_13 : decode cX11_duet 13 = .ok (.ifCond .eq 8, 3) := by decide +kernel
theorem dX11_duet_16 : decode cX11_duet 16 = .ok (.iload_n 1, 1) := by decide +kernel
theorem dX11_duet_17 : decode cX11_duet 17 = .ok (.iload_n 2, 1) := by decide +kernel
theorem dX11_duet_18 : decode cX11_duet 18 = .ok (.if_icmp .ne 5, 3) := by decide +kernel
theorem dX11_duet_21 : decode cX11_duet 21 = .ok (.iconst (-1), 1) := by decide +kernel
theorem dX11_duet_22 : decode cX11_duet 22 = .ok (.ireturn, 1) := by decide +kernel
theorem dX11_duet_23 : decode cX11_duet 23 = .ok (.aload_n 0, 1) := by decide +kernel
theorem dX11_duet_24 : decode cX11_duet 24 = .ok (.getfield 54, 3) := by decide +kernel
theorem dX11_duet_27 : decode cX11_duet 27 = .ok (.aload_n 0, 1) := by decide +kernel
theorem dX11_duet_28 : decode cX11_duet 28 = .ok (.getfield 30, 3) := by decide +kernel
theorem dX11_duet_31 : decode cX11_duet 31 = .ok (.invokevirtual 231, 3) := by decide +kernel
theorem dX11_duet_34 : decode cX11_duet 34 = .ok (.aload_n 0, 1) := by decide +kernel
theorem dX11_duet_35 : decode cX11_duet 35 = .ok (.getfield 54, 3) := by decide +kernel
theorem dX11_duet_38 : decode cX11_duet 38 = .ok (.iload_n 1, 1) := by decide +kernel
theorem dX11_duet_39 : decode cX11_duet 39 = .ok (.aload_n 0, 1) := by decide +kernel
theorem dX11_duet_40 : decode cX11_duet 40 = .ok (.getfield 30, 3) := by decide +kernel
theorem dX11_duet_43 : decode cX11_duet 43 = .ok (.getfield 140, 3) := by decide +kernel
theorem dX11_duet_46 : decode cX11_duet 46 = .ok (.iload_n 1, 1) := by decide +kernel
theorem dX11_duet_47 : decode cX11_duet 47 = .ok (.aaload, 1) := by decide +kernel
theorem dX11_duet_48 : decode cX11_duet 48 = .ok (.getfield 147, 3) := by decide +kernel
theorem dX11_duet_51 : decode cX11_duet 51 = .ok (.iload_n 2, 1) := by decide +kernel
theorem dX11_duet_52 : decode cX11_duet 52 = .ok (.aload_n 0, 1) := by decide +kernel
theorem dX11_duet_53 : decode cX11_duet 53 = .ok (.getfield 30, 3) := by decide +kernel
theorem dX11_duet_56 : decode cX11_duet 56 = .ok (.getfield 140, 3) := by decide +kernel
theorem dX11_duet_59 : decode cX11_duet 59 = .ok (.iload_n 2, 1) := by decide +kernel
theorem dX11_duet_60 : decode cX11_duet 60 = .ok (.aaload, 1) := by decide +kernel
theorem dX11_duet_61 : decode cX11_duet 61 = .ok (.getfield 147, 3) := by decide +kernel
theorem dX11_duet_64 : decode cX11_duet 64 = .ok (.invokevirtual 259, 3) := by decide +kernel
theorem dX11_duet_67 : decode cX11_duet 67 = .ok (.ireturn, 1) := by decide +kernel
theorem dX11_tree_0 : decode cX11_tree 0 = .ok (.aload_n 0, 1) := by decide +kernel
theorem dX11_tree_1 : decode cX11_tree 1 = .ok (.getfield 54, 3) := by decide +kernel
theorem dX11_tree_4 : decode cX11_tree 4 = .ok (.aload_n 0, 1) := by decide +kernel
theorem dX11_tree_5 : decode cX11_tree 5 = .ok (.getfield 30, 3) := by decide +kernel
theorem dX11_tree_8 : decode cX11_tree 8 = .ok (.invokevirtual 231, 3) := by decide +kernel
theorem dX11_tree_11 : decode cX11_tree 11 = .ok (.iconst 1, 1) := by decide +kernel
theorem dX11_tree_12 : decode cX11_tree 12 = .ok (.istore_n 1, 1) := by decide +kernel
theorem dX11_tree_13 : decode cX11_tree 13 = .ok (.iconst 0, 1) := by decide +kernel
theorem dX11_tree_14 : decode cX11_tree 14 = .ok (.istore_n 2, 1) := by decide +kernel
theorem dX11_tree_15 : decode cX11_tree 15 = .ok (.iconst 1, 1) := by decide +kernel
theorem dX11_tree_16 : decode cX11_tree 16 = .ok (.istore_n 3, 1) := by decide +kernel
theorem dX11_tree_17 : decode cX11_tree 17 = .ok (.iload_n 3, 1) := by decide +kernel
theorem dX11_tree_18 : decode cX11_tree 18 = .ok (.aload_n 0, 1) := by decide +kernel
theorem dX11_tree_19 : decode cX11_tree 19 = .ok (.getfield 30, 3) := by decide +kernel
theorem dX11_tree_22 : decode cX11_tree 22 = .ok (.getfield 263, 3) := by decide +kernel
theorem dX11_tree_25 : decode cX11_tree 25 = .ok (.if_icmp .ge 39, 3) := by decide +kernel
theorem dX11_tree_28 : decode cX11_tree 28 = .ok (.aload_n 0, 1) := by decide +kernel
theorem dX11_tree_29 : decode cX11_tree 29 = .ok (.iload_n 1, 1) := by decide +kernel
theorem dX11_tree_30 : decode cX11_tree 30 = .ok (.invokevirtual 266, 3) := by decide +kernel
theorem dX11_tree_33 : decode cX11_tree 33 = .ok (.istore 4, 2) := by decide +kernel
theorem dX11_tree_35 : decode cX11_tree 35 = .ok (.iload 4, 2) := by decide +kernel
theorem dX11_tree_37 : decode cX11_tree 37 = .ok (.iconst (-1), 1) := by decide +kernel
theorem dX11_tree_38 : decode cX11_tree 38 = .ok (.if_icmp .eq 20, 3) := by decide +kernel
theorem dX11_tree_41 : decode cX11_tree 41 = .ok (.iload_n 2, 1) := by decide +kernel
theorem dX11_tree_42 : decode cX11_tree 42 = .ok (.aload_n 0, 1) := by decide +kernel
theorem dX11_tree_43 : decode cX11_tree 43 = .ok (.iload_n 1, 1) := by decide +kernel
theorem dX11_tree_44 : decode cX11_tree 44 = .ok (.iload 4, 2) := by decide +kernel
theorem dX11_tree_46 : decode cX11_tree 46 = .ok (.invokevirtual 269, 3) := by decide +kernel
theorem dX11_tree_49 : decode cX11_tree 49 = .ok (.iadd, 1) := by decide +kernel
theorem dX11_tree_50 : decode cX11_tree 50 = .ok (.istore_n 2, 1) := by decide +kernel
theorem dX11_tree_51 : decode cX11_tree 51 = .ok (.iload_n 1, 1) := by decide +kernel
theorem dX11_tree_52 : decode cX11_tree 52 = .ok (.iconst 1, 1) := by decide +kernel
theorem dX11_tree_53 : decode cX11_tree 53 = .ok (.iload 4, 2) := by decide +kernel
theorem dX11_tree_55 : decode cX11_tree 55 = .ok (.ishl, 1) := by decide +kernel
theorem dX11_tree_56 : decode cX11_tree 56 = .ok (.ior, 1) := by decide +kernel
theorem dX11_tree_57 : decode cX11_tree 57 = .ok (.istore_n 1, 1) := by decide +kernel
theorem dX11_tree_58 : decode cX11_tree 58 = .ok (.iinc 3 1, 3) := by decide +kernel
theorem dX11_tree_61 : decode cX11_tree 61 = .ok (.goto (-44), 3) := by decide +kernel
theorem dX11_tree_64 : decode cX11_tree 64 = .ok (.iload_n 2, 1) := by decide +kernel
theorem dX11_tree_65 : decode cX11_tree 65 = .ok (.ireturn, 1) := by decide +kernel
theorem dX11_far_0 : decode cX11_far 0 = .ok (.aload_n 0, 1) := by decide +kernel
theorem dX11_far_1 : decode cX11_far 1 = .ok (.iload_n 1, 1) := by decide +kernel
theorem dX11_far_2 : decode cX11_far 2 = .ok (.invokevirtual 129, 3) := by decide +kernel
theorem dX11_far_5 : decode cX11_far 5 = .ok (.ifCond .eq 20, 3) := by decide +kernel
theorem dX11_far_8 : decode cX11_far 8 = .ok (.aload_n 0, 1) := by decide +kernel
theorem dX11_far_9 : decode cX11_far 9 = .ok (.iload_n 2, 1) := by decide +kernel
theorem dX11_far_10 : decode cX11_far 10 = .ok (.invokevirtual 129, 3) := by decide +kernel
theorem dX11_far_13 : decode cX11_far 13 = .ok (.ifCond .eq 12, 3) := by decide +kernel
theorem dX11_far_16 : decode cX11_far 16 = .ok (.aload_n 0, 1) := by decide +kernel
theorem dX11_far_17 : decode cX11_far 17 = .ok (.iload_n 1, 1) := by decide +kernel
theorem dX11_far_18 : decode cX11_far 18 = .ok (.iload_n 2, 1) := by decide +kernel
theorem dX11_far_19 : decode cX11_far 19 = .ok (.invokevirtual 272, 3) := by decide +kernel
theorem dX11_far_22 : decode cX11_far 22 = .ok (.goto 4, 3) := by decide +kernel
theorem dX11_far_25 : decode cX11_far 25 = .ok (.iconst (-1), 1) := by decide +kernel
theorem dX11_far_26 : decode cX11_far 26 = .ok (.ireturn, 1) := by decide +kernel
theorem dX11_forged_0 : decode cX11_forged 0 = .ok (.aload_n 0, 1) := by decide +kernel
theorem dX11_forged_1 : decode cX11_forged 1 = .ok (.getfield 54, 3) := by decide +kernel
theorem dX11_forged_4 : decode cX11_forged 4 = .ok (.aload_n 0, 1) := by decide +kernel
theorem dX11_forged_5 : decode cX11_forged 5 = .ok (.getfield 30, 3) := by decide +kernel
theorem dX11_forged_8 : decode cX11_forged 8 = .ok (.invokevirtual 231, 3) := by decide +kernel
theorem dX11_forged_11 : decode cX11_forged 11 = .ok (.iconst 0, 1) := by decide +kernel
theorem dX11_forged_12 : decode cX11_forged 12 = .ok (.istore_n 1, 1) := by decide +kernel
theorem dX11_forged_13 : decode cX11_forged 13 = .ok (.iconst 0, 1) := by decide +kernel
theorem dX11_forged_14 : decode cX11_forged 14 = .ok (.istore_n 2, 1) := by decide +kernel
theorem dX11_forged_15 : decode cX11_forged 15 = .ok (.iload_n 2, 1) := by decide +kernel
theorem dX11_forged_16 : decode cX11_forged 16 = .ok (.aload_n 0, 1) := by decide +kernel
theorem dX11_forged_17 : decode cX11_forged 17 = .ok (.getfield 30, 3) := by decide +kernel
theorem dX11_forged_20 : decode cX11_forged 20 = .ok (.getfield 263, 3) := by decide +kernel
theorem dX11_forged_23 : decode cX11_forged 23 = .ok (.if_icmp .ge 70, 3) := by decide +kernel
theorem dX11_forged_26 : decode cX11_forged 26 = .ok (.iconst 0, 1) := by decide +kernel
theorem dX11_forged_27 : decode cX11_forged 27 = .ok (.istore_n 3, 1) := by decide +kernel
theorem dX11_forged_28 : decode cX11_forged 28 = .ok (.iload_n 3, 1) := by decide +kernel
theorem dX11_forged_29 : decode cX11_forged 29 = .ok (.aload_n 0, 1) := by decide +kernel
theorem dX11_forged_30 : decode cX11_forged 30 = .ok (.getfield 30, 3) := by decide +kernel
theorem dX11_forged_33 : decode cX11_forged 33 = .ok (.getfield 263, 3) := by decide +kernel
theorem dX11_forged_36 : decode cX11_forged 36 = .ok (.if_icmp .ge 51, 3) := by decide +kernel
theorem dX11_forged_39 : decode cX11_forged 39 = .ok (.iload_n 2, 1) := by decide +kernel
theorem dX11_forged_40 : decode cX11_forged 40 = .ok (.iload_n 3, 1) := by decide +kernel
theorem dX11_forged_41 : decode cX11_forged 41 = .ok (.if_icmp .eq 40, 3) := by decide +kernel
theorem dX11_forged_44 : decode cX11_forged 44 = .ok (.aload_n 0, 1) := by decide +kernel
theorem dX11_forged_45 : decode cX11_forged 45 = .ok (.getfield 30, 3) := by decide +kernel
theorem dX11_forged_48 : decode cX11_forged 48 = .ok (.getfield 140, 3) := by decide +kernel
theorem dX11_forged_51 : decode cX11_forged 51 = .ok (.iload_n 2, 1) := by decide +kernel
theorem dX11_forged_52 : decode cX11_forged 52 = .ok (.aaload, 1) := by decide +kernel
theorem dX11_forged_53 : decode cX11_forged 53 = .ok (.iload_n 3, 1) := by decide +kernel
theorem dX11_forged_54 : decode cX11_forged 54 = .ok (.invokevirtual 189, 3) := by decide +kernel
theorem dX11_forged_57 : decode cX11_forged 57 = .ok (.ifCond .ne 24, 3) := by decide +kernel
theorem dX11_forged_60 : decode cX11_forged 60 = .ok (.aload_n 0, 1) := by decide +kernel
theorem dX11_forged_61 : decode cX11_forged 61 = .ok (.getfield 54, 3) := by decide +kernel
theorem dX11_forged_64 : decode cX11_forged 64 = .ok (.iload_n 2, 1) := by decide +kernel
theorem dX11_forged_65 : decode cX11_forged 65 = .ok (.iload_n 3, 1) := by decide +kernel
theorem dX11_forged_66 : decode cX11_forged 66 = .ok (.iconst 0, 1) := by decide +kernel
theorem dX11_forged_67 : decode cX11_forged 67 = .ok (.invokevirtual 235, 3) := by decide +kernel
theorem dX11_forged_70 : decode cX11_forged 70 = .ok (.bipush 6, 2) := by decide +kernel
theorem dX11_forged_72 : decode cX11_forged 72 = .ok (.if_icmp .lt 9, 3) := by decide +kernel
theorem dX11_forged_75 : decode cX11_forged 75 = .ok (.iload_n 1, 1) := by decide +kernel
theorem dX11_forged_76 : decode cX11_forged 76 = .ok (.iconst 1, 1) := by decide +kernel
theorem dX11_forged_77 : decode cX11_forged 77 = .ok (.iload_n 2, 1) := by decide +kernel
theorem dX11_forged_78 : decode cX11_forged 78 = .ok (.ishl, 1) := by decide +kernel
theorem dX11_forged_79 : decode cX11_forged 79 = .ok (.ior, 1) := by decide +kernel
theorem dX11_forged_80 : decode cX11_forged 80 = .ok (.istore_n 1, 1) := by decide +kernel
theorem dX11_forged_81 : decode cX11_forged 81 = .ok (.iinc 3 1, 3) := by decide +kernel
theorem dX11_forged_84 : decode cX11_forged 84 = .ok (.goto (-56), 3) := by decide +kernel
theorem dX11_forged_87 : decode cX11_forged 87 = .ok (.iinc 2 1, 3) := by decide +kernel
theorem dX11_forged_90 : decode cX11_forged 90 = .ok (.goto (-75), 3) := by decide +kernel
theorem dX11_forged_93 : decode cX11_forged 93 = .ok (.iload_n 1, 1) := by decide +kernel
theorem dX11_forged_94 : decode cX11_forged 94 = .ok (.ireturn, 1) := by decide +kernel
theorem dX11_lasts_0 : decode cX11_lasts 0 = .ok (.aload_n 0, 1) := by decide +kernel
theorem dX11_lasts_1 : decode cX11_lasts 1 = .ok (.iload_n 1, 1) := by decide +kernel
theorem dX11_lasts_2 : decode cX11_lasts 2 = .ok (.invokevirtual 129, 3) := by decide +kernel
theorem dX11_lasts_5 : decode cX11_lasts 5 = .ok (.ifCond .ne 5, 3) := by decide +kernel
theorem dX11_lasts_8 : decode cX11_lasts 8 = .ok (.iconst (-1), 1) := by decide +kernel
theorem dX11_lasts_9 : decode cX11_lasts 9 = .ok (.ireturn, 1) := by decide +kernel
theorem dX11_lasts_10 : decode cX11_lasts 10 = .ok (.aload_n 0, 1) := by decide +kernel
theorem dX11_lasts_11 : decode cX11_lasts 11 = .ok (.getfield 68, 3) := by decide +kernel
theorem dX11_lasts_14 : decode cX11_lasts 14 = .ok (.aload_n 0, 1) := by decide +kernel
theorem dX11_lasts_15 : decode cX11_lasts 15 = .ok (.getfield 30, 3) := by decide +kernel
theorem dX11_lasts_18 : decode cX11_lasts 18 = .ok (.getfield 140, 3) := by decide +kernel
theorem dX11_lasts_21 : decode cX11_lasts 21 = .ok (.iload_n 1, 1) := by decide +kernel
theorem dX11_lasts_22 : decode cX11_lasts 22 = .ok (.aaload, 1) := by decide +kernel
theorem dX11_lasts_23 : decode cX11_lasts 23 = .ok (.invokevirtual 223, 3) := by decide +kernel
theorem dX11_lasts_26 : decode cX11_lasts 26 = .ok (.iconst 0, 1) := by decide +kernel
theorem dX11_lasts_27 : decode cX11_lasts 27 = .ok (.istore_n 2, 1) := by decide +kernel
theorem dX11_lasts_28 : decode cX11_lasts 28 = .ok (.iload_n 2, 1) := by decide +kernel
theorem dX11_lasts_29 : decode cX11_lasts 29 = .ok (.sipush 999, 3) := by decide +kernel
theorem dX11_lasts_32 : decode cX11_lasts 32 = .ok (.if_icmp .ge 47, 3) := by decide +kernel
theorem dX11_lasts_35 : decode cX11_lasts 35 = .ok (.aload_n 0, 1) := by decide +kernel
theorem dX11_lasts_36 : decode cX11_lasts 36 = .ok (.getfield 68, 3) := by decide +kernel
theorem dX11_lasts_39 : decode cX11_lasts 39 = .ok (.invokevirtual 275, 3) := by decide +kernel
theorem dX11_lasts_42 : decode cX11_lasts 42 = .ok (.ifCond .eq 37, 3) := by decide +kernel
theorem dX11_lasts_45 : decode cX11_lasts 45 = .ok (.aload_n 0, 1) := by decide +kernel
theorem dX11_lasts_46 : decode cX11_lasts 46 = .ok (.getfield 68, 3) := by decide +kernel
theorem dX11_lasts_49 : decode cX11_lasts 49 = .ok (.aload_n 0, 1) := by decide +kernel
theorem dX11_lasts_50 : decode cX11_lasts 50 = .ok (.getfield 82, 3) := by decide +kernel
theorem dX11_lasts_53 : decode cX11_lasts 53 = .ok (.getfield 194, 3) := by decide +kernel
theorem dX11_lasts_56 : decode cX11_lasts 56 = .ok (.aload_n 0, 1) := by decide +kernel
theorem dX11_lasts_57 : decode cX11_lasts 57 = .ok (.getfield 30, 3) := by decide +kernel
theorem dX11_lasts_60 : decode cX11_lasts 60 = .ok (.getfield 198, 3) := by decide +kernel
theorem dX11_lasts_63 : decode cX11_lasts 63 = .ok (.iload_n 2, 1) := by decide +kernel
theorem dX11_lasts_64 : decode cX11_lasts 64 = .ok (.iadd, 1) := by decide +kernel
theorem dX11_lasts_65 : decode cX11_lasts 65 = .ok (.aload_n 0, 1) := by decide +kernel
theorem dX11_lasts_66 : decode cX11_lasts 66 = .ok (.invokevirtual 279, 3) := by decide +kernel
theorem dX11_lasts_69 : decode cX11_lasts 69 = .ok (.iconst 0, 1) := by decide +kernel
theorem dX11_lasts_70 : decode cX11_lasts 70 = .ok (.invokevirtual 282, 3) := by decide +kernel
theorem dX11_lasts_73 : decode cX11_lasts 73 = .ok (.iinc 2 1, 3) := by decide +kernel
theorem dX11_lasts_76 : decode cX11_lasts 76 = .ok (.goto (-48), 3) := by decide +kernel
theorem dX11_lasts_79 : decode cX11_lasts 79 = .ok (.aload_n 0, 1) := by decide +kernel
theorem dX11_lasts_80 : decode cX11_lasts 80 = .ok (.getfield 68, 3) := by decide +kernel
theorem dX11_lasts_83 : decode cX11_lasts 83 = .ok (.getfield 144, 3) := by decide +kernel
theorem dX11_lasts_86 : decode cX11_lasts 86 = .ok (.ifCond .ne 7, 3) := by decide +kernel
theorem dX11_lasts_89 : decode cX11_lasts 89 = .ok (.iload_n 2, 1) := by decide +kernel
theorem dX11_lasts_90 : decode cX11_lasts 90 = .ok (.goto 5, 3) := by decide +kernel
theorem dX11_lasts_93 : decode cX11_lasts 93 = .ok (.bipush (-2), 2) := by decide +kernel
theorem dX11_lasts_95 : decode cX11_lasts 95 = .ok (.ireturn, 1) := by decide +kernel
theorem dX11_winding_0 : decode cX11_winding 0 = .ok (.iload_n 1, 1) := by decide +kernel
theorem dX11_winding_1 : decode cX11_winding 1 = .ok (.iconst 1, 1) := by decide +kernel
theorem dX11_winding_2 : decode cX11_winding 2 = .ok (.bipush 20, 2) := by decide +kernel
theorem dX11_winding_4 : decode cX11_winding 4 = .ok (.invokestatic 170, 3) := by decide +kernel
theorem dX11_winding_7 : decode cX11_winding 7 = .ok (.ifCond .eq 22, 3) := by decide +kernel
theorem dX11_winding_10 : decode cX11_winding 10 = .ok (.iload_n 2, 1) := by decide +kernel
theorem dX11_winding_11 : decode cX11_winding 11 = .ok (.iconst 0, 1) := by decide +kernel
theorem dX11_winding_12 : decode cX11_winding 12 = .ok (.bipush 9, 2) := by decide +kernel
theorem dX11_winding_14 : decode cX11_winding 14 = .ok (.invokestatic 170, 3) := by decide +kernel
theorem dX11_winding_17 : decode cX11_winding 17 = .ok (.ifCond .eq 12, 3) := by decide +kernel
theorem dX11_winding_20 : decode cX11_winding 20 = .ok (.iload_n 3, 1) := by decide +kernel
theorem dX11_winding_21 : decode cX11_winding 21 = .ok (.iconst 0, 1) := by decide +kernel
theorem dX11_winding_22 : decode cX11_winding 22 = .ok (.iconst 3, 1) := by decide +kernel
theorem dX11_winding_23 : decode cX11_winding 23 = .ok (.invokestatic 170, 3) := by decide +kernel
theorem dX11_winding_26 : decode cX11_winding 26 = .ok (.ifCond .ne 5, 3) := by decide +kernel
theorem dX11_winding_29 : decode cX11_winding 29 = .ok (.iconst (-1), 1) := by decide +kernel
theorem dX11_winding_30 : decode cX11_winding 30 = .ok (.ireturn, 1) := by decide +kernel
theorem dX11_winding_31 : decode cX11_winding 31 = .ok (.iload_n 3, 1) := by decide +kernel
theorem dX11_winding_32 : decode cX11_winding 32 = .ok (.iconst 3, 1) := by decide +kernel
theorem dX11_winding_33 : decode cX11_winding 33 = .ok (.if_icmp .ge 17, 3) := by decide +kernel
theorem dX11_winding_36 : decode cX11_winding 36 = .ok (.iload_n 3, 1) := by decide +kernel
theorem dX11_winding_37 : decode cX11_winding 37 = .ok (.aload_n 0, 1) := by decide +kernel
theorem dX11_winding_38 : decode cX11_winding 38 = .ok (.getfield 30, 3) := by decide +kernel
theorem dX11_winding_41 : decode cX11_winding 41 = .ok (.getfield 263, 3) := by decide +kernel
theorem dX11_winding_44 : decode cX11_winding 44 = .ok (.if_icmp .lt 6, 3) := by decide +kernel
theorem dX11_winding_47 : decode cX11_winding 47 = .ok (.bipush (-2), 2) := by decide +kernel
theorem dX11_winding_49 : decode cX11_winding 49 = .ok (.ireturn, 1) := by decide +kernel
theorem dX11_winding_50 : decode cX11_winding 50 = .ok (.aload_n 0, 1) := by decide +kernel
theorem dX11_winding_51 : decode cX11_winding 51 = .ok (.iload_n 1, 1) := by decide +kernel
theorem dX11_winding_52 : decode cX11_winding 52 = .ok (.iload_n 2, 1) := by decide +kernel
theorem dX11_winding_53 : decode cX11_winding 53 = .ok (.invokevirtual 285, 3) := by decide +kernel
theorem dX11_winding_56 : decode cX11_winding 56 = .ok (.aload_n 0, 1) := by decide +kernel
theorem dX11_winding_57 : decode cX11_winding 57 = .ok (.iload_n 2, 1) := by decide +kernel
theorem dX11_winding_58 : decode cX11_winding 58 = .ok (.invokevirtual 289, 3) := by decide +kernel
theorem dX11_winding_61 : decode cX11_winding 61 = .ok (.istore 4, 2) := by decide +kernel
theorem dX11_winding_63 : decode cX11_winding 63 = .ok (.iload_n 3, 1) := by decide +kernel
theorem dX11_winding_64 : decode cX11_winding 64 = .ok (.iconst 3, 1) := by decide +kernel
theorem dX11_winding_65 : decode cX11_winding 65 = .ok (.if_icmp .ge 10, 3) := by decide +kernel
theorem dX11_winding_68 : decode cX11_winding 68 = .ok (.aload_n 0, 1) := by decide +kernel
theorem dX11_winding_69 : decode cX11_winding 69 = .ok (.getfield 76, 3) := by decide +kernel
theorem dX11_winding_72 : decode cX11_winding 72 = .ok (.iload_n 3, 1) := by decide +kernel
theorem dX11_winding_73 : decode cX11_winding 73 = .ok (.iaload, 1) := by decide +kernel
theorem dX11_winding_74 : decode cX11_winding 74 = .ok (.ireturn, 1) := by decide +kernel
theorem dX11_winding_75 : decode cX11_winding 75 = .ok (.iconst 3, 1) := by decide +kernel
theorem dX11_winding_76 : decode cX11_winding 76 = .ok (.istore 5, 2) := by decide +kernel
theorem dX11_winding_78 : decode cX11_winding 78 = .ok (.iload 5, 2) := by decide +kernel
theorem dX11_winding_80 : decode cX11_winding 80 = .ok (.aload_n 0, 1) := by decide +kernel
theorem dX11_winding_81 : decode cX11_winding 81 = .ok (.getfield 30, 3) := by decide +kernel
theorem dX11_winding_84 : decode cX11_winding 84 = .ok (.getfield 263, 3) := by decide +kernel
theorem dX11_winding_87 : decode cX11_winding 87 = .ok (.if_icmp .ge 40, 3) := by decide +kernel
theorem dX11_winding_90 : decode cX11_winding 90 = .ok (.aload_n 0, 1) := by decide +kernel
theorem dX11_winding_91 : decode cX11_winding 91 = .ok (.getfield 68, 3) := by decide +kernel
theorem dX11_winding_94 : decode cX11_winding 94 = .ok (.aload_n 0, 1) := by decide +kernel
theorem dX11_winding_95 : decode cX11_winding 95 = .ok (.getfield 30, 3) := by decide +kernel
theorem dX11_winding_98 : decode cX11_winding 98 = .ok (.getfield 140, 3) := by decide +kernel
theorem dX11_winding_101 : decode cX11_winding 101 = .ok (.iload 5, 2) := by decide +kernel
theorem dX11_winding_103 : decode cX11_winding 103 = .ok (.aaload, 1) := by decide +kernel
theorem dX11_winding_104 : decode cX11_winding 104 = .ok (.invokevirtual 223, 3) := by decide +kernel
theorem dX11_winding_107 : decode cX11_winding 107 = .ok (.iload 4, 2) := by decide +kernel
theorem dX11_winding_109 : decode cX11_winding 109 = .ok (.aload_n 0, 1) := by decide +kernel
theorem dX11_winding_110 : decode cX11_winding 110 = .ok (.iload_n 1, 1) := by decide +kernel
theorem dX11_winding_111 : decode cX11_winding 111 = .ok (.aload_n 0, 1) := by decide +kernel
theorem dX11_winding_112 : decode cX11_winding 112 = .ok (.invokevirtual 279, 3) := by decide +kernel
theorem dX11_winding_115 : decode cX11_winding 115 = .ok (.invokevirtual 292, 3) := by decide +kernel
theorem dX11_winding_118 : decode cX11_winding 118 = .ok (.iadd, 1) := by decide +kernel
theorem dX11_winding_119 : decode cX11_winding 119 = .ok (.istore 4, 2) := by decide +kernel
theorem dX11_winding_121 : decode cX11_winding 121 = .ok (.iinc 5 1, 3) := by decide +kernel
theorem dX11_winding_124 : decode cX11_winding 124 = .ok (.goto (-46), 3) := by decide +kernel
theorem dX11_winding_127 : decode cX11_winding 127 = .ok (.iload 4, 2) := by decide +kernel
theorem dX11_winding_129 : decode cX11_winding 129 = .ok (.ireturn, 1) := by decide +kernel
theorem dX11_laughBack_0 : decode cX11_laughBack 0 = .ok (.aload_n 0, 1) := by decide +kernel
theorem dX11_laughBack_1 : decode cX11_laughBack 1 = .ok (.iload_n 1, 1) := by decide +kernel
theorem dX11_laughBack_2 : decode cX11_laughBack 2 = .ok (.invokevirtual 129, 3) := by decide +kernel
theorem dX11_laughBack_5 : decode cX11_laughBack 5 = .ok (.ifCond .ne 5, 3) := by decide +kernel
theorem dX11_laughBack_8 : decode cX11_laughBack 8 = .ok (.iconst (-1), 1) := by decide +kernel
theorem dX11_laughBack_9 : decode cX11_laughBack 9 = .ok (.ireturn, 1) := by decide +kernel
theorem dX11_laughBack_10 : decode cX11_laughBack 10 = .ok (.aload_n 0, 1) := by decide +kernel
theorem dX11_laughBack_11 : decode cX11_laughBack 11 = .ok (.iconst 0, 1) := by decide +kernel
theorem dX11_laughBack_12 : decode cX11_laughBack 12 = .ok (.iload_n 1, 1) := by decide +kernel
theorem dX11_laughBack_13 : decode cX11_laughBack 13 = .ok (.invokevirtual 272, 3) := by decide +kernel
theorem dX11_laughBack_16 : decode cX11_laughBack 16 = .ok (.istore_n 2, 1) := by decide +kernel
theorem dX11_laughBack_17 : decode cX11_laughBack 17 = .ok (.iload_n 2, 1) := by decide +kernel
theorem dX11_laughBack_18 : decode cX11_laughBack 18 = .ok (.ifCond .ge 7, 3) := by decide +kernel
theorem dX11_laughBack_21 : decode cX11_laughBack 21 = .ok (.iconst 0, 1) := by decide +kernel
theorem dX11_laughBack_22 : decode cX11_laughBack 22 = .ok (.goto 23, 3) := by decide +kernel
theorem dX11_laughBack_25 : decode cX11_laughBack 25 = .ok (.aload_n 0, 1) := by decide +kernel
theorem dX11_laughBack_26 : decode cX11_laughBack 26 = .ok (.bipush 8, 2) := by decide +kernel
theorem dX11_laughBack_28 : decode cX11_laughBack 28 = .ok (.aload_n 0, 1) := by decide +kernel
theorem dX11_laughBack_29 : decode cX11_laughBack 29 = .ok (.getfield 30, 3) := by decide +kernel
theorem dX11_laughBack_32 : decode cX11_laughBack 32 = .ok (.getfield 140, 3) := by decide +kernel
theorem dX11_laughBack_35 : decode cX11_laughBack 35 = .ok (.iload_n 1, 1) := by decide +kernel
theorem dX11_laughBack_36 : decode cX11_laughBack 36 = .ok (.aaload, 1) := by decide +kernel
theorem dX11_laughBack_37 : decode cX11_laughBack 37 = .ok (.getfield 147, 3) := by decide +kernel
theorem dX11_laughBack_40 : decode cX11_laughBack 40 = .ok (.imul, 1) := by decide +kernel
theorem dX11_laughBack_41 : decode cX11_laughBack 41 = .ok (.iload_n 2, 1) := by decide +kernel
theorem dX11_laughBack_42 : decode cX11_laughBack 42 = .ok (.invokevirtual 296, 3) := by decide +kernel
theorem dX11_laughBack_45 : decode cX11_laughBack 45 = .ok (.ireturn, 1) := by decide +kernel
theorem dX11_rests_0 : decode cX11_rests 0 = .ok (.aload_n 0, 1) := by decide +kernel
theorem dX11_rests_1 : decode cX11_rests 1 = .ok (.iload_n 1, 1) := by decide +kernel
theorem dX11_rests_2 : decode cX11_rests 2 = .ok (.invokevirtual 129, 3) := by decide +kernel
theorem dX11_rests_5 : decode cX11_rests 5 = .ok (.ifCond .ne 5, 3) := by decide +kernel
theorem dX11_rests_8 : decode cX11_rests 8 = .ok (.iconst (-1), 1) := by decide +kernel
theorem dX11_rests_9 : decode cX11_rests 9 = .ok (.ireturn, 1) := by decide +kernel
theorem dX11_rests_10 : decode cX11_rests 10 = .ok (.aload_n 0, 1) := by decide +kernel
theorem dX11_rests_11 : decode cX11_rests 11 = .ok (.iload_n 1, 1) := by decide +kernel
theorem dX11_rests_12 : decode cX11_rests 12 = .ok (.invokevirtual 299, 3) := by decide +kernel
theorem dX11_rests_15 : decode cX11_rests 15 = .ok (.istore_n 2, 1) := by decide +kernel
theorem dX11_rests_16 : decode cX11_rests 16 = .ok (.iconst 0, 1) := by decide +kernel
theorem dX11_rests_17 : decode cX11_rests 17 = .ok (.istore_n 3, 1) := by decide +kernel
theorem dX11_rests_18 : decode cX11_rests 18 = .ok (.iconst 0, 1) := by decide +kernel
theorem dX11_rests_19 : decode cX11_rests 19 = .ok (.istore 4, 2) := by decide +kernel
theorem dX11_rests_21 : decode cX11_rests 21 = .ok (.iload 4, 2) := by decide +kernel
theorem dX11_rests_23 : decode cX11_rests 23 = .ok (.iconst 4, 1) := by decide +kernel
theorem dX11_rests_24 : decode cX11_rests 24 = .ok (.if_icmp .gt 38, 3) := by decide +kernel
theorem dX11_rests_27 : decode cX11_rests 27 = .ok (.iconst 0, 1) := by decide +kernel
theorem dX11_rests_28 : decode cX11_rests 28 = .ok (.istore 5, 2) := by decide +kernel
theorem dX11_rests_30 : decode cX11_rests 30 = .ok (.iload 5, 2) := by decide +kernel
theorem dX11_rests_32 : decode cX11_rests 32 = .ok (.iconst 4, 1) := by decide +kernel
theorem dX11_rests_33 : decode cX11_rests 33 = .ok (.if_icmp .gt 23, 3) := by decide +kernel
theorem dX11_rests_36 : decode cX11_rests 36 = .ok (.iload_n 2, 1) := by decide +kernel
theorem dX11_rests_37 : decode cX11_rests 37 = .ok (.iload 4, 2) := by decide +kernel
theorem dX11_rests_39 : decode cX11_rests 39 = .ok (.iload 5, 2) := by decide +kernel
theorem dX11_rests_41 : decode cX11_rests 41 = .ok (.invokestatic 302, 3) := by decide +kernel
theorem dX11_rests_44 : decode cX11_rests 44 = .ok (.ifCond .eq 6, 3) := by decide +kernel
theorem dX11_rests_47 : decode cX11_rests 47 = .ok (.iinc 3 1, 3) := by decide +kernel
theorem dX11_rests_50 : decode cX11_rests 50 = .ok (.iinc 5 1, 3) := by decide +kernel
theorem dX11_rests_53 : decode cX11_rests 53 = .ok (.goto (-23), 3) := by decide +kernel
theorem dX11_rests_56 : decode cX11_rests 56 = .ok (.iinc 4 1, 3) := by decide +kernel
theorem dX11_rests_59 : decode cX11_rests 59 = .ok (.goto (-38), 3) := by decide +kernel
theorem dX11_rests_62 : decode cX11_rests 62 = .ok (.iload_n 3, 1) := by decide +kernel
theorem dX11_rests_63 : decode cX11_rests 63 = .ok (.ireturn, 1) := by decide +kernel
theorem dX11_rest_0 : decode cX11_rest 0 = .ok (.aload_n 0, 1) := by decide +kernel
theorem dX11_rest_1 : decode cX11_rest 1 = .ok (.iload_n 1, 1) := by decide +kernel
theorem dX11_rest_2 : decode cX11_rest 2 = .ok (.invokevirtual 129, 3) := by decide +kernel
theorem dX11_rest_5 : decode cX11_rest 5 = .ok (.ifCond .eq 7, 3) := by decide +kernel
theorem dX11_rest_8 : decode cX11_rest 8 = .ok (.iload_n 2, 1) := by decide +kernel
theorem dX11_rest_9 : decode cX11_rest 9 = .ok (.ifCond .ge 5, 3) := by decide +kernel
theorem dX11_rest_12 : decode cX11_rest 12 = .ok (.iconst (-1), 1) := by decide +kernel
theorem dX11_rest_13 : decode cX11_rest 13 = .ok (.ireturn, 1) := by decide +kernel
theorem dX11_rest_14 : decode cX11_rest 14 = .ok (.aload_n 0, 1) := by decide +kernel
theorem dX11_rest_15 : decode cX11_rest 15 = .ok (.iload_n 1, 1) := by decide +kernel
theorem dX11_rest_16 : decode cX11_rest 16 = .ok (.invokevirtual 299, 3) := by decide +kernel
theorem dX11_rest_19 : decode cX11_rest 19 = .ok (.istore_n 3, 1) := by decide +kernel
theorem dX11_rest_20 : decode cX11_rest 20 = .ok (.iconst 0, 1) := by decide +kernel
theorem dX11_rest_21 : decode cX11_rest 21 = .ok (.istore 4, 2) := by decide +kernel
theorem dX11_rest_23 : decode cX11_rest 23 = .ok (.iconst 0, 1) := by decide +kernel
theorem dX11_rest_24 : decode cX11_rest 24 = .ok (.istore 5, 2) := by decide +kernel
theorem dX11_rest_26 : decode cX11_rest 26 = .ok (.iload 5, 2) := by decide +kernel
theorem dX11_rest_28 : decode cX11_rest 28 = .ok (.iconst 4, 1) := by decide +kernel
theorem dX11_rest_29 : decode cX11_rest 29 = .ok (.if_icmp .gt 53, 3) := by decide +kernel
theorem dX11_rest_32 : decode cX11_rest 32 = .ok (.iconst 0, 1) := by decide +kernel
theorem dX11_rest_33 : decode cX11_rest 33 = .ok (.istore 6, 2) := by decide +kernel
theorem dX11_rest_35 : decode cX11_rest 35 = .ok (.iload 6, 2) := by decide +kernel
theorem dX11_rest_37 : decode cX11_rest 37 = .ok (.iconst 4, 1) := by decide +kernel
theorem dX11_rest_38 : decode cX11_rest 38 = .ok (.if_icmp .gt 38, 3) := by decide +kernel
theorem dX11_rest_41 : decode cX11_rest 41 = .ok (.iload_n 3, 1) := by decide +kernel
theorem dX11_rest_42 : decode cX11_rest 42 = .ok (.iload 5, 2) := by decide +kernel
theorem dX11_rest_44 : decode cX11_rest 44 = .ok (.iload 6, 2) := by decide +kernel
theorem dX11_rest_46 : decode cX11_rest 46 = .ok (.invokestatic 302, 3) := by decide +kernel
theorem dX11_rest_49 : decode cX11_rest 49 = .ok (.ifCond .eq 21, 3) := by decide +kernel
theorem dX11_rest_52 : decode cX11_rest 52 = .ok (.iload 4, 2) := by decide +kernel
theorem dX11_rest_54 : decode cX11_rest 54 = .ok (.iload_n 2, 1) := by decide +kernel
theorem dX11_rest_55 : decode cX11_rest 55 = .ok (.if_icmp .ne 12, 3) := by decide +kernel
theorem dX11_rest_58 : decode cX11_rest 58 = .ok (.bipush 10, 2) := by decide +kernel
theorem dX11_rest_60 : decode cX11_rest 60 = .ok (.iload 5, 2) := by decide +kernel
theorem dX11_rest_62 : decode cX11_rest 62 = .ok (.imul, 1) := by decide +kernel
theorem dX11_rest_63 : decode cX11_rest 63 = .ok (.iload 6, 2) := by decide +kernel
theorem dX11_rest_65 : decode cX11_rest 65 = .ok (.iadd, 1) := by decide +kernel
theorem dX11_rest_66 : decode cX11_rest 66 = .ok (.ireturn, 1) := by decide +kernel
theorem dX11_rest_67 : decode cX11_rest 67 = .ok (.iinc 4 1, 3) := by decide +kernel
theorem dX11_rest_70 : decode cX11_rest 70 = .ok (.iinc 6 1, 3) := by decide +kernel
theorem dX11_rest_73 : decode cX11_rest 73 = .ok (.goto (-38), 3) := by decide +kernel
theorem dX11_rest_76 : decode cX11_rest 76 = .ok (.iinc 5 1, 3) := by decide +kernel
theorem dX11_rest_79 : decode cX11_rest 79 = .ok (.goto (-53), 3) := by decide +kernel
theorem dX11_rest_82 : decode cX11_rest 82 = .ok (.bipush (-2), 2) := by decide +kernel
theorem dX11_rest_84 : decode cX11_rest 84 = .ok (.ireturn, 1) := by decide +kernel
theorem dX11_ask_0 : decode cX11_ask 0 = .ok (.iload_n 1, 1) := by decide +kernel
theorem dX11_ask_1 : decode cX11_ask 1 = .ok (.iconst 0, 1) := by decide +kernel
theorem dX11_ask_2 : decode cX11_ask 2 = .ok (.iconst 1, 1) := by decide +kernel
theorem dX11_ask_3 : decode cX11_ask 3 = .ok (.invokestatic 170, 3) := by decide +kernel
theorem dX11_ask_6 : decode cX11_ask 6 = .ok (.ifCond .ne 5, 3) := by decide +kernel
theorem dX11_ask_9 : decode cX11_ask 9 = .ok (.iconst (-1), 1) := by decide +kernel
theorem dX11_ask_10 : decode cX11_ask 10 = .ok (.ireturn, 1) := by decide +kernel
theorem dX11_ask_11 : decode cX11_ask 11 = .ok (.aload_n 0, 1) := by decide +kernel
theorem dX11_ask_12 : decode cX11_ask 12 = .ok (.invokevirtual 239, 3) := by decide +kernel
theorem dX11_ask_15 : decode cX11_ask 15 = .ok (.istore_n 2, 1) := by decide +kernel
theorem dX11_ask_16 : decode cX11_ask 16 = .ok (.aload_n 0, 1) := by decide +kernel
theorem dX11_ask_17 : decode cX11_ask 17 = .ok (.getfield 54, 3) := by decide +kernel
theorem dX11_ask_20 : decode cX11_ask 20 = .ok (.aload_n 0, 1) := by decide +kernel
theorem dX11_ask_21 : decode cX11_ask 21 = .ok (.getfield 30, 3) := by decide +kernel
theorem dX11_ask_24 : decode cX11_ask 24 = .ok (.invokevirtual 231, 3) := by decide +kernel
theorem dX11_ask_27 : decode cX11_ask 27 = .ok (.iconst 0, 1) := by decide +kernel
theorem dX11_ask_28 : decode cX11_ask 28 = .ok (.istore_n 3, 1) := by decide +kernel
theorem dX11_ask_29 : decode cX11_ask 29 = .ok (.iconst 1, 1) := by decide +kernel
theorem dX11_ask_30 : decode cX11_ask 30 = .ok (.istore 4, 2) := by decide +kernel
theorem dX11_ask_32 : decode cX11_ask 32 = .ok (.iload 4, 2) := by decide +kernel
theorem dX11_ask_34 : decode cX11_ask 34 = .ok (.bipush 8, 2) := by decide +kernel
theorem dX11_ask_36 : decode cX11_ask 36 = .ok (.if_icmp .ge 34, 3) := by decide +kernel
theorem dX11_ask_39 : decode cX11_ask 39 = .ok (.aload_n 0, 1) := by decide +kernel
theorem dX11_ask_40 : decode cX11_ask 40 = .ok (.getfield 54, 3) := by decide +kernel
theorem dX11_ask_43 : decode cX11_ask 43 = .ok (.iload_n 2, 1) := by decide +kernel
theorem dX11_ask_44 : decode cX11_ask 44 = .ok (.iload 4, 2) := by decide +kernel
theorem dX11_ask_46 : decode cX11_ask 46 = .ok (.invokevirtual 305, 3) := by decide +kernel
theorem dX11_ask_49 : decode cX11_ask 49 = .ok (.aload_n 0, 1) := by decide +kernel
theorem dX11_ask_50 : decode cX11_ask 50 = .ok (.getfield 54, 3) := by decide +kernel
theorem dX11_ask_53 : decode cX11_ask 53 = .ok (.iload_n 2, 1) := by decide +kernel
theorem dX11_ask_54 : decode cX11_ask 54 = .ok (.iload_n 3, 1) := by decide +kernel
theorem dX11_ask_55 : decode cX11_ask 55 = .ok (.invokevirtual 305, 3) := by decide +kernel
theorem dX11_ask_58 : decode cX11_ask 58 = .ok (.if_icmp .ge 6, 3) := by decide +kernel
theorem dX11_ask_61 : decode cX11_ask 61 = .ok (.iload 4, 2) := by decide +kernel
theorem dX11_ask_63 : decode cX11_ask 63 = .ok (.istore_n 3, 1) := by decide +kernel
theorem dX11_ask_64 : decode cX11_ask 64 = .ok (.iinc 4 1, 3) := by decide +kernel
theorem dX11_ask_67 : decode cX11_ask 67 = .ok (.goto (-35), 3) := by decide +kernel
theorem dX11_ask_70 : decode cX11_ask 70 = .ok (.iload_n 1, 1) := by decide +kernel
theorem dX11_ask_71 : decode cX11_ask 71 = .ok (.ifCond .ne 7, 3) := by decide +kernel
theorem dX11_ask_74 : decode cX11_ask 74 = .ok (.iload_n 3, 1) := by decide +kernel
theorem dX11_ask_75 : decode cX11_ask 75 = .ok (.goto 12, 3) := by decide +kernel
theorem dX11_ask_78 : decode cX11_ask 78 = .ok (.aload_n 0, 1) := by decide +kernel
theorem dX11_ask_79 : decode cX11_ask 79 = .ok (.getfield 54, 3) := by decide +kernel
theorem dX11_ask_82 : decode cX11_ask 82 = .ok (.iload_n 2, 1) := by decide +kernel
theorem dX11_ask_83 : decode cX11_ask 83 = .ok (.iload_n 3, 1) := by decide +kernel
theorem dX11_ask_84 : decode cX11_ask 84 = .ok (.invokevirtual 305, 3) := by decide +kernel
theorem dX11_ask_87 : decode cX11_ask 87 = .ok (.ireturn, 1) := by decide +kernel
theorem dX11_stay_0 : decode cX11_stay 0 = .ok (.aload_n 0, 1) := by decide +kernel
theorem dX11_stay_1 : decode cX11_stay 1 = .ok (.iload_n 1, 1) := by decide +kernel
theorem dX11_stay_2 : decode cX11_stay 2 = .ok (.invokevirtual 246, 3) := by decide +kernel
theorem dX11_stay_5 : decode cX11_stay 5 = .ok (.ifCond .ne 5, 3) := by decide +kernel
theorem dX11_stay_8 : decode cX11_stay 8 = .ok (.iconst (-1), 1) := by decide +kernel
theorem dX11_stay_9 : decode cX11_stay 9 = .ok (.ireturn, 1) := by decide +kernel
theorem dX11_stay_10 : decode cX11_stay 10 = .ok (.iconst 0, 1) := by decide +kernel
theorem dX11_stay_11 : decode cX11_stay 11 = .ok (.istore_n 2, 1) := by decide +kernel
theorem dX11_stay_12 : decode cX11_stay 12 = .ok (.iconst 0, 1) := by decide +kernel
theorem dX11_stay_13 : decode cX11_stay 13 = .ok (.istore_n 3, 1) := by decide +kernel
theorem dX11_stay_14 : decode cX11_stay 14 = .ok (.iload_n 3, 1) := by decide +kernel
theorem dX11_stay_15 : decode cX11_stay 15 = .ok (.aload_n 0, 1) := by decide +kernel
theorem dX11_stay_16 : decode cX11_stay 16 = .ok (.getfield 30, 3) := by decide +kernel
theorem dX11_stay_19 : decode cX11_stay 19 = .ok (.getfield 263, 3) := by decide +kernel
theorem dX11_stay_22 : decode cX11_stay 22 = .ok (.if_icmp .ge 33, 3) := by decide +kernel
theorem dX11_stay_25 : decode cX11_stay 25 = .ok (.iload_n 1, 1) := by decide +kernel
theorem dX11_stay_26 : decode cX11_stay 26 = .ok (.iload_n 3, 1) := by decide +kernel
theorem dX11_stay_27 : decode cX11_stay 27 = .ok (.ishr, 1) := by decide +kernel
theorem dX11_stay_28 : decode cX11_stay 28 = .ok (.iconst 1, 1) := by decide +kernel
theorem dX11_stay_29 : decode cX11_stay 29 = .ok (.iand, 1) := by decide +kernel
theorem dX11_stay_30 : decode cX11_stay 30 = .ok (.iconst 1, 1) := by decide +kernel
theorem dX11_stay_31 : decode cX11_stay 31 = .ok (.if_icmp .ne 18, 3) := by decide +kernel
theorem dX11_stay_34 : decode cX11_stay 34 = .ok (.iload_n 2, 1) := by decide +kernel
theorem dX11_stay_35 : decode cX11_stay 35 = .ok (.aload_n 0, 1) := by decide +kernel
theorem dX11_stay_36 : decode cX11_stay 36 = .ok (.getfield 30, 3) := by decide +kernel
theorem dX11_stay_39 : decode cX11_stay 39 = .ok (.getfield 140, 3) := by decide +kernel
theorem dX11_stay_42 : decode cX11_stay 42 = .ok (.iload_n 3, 1) := by decide +kernel
theorem dX11_stay_43 : decode cX11_stay 43 = .ok (.aaload, 1) := by decide +kernel
theorem dX11_stay_44 : decode cX11_stay 44 = .ok (.getfield 147, 3) := by decide +kernel
theorem dX11_stay_47 : decode cX11_stay 47 = .ok (.iadd, 1) := by decide +kernel
theorem dX11_stay_48 : decode cX11_stay 48 = .ok (.istore_n 2, 1) := by decide +kernel
theorem dX11_stay_49 : decode cX11_stay 49 = .ok (.iinc 3 1, 3) := by decide +kernel
theorem dX11_stay_52 : decode cX11_stay 52 = .ok (.goto (-38), 3) := by decide +kernel
theorem dX11_stay_55 : decode cX11_stay 55 = .ok (.aload_n 0, 1) := by decide +kernel
theorem dX11_stay_56 : decode cX11_stay 56 = .ok (.bipush 8, 2) := by decide +kernel
theorem dX11_stay_58 : decode cX11_stay 58 = .ok (.iload_n 2, 1) := by decide +kernel
theorem dX11_stay_59 : decode cX11_stay 59 = .ok (.imul, 1) := by decide +kernel
theorem dX11_stay_60 : decode cX11_stay 60 = .ok (.iconst 0, 1) := by decide +kernel
theorem dX11_stay_61 : decode cX11_stay 61 = .ok (.invokevirtual 296, 3) := by decide +kernel
theorem dX11_stay_64 : decode cX11_stay 64 = .ok (.ireturn, 1) := by decide +kernel
theorem dX11_line_0 : decode cX11_line 0 = .ok (.iload_n 1, 1) := by decide +kernel
theorem dX11_line_1 : decode cX11_line 1 = .ok (.iconst 0, 1) := by decide +kernel
theorem dX11_line_2 : decode cX11_line 2 = .ok (.bipush 6, 2) := by decide +kernel
theorem dX11_line_4 : decode cX11_line 4 = .ok (.invokestatic 170, 3) := by decide +kernel
theorem dX11_line_7 : decode cX11_line 7 = .ok (.ifCond .ne 5, 3) := by decide +kernel
theorem dX11_line_10 : decode cX11_line 10 = .ok (.iconst (-1), 1) := by decide +kernel
theorem dX11_line_11 : decode cX11_line 11 = .ok (.ireturn, 1) := by decide +kernel
theorem dX11_line_12 : decode cX11_line 12 = .ok (.aload_n 0, 1) := by decide +kernel
theorem dX11_line_13 : decode cX11_line 13 = .ok (.getfield 61, 3) := by decide +kernel
theorem dX11_line_16 : decode cX11_line 16 = .ok (.aload_n 0, 1) := by decide +kernel
theorem dX11_line_17 : decode cX11_line 17 = .ok (.getfield 30, 3) := by decide +kernel
theorem dX11_line_20 : decode cX11_line 20 = .ok (.invokevirtual 308, 3) := by decide +kernel
theorem dX11_line_23 : decode cX11_line 23 = .ok (.iload_n 1, 1) := by decide +kernel
theorem dX11_line_24 : decode cX11_line 24 = .ok (.ifCond .ne 11, 3) := by decide +kernel
theorem dX11_line_27 : decode cX11_line 27 = .ok (.aload_n 0, 1) := by decide +kernel
theorem dX11_line_28 : decode cX11_line 28 = .ok (.getfield 61, 3) := by decide +kernel
theorem dX11_line_31 : decode cX11_line 31 = .ok (.getfield 253, 3) := by decide +kernel
theorem dX11_line_34 : decode cX11_line 34 = .ok (.ireturn, 1) := by decide +kernel
theorem dX11_line_35 : decode cX11_line 35 = .ok (.iload_n 1, 1) := by decide +kernel
theorem dX11_line_36 : decode cX11_line 36 = .ok (.aload_n 0, 1) := by decide +kernel
theorem dX11_line_37 : decode cX11_line 37 = .ok (.getfield 61, 3) := by decide +kernel
theorem dX11_line_40 : decode cX11_line 40 = .ok (.getfield 253, 3) := by decide +kernel
theorem dX11_line_43 : decode cX11_line 43 = .ok (.if_icmp .gt 17, 3) := by decide +kernel
theorem dX11_line_46 : decode cX11_line 46 = .ok (.aload_n 0, 1) := by decide +kernel
theorem dX11_line_47 : decode cX11_line 47 = .ok (.getfield 61, 3) := by decide +kernel
theorem dX11_line_50 : decode cX11_line 50 = .ok (.getfield 256, 3) := by decide +kernel
theorem dX11_line_53 : decode cX11_line 53 = .ok (.iload_n 1, 1) := by decide +kernel
theorem dX11_line_54 : decode cX11_line 54 = .ok (.iconst 1, 1) := by decide +kernel
theorem dX11_line_55 : decode cX11_line 55 = .ok (.isub, 1) := by decide +kernel
theorem dX11_line_56 : decode cX11_line 56 = .ok (.iaload, 1) := by decide +kernel
theorem dX11_line_57 : decode cX11_line 57 = .ok (.goto 5, 3) := by decide +kernel
theorem dX11_line_60 : decode cX11_line 60 = .ok (.bipush (-2), 2) := by decide +kernel
theorem dX11_line_62 : decode cX11_line 62 = .ok (.ireturn, 1) := by decide +kernel
theorem dX11_quote_0 : decode cX11_quote 0 = .ok (.aload_n 0, 1) := by decide +kernel
theorem dX11_quote_1 : decode cX11_quote 1 = .ok (.iload_n 1, 1) := by decide +kernel
theorem dX11_quote_2 : decode cX11_quote 2 = .ok (.invokevirtual 129, 3) := by decide +kernel
theorem dX11_quote_5 : decode cX11_quote 5 = .ok (.ifCond .eq 16, 3) := by decide +kernel
theorem dX11_quote_8 : decode cX11_quote 8 = .ok (.aload_n 0, 1) := by decide +kernel
theorem dX11_quote_9 : decode cX11_quote 9 = .ok (.iload_n 2, 1) := by decide +kernel
theorem dX11_quote_10 : decode cX11_quote 10 = .ok (.invokevirtual 129, 3) := by decide +kernel
theorem dX11_quote_13 : decode cX11_quote 13 = .ok (.ifCond .eq 8, 3) := by decide +kernel
theorem dX11_quote_16 : decode cX11_quote 16 = .ok (.iload_n 1, 1) := by decide +kernel
theorem dX11_quote_17 : decode cX11_quote 17 = .ok (.iload_n 2, 1) := by decide +kernel
theorem dX11_quote_18 : decode cX11_quote 18 = .ok (.if_icmp .ne 5, 3) := by decide +kernel
theorem dX11_quote_21 : decode cX11_quote 21 = .ok (.iconst (-1), 1) := by decide +kernel
theorem dX11_quote_22 : decode cX11_quote 22 = .ok (.ireturn, 1) := by decide +kernel
theorem dX11_quote_23 : decode cX11_quote 23 = .ok (.aload_n 0, 1) := by decide +kernel
theorem dX11_quote_24 : decode cX11_quote 24 = .ok (.getfield 54, 3) := by decide +kernel
theorem dX11_quote_27 : decode cX11_quote 27 = .ok (.aload_n 0, 1) := by decide +kernel
theorem dX11_quote_28 : decode cX11_quote 28 = .ok (.getfield 30, 3) := by decide +kernel
theorem dX11_quote_31 : decode cX11_quote 31 = .ok (.invokevirtual 231, 3) := by decide +kernel
theorem dX11_quote_34 : decode cX11_quote 34 = .ok (.aload_n 0, 1) := by decide +kernel
theorem dX11_quote_35 : decode cX11_quote 35 = .ok (.getfield 54, 3) := by decide +kernel
theorem dX11_quote_38 : decode cX11_quote 38 = .ok (.iload_n 1, 1) := by decide +kernel
theorem dX11_quote_39 : decode cX11_quote 39 = .ok (.iload_n 2, 1) := by decide +kernel
theorem dX11_quote_40 : decode cX11_quote 40 = .ok (.invokevirtual 311, 3) := by decide +kernel
theorem dX11_quote_43 : decode cX11_quote 43 = .ok (.ireturn, 1) := by decide +kernel
theorem dX11_merriest_0 : decode cX11_merriest 0 = .ok (.bipush (-2), 2) := by decide +kernel
theorem dX11_merriest_2 : decode cX11_merriest 2 = .ok (.istore_n 1, 1) := by decide +kernel
theorem dX11_merriest_3 : decode cX11_merriest 3 = .ok (.iconst 0, 1) := by decide +kernel
theorem dX11_merriest_4 : decode cX11_merriest 4 = .ok (.istore_n 2, 1) := by decide +kernel
theorem dX11_merriest_5 : decode cX11_merriest 5 = .ok (.iconst 0, 1) := by decide +kernel
theorem dX11_merriest_6 : decode cX11_merriest 6 = .ok (.istore_n 3, 1) := by decide +kernel
theorem dX11_merriest_7 : decode cX11_merriest 7 = .ok (.iload_n 3, 1) := by decide +kernel
theorem dX11_merriest_8 : decode cX11_merriest 8 = .ok (.aload_n 0, 1) := by decide +kernel
theorem dX11_merriest_9 : decode cX11_merriest 9 = .ok (.getfield 30, 3) := by decide +kernel
theorem dX11_merriest_12 : decode cX11_merriest 12 = .ok (.getfield 263, 3) := by decide +kernel
theorem dX11_merriest_15 : decode cX11_merriest 15 = .ok (.if_icmp .ge 40, 3) := by decide +kernel
theorem dX11_merriest_18 : decode cX11_merriest 18 = .ok (.aload_n 0, 1) := by decide +kernel
theorem dX11_merriest_19 : decode cX11_merriest 19 = .ok (.getfield 30, 3) := by decide +kernel
theorem dX11_merriest_22 : decode cX11_merriest 22 = .ok (.getfield 140, 3) := by decide +kernel
theorem dX11_merriest_25 : decode cX11_merriest 25 = .ok (.iload_n 3, 1) := by decide +kernel
theorem dX11_merriest_26 : decode cX11_merriest 26 = .ok (.aaload, 1) := by decide +kernel
theorem dX11_merriest_27 : decode cX11_merriest 27 = .ok (.getfield 156, 3) := by decide +kernel
theorem dX11_merriest_30 : decode cX11_merriest 30 = .ok (.iload_n 2, 1) := by decide +kernel
theorem dX11_merriest_31 : decode cX11_merriest 31 = .ok (.if_icmp .le 18, 3) := by decide +kernel
theorem dX11_merriest_34 : decode cX11_merriest 34 = .ok (.aload_n 0, 1) := by decide +kernel
theorem dX11_merriest_35 : decode cX11_merriest 35 = .ok (.getfield 30, 3) := by decide +kernel
theorem dX11_merriest_38 : decode cX11_merriest 38 = .ok (.getfield 140, 3) := by decide +kernel
theorem dX11_merriest_41 : decode cX11_merriest 41 = .ok (.iload_n 3, 1) := by decide +kernel
theorem dX11_merriest_42 : decode cX11_merriest 42 = .ok (.aaload, 1) := by decide +kernel
theorem dX11_merriest_43 : decode cX11_merriest 43 = .ok (.getfield 156, 3) := by decide +kernel
theorem dX11_merriest_46 : decode cX11_merriest 46 = .ok (.istore_n 2, 1) := by decide +kernel
theorem dX11_merriest_47 : decode cX11_merriest 47 = .ok (.iload_n 3, 1) := by decide +kernel
theorem dX11_merriest_48 : decode cX11_merriest 48 = .ok (.istore_n 1, 1) := by decide +kernel
theorem dX11_merriest_49 : decode cX11_merriest 49 = .ok (.iinc 3 1, 3) := by decide +kernel
theorem dX11_merriest_52 : decode cX11_merriest 52 = .ok (.goto (-45), 3) := by decide +kernel
theorem dX11_merriest_55 : decode cX11_merriest 55 = .ok (.iload_n 1, 1) := by decide +kernel
theorem dX11_merriest_56 : decode cX11_merriest 56 = .ok (.ireturn, 1) := by decide +kernel
theorem dX11_silent_0 : decode cX11_silent 0 = .ok (.iconst 0, 1) := by decide +kernel
theorem dX11_silent_1 : decode cX11_silent 1 = .ok (.istore_n 1, 1) := by decide +kernel
theorem dX11_silent_2 : decode cX11_silent 2 = .ok (.iconst 0, 1) := by decide +kernel
theorem dX11_silent_3 : decode cX11_silent 3 = .ok (.istore_n 2, 1) := by decide +kernel
theorem dX11_silent_4 : decode cX11_silent 4 = .ok (.iload_n 2, 1) := by decide +kernel
theorem dX11_silent_5 : decode cX11_silent 5 = .ok (.aload_n 0, 1) := by decide +kernel
theorem dX11_silent_6 : decode cX11_silent 6 = .ok (.getfield 30, 3) := by decide +kernel
theorem dX11_silent_9 : decode cX11_silent 9 = .ok (.getfield 263, 3) := by decide +kernel
theorem dX11_silent_12 : decode cX11_silent 12 = .ok (.if_icmp .ge 30, 3) := by decide +kernel
theorem dX11_silent_15 : decode cX11_silent 15 = .ok (.aload_n 0, 1) := by decide +kernel
theorem dX11_silent_16 : decode cX11_silent 16 = .ok (.getfield 30, 3) := by decide +kernel
theorem dX11_silent_19 : decode cX11_silent 19 = .ok (.getfield 140, 3) := by decide +kernel
theorem dX11_silent_22 : decode cX11_silent 22 = .ok (.iload_n 2, 1) := by decide +kernel
theorem dX11_silent_23 : decode cX11_silent 23 = .ok (.aaload, 1) := by decide +kernel
theorem dX11_silent_24 : decode cX11_silent 24 = .ok (.invokevirtual 275, 3) := by decide +kernel
theorem dX11_silent_27 : decode cX11_silent 27 = .ok (.ifCond .ne 9, 3) := by decide +kernel
theorem dX11_silent_30 : decode cX11_silent 30 = .ok (.iload_n 1, 1) := by decide +kernel
theorem dX11_silent_31 : decode cX11_silent 31 = .ok (.iconst 1, 1) := by decide +kernel
theorem dX11_silent_32 : decode cX11_silent 32 = .ok (.iload_n 2, 1) := by decide +kernel
theorem dX11_silent_33 : decode cX11_silent 33 = .ok (.ishl, 1) := by decide +kernel
theorem dX11_silent_34 : decode cX11_silent 34 = .ok (.ior, 1) := by decide +kernel
theorem dX11_silent_35 : decode cX11_silent 35 = .ok (.istore_n 1, 1) := by decide +kernel
theorem dX11_silent_36 : decode cX11_silent 36 = .ok (.iinc 2 1, 3) := by decide +kernel
theorem dX11_silent_39 : decode cX11_silent 39 = .ok (.goto (-35), 3) := by decide +kernel
theorem dX11_silent_42 : decode cX11_silent 42 = .ok (.iload_n 1, 1) := by decide +kernel
theorem dX11_silent_43 : decode cX11_silent 43 = .ok (.ireturn, 1) := by decide +kernel
theorem dX11_runDown_0 : decode cX11_runDown 0 = .ok (.iload_n 1, 1) := by decide +kernel
theorem dX11_runDown_1 : decode cX11_runDown 1 = .ok (.iconst 0, 1) := by decide +kernel
theorem dX11_runDown_2 : decode cX11_runDown 2 = .ok (.bipush 99, 2) := by decide +kernel
theorem dX11_runDown_4 : decode cX11_runDown 4 = .ok (.invokestatic 170, 3) := by decide +kernel
theorem dX11_runDown_7 : decode cX11_runDown 7 = .ok (.ifCond .ne 5, 3) := by decide +kernel
theorem dX11_runDown_10 : decode cX11_runDown 10 = .ok (.iconst (-1), 1) := by decide +kernel
theorem dX11_runDown_11 : decode cX11_runDown 11 = .ok (.ireturn, 1) := by decide +kernel
theorem dX11_runDown_12 : decode cX11_runDown 12 = .ok (.iconst 0, 1) := by decide +kernel
theorem dX11_runDown_13 : decode cX11_runDown 13 = .ok (.istore_n 2, 1) := by decide +kernel
theorem dX11_runDown_14 : decode cX11_runDown 14 = .ok (.iconst 0, 1) := by decide +kernel
theorem dX11_runDown_15 : decode cX11_runDown 15 = .ok (.istore_n 3, 1) := by decide +kernel
theorem dX11_runDown_16 : decode cX11_runDown 16 = .ok (.iload_n 3, 1) := by decide +kernel
theorem dX11_runDown_17 : decode cX11_runDown 17 = .ok (.aload_n 0, 1) := by decide +kernel
theorem dX11_runDown_18 : decode cX11_runDown 18 = .ok (.getfield 30, 3) := by decide +kernel
theorem dX11_runDown_21 : decode cX11_runDown 21 = .ok (.getfield 263, 3) := by decide +kernel
theorem dX11_runDown_24 : decode cX11_runDown 24 = .ok (.if_icmp .ge 62, 3) := by decide +kernel
theorem dX11_runDown_27 : decode cX11_runDown 27 = .ok (.aload_n 0, 1) := by decide +kernel
theorem dX11_runDown_28 : decode cX11_runDown 28 = .ok (.getfield 68, 3) := by decide +kernel
theorem dX11_runDown_31 : decode cX11_runDown 31 = .ok (.aload_n 0, 1) := by decide +kernel
theorem dX11_runDown_32 : decode cX11_runDown 32 = .ok (.getfield 30, 3) := by decide +kernel
theorem dX11_runDown_35 : decode cX11_runDown 35 = .ok (.getfield 140, 3) := by decide +kernel
theorem dX11_runDown_38 : decode cX11_runDown 38 = .ok (.iload_n 3, 1) := by decide +kernel
theorem dX11_runDown_39 : decode cX11_runDown 39 = .ok (.aaload, 1) := by decide +kernel
theorem dX11_runDown_40 : decode cX11_runDown 40 = .ok (.invokevirtual 223, 3) := by decide +kernel
theorem dX11_runDown_43 : decode cX11_runDown 43 = .ok (.aload_n 0, 1) := by decide +kernel
theorem dX11_runDown_44 : decode cX11_runDown 44 = .ok (.iload_n 1, 1) := by decide +kernel
theorem dX11_runDown_45 : decode cX11_runDown 45 = .ok (.iconst 0, 1) := by decide +kernel
theorem dX11_runDown_46 : decode cX11_runDown 46 = .ok (.invokevirtual 227, 3) := by decide +kernel
theorem dX11_runDown_49 : decode cX11_runDown 49 = .ok (.aload_n 0, 1) := by decide +kernel
theorem dX11_runDown_50 : decode cX11_runDown 50 = .ok (.getfield 68, 3) := by decide +kernel
theorem dX11_runDown_53 : decode cX11_runDown 53 = .ok (.getfield 144, 3) := by decide +kernel
theorem dX11_runDown_56 : decode cX11_runDown 56 = .ok (.ifCond .ne 24, 3) := by decide +kernel
theorem dX11_runDown_59 : decode cX11_runDown 59 = .ok (.aload_n 0, 1) := by decide +kernel
theorem dX11_runDown_60 : decode cX11_runDown 60 = .ok (.getfield 30, 3) := by decide +kernel
theorem dX11_runDown_63 : decode cX11_runDown 63 = .ok (.getfield 140, 3) := by decide +kernel
theorem dX11_runDown_66 : decode cX11_runDown 66 = .ok (.iload_n 3, 1) := by decide +kernel
theorem dX11_runDown_67 : decode cX11_runDown 67 = .ok (.aaload, 1) := by decide +kernel
theorem dX11_runDown_68 : decode cX11_runDown 68 = .ok (.getfield 144, 3) := by decide +kernel
theorem dX11_runDown_71 : decode cX11_runDown 71 = .ok (.ifCond .le 9, 3) := by decide +kernel
theorem dX11_runDown_74 : decode cX11_runDown 74 = .ok (.iload_n 2, 1) := by decide +kernel
theorem dX11_runDown_75 : decode cX11_runDown 75 = .ok (.iconst 1, 1) := by decide +kernel
theorem dX11_runDown_76 : decode cX11_runDown 76 = .ok (.iload_n 3, 1) := by decide +kernel
theorem dX11_runDown_77 : decode cX11_runDown 77 = .ok (.ishl, 1) := by decide +kernel
theorem dX11_runDown_78 : decode cX11_runDown 78 = .ok (.ior, 1) := by decide +kernel
theorem dX11_runDown_79 : decode cX11_runDown 79 = .ok (.istore_n 2, 1) := by decide +kernel
theorem dX11_runDown_80 : decode cX11_runDown 80 = .ok (.iinc 3 1, 3) := by decide +kernel
theorem dX11_runDown_83 : decode cX11_runDown 83 = .ok (.goto (-67), 3) := by decide +kernel
theorem dX11_runDown_86 : decode cX11_runDown 86 = .ok (.iload_n 2, 1) := by decide +kernel
theorem dX11_runDown_87 : decode cX11_runDown 87 = .ok (.ireturn, 1) := by decide +kernel
theorem dX11_find_0 : decode cX11_find 0 = .ok (.iload_n 1, 1) := by decide +kernel
theorem dX11_find_1 : decode cX11_find 1 = .ok (.iconst 0, 1) := by decide +kernel
theorem dX11_find_2 : decode cX11_find 2 = .ok (.bipush 7, 2) := by decide +kernel
theorem dX11_find_4 : decode cX11_find 4 = .ok (.invokestatic 170, 3) := by decide +kernel
theorem dX11_find_7 : decode cX11_find 7 = .ok (.ifCond .eq 13, 3) := by decide +kernel
theorem dX11_find_10 : decode cX11_find 10 = .ok (.iload_n 2, 1) := by decide +kernel
theorem dX11_find_11 : decode cX11_find 11 = .ok (.iconst 0, 1) := by decide +kernel
theorem dX11_find_12 : decode cX11_find 12 = .ok (.bipush 9, 2) := by decide +kernel
theorem dX11_find_14 : decode cX11_find 14 = .ok (.invokestatic 170, 3) := by decide +kernel
theorem dX11_find_17 : decode cX11_find 17 = .ok (.ifCond .ne 5, 3) := by decide +kernel
theorem dX11_find_20 : decode cX11_find 20 = .ok (.iconst (-1), 1) := by decide +kernel
theorem dX11_find_21 : decode cX11_find 21 = .ok (.ireturn, 1) := by decide +kernel
theorem dX11_find_22 : decode cX11_find 22 = .ok (.aload_n 0, 1) := by decide +kernel
theorem dX11_find_23 : decode cX11_find 23 = .ok (.getfield 47, 3) := by decide +kernel
theorem dX11_find_26 : decode cX11_find 26 = .ok (.iload_n 1, 1) := by decide +kernel
theorem dX11_find_27 : decode cX11_find 27 = .ok (.iload_n 2, 1) := by decide +kernel
theorem dX11_find_28 : decode cX11_find 28 = .ok (.iload_n 3, 1) := by decide +kernel
theorem dX11_find_29 : decode cX11_find 29 = .ok (.invokevirtual 314, 3) := by decide +kernel
theorem dX11_find_32 : decode cX11_find 32 = .ok (.ireturn, 1) := by decide +kernel
theorem dX11_strike_0 : decode cX11_strike 0 = .ok (.iload_n 1, 1) := by decide +kernel
theorem dX11_strike_1 : decode cX11_strike 1 = .ok (.iconst 0, 1) := by decide +kernel
theorem dX11_strike_2 : decode cX11_strike 2 = .ok (.aload_n 0, 1) := by decide +kernel
theorem dX11_strike_3 : decode cX11_strike 3 = .ok (.getfield 47, 3) := by decide +kernel
theorem dX11_strike_6 : decode cX11_strike 6 = .ok (.getfield 318, 3) := by decide +kernel
theorem dX11_strike_9 : decode cX11_strike 9 = .ok (.iconst 1, 1) := by decide +kernel
theorem dX11_strike_10 : decode cX11_strike 10 = .ok (.isub, 1) := by decide +kernel
theorem dX11_strike_11 : decode cX11_strike 11 = .ok (.invokestatic 170, 3) := by decide +kernel
theorem dX11_strike_14 : decode cX11_strike 14 = .ok (.ifCond .eq 14, 3) := by decide +kernel
theorem dX11_strike_17 : decode cX11_strike 17 = .ok (.aload_n 0, 1) := by decide +kernel
theorem dX11_strike_18 : decode cX11_strike 18 = .ok (.getfield 47, 3) := by decide +kernel
theorem dX11_strike_21 : decode cX11_strike 21 = .ok (.iload_n 1, 1) := by decide +kernel
theorem dX11_strike_22 : decode cX11_strike 22 = .ok (.invokevirtual 319, 3) := by decide +kernel
theorem dX11_strike_25 : decode cX11_strike 25 = .ok (.goto 4, 3) := by decide +kernel
theorem dX11_strike_28 : decode cX11_strike 28 = .ok (.iconst (-1), 1) := by decide +kernel
theorem dX11_strike_29 : decode cX11_strike 29 = .ok (.ireturn, 1) := by decide +kernel
theorem dX11_known_0 : decode cX11_known 0 = .ok (.iload_n 1, 1) := by decide +kernel
theorem dX11_known_1 : decode cX11_known 1 = .ok (.iconst (-1), 1) := by decide +kernel
theorem dX11_known_2 : decode cX11_known 2 = .ok (.aload_n 0, 1) := by decide +kernel
theorem dX11_known_3 : decode cX11_known 3 = .ok (.getfield 47, 3) := by decide +kernel
theorem dX11_known_6 : decode cX11_known 6 = .ok (.getfield 318, 3) := by decide +kernel
theorem dX11_known_9 : decode cX11_known 9 = .ok (.invokestatic 170, 3) := by decide +kernel
theorem dX11_known_12 : decode cX11_known 12 = .ok (.ifCond .ne 5, 3) := by decide +kernel
theorem dX11_known_15 : decode cX11_known 15 = .ok (.iconst 0, 1) := by decide +kernel
theorem dX11_known_16 : decode cX11_known 16 = .ok (.ireturn, 1) := by decide +kernel
theorem dX11_known_17 : decode cX11_known 17 = .ok (.aload_n 0, 1) := by decide +kernel
theorem dX11_known_18 : decode cX11_known 18 = .ok (.getfield 47, 3) := by decide +kernel
theorem dX11_known_21 : decode cX11_known 21 = .ok (.iload_n 1, 1) := by decide +kernel
theorem dX11_known_22 : decode cX11_known 22 = .ok (.putfield 322, 3) := by decide +kernel
theorem dX11_known_25 : decode cX11_known 25 = .ok (.iconst 1, 1) := by decide +kernel
theorem dX11_known_26 : decode cX11_known 26 = .ok (.ireturn, 1) := by decide +kernel
theorem dX11_sours_0 : decode cX11_sours 0 = .ok (.aload_n 0, 1) := by decide +kernel
theorem dX11_sours_1 : decode cX11_sours 1 = .ok (.iload_n 1, 1) := by decide +kernel
theorem dX11_sours_2 : decode cX11_sours 2 = .ok (.invokevirtual 129, 3) := by decide +kernel
theorem dX11_sours_5 : decode cX11_sours 5 = .ok (.ifCond .ne 5, 3) := by decide +kernel
theorem dX11_sours_8 : decode cX11_sours 8 = .ok (.iconst (-1), 1) := by decide +kernel
theorem dX11_sours_9 : decode cX11_sours 9 = .ok (.ireturn, 1) := by decide +kernel
theorem dX11_sours_10 : decode cX11_sours 10 = .ok (.aload_n 0, 1) := by decide +kernel
theorem dX11_sours_11 : decode cX11_sours 11 = .ok (.getfield 47, 3) := by decide +kernel
theorem dX11_sours_14 : decode cX11_sours 14 = .ok (.invokevirtual 325, 3) := by decide +kernel
theorem dX11_sours_17 : decode cX11_sours 17 = .ok (.iconst 0, 1) := by decide +kernel
theorem dX11_sours_18 : decode cX11_sours 18 = .ok (.istore_n 2, 1) := by decide +kernel
theorem dX11_sours_19 : decode cX11_sours 19 = .ok (.iconst 0, 1) := by decide +kernel
theorem dX11_sours_20 : decode cX11_sours 20 = .ok (.istore_n 3, 1) := by decide +kernel
theorem dX11_sours_21 : decode cX11_sours 21 = .ok (.iload_n 3, 1) := by decide +kernel
theorem dX11_sours_22 : decode cX11_sours 22 = .ok (.bipush 10, 2) := by decide +kernel
theorem dX11_sours_24 : decode cX11_sours 24 = .ok (.if_icmp .ge 37, 3) := by decide +kernel
theorem dX11_sours_27 : decode cX11_sours 27 = .ok (.aload_n 0, 1) := by decide +kernel
theorem dX11_sours_28 : decode cX11_sours 28 = .ok (.getfield 47, 3) := by decide +kernel
theorem dX11_sours_31 : decode cX11_sours 31 = .ok (.aload_n 0, 1) := by decide +kernel
theorem dX11_sours_32 : decode cX11_sours 32 = .ok (.getfield 30, 3) := by decide +kernel
theorem dX11_sours_35 : decode cX11_sours 35 = .ok (.getfield 140, 3) := by decide +kernel
theorem dX11_sours_38 : decode cX11_sours 38 = .ok (.iload_n 1, 1) := by decide +kernel
theorem dX11_sours_39 : decode cX11_sours 39 = .ok (.aaload, 1) := by decide +kernel
theorem dX11_sours_40 : decode cX11_sours 40 = .ok (.iconst 5, 1) := by decide +kernel
theorem dX11_sours_41 : decode cX11_sours 41 = .ok (.iload_n 3, 1) := by decide +kernel
theorem dX11_sours_42 : decode cX11_sours 42 = .ok (.imul, 1) := by decide +kernel
theorem dX11_sours_43 : decode cX11_sours 43 = .ok (.invokevirtual 328, 3) := by decide +kernel
theorem dX11_sours_46 : decode cX11_sours 46 = .ok (.ifCond .eq 9, 3) := by decide +kernel
theorem dX11_sours_49 : decode cX11_sours 49 = .ok (.iload_n 2, 1) := by decide +kernel
theorem dX11_sours_50 : decode cX11_sours 50 = .ok (.iconst 1, 1) := by decide +kernel
theorem dX11_sours_51 : decode cX11_sours 51 = .ok (.iload_n 3, 1) := by decide +kernel
theorem dX11_sours_52 : decode cX11_sours 52 = .ok (.ishl, 1) := by decide +kernel
theorem dX11_sours_53 : decode cX11_sours 53 = .ok (.ior, 1) := by decide +kernel
theorem dX11_sours_54 : decode cX11_sours 54 = .ok (.istore_n 2, 1) := by decide +kernel
theorem dX11_sours_55 : decode cX11_sours 55 = .ok (.iinc 3 1, 3) := by decide +kernel
theorem dX11_sours_58 : decode cX11_sours 58 = .ok (.goto (-37), 3) := by decide +kernel
theorem dX11_sours_61 : decode cX11_sours 61 = .ok (.iload_n 2, 1) := by decide +kernel
theorem dX11_sours_62 : decode cX11_sours 62 = .ok (.ireturn, 1) := by decide +kernel
theorem dX11_chance_0 : decode cX11_chance 0 = .ok (.aload_n 0, 1) := by decide +kernel
theorem dX11_chance_1 : decode cX11_chance 1 = .ok (.iload_n 3, 1) := by decide +kernel
theorem dX11_chance_2 : decode cX11_chance 2 = .ok (.invokevirtual 129, 3) := by decide +kernel
theorem dX11_chance_5 : decode cX11_chance 5 = .ok (.ifCond .eq 28, 3) := by decide +kernel
theorem dX11_chance_8 : decode cX11_chance 8 = .ok (.iload_n 1, 1) := by decide +kernel
theorem dX11_chance_9 : decode cX11_chance 9 = .ok (.ifCond .lt 24, 3) := by decide +kernel
theorem dX11_chance_12 : decode cX11_chance 12 = .ok (.iload_n 2, 1) := by decide +kernel
theorem dX11_chance_13 : decode cX11_chance 13 = .ok (.iconst 1, 1) := by decide +kernel
theorem dX11_chance_14 : decode cX11_chance 14 = .ok (.bipush 99, 2) := by decide +kernel
theorem dX11_chance_16 : decode cX11_chance 16 = .ok (.invokestatic 170, 3) := by decide +kernel
theorem dX11_chance_19 : decode cX11_chance 19 = .ok (.ifCond .eq 14, 3) := by decide +kernel
theorem dX11_chance_22 : decode cX11_chance 22 = .ok (.iload 4, 2) := by decide +kernel
theorem dX11_chance_24 : decode cX11_chance 24 = .ok (.iconst 0, 1) := by decide +kernel
theorem dX11_chance_25 : decode cX11_chance 25 = .ok (.bipush 99, 2) := by decide +kernel
theorem dX11_chance_27 : decode cX11_chance 27 = .ok (.invokestatic 170, 3) := by decide +kernel
theorem dX11_chance_30 : decode cX11_chance 30 = .ok (.ifCond .ne 5, 3) := by decide +kernel
theorem dX11_chance_33 : decode cX11_chance 33 = .ok (.iconst (-1), 1) := by decide +kernel
theorem dX11_chance_34 : decode cX11_chance 34 = .ok (.ireturn, 1) := by decide +kernel
theorem dX11_chance_35 : decode cX11_chance 35 = .ok (.iload_n 1, 1) := by decide +kernel
theorem dX11_chance_36 : decode cX11_chance 36 = .ok (.istore 5, 2) := by decide +kernel
theorem dX11_chance_38 : decode cX11_chance 38 = .ok (.iconst 0, 1) := by decide +kernel
theorem dX11_chance_39 : decode cX11_chance 39 = .ok (.istore 6, 2) := by decide +kernel
theorem dX11_chance_41 : decode cX11_chance 41 = .ok (.iconst 0, 1) := by decide +kernel
theorem dX11_chance_42 : decode cX11_chance 42 = .ok (.istore 7, 2) := by decide +kernel
theorem dX11_chance_44 : decode cX11_chance 44 = .ok (.iload 7, 2) := by decide +kernel
theorem dX11_chance_46 : decode cX11_chance 46 = .ok (.bipush 10, 2) := by decide +kernel
theorem dX11_chance_48 : decode cX11_chance 48 = .ok (.if_icmp .ge 49, 3) := by decide +kernel
theorem dX11_chance_51 : decode cX11_chance 51 = .ok (.aload_n 0, 1) := by decide +kernel
theorem dX11_chance_52 : decode cX11_chance 52 = .ok (.getfield 68, 3) := by decide +kernel
theorem dX11_chance_55 : decode cX11_chance 55 = .ok (.aload_n 0, 1) := by decide +kernel
theorem dX11_chance_56 : decode cX11_chance 56 = .ok (.getfield 30, 3) := by decide +kernel
theorem dX11_chance_59 : decode cX11_chance 59 = .ok (.getfield 140, 3) := by decide +kernel
theorem dX11_chance_62 : decode cX11_chance 62 = .ok (.iload_n 3, 1) := by decide +kernel
theorem dX11_chance_63 : decode cX11_chance 63 = .ok (.aaload, 1) := by decide +kernel
theorem dX11_chance_64 : decode cX11_chance 64 = .ok (.invokevirtual 223, 3) := by decide +kernel
theorem dX11_chance_67 : decode cX11_chance 67 = .ok (.aload_n 0, 1) := by decide +kernel
theorem dX11_chance_68 : decode cX11_chance 68 = .ok (.iload 5, 2) := by decide +kernel
theorem dX11_chance_70 : decode cX11_chance 70 = .ok (.iload_n 2, 1) := by decide +kernel
theorem dX11_chance_71 : decode cX11_chance 71 = .ok (.invokevirtual 332, 3) := by decide +kernel
theorem dX11_chance_74 : decode cX11_chance 74 = .ok (.istore 5, 2) := by decide +kernel
theorem dX11_chance_76 : decode cX11_chance 76 = .ok (.aload_n 0, 1) := by decide +kernel
theorem dX11_chance_77 : decode cX11_chance 77 = .ok (.getfield 68, 3) := by decide +kernel
theorem dX11_chance_80 : decode cX11_chance 80 = .ok (.getfield 150, 3) := by decide +kernel
theorem dX11_chance_83 : decode cX11_chance 83 = .ok (.iload 4, 2) := by decide +kernel
theorem dX11_chance_85 : decode cX11_chance 85 = .ok (.if_icmp .lt 6, 3) := by decide +kernel
theorem dX11_chance_88 : decode cX11_chance 88 = .ok (.iinc 6 1, 3) := by decide +kernel
theorem dX11_chance_91 : decode cX11_chance 91 = .ok (.iinc 7 1, 3) := by decide +kernel
theorem dX11_chance_94 : decode cX11_chance 94 = .ok (.goto (-50), 3) := by decide +kernel
theorem dX11_chance_97 : decode cX11_chance 97 = .ok (.iload 6, 2) := by decide +kernel
theorem dX11_chance_99 : decode cX11_chance 99 = .ok (.ireturn, 1) := by decide +kernel
theorem dX11_tried_0 : decode cX11_tried 0 = .ok (.iload_n 1, 1) := by decide +kernel
theorem dX11_tried_1 : decode cX11_tried 1 = .ok (.iconst 0, 1) := by decide +kernel
theorem dX11_tried_2 : decode cX11_tried 2 = .ok (.iconst 4, 1) := by decide +kernel
theorem dX11_tried_3 : decode cX11_tried 3 = .ok (.invokestatic 170, 3) := by decide +kernel
theorem dX11_tried_6 : decode cX11_tried 6 = .ok (.ifCond .eq 13, 3) := by decide +kernel
theorem dX11_tried_9 : decode cX11_tried 9 = .ok (.iload_n 3, 1) := by decide +kernel
theorem dX11_tried_10 : decode cX11_tried 10 = .ok (.iconst 0, 1) := by decide +kernel
theorem dX11_tried_11 : decode cX11_tried 11 = .ok (.bipush 99, 2) := by decide +kernel
theorem dX11_tried_13 : decode cX11_tried 13 = .ok (.invokestatic 170, 3) := by decide +kernel
theorem dX11_tried_16 : decode cX11_tried 16 = .ok (.ifCond .ne 5, 3) := by decide +kernel
theorem dX11_tried_19 : decode cX11_tried 19 = .ok (.iconst (-1), 1) := by decide +kernel
theorem dX11_tried_20 : decode cX11_tried 20 = .ok (.ireturn, 1) := by decide +kernel
theorem dX11_tried_21 : decode cX11_tried 21 = .ok (.iload_n 1, 1) := by decide +kernel
theorem dX11_tried_22 : decode cX11_tried 22 = .ok (.iconst 2, 1) := by decide +kernel
theorem dX11_tried_23 : decode cX11_tried 23 = .ok (.if_icmp .ne 14, 3) := by decide +kernel
theorem dX11_tried_26 : decode cX11_tried 26 = .ok (.aload_n 0, 1) := by decide +kernel
theorem dX11_tried_27 : decode cX11_tried 27 = .ok (.iload_n 2, 1) := by decide +kernel
theorem dX11_tried_28 : decode cX11_tried 28 = .ok (.invokevirtual 129, 3) := by decide +kernel
theorem dX11_tried_31 : decode cX11_tried 31 = .ok (.ifCond .ne 12, 3) := by decide +kernel
theorem dX11_tried_34 : decode cX11_tried 34 = .ok (.goto 7, 3) := by decide +kernel
theorem dX11_tried_37 : decode cX11_tried 37 = .ok (.iload_n 2, 1) := by decide +kernel
theorem dX11_tried_38 : decode cX11_tried 38 = .ok (.ifCond .eq 5, 3) := by decide +kernel
theorem dX11_tried_41 : decode cX11_tried 41 = .ok (.iconst (-1), 1) := by decide +kernel
theorem dX11_tried_42 : decode cX11_tried 42 = .ok (.ireturn, 1) := by decide +kernel
theorem dX11_tried_43 : decode cX11_tried 43 = .ok (.iconst 0, 1) := by decide +kernel
theorem dX11_tried_44 : decode cX11_tried 44 = .ok (.istore 4, 2) := by decide +kernel
theorem dX11_tried_46 : decode cX11_tried 46 = .ok (.iconst 0, 1) := by decide +kernel
theorem dX11_tried_47 : decode cX11_tried 47 = .ok (.istore 5, 2) := by decide +kernel
theorem dX11_tried_49 : decode cX11_tried 49 = .ok (.iload 5, 2) := by decide +kernel
theorem dX11_tried_51 : decode cX11_tried 51 = .ok (.aload_n 0, 1) := by decide +kernel
theorem dX11_tried_52 : decode cX11_tried 52 = .ok (.getfield 30, 3) := by decide +kernel
theorem dX11_tried_55 : decode cX11_tried 55 = .ok (.getfield 263, 3) := by decide +kernel
theorem dX11_tried_58 : decode cX11_tried 58 = .ok (.if_icmp .ge 68, 3) := by decide +kernel
theorem dX11_tried_61 : decode cX11_tried 61 = .ok (.iload_n 1, 1) := by decide +kernel
theorem dX11_tried_62 : decode cX11_tried 62 = .ok (.iconst 2, 1) := by decide +kernel
theorem dX11_tried_63 : decode cX11_tried 63 = .ok (.if_icmp .ne 9, 3) := by decide +kernel
theorem dX11_tried_66 : decode cX11_tried 66 = .ok (.iload 5, 2) := by decide +kernel
theorem dX11_tried_68 : decode cX11_tried 68 = .ok (.iload_n 2, 1) := by decide +kernel
theorem dX11_tried_69 : decode cX11_tried 69 = .ok (.if_icmp .eq 51, 3) := by decide +kernel
theorem dX11_tried_72 : decode cX11_tried 72 = .ok (.aload_n 0, 1) := by decide +kernel
theorem dX11_tried_73 : decode cX11_tried 73 = .ok (.getfield 68, 3) := by decide +kernel
theorem dX11_tried_76 : decode cX11_tried 76 = .ok (.aload_n 0, 1) := by decide +kernel
theorem dX11_tried_77 : decode cX11_tried 77 = .ok (.getfield 30, 3) := by decide +kernel
theorem dX11_tried_80 : decode cX11_tried 80 = .ok (.getfield 140, 3) := by decide +kernel
theorem dX11_tried_83 : decode cX11_tried 83 = .ok (.iload 5, 2) := by decide +kernel
theorem dX11_tried_85 : decode cX11_tried 85 = .ok (.aaload, 1) := by decide +kernel
theorem dX11_tried_86 : decode cX11_tried 86 = .ok (.invokevirtual 223, 3) := by decide +kernel
theorem dX11_tried_89 : decode cX11_tried 89 = .ok (.aload_n 0, 1) := by decide +kernel
theorem dX11_tried_90 : decode cX11_tried 90 = .ok (.iload_n 1, 1) := by decide +kernel
theorem dX11_tried_91 : decode cX11_tried 91 = .ok (.invokevirtual 335, 3) := by decide +kernel
theorem dX11_tried_94 : decode cX11_tried 94 = .ok (.iload 4, 2) := by decide +kernel
theorem dX11_tried_96 : decode cX11_tried 96 = .ok (.aload_n 0, 1) := by decide +kernel
theorem dX11_tried_97 : decode cX11_tried 97 = .ok (.iload_n 3, 1) := by decide +kernel
theorem dX11_tried_98 : decode cX11_tried 98 = .ok (.iload_n 1, 1) := by decide +kernel
theorem dX11_tried_99 : decode cX11_tried 99 = .ok (.ifCond .eq 14, 3) := by decide +kernel
theorem dX11_tried_102 : decode cX11_tried 102 = .ok (.aload_n 0, 1) := by decide +kernel
theorem dX11_tried_103 : decode cX11_tried 103 = .ok (.invokevirtual 279, 3) := by decide +kernel
theorem dX11_tried_106 : decode cX11_tried 106 = .ok (.ifCond .eq 7, 3) := by decide +kernel
theorem dX11_tried_109 : decode cX11_tried 109 = .ok (.iconst 1, 1) := by decide +kernel
theorem dX11_tried_110 : decode cX11_tried 110 = .ok (.goto 4, 3) := by decide +kernel
theorem dX11_tried_113 : decode cX11_tried 113 = .ok (.iconst 0, 1) := by decide +kernel
theorem dX11_tried_114 : decode cX11_tried 114 = .ok (.invokevirtual 292, 3) := by decide +kernel
theorem dX11_tried_117 : decode cX11_tried 117 = .ok (.iadd, 1) := by decide +kernel
theorem dX11_tried_118 : decode cX11_tried 118 = .ok (.istore 4, 2) := by decide +kernel
theorem dX11_tried_120 : decode cX11_tried 120 = .ok (.iinc 5 1, 3) := by decide +kernel
theorem dX11_tried_123 : decode cX11_tried 123 = .ok (.goto (-74), 3) := by decide +kernel
theorem dX11_tried_126 : decode cX11_tried 126 = .ok (.iload 4, 2) := by decide +kernel
theorem dX11_tried_128 : decode cX11_tried 128 = .ok (.ireturn, 1) := by decide +kernel
theorem dX11_undo_0 : decode cX11_undo 0 = .ok (.aload_n 0, 1) := by decide +kernel
theorem dX11_undo_1 : decode cX11_undo 1 = .ok (.getfield 40, 3) := by decide +kernel
theorem dX11_undo_4 : decode cX11_undo 4 = .ok (.getfield 338, 3) := by decide +kernel
theorem dX11_undo_7 : decode cX11_undo 7 = .ok (.ifCond .ne 5, 3) := by decide +kernel
theorem dX11_undo_10 : decode cX11_undo 10 = .ok (.iconst (-1), 1) := by decide +kernel
theorem dX11_undo_11 : decode cX11_undo 11 = .ok (.ireturn, 1) := by decide +kernel
theorem dX11_undo_12 : decode cX11_undo 12 = .ok (.aload_n 0, 1) := by decide +kernel
theorem dX11_undo_13 : decode cX11_undo 13 = .ok (.getfield 40, 3) := by decide +kernel
theorem dX11_undo_16 : decode cX11_undo 16 = .ok (.aload_n 0, 1) := by decide +kernel
theorem dX11_undo_17 : decode cX11_undo 17 = .ok (.getfield 30, 3) := by decide +kernel
theorem dX11_undo_20 : decode cX11_undo 20 = .ok (.invokevirtual 339, 3) := by decide +kernel
theorem dX11_undo_23 : decode cX11_undo 23 = .ok (.aload_n 0, 1) := by decide +kernel
theorem dX11_undo_24 : decode cX11_undo 24 = .ok (.getfield 40, 3) := by decide +kernel
theorem dX11_undo_27 : decode cX11_undo 27 = .ok (.getfield 338, 3) := by decide +kernel
theorem dX11_undo_30 : decode cX11_undo 30 = .ok (.ireturn, 1) := by decide +kernel
theorem dX11_keep_0 : decode cX11_keep 0 = .ok (.aload_n 0, 1) := by decide +kernel
theorem dX11_keep_1 : decode cX11_keep 1 = .ok (.getfield 34, 3) := by decide +kernel
theorem dX11_keep_4 : decode cX11_keep 4 = .ok (.aload_n 0, 1) := by decide +kernel
theorem dX11_keep_5 : decode cX11_keep 5 = .ok (.getfield 30, 3) := by decide +kernel
theorem dX11_keep_8 : decode cX11_keep 8 = .ok (.invokevirtual 342, 3) := by decide +kernel
theorem dX11_keep_11 : decode cX11_keep 11 = .ok (.aload_n 0, 1) := by decide +kernel
theorem dX11_keep_12 : decode cX11_keep 12 = .ok (.iconst 1, 1) := by decide +kernel
theorem dX11_keep_13 : decode cX11_keep 13 = .ok (.putfield 89, 3) := by decide +kernel
theorem dX11_keep_16 : decode cX11_keep 16 = .ok (.aload_n 0, 1) := by decide +kernel
theorem dX11_keep_17 : decode cX11_keep 17 = .ok (.getfield 30, 3) := by decide +kernel
theorem dX11_keep_20 : decode cX11_keep 20 = .ok (.getfield 198, 3) := by decide +kernel
theorem dX11_keep_23 : decode cX11_keep 23 = .ok (.ireturn, 1) := by decide +kernel
theorem dX11_back_0 : decode cX11_back 0 = .ok (.aload_n 0, 1) := by decide +kernel
theorem dX11_back_1 : decode cX11_back 1 = .ok (.getfield 89, 3) := by decide +kernel
theorem dX11_back_4 : decode cX11_back 4 = .ok (.ifCond .ne 5, 3) := by decide +kernel
theorem dX11_back_7 : decode cX11_back 7 = .ok (.iconst (-1), 1) := by decide +kernel
theorem dX11_back_8 : decode cX11_back 8 = .ok (.ireturn, 1) := by decide +kernel
theorem dX11_back_9 : decode cX11_back 9 = .ok (.aload_n 0, 1) := by decide +kernel
theorem dX11_back_10 : decode cX11_back 10 = .ok (.getfield 30, 3) := by decide +kernel
theorem dX11_back_13 : decode cX11_back 13 = .ok (.aload_n 0, 1) := by decide +kernel
theorem dX11_back_14 : decode cX11_back 14 = .ok (.getfield 34, 3) := by decide +kernel
theorem dX11_back_17 : decode cX11_back 17 = .ok (.invokevirtual 342, 3) := by decide +kernel
theorem dX11_back_20 : decode cX11_back 20 = .ok (.aload_n 0, 1) := by decide +kernel
theorem dX11_back_21 : decode cX11_back 21 = .ok (.getfield 40, 3) := by decide +kernel
theorem dX11_back_24 : decode cX11_back 24 = .ok (.invokevirtual 115, 3) := by decide +kernel
theorem dX11_back_27 : decode cX11_back 27 = .ok (.aload_n 0, 1) := by decide +kernel
theorem dX11_back_28 : decode cX11_back 28 = .ok (.getfield 30, 3) := by decide +kernel
theorem dX11_back_31 : decode cX11_back 31 = .ok (.getfield 198, 3) := by decide +kernel
theorem dX11_back_34 : decode cX11_back 34 = .ok (.ireturn, 1) := by decide +kernel
theorem dX11_count_0 : decode cX11_count 0 = .ok (.iload_n 1, 1) := by decide +kernel
theorem dX11_count_1 : decode cX11_count 1 = .ok (.tableswitch 148 0 12 #[67, 75, 83, 91, 102, 110, 110, 110, 110, 116, 124, 132, 140], 67) := by decide +kernel
theorem dX11_count_68 : decode cX11_count 68 = .ok (.aload_n 0, 1) := by decide +kernel
theorem dX11_count_69 : decode cX11_count 69 = .ok (.getfield 30, 3) := by decide +kernel
theorem dX11_count_72 : decode cX11_count 72 = .ok (.getfield 263, 3) := by decide +kernel
theorem dX11_count_75 : decode cX11_count 75 = .ok (.ireturn, 1) := by decide +kernel
theorem dX11_count_76 : decode cX11_count 76 = .ok (.aload_n 0, 1) := by decide +kernel
theorem dX11_count_77 : decode cX11_count 77 = .ok (.getfield 82, 3) := by decide +kernel
theorem dX11_count_80 : decode cX11_count 80 = .ok (.getfield 344, 3) := by decide +kernel
theorem dX11_count_83 : decode cX11_count 83 = .ok (.ireturn, 1) := by decide +kernel
theorem dX11_count_84 : decode cX11_count 84 = .ok (.aload_n 0, 1) := by decide +kernel
theorem dX11_count_85 : decode cX11_count 85 = .ok (.getfield 82, 3) := by decide +kernel
theorem dX11_count_88 : decode cX11_count 88 = .ok (.getfield 180, 3) := by decide +kernel
theorem dX11_count_91 : decode cX11_count 91 = .ok (.ireturn, 1) := by decide +kernel
theorem dX11_count_92 : decode cX11_count 92 = .ok (.aload_n 0, 1) := by decide +kernel
theorem dX11_count_93 : decode cX11_count 93 = .ok (.getfield 82, 3) := by decide +kernel
theorem dX11_count_96 : decode cX11_count 96 = .ok (.getfield 194, 3) := by decide +kernel
theorem dX11_count_99 : decode cX11_count 99 = .ok (.getfield 347, 3) := by decide +kernel
theorem dX11_count_102 : decode cX11_count 102 = .ok (.ireturn, 1) := by decide +kernel
theorem dX11_count_103 : decode cX11_count 103 = .ok (.aload_n 0, 1) := by decide +kernel
theorem dX11_count_104 : decode cX11_count 104 = .ok (.getfield 30, 3) := by decide +kernel
theorem dX11_count_107 : decode cX11_count 107 = .ok (.getfield 198, 3) := by decide +kernel
theorem dX11_count_110 : decode cX11_count 110 = .ok (.ireturn, 1) := by decide +kernel
theorem dX11_count_111 : decode cX11_count 111 = .ok (.aload_n 0, 1) := by decide +kernel
theorem dX11_count_112 : decode cX11_count 112 = .ok (.iload_n 1, 1) := by decide +kernel
theorem dX11_count_113 : decode cX11_count 113 = .ok (.invokevirtual 350, 3) := by decide +kernel
theorem dX11_count_116 : decode cX11_count 116 = .ok (.ireturn, 1) := by decide +kernel
theorem dX11_count_117 : decode cX11_count 117 = .ok (.aload_n 0, 1) := by decide +kernel
theorem dX11_count_118 : decode cX11_count 118 = .ok (.getfield 30, 3) := by decide +kernel
theorem dX11_count_121 : decode cX11_count 121 = .ok (.getfield 353, 3) := by decide +kernel
theorem dX11_count_124 : decode cX11_count 124 = .ok (.ireturn, 1) := by decide +kernel
theorem dX11_count_125 : decode cX11_count 125 = .ok (.aload_n 0, 1) := by decide +kernel
theorem dX11_count_126 : decode cX11_count 126 = .ok (.getfield 47, 3) := by decide +kernel
theorem dX11_count_129 : decode cX11_count 129 = .ok (.getfield 318, 3) := by decide +kernel
theorem dX11_count_132 : decode cX11_count 132 = .ok (.ireturn, 1) := by decide +kernel
theorem dX11_count_133 : decode cX11_count 133 = .ok (.aload_n 0, 1) := by decide +kernel
theorem dX11_count_134 : decode cX11_count 134 = .ok (.getfield 47, 3) := by decide +kernel
theorem dX11_count_137 : decode cX11_count 137 = .ok (.invokevirtual 356, 3) := by decide +kernel
theorem dX11_count_140 : decode cX11_count 140 = .ok (.ireturn, 1) := by decide +kernel
theorem dX11_count_141 : decode cX11_count 141 = .ok (.aload_n 0, 1) := by decide +kernel
theorem dX11_count_142 : decode cX11_count 142 = .ok (.getfield 40, 3) := by decide +kernel
theorem dX11_count_145 : decode cX11_count 145 = .ok (.getfield 338, 3) := by decide +kernel
theorem dX11_count_148 : decode cX11_count 148 = .ok (.ireturn, 1) := by decide +kernel
theorem dX11_count_149 : decode cX11_count 149 = .ok (.iconst (-1), 1) := by decide +kernel
theorem dX11_count_150 : decode cX11_count 150 = .ok (.ireturn, 1) := by decide +kernel
theorem dX11_sumOfBoxes_0 : decode cX11_sumOfBoxes 0 = .ok (.iconst 0, 1) := by decide +kernel
theorem dX11_sumOfBoxes_1 : decode cX11_sumOfBoxes 1 = .ok (.istore_n 2, 1) := by decide +kernel
theorem dX11_sumOfBoxes_2 : decode cX11_sumOfBoxes 2 = .ok (.iconst 0, 1) := by decide +kernel
theorem dX11_sumOfBoxes_3 : decode cX11_sumOfBoxes 3 = .ok (.istore_n 3, 1) := by decide +kernel
theorem dX11_sumOfBoxes_4 : decode cX11_sumOfBoxes 4 = .ok (.iload_n 3, 1) := by decide +kernel
theorem dX11_sumOfBoxes_5 : decode cX11_sumOfBoxes 5 = .ok (.aload_n 0, 1) := by decide +kernel
theorem dX11_sumOfBoxes_6 : decode cX11_sumOfBoxes 6 = .ok (.getfield 30, 3) := by decide +kernel
theorem dX11_sumOfBoxes_9 : decode cX11_sumOfBoxes 9 = .ok (.getfield 263, 3) := by decide +kernel
theorem dX11_sumOfBoxes_12 : decode cX11_sumOfBoxes 12 = .ok (.if_icmp .ge 89, 3) := by decide +kernel
theorem dX11_sumOfBoxes_15 : decode cX11_sumOfBoxes 15 = .ok (.aload_n 0, 1) := by decide +kernel
theorem dX11_sumOfBoxes_16 : decode cX11_sumOfBoxes 16 = .ok (.getfield 30, 3) := by decide +kernel
theorem dX11_sumOfBoxes_19 : decode cX11_sumOfBoxes 19 = .ok (.getfield 140, 3) := by decide +kernel
theorem dX11_sumOfBoxes_22 : decode cX11_sumOfBoxes 22 = .ok (.iload_n 3, 1) := by decide +kernel
theorem dX11_sumOfBoxes_23 : decode cX11_sumOfBoxes 23 = .ok (.aaload, 1) := by decide +kernel
theorem dX11_sumOfBoxes_24 : decode cX11_sumOfBoxes 24 = .ok (.astore 4, 2) := by decide +kernel
theorem dX11_sumOfBoxes_26 : decode cX11_sumOfBoxes 26 = .ok (.iload_n 1, 1) := by decide +kernel
theorem dX11_sumOfBoxes_27 : decode cX11_sumOfBoxes 27 = .ok (.iconst 5, 1) := by decide +kernel
theorem dX11_sumOfBoxes_28 : decode cX11_sumOfBoxes 28 = .ok (.if_icmp .ne 14, 3) := by decide +kernel
theorem dX11_sumOfBoxes_31 : decode cX11_sumOfBoxes 31 = .ok (.iload_n 2, 1) := by decide +kernel
theorem dX11_sumOfBoxes_32 : decode cX11_sumOfBoxes 32 = .ok (.aload 4, 2) := by decide +kernel
theorem dX11_sumOfBoxes_34 : decode cX11_sumOfBoxes 34 = .ok (.getfield 153, 3) := by decide +kernel
theorem dX11_sumOfBoxes_37 : decode cX11_sumOfBoxes 37 = .ok (.iadd, 1) := by decide +kernel
theorem dX11_sumOfBoxes_38 : decode cX11_sumOfBoxes 38 = .ok (.istore_n 2, 1) := by decide +kernel
theorem dX11_sumOfBoxes_39 : decode cX11_sumOfBoxes 39 = .ok (.goto 56, 3) := by decide +kernel
theorem dX11_sumOfBoxes_42 : decode cX11_sumOfBoxes 42 = .ok (.iload_n 1, 1) := by decide +kernel
theorem dX11_sumOfBoxes_43 : decode cX11_sumOfBoxes 43 = .ok (.bipush 6, 2) := by decide +kernel
theorem dX11_sumOfBoxes_45 : decode cX11_sumOfBoxes 45 = .ok (.if_icmp .ne 14, 3) := by decide +kernel
theorem dX11_sumOfBoxes_48 : decode cX11_sumOfBoxes 48 = .ok (.iload_n 2, 1) := by decide +kernel
theorem dX11_sumOfBoxes_49 : decode cX11_sumOfBoxes 49 = .ok (.aload 4, 2) := by decide +kernel
theorem dX11_sumOfBoxes_51 : decode cX11_sumOfBoxes 51 = .ok (.getfield 156, 3) := by decide +kernel
theorem dX11_sumOfBoxes_54 : decode cX11_sumOfBoxes 54 = .ok (.iadd, 1) := by decide +kernel
theorem dX11_sumOfBoxes_55 : decode cX11_sumOfBoxes 55 = .ok (.istore_n 2, 1) := by decide +kernel
theorem dX11_sumOfBoxes_56 : decode cX11_sumOfBoxes 56 = .ok (.goto 39, 3) := by decide +kernel
theorem dX11_sumOfBoxes_59 : decode cX11_sumOfBoxes 59 = .ok (.iload_n 1, 1) := by decide +kernel
theorem dX11_sumOfBoxes_60 : decode cX11_sumOfBoxes 60 = .ok (.bipush 7, 2) := by decide +kernel
theorem dX11_sumOfBoxes_62 : decode cX11_sumOfBoxes 62 = .ok (.if_icmp .ne 22, 3) := by decide +kernel
theorem dX11_sumOfBoxes_65 : decode cX11_sumOfBoxes 65 = .ok (.iload_n 2, 1) := by decide +kernel
theorem dX11_sumOfBoxes_66 : decode cX11_sumOfBoxes 66 = .ok (.aload 4, 2) := by decide +kernel
theorem dX11_sumOfBoxes_68 : decode cX11_sumOfBoxes 68 = .ok (.getfield 159, 3) := by decide +kernel
theorem dX11_sumOfBoxes_71 : decode cX11_sumOfBoxes 71 = .ok (.ifCond .eq 7, 3) := by decide +kernel
theorem dX11_sumOfBoxes_74 : decode cX11_sumOfBoxes 74 = .ok (.iconst 1, 1) := by decide +kernel
theorem dX11_sumOfBoxes_75 : decode cX11_sumOfBoxes 75 = .ok (.goto 4, 3) := by decide +kernel
theorem dX11_sumOfBoxes_78 : decode cX11_sumOfBoxes 78 = .ok (.iconst 0, 1) := by decide +kernel
theorem dX11_sumOfBoxes_79 : decode cX11_sumOfBoxes 79 = .ok (.iadd, 1) := by decide +kernel
theorem dX11_sumOfBoxes_80 : decode cX11_sumOfBoxes 80 = .ok (.istore_n 2, 1) := by decide +kernel
theorem dX11_sumOfBoxes_81 : decode cX11_sumOfBoxes 81 = .ok (.goto 14, 3) := by decide +kernel
theorem dX11_sumOfBoxes_84 : decode cX11_sumOfBoxes 84 = .ok (.iload_n 2, 1) := by decide +kernel
theorem dX11_sumOfBoxes_85 : decode cX11_sumOfBoxes 85 = .ok (.aload 4, 2) := by decide +kernel
theorem dX11_sumOfBoxes_87 : decode cX11_sumOfBoxes 87 = .ok (.getfield 162, 3) := by decide +kernel
theorem dX11_sumOfBoxes_90 : decode cX11_sumOfBoxes 90 = .ok (.invokestatic 359, 3) := by decide +kernel
theorem dX11_sumOfBoxes_93 : decode cX11_sumOfBoxes 93 = .ok (.iadd, 1) := by decide +kernel
theorem dX11_sumOfBoxes_94 : decode cX11_sumOfBoxes 94 = .ok (.istore_n 2, 1) := by decide +kernel
theorem dX11_sumOfBoxes_95 : decode cX11_sumOfBoxes 95 = .ok (.iinc 3 1, 3) := by decide +kernel
theorem dX11_sumOfBoxes_98 : decode cX11_sumOfBoxes 98 = .ok (.goto (-94), 3) := by decide +kernel
theorem dX11_sumOfBoxes_101 : decode cX11_sumOfBoxes 101 = .ok (.iload_n 2, 1) := by decide +kernel
theorem dX11_sumOfBoxes_102 : decode cX11_sumOfBoxes 102 = .ok (.ireturn, 1) := by decide +kernel
theorem dX11_isWithin_0 : decode cX11_isWithin 0 = .ok (.iload_n 0, 1) := by decide +kernel
theorem dX11_isWithin_1 : decode cX11_isWithin 1 = .ok (.iload_n 1, 1) := by decide +kernel
theorem dX11_isWithin_2 : decode cX11_isWithin 2 = .ok (.if_icmp .lt 12, 3) := by decide +kernel
theorem dX11_isWithin_5 : decode cX11_isWithin 5 = .ok (.iload_n 0, 1) := by decide +kernel
theorem dX11_isWithin_6 : decode cX11_isWithin 6 = .ok (.iload_n 2, 1) := by decide +kernel
theorem dX11_isWithin_7 : decode cX11_isWithin 7 = .ok (.if_icmp .gt 7, 3) := by decide +kernel
theorem dX11_isWithin_10 : decode cX11_isWithin 10 = .ok (.iconst 1, 1) := by decide +kernel
theorem dX11_isWithin_11 : decode cX11_isWithin 11 = .ok (.goto 4, 3) := by decide +kernel
theorem dX11_isWithin_14 : decode cX11_isWithin 14 = .ok (.iconst 0, 1) := by decide +kernel
theorem dX11_isWithin_15 : decode cX11_isWithin 15 = .ok (.ireturn, 1) := by decide +kernel
theorem dX11_isBox_0 : decode cX11_isBox 0 = .ok (.iload_n 1, 1) := by decide +kernel
theorem dX11_isBox_1 : decode cX11_isBox 1 = .ok (.ifCond .lt 18, 3) := by decide +kernel
theorem dX11_isBox_4 : decode cX11_isBox 4 = .ok (.iload_n 1, 1) := by decide +kernel
theorem dX11_isBox_5 : decode cX11_isBox 5 = .ok (.aload_n 0, 1) := by decide +kernel
theorem dX11_isBox_6 : decode cX11_isBox 6 = .ok (.getfield 30, 3) := by decide +kernel
theorem dX11_isBox_9 : decode cX11_isBox 9 = .ok (.getfield 263, 3) := by decide +kernel
theorem dX11_isBox_12 : decode cX11_isBox 12 = .ok (.if_icmp .ge 7, 3) := by decide +kernel
theorem dX11_isBox_15 : decode cX11_isBox 15 = .ok (.iconst 1, 1) := by decide +kernel
theorem dX11_isBox_16 : decode cX11_isBox 16 = .ok (.goto 4, 3) := by decide +kernel
theorem dX11_isBox_19 : decode cX11_isBox 19 = .ok (.iconst 0, 1) := by decide +kernel
theorem dX11_isBox_20 : decode cX11_isBox 20 = .ok (.ireturn, 1) := by decide +kernel
theorem dX11_areBoxes_0 : decode cX11_areBoxes 0 = .ok (.iload_n 1, 1) := by decide +kernel
theorem dX11_areBoxes_1 : decode cX11_areBoxes 1 = .ok (.ifCond .lt 20, 3) := by decide +kernel
theorem dX11_areBoxes_4 : decode cX11_areBoxes 4 = .ok (.iload_n 1, 1) := by decide +kernel
theorem dX11_areBoxes_5 : decode cX11_areBoxes 5 = .ok (.iconst 1, 1) := by decide +kernel
theorem dX11_areBoxes_6 : decode cX11_areBoxes 6 = .ok (.aload_n 0, 1) := by decide +kernel
theorem dX11_areBoxes_7 : decode cX11_areBoxes 7 = .ok (.getfield 30, 3) := by decide +kernel
theorem dX11_areBoxes_10 : decode cX11_areBoxes 10 = .ok (.getfield 263, 3) := by decide +kernel
theorem dX11_areBoxes_13 : decode cX11_areBoxes 13 = .ok (.ishl, 1) := by decide +kernel
theorem dX11_areBoxes_14 : decode cX11_areBoxes 14 = .ok (.if_icmp .ge 7, 3) := by decide +kernel
theorem dX11_areBoxes_17 : decode cX11_areBoxes 17 = .ok (.iconst 1, 1) := by decide +kernel
theorem dX11_areBoxes_18 : decode cX11_areBoxes 18 = .ok (.goto 4, 3) := by decide +kernel
theorem dX11_areBoxes_21 : decode cX11_areBoxes 21 = .ok (.iconst 0, 1) := by decide +kernel
theorem dX11_areBoxes_22 : decode cX11_areBoxes 22 = .ok (.ireturn, 1) := by decide +kernel
theorem dX11_isDampAsItGoes_0 : decode cX11_isDampAsItGoes 0 = .ok (.aload_n 0, 1) := by decide +kernel
theorem dX11_isDampAsItGoes_1 : decode cX11_isDampAsItGoes 1 = .ok (.getfield 82, 3) := by decide +kernel
theorem dX11_isDampAsItGoes_4 : decode cX11_isDampAsItGoes 4 = .ok (.getfield 364, 3) := by decide +kernel
theorem dX11_isDampAsItGoes_7 : decode cX11_isDampAsItGoes 7 = .ok (.bipush 50, 2) := by decide +kernel
theorem dX11_isDampAsItGoes_9 : decode cX11_isDampAsItGoes 9 = .ok (.if_icmp .lt 7, 3) := by decide +kernel
theorem dX11_isDampAsItGoes_12 : decode cX11_isDampAsItGoes 12 = .ok (.iconst 1, 1) := by decide +kernel
theorem dX11_isDampAsItGoes_13 : decode cX11_isDampAsItGoes 13 = .ok (.goto 4, 3) := by decide +kernel
theorem dX11_isDampAsItGoes_16 : decode cX11_isDampAsItGoes 16 = .ok (.iconst 0, 1) := by decide +kernel
theorem dX11_isDampAsItGoes_17 : decode cX11_isDampAsItGoes 17 = .ok (.ireturn, 1) := by decide +kernel
theorem dX11_goOnTrial_0 : decode cX11_goOnTrial 0 = .ok (.iconst 0, 1) := by decide +kernel
theorem dX11_goOnTrial_1 : decode cX11_goOnTrial 1 = .ok (.istore_n 3, 1) := by decide +kernel
theorem dX11_goOnTrial_2 : decode cX11_goOnTrial 2 = .ok (.iload_n 3, 1) := by decide +kernel
theorem dX11_goOnTrial_3 : decode cX11_goOnTrial 3 = .ok (.iload_n 1, 1) := by decide +kernel
theorem dX11_goOnTrial_4 : decode cX11_goOnTrial 4 = .ok (.if_icmp .ge 37, 3) := by decide +kernel
theorem dX11_goOnTrial_7 : decode cX11_goOnTrial 7 = .ok (.aload_n 0, 1) := by decide +kernel
theorem dX11_goOnTrial_8 : decode cX11_goOnTrial 8 = .ok (.getfield 68, 3) := by decide +kernel
theorem dX11_goOnTrial_11 : decode cX11_goOnTrial 11 = .ok (.aload_n 0, 1) := by decide +kernel
theorem dX11_goOnTrial_12 : decode cX11_goOnTrial 12 = .ok (.getfield 82, 3) := by decide +kernel
theorem dX11_goOnTrial_15 : decode cX11_goOnTrial 15 = .ok (.getfield 194, 3) := by decide +kernel
theorem dX11_goOnTrial_18 : decode cX11_goOnTrial 18 = .ok (.aload_n 0, 1) := by decide +kernel
theorem dX11_goOnTrial_19 : decode cX11_goOnTrial 19 = .ok (.getfield 30, 3) := by decide +kernel
theorem dX11_goOnTrial_22 : decode cX11_goOnTrial 22 = .ok (.getfield 198, 3) := by decide +kernel
theorem dX11_goOnTrial_25 : decode cX11_goOnTrial 25 = .ok (.iload_n 3, 1) := by decide +kernel
theorem dX11_goOnTrial_26 : decode cX11_goOnTrial 26 = .ok (.iadd, 1) := by decide +kernel
theorem dX11_goOnTrial_27 : decode cX11_goOnTrial 27 = .ok (.aload_n 0, 1) := by decide +kernel
theorem dX11_goOnTrial_28 : decode cX11_goOnTrial 28 = .ok (.invokevirtual 279, 3) := by decide +kernel
theorem dX11_goOnTrial_31 : decode cX11_goOnTrial 31 = .ok (.iload_n 2, 1) := by decide +kernel
theorem dX11_goOnTrial_32 : decode cX11_goOnTrial 32 = .ok (.invokevirtual 282, 3) := by decide +kernel
theorem dX11_goOnTrial_35 : decode cX11_goOnTrial 35 = .ok (.iinc 3 1, 3) := by decide +kernel
theorem dX11_goOnTrial_38 : decode cX11_goOnTrial 38 = .ok (.goto (-36), 3) := by decide +kernel
theorem dX11_goOnTrial_41 : decode cX11_goOnTrial 41 = .ok (.return_, 1) := by decide +kernel
theorem dX11_laughterOnTrial_0 : decode cX11_laughterOnTrial 0 = .ok (.aload_n 0, 1) := by decide +kernel
theorem dX11_laughterOnTrial_1 : decode cX11_laughterOnTrial 1 = .ok (.getfield 68, 3) := by decide +kernel
theorem dX11_laughterOnTrial_4 : decode cX11_laughterOnTrial 4 = .ok (.getfield 156, 3) := by decide +kernel
theorem dX11_laughterOnTrial_7 : decode cX11_laughterOnTrial 7 = .ok (.istore_n 3, 1) := by decide +kernel
theorem dX11_laughterOnTrial_8 : decode cX11_laughterOnTrial 8 = .ok (.iconst 0, 1) := by decide +kernel
theorem dX11_laughterOnTrial_9 : decode cX11_laughterOnTrial 9 = .ok (.istore 4, 2) := by decide +kernel
theorem dX11_laughterOnTrial_11 : decode cX11_laughterOnTrial 11 = .ok (.iload 4, 2) := by decide +kernel
theorem dX11_laughterOnTrial_13 : decode cX11_laughterOnTrial 13 = .ok (.iload_n 1, 1) := by decide +kernel
theorem dX11_laughterOnTrial_14 : decode cX11_laughterOnTrial 14 = .ok (.if_icmp .ge 45, 3) := by decide +kernel
theorem dX11_laughterOnTrial_17 : decode cX11_laughterOnTrial 17 = .ok (.aload_n 0, 1) := by decide +kernel
theorem dX11_laughterOnTrial_18 : decode cX11_laughterOnTrial 18 = .ok (.getfield 68, 3) := by decide +kernel
theorem dX11_laughterOnTrial_21 : decode cX11_laughterOnTrial 21 = .ok (.invokevirtual 275, 3) := by decide +kernel
theorem dX11_laughterOnTrial_24 : decode cX11_laughterOnTrial 24 = .ok (.ifCond .eq 35, 3) := by decide +kernel
theorem dX11_laughterOnTrial_27 : decode cX11_laughterOnTrial 27 = .ok (.aload_n 0, 1) := by decide +kernel
theorem dX11_laughterOnTrial_28 : decode cX11_laughterOnTrial 28 = .ok (.getfield 68, 3) := by decide +kernel
theorem dX11_laughterOnTrial_31 : decode cX11_laughterOnTrial 31 = .ok (.aload_n 0, 1) := by decide +kernel
theorem dX11_laughterOnTrial_32 : decode cX11_laughterOnTrial 32 = .ok (.getfield 82, 3) := by decide +kernel
theorem dX11_laughterOnTrial_35 : decode cX11_laughterOnTrial 35 = .ok (.getfield 194, 3) := by decide +kernel
theorem dX11_laughterOnTrial_38 : decode cX11_laughterOnTrial 38 = .ok (.aload_n 0, 1) := by decide +kernel
theorem dX11_laughterOnTrial_39 : decode cX11_laughterOnTrial 39 = .ok (.getfield 30, 3) := by decide +kernel
theorem dX11_laughterOnTrial_42 : decode cX11_laughterOnTrial 42 = .ok (.getfield 198, 3) := by decide +kernel
theorem dX11_laughterOnTrial_45 : decode cX11_laughterOnTrial 45 = .ok (.iload 4, 2) := by decide +kernel
theorem dX11_laughterOnTrial_47 : decode cX11_laughterOnTrial 47 = .ok (.iadd, 1) := by decide +kernel
theorem dX11_laughterOnTrial_48 : decode cX11_laughterOnTrial 48 = .ok (.iload_n 2, 1) := by decide +kernel
theorem dX11_laughterOnTrial_49 : decode cX11_laughterOnTrial 49 = .ok (.iconst 1, 1) := by decide +kernel
theorem dX11_laughterOnTrial_50 : decode cX11_laughterOnTrial 50 = .ok (.invokevirtual 282, 3) := by decide +kernel
theorem dX11_laughterOnTrial_53 : decode cX11_laughterOnTrial 53 = .ok (.iinc 4 1, 3) := by decide +kernel
theorem dX11_laughterOnTrial_56 : decode cX11_laughterOnTrial 56 = .ok (.goto (-45), 3) := by decide +kernel
theorem dX11_laughterOnTrial_59 : decode cX11_laughterOnTrial 59 = .ok (.aload_n 0, 1) := by decide +kernel
theorem dX11_laughterOnTrial_60 : decode cX11_laughterOnTrial 60 = .ok (.getfield 68, 3) := by decide +kernel
theorem dX11_laughterOnTrial_63 : decode cX11_laughterOnTrial 63 = .ok (.getfield 156, 3) := by decide +kernel
theorem dX11_laughterOnTrial_66 : decode cX11_laughterOnTrial 66 = .ok (.iload_n 3, 1) := by decide +kernel
theorem dX11_laughterOnTrial_67 : decode cX11_laughterOnTrial 67 = .ok (.isub, 1) := by decide +kernel
theorem dX11_laughterOnTrial_68 : decode cX11_laughterOnTrial 68 = .ok (.ireturn, 1) := by decide +kernel
theorem dX11_drawOnTrial_0 : decode cX11_drawOnTrial 0 = .ok (.iload_n 1, 1) := by decide +kernel
theorem dX11_drawOnTrial_1 : decode cX11_drawOnTrial 1 = .ok (.istore_n 3, 1) := by decide +kernel
theorem dX11_drawOnTrial_2 : decode cX11_drawOnTrial 2 = .ok (.iconst 0, 1) := by decide +kernel
theorem dX11_drawOnTrial_3 : decode cX11_drawOnTrial 3 = .ok (.istore 4, 2) := by decide +kernel
theorem dX11_drawOnTrial_5 : decode cX11_drawOnTrial 5 = .ok (.iload 4, 2) := by decide +kernel
theorem dX11_drawOnTrial_7 : decode cX11_drawOnTrial 7 = .ok (.iload_n 2, 1) := by decide +kernel
theorem dX11_drawOnTrial_8 : decode cX11_drawOnTrial 8 = .ok (.if_icmp .ge 61, 3) := by decide +kernel
theorem dX11_drawOnTrial_11 : decode cX11_drawOnTrial 11 = .ok (.aload_n 0, 1) := by decide +kernel
theorem dX11_drawOnTrial_12 : decode cX11_drawOnTrial 12 = .ok (.getfield 82, 3) := by decide +kernel
theorem dX11_drawOnTrial_15 : decode cX11_drawOnTrial 15 = .ok (.invokevirtual 367, 3) := by decide +kernel
theorem dX11_drawOnTrial_18 : decode cX11_drawOnTrial 18 = .ok (.ifCond .eq 10, 3) := by decide +kernel
theorem dX11_drawOnTrial_21 : decode cX11_drawOnTrial 21 = .ok (.iload_n 3, 1) := by decide +kernel
theorem dX11_drawOnTrial_22 : decode cX11_drawOnTrial 22 = .ok (.invokestatic 370, 3) := by decide +kernel
theorem dX11_drawOnTrial_25 : decode cX11_drawOnTrial 25 = .ok (.goto 4, 3) := by decide +kernel
theorem dX11_drawOnTrial_28 : decode cX11_drawOnTrial 28 = .ok (.iload_n 3, 1) := by decide +kernel
theorem dX11_drawOnTrial_29 : decode cX11_drawOnTrial 29 = .ok (.istore_n 3, 1) := by decide +kernel
theorem dX11_drawOnTrial_30 : decode cX11_drawOnTrial 30 = .ok (.aload_n 0, 1) := by decide +kernel
theorem dX11_drawOnTrial_31 : decode cX11_drawOnTrial 31 = .ok (.getfield 68, 3) := by decide +kernel
theorem dX11_drawOnTrial_34 : decode cX11_drawOnTrial 34 = .ok (.aload_n 0, 1) := by decide +kernel
theorem dX11_drawOnTrial_35 : decode cX11_drawOnTrial 35 = .ok (.getfield 82, 3) := by decide +kernel
theorem dX11_drawOnTrial_38 : decode cX11_drawOnTrial 38 = .ok (.getfield 194, 3) := by decide +kernel
theorem dX11_drawOnTrial_41 : decode cX11_drawOnTrial 41 = .ok (.aload_n 0, 1) := by decide +kernel
theorem dX11_drawOnTrial_42 : decode cX11_drawOnTrial 42 = .ok (.getfield 30, 3) := by decide +kernel
theorem dX11_drawOnTrial_45 : decode cX11_drawOnTrial 45 = .ok (.getfield 198, 3) := by decide +kernel
theorem dX11_drawOnTrial_48 : decode cX11_drawOnTrial 48 = .ok (.iload 4, 2) := by decide +kernel
theorem dX11_drawOnTrial_50 : decode cX11_drawOnTrial 50 = .ok (.iadd, 1) := by decide +kernel
theorem dX11_drawOnTrial_51 : decode cX11_drawOnTrial 51 = .ok (.aload_n 0, 1) := by decide +kernel
theorem dX11_drawOnTrial_52 : decode cX11_drawOnTrial 52 = .ok (.getfield 82, 3) := by decide +kernel
theorem dX11_drawOnTrial_55 : decode cX11_drawOnTrial 55 = .ok (.iload_n 3, 1) := by decide +kernel
theorem dX11_drawOnTrial_56 : decode cX11_drawOnTrial 56 = .ok (.invokevirtual 373, 3) := by decide +kernel
theorem dX11_drawOnTrial_59 : decode cX11_drawOnTrial 59 = .ok (.iconst 0, 1) := by decide +kernel
theorem dX11_drawOnTrial_60 : decode cX11_drawOnTrial 60 = .ok (.invokevirtual 282, 3) := by decide +kernel
theorem dX11_drawOnTrial_63 : decode cX11_drawOnTrial 63 = .ok (.iinc 4 1, 3) := by decide +kernel
theorem dX11_drawOnTrial_66 : decode cX11_drawOnTrial 66 = .ok (.goto (-61), 3) := by decide +kernel
theorem dX11_drawOnTrial_69 : decode cX11_drawOnTrial 69 = .ok (.iload_n 3, 1) := by decide +kernel
theorem dX11_drawOnTrial_70 : decode cX11_drawOnTrial 70 = .ok (.ireturn, 1) := by decide +kernel
theorem dX11_changeTrial_0 : decode cX11_changeTrial 0 = .ok (.iload_n 1, 1) := by decide +kernel
theorem dX11_changeTrial_1 : decode cX11_changeTrial 1 = .ok (.iconst 1, 1) := by decide +kernel
theorem dX11_changeTrial_2 : decode cX11_changeTrial 2 = .ok (.if_icmp .ne 14, 3) := by decide +kernel
theorem dX11_changeTrial_5 : decode cX11_changeTrial 5 = .ok (.aload_n 0, 1) := by decide +kernel
theorem dX11_changeTrial_6 : decode cX11_changeTrial 6 = .ok (.getfield 68, 3) := by decide +kernel
theorem dX11_changeTrial_9 : decode cX11_changeTrial 9 = .ok (.iconst 0, 1) := by decide +kernel
theorem dX11_changeTrial_10 : decode cX11_changeTrial 10 = .ok (.putfield 159, 3) := by decide +kernel
theorem dX11_changeTrial_13 : decode cX11_changeTrial 13 = .ok (.goto 33, 3) := by decide +kernel
theorem dX11_changeTrial_16 : decode cX11_changeTrial 16 = .ok (.iload_n 1, 1) := by decide +kernel
theorem dX11_changeTrial_17 : decode cX11_changeTrial 17 = .ok (.iconst 3, 1) := by decide +kernel
theorem dX11_changeTrial_18 : decode cX11_changeTrial 18 = .ok (.if_icmp .ne 14, 3) := by decide +kernel
theorem dX11_changeTrial_21 : decode cX11_changeTrial 21 = .ok (.aload_n 0, 1) := by decide +kernel
theorem dX11_changeTrial_22 : decode cX11_changeTrial 22 = .ok (.getfield 68, 3) := by decide +kernel
theorem dX11_changeTrial_25 : decode cX11_changeTrial 25 = .ok (.iconst 0, 1) := by decide +kernel
theorem dX11_changeTrial_26 : decode cX11_changeTrial 26 = .ok (.putfield 162, 3) := by decide +kernel
theorem dX11_changeTrial_29 : decode cX11_changeTrial 29 = .ok (.goto 17, 3) := by decide +kernel
theorem dX11_changeTrial_32 : decode cX11_changeTrial 32 = .ok (.iload_n 1, 1) := by decide +kernel
theorem dX11_changeTrial_33 : decode cX11_changeTrial 33 = .ok (.iconst 4, 1) := by decide +kernel
theorem dX11_changeTrial_34 : decode cX11_changeTrial 34 = .ok (.if_icmp .ne 12, 3) := by decide +kernel
theorem dX11_changeTrial_37 : decode cX11_changeTrial 37 = .ok (.aload_n 0, 1) := by decide +kernel
theorem dX11_changeTrial_38 : decode cX11_changeTrial 38 = .ok (.getfield 68, 3) := by decide +kernel
theorem dX11_changeTrial_41 : decode cX11_changeTrial 41 = .ok (.bipush 99, 2) := by decide +kernel
theorem dX11_changeTrial_43 : decode cX11_changeTrial 43 = .ok (.putfield 144, 3) := by decide +kernel
theorem dX11_changeTrial_46 : decode cX11_changeTrial 46 = .ok (.return_, 1) := by decide +kernel
theorem dX11_boxesThatFit_0 : decode cX11_boxesThatFit 0 = .ok (.aload_n 0, 1) := by decide +kernel
theorem dX11_boxesThatFit_1 : decode cX11_boxesThatFit 1 = .ok (.getfield 47, 3) := by decide +kernel
theorem dX11_boxesThatFit_4 : decode cX11_boxesThatFit 4 = .ok (.invokevirtual 325, 3) := by decide +kernel
theorem dX11_boxesThatFit_7 : decode cX11_boxesThatFit 7 = .ok (.iconst 0, 1) := by decide +kernel
theorem dX11_boxesThatFit_8 : decode cX11_boxesThatFit 8 = .ok (.istore_n 1, 1) := by decide +kernel
theorem dX11_boxesThatFit_9 : decode cX11_boxesThatFit 9 = .ok (.iconst 0, 1) := by decide +kernel
theorem dX11_boxesThatFit_10 : decode cX11_boxesThatFit 10 = .ok (.istore_n 2, 1) := by decide +kernel
theorem dX11_boxesThatFit_11 : decode cX11_boxesThatFit 11 = .ok (.iload_n 2, 1) := by decide +kernel
theorem dX11_boxesThatFit_12 : decode cX11_boxesThatFit 12 = .ok (.aload_n 0, 1) := by decide +kernel
theorem dX11_boxesThatFit_13 : decode cX11_boxesThatFit 13 = .ok (.getfield 30, 3) := by decide +kernel
theorem dX11_boxesThatFit_16 : decode cX11_boxesThatFit 16 = .ok (.getfield 263, 3) := by decide +kernel
theorem dX11_boxesThatFit_19 : decode cX11_boxesThatFit 19 = .ok (.if_icmp .ge 46, 3) := by decide +kernel
theorem dX11_boxesThatFit_22 : decode cX11_boxesThatFit 22 = .ok (.aload_n 0, 1) := by decide +kernel
theorem dX11_boxesThatFit_23 : decode cX11_boxesThatFit 23 = .ok (.getfield 47, 3) := by decide +kernel
theorem dX11_boxesThatFit_26 : decode cX11_boxesThatFit 26 = .ok (.aload_n 0, 1) := by decide +kernel
theorem dX11_boxesThatFit_27 : decode cX11_boxesThatFit 27 = .ok (.getfield 30, 3) := by decide +kernel
theorem dX11_boxesThatFit_30 : decode cX11_boxesThatFit 30 = .ok (.getfield 140, 3) := by decide +kernel
theorem dX11_boxesThatFit_33 : decode cX11_boxesThatFit 33 = .ok (.iload_n 2, 1) := by decide +kernel
theorem dX11_boxesThatFit_34 : decode cX11_boxesThatFit 34 = .ok (.aaload, 1) := by decide +kernel
theorem dX11_boxesThatFit_35 : decode cX11_boxesThatFit 35 = .ok (.aload_n 0, 1) := by decide +kernel
theorem dX11_boxesThatFit_36 : decode cX11_boxesThatFit 36 = .ok (.getfield 30, 3) := by decide +kernel
theorem dX11_boxesThatFit_39 : decode cX11_boxesThatFit 39 = .ok (.getfield 140, 3) := by decide +kernel
theorem dX11_boxesThatFit_42 : decode cX11_boxesThatFit 42 = .ok (.iload_n 2, 1) := by decide +kernel
theorem dX11_boxesThatFit_43 : decode cX11_boxesThatFit 43 = .ok (.aaload, 1) := by decide +kernel
theorem dX11_boxesThatFit_44 : decode cX11_boxesThatFit 44 = .ok (.getfield 150, 3) := by decide +kernel
theorem dX11_boxesThatFit_47 : decode cX11_boxesThatFit 47 = .ok (.invokevirtual 328, 3) := by decide +kernel
theorem dX11_boxesThatFit_50 : decode cX11_boxesThatFit 50 = .ok (.ifCond .eq 9, 3) := by decide +kernel
theorem dX11_boxesThatFit_53 : decode cX11_boxesThatFit 53 = .ok (.iload_n 1, 1) := by decide +kernel
theorem dX11_boxesThatFit_54 : decode cX11_boxesThatFit 54 = .ok (.iconst 1, 1) := by decide +kernel
theorem dX11_boxesThatFit_55 : decode cX11_boxesThatFit 55 = .ok (.iload_n 2, 1) := by decide +kernel
theorem dX11_boxesThatFit_56 : decode cX11_boxesThatFit 56 = .ok (.ishl, 1) := by decide +kernel
theorem dX11_boxesThatFit_57 : decode cX11_boxesThatFit 57 = .ok (.ior, 1) := by decide +kernel
theorem dX11_boxesThatFit_58 : decode cX11_boxesThatFit 58 = .ok (.istore_n 1, 1) := by decide +kernel
theorem dX11_boxesThatFit_59 : decode cX11_boxesThatFit 59 = .ok (.iinc 2 1, 3) := by decide +kernel
theorem dX11_boxesThatFit_62 : decode cX11_boxesThatFit 62 = .ok (.goto (-51), 3) := by decide +kernel
theorem dX11_boxesThatFit_65 : decode cX11_boxesThatFit 65 = .ok (.iload_n 1, 1) := by decide +kernel
theorem dX11_boxesThatFit_66 : decode cX11_boxesThatFit 66 = .ok (.ireturn, 1) := by decide +kernel
theorem dX11_kinThatHear_0 : decode cX11_kinThatHear 0 = .ok (.iconst 0, 1) := by decide +kernel
theorem dX11_kinThatHear_1 : decode cX11_kinThatHear 1 = .ok (.istore 4, 2) := by decide +kernel
theorem dX11_kinThatHear_3 : decode cX11_kinThatHear 3 = .ok (.iconst 0, 1) := by decide +kernel
theorem dX11_kinThatHear_4 : decode cX11_kinThatHear 4 = .ok (.istore 5, 2) := by decide +kernel
theorem dX11_kinThatHear_6 : decode cX11_kinThatHear 6 = .ok (.iload 5, 2) := by decide +kernel
theorem dX11_kinThatHear_8 : decode cX11_kinThatHear 8 = .ok (.aload_n 0, 1) := by decide +kernel
theorem dX11_kinThatHear_9 : decode cX11_kinThatHear 9 = .ok (.getfield 30, 3) := by decide +kernel
theorem dX11_kinThatHear_12 : decode cX11_kinThatHear 12 = .ok (.getfield 263, 3) := by decide +kernel
theorem dX11_kinThatHear_15 : decode cX11_kinThatHear 15 = .ok (.if_icmp .ge 79, 3) := by decide +kernel
theorem dX11_kinThatHear_18 : decode cX11_kinThatHear 18 = .ok (.iconst 0, 1) := by decide +kernel
theorem dX11_kinThatHear_19 : decode cX11_kinThatHear 19 = .ok (.istore 6, 2) := by decide +kernel
theorem dX11_kinThatHear_21 : decode cX11_kinThatHear 21 = .ok (.iload 6, 2) := by decide +kernel
theorem dX11_kinThatHear_23 : decode cX11_kinThatHear 23 = .ok (.bipush 8, 2) := by decide +kernel
theorem dX11_kinThatHear_25 : decode cX11_kinThatHear 25 = .ok (.if_icmp .ge 63, 3) := by decide +kernel
theorem dX11_kinThatHear_28 : decode cX11_kinThatHear 28 = .ok (.aload_n 0, 1) := by decide +kernel
theorem dX11_kinThatHear_29 : decode cX11_kinThatHear 29 = .ok (.getfield 30, 3) := by decide +kernel
theorem dX11_kinThatHear_32 : decode cX11_kinThatHear 32 = .ok (.getfield 140, 3) := by decide +kernel
theorem dX11_kinThatHear_35 : decode cX11_kinThatHear 35 = .ok (.iload_n 1, 1) := by decide +kernel
theorem dX11_kinThatHear_36 : decode cX11_kinThatHear 36 = .ok (.aaload, 1) := by decide +kernel
theorem dX11_kinThatHear_37 : decode cX11_kinThatHear 37 = .ok (.iload 5, 2) := by decide +kernel
theorem dX11_kinThatHear_39 : decode cX11_kinThatHear 39 = .ok (.invokevirtual 189, 3) := by decide +kernel
theorem dX11_kinThatHear_42 : decode cX11_kinThatHear 42 = .ok (.ifCond .eq 46, 3) := by decide +kernel
theorem dX11_kinThatHear_45 : decode cX11_kinThatHear 45 = .ok (.aload_n 0, 1) := by decide +kernel
theorem dX11_kinThatHear_46 : decode cX11_kinThatHear 46 = .ok (.getfield 30, 3) := by decide +kernel
theorem dX11_kinThatHear_49 : decode cX11_kinThatHear 49 = .ok (.getfield 140, 3) := by decide +kernel
theorem dX11_kinThatHear_52 : decode cX11_kinThatHear 52 = .ok (.iload_n 1, 1) := by decide +kernel
theorem dX11_kinThatHear_53 : decode cX11_kinThatHear 53 = .ok (.aaload, 1) := by decide +kernel
theorem dX11_kinThatHear_54 : decode cX11_kinThatHear 54 = .ok (.getfield 174, 3) := by decide +kernel
theorem dX11_kinThatHear_57 : decode cX11_kinThatHear 57 = .ok (.iload 6, 2) := by decide +kernel
theorem dX11_kinThatHear_59 : decode cX11_kinThatHear 59 = .ok (.iaload, 1) := by decide +kernel
theorem dX11_kinThatHear_60 : decode cX11_kinThatHear 60 = .ok (.iload_n 2, 1) := by decide +kernel
theorem dX11_kinThatHear_61 : decode cX11_kinThatHear 61 = .ok (.if_icmp .ne 21, 3) := by decide +kernel
theorem dX11_kinThatHear_64 : decode cX11_kinThatHear 64 = .ok (.aload_n 0, 1) := by decide +kernel
theorem dX11_kinThatHear_65 : decode cX11_kinThatHear 65 = .ok (.getfield 54, 3) := by decide +kernel
theorem dX11_kinThatHear_68 : decode cX11_kinThatHear 68 = .ok (.iload 5, 2) := by decide +kernel
theorem dX11_kinThatHear_70 : decode cX11_kinThatHear 70 = .ok (.iload 6, 2) := by decide +kernel
theorem dX11_kinThatHear_72 : decode cX11_kinThatHear 72 = .ok (.invokevirtual 376, 3) := by decide +kernel
theorem dX11_kinThatHear_75 : decode cX11_kinThatHear 75 = .ok (.iload_n 3, 1) := by decide +kernel
theorem dX11_kinThatHear_76 : decode cX11_kinThatHear 76 = .ok (.if_icmp .ne 6, 3) := by decide +kernel
theorem dX11_kinThatHear_79 : decode cX11_kinThatHear 79 = .ok (.iinc 4 1, 3) := by decide +kernel
theorem dX11_kinThatHear_82 : decode cX11_kinThatHear 82 = .ok (.iinc 6 1, 3) := by decide +kernel
theorem dX11_kinThatHear_85 : decode cX11_kinThatHear 85 = .ok (.goto (-64), 3) := by decide +kernel
theorem dX11_kinThatHear_88 : decode cX11_kinThatHear 88 = .ok (.iinc 5 1, 3) := by decide +kernel
theorem dX11_kinThatHear_91 : decode cX11_kinThatHear 91 = .ok (.goto (-85), 3) := by decide +kernel
theorem dX11_kinThatHear_94 : decode cX11_kinThatHear 94 = .ok (.iload 4, 2) := by decide +kernel
theorem dX11_kinThatHear_96 : decode cX11_kinThatHear 96 = .ok (.ireturn, 1) := by decide +kernel
theorem dX11_nearestTo_0 : decode cX11_nearestTo 0 = .ok (.iconst (-1), 1) := by decide +kernel
theorem dX11_nearestTo_1 : decode cX11_nearestTo 1 = .ok (.istore_n 2, 1) := by decide +kernel
theorem dX11_nearestTo_2 : decode cX11_nearestTo 2 = .ok (.iconst 0, 1) := by decide +kernel
theorem dX11_nearestTo_3 : decode cX11_nearestTo 3 = .ok (.istore_n 3, 1) := by decide +kernel
theorem dX11_nearestTo_4 : decode cX11_nearestTo 4 = .ok (.iload_n 3, 1) := by decide +kernel
theorem dX11_nearestTo_5 : decode cX11_nearestTo 5 = .ok (.aload_n 0, 1) := by decide +kernel
theorem dX11_nearestTo_6 : decode cX11_nearestTo 6 = .ok (.getfield 30, 3) := by decide +kernel
theorem dX11_nearestTo_9 : decode cX11_nearestTo 9 = .ok (.getfield 263, 3) := by decide +kernel
theorem dX11_nearestTo_12 : decode cX11_nearestTo 12 = .ok (.if_icmp .ge 39, 3) := by decide +kernel
theorem dX11_nearestTo_15 : decode cX11_nearestTo 15 = .ok (.iload_n 1, 1) := by decide +kernel
theorem dX11_nearestTo_16 : decode cX11_nearestTo 16 = .ok (.iload_n 3, 1) := by decide +kernel
theorem dX11_nearestTo_17 : decode cX11_nearestTo 17 = .ok (.ishr, 1) := by decide +kernel
theorem dX11_nearestTo_18 : decode cX11_nearestTo 18 = .ok (.iconst 1, 1) := by decide +kernel
theorem dX11_nearestTo_19 : decode cX11_nearestTo 19 = .ok (.iand, 1) := by decide +kernel
theorem dX11_nearestTo_20 : decode cX11_nearestTo 20 = .ok (.ifCond .ne 25, 3) := by decide +kernel
theorem dX11_nearestTo_23 : decode cX11_nearestTo 23 = .ok (.iload_n 2, 1) := by decide +kernel
theorem dX11_nearestTo_24 : decode cX11_nearestTo 24 = .ok (.iconst (-1), 1) := by decide +kernel
theorem dX11_nearestTo_25 : decode cX11_nearestTo 25 = .ok (.if_icmp .eq 18, 3) := by decide +kernel
theorem dX11_nearestTo_28 : decode cX11_nearestTo 28 = .ok (.aload_n 0, 1) := by decide +kernel
theorem dX11_nearestTo_29 : decode cX11_nearestTo 29 = .ok (.iload_n 1, 1) := by decide +kernel
theorem dX11_nearestTo_30 : decode cX11_nearestTo 30 = .ok (.iload_n 3, 1) := by decide +kernel
theorem dX11_nearestTo_31 : decode cX11_nearestTo 31 = .ok (.invokevirtual 269, 3) := by decide +kernel
theorem dX11_nearestTo_34 : decode cX11_nearestTo 34 = .ok (.aload_n 0, 1) := by decide +kernel
theorem dX11_nearestTo_35 : decode cX11_nearestTo 35 = .ok (.iload_n 1, 1) := by decide +kernel
theorem dX11_nearestTo_36 : decode cX11_nearestTo 36 = .ok (.iload_n 2, 1) := by decide +kernel
theorem dX11_nearestTo_37 : decode cX11_nearestTo 37 = .ok (.invokevirtual 269, 3) := by decide +kernel
theorem dX11_nearestTo_40 : decode cX11_nearestTo 40 = .ok (.if_icmp .ge 5, 3) := by decide +kernel
theorem dX11_nearestTo_43 : decode cX11_nearestTo 43 = .ok (.iload_n 3, 1) := by decide +kernel
theorem dX11_nearestTo_44 : decode cX11_nearestTo 44 = .ok (.istore_n 2, 1) := by decide +kernel
theorem dX11_nearestTo_45 : decode cX11_nearestTo 45 = .ok (.iinc 3 1, 3) := by decide +kernel
theorem dX11_nearestTo_48 : decode cX11_nearestTo 48 = .ok (.goto (-44), 3) := by decide +kernel
theorem dX11_nearestTo_51 : decode cX11_nearestTo 51 = .ok (.iload_n 2, 1) := by decide +kernel
theorem dX11_nearestTo_52 : decode cX11_nearestTo 52 = .ok (.ireturn, 1) := by decide +kernel
theorem dX11_fewestUnlike_0 : decode cX11_fewestUnlike 0 = .ok (.bipush 8, 2) := by decide +kernel
theorem dX11_fewestUnlike_2 : decode cX11_fewestUnlike 2 = .ok (.istore_n 3, 1) := by decide +kernel
theorem dX11_fewestUnlike_3 : decode cX11_fewestUnlike 3 = .ok (.iconst 0, 1) := by decide +kernel
theorem dX11_fewestUnlike_4 : decode cX11_fewestUnlike 4 = .ok (.istore 4, 2) := by decide +kernel
theorem dX11_fewestUnlike_6 : decode cX11_fewestUnlike 6 = .ok (.iload 4, 2) := by decide +kernel
theorem dX11_fewestUnlike_8 : decode cX11_fewestUnlike 8 = .ok (.aload_n 0, 1) := by decide +kernel
theorem dX11_fewestUnlike_9 : decode cX11_fewestUnlike 9 = .ok (.getfield 30, 3) := by decide +kernel
theorem dX11_fewestUnlike_12 : decode cX11_fewestUnlike 12 = .ok (.getfield 263, 3) := by decide +kernel
theorem dX11_fewestUnlike_15 : decode cX11_fewestUnlike 15 = .ok (.if_icmp .ge 38, 3) := by decide +kernel
theorem dX11_fewestUnlike_18 : decode cX11_fewestUnlike 18 = .ok (.iload_n 1, 1) := by decide +kernel
theorem dX11_fewestUnlike_19 : decode cX11_fewestUnlike 19 = .ok (.iload 4, 2) := by decide +kernel
theorem dX11_fewestUnlike_21 : decode cX11_fewestUnlike 21 = .ok (.ishr, 1) := by decide +kernel
theorem dX11_fewestUnlike_22 : decode cX11_fewestUnlike 22 = .ok (.iconst 1, 1) := by decide +kernel
theorem dX11_fewestUnlike_23 : decode cX11_fewestUnlike 23 = .ok (.iand, 1) := by decide +kernel
theorem dX11_fewestUnlike_24 : decode cX11_fewestUnlike 24 = .ok (.iconst 1, 1) := by decide +kernel
theorem dX11_fewestUnlike_25 : decode cX11_fewestUnlike 25 = .ok (.if_icmp .ne 22, 3) := by decide +kernel
theorem dX11_fewestUnlike_28 : decode cX11_fewestUnlike 28 = .ok (.iload_n 3, 1) := by decide +kernel
theorem dX11_fewestUnlike_29 : decode cX11_fewestUnlike 29 = .ok (.bipush 8, 2) := by decide +kernel
theorem dX11_fewestUnlike_31 : decode cX11_fewestUnlike 31 = .ok (.aload_n 0, 1) := by decide +kernel
theorem dX11_fewestUnlike_32 : decode cX11_fewestUnlike 32 = .ok (.getfield 54, 3) := by decide +kernel
theorem dX11_fewestUnlike_35 : decode cX11_fewestUnlike 35 = .ok (.iload 4, 2) := by decide +kernel
theorem dX11_fewestUnlike_37 : decode cX11_fewestUnlike 37 = .ok (.iload_n 2, 1) := by decide +kernel
theorem dX11_fewestUnlike_38 : decode cX11_fewestUnlike 38 = .ok (.iconst 0, 1) := by decide +kernel
theorem dX11_fewestUnlike_39 : decode cX11_fewestUnlike 39 = .ok (.invokevirtual 235, 3) := by decide +kernel
theorem dX11_fewestUnlike_42 : decode cX11_fewestUnlike 42 = .ok (.isub, 1) := by decide +kernel
theorem dX11_fewestUnlike_43 : decode cX11_fewestUnlike 43 = .ok (.invokestatic 211, 3) := by decide +kernel
theorem dX11_fewestUnlike_46 : decode cX11_fewestUnlike 46 = .ok (.istore_n 3, 1) := by decide +kernel
theorem dX11_fewestUnlike_47 : decode cX11_fewestUnlike 47 = .ok (.iinc 4 1, 3) := by decide +kernel
theorem dX11_fewestUnlike_50 : decode cX11_fewestUnlike 50 = .ok (.goto (-44), 3) := by decide +kernel
theorem dX11_fewestUnlike_53 : decode cX11_fewestUnlike 53 = .ok (.iload_n 3, 1) := by decide +kernel
theorem dX11_fewestUnlike_54 : decode cX11_fewestUnlike 54 = .ok (.ireturn, 1) := by decide +kernel
theorem dX11_stepsOfKin_0 : decode cX11_stepsOfKin 0 = .ok (.iconst 1, 1) := by decide +kernel
theorem dX11_stepsOfKin_1 : decode cX11_stepsOfKin 1 = .ok (.iload_n 1, 1) := by decide +kernel
theorem dX11_stepsOfKin_2 : decode cX11_stepsOfKin 2 = .ok (.ishl, 1) := by decide +kernel
theorem dX11_stepsOfKin_3 : decode cX11_stepsOfKin 3 = .ok (.istore_n 3, 1) := by decide +kernel
theorem dX11_stepsOfKin_4 : decode cX11_stepsOfKin 4 = .ok (.iconst 0, 1) := by decide +kernel
theorem dX11_stepsOfKin_5 : decode cX11_stepsOfKin 5 = .ok (.istore 4, 2) := by decide +kernel
theorem dX11_stepsOfKin_7 : decode cX11_stepsOfKin 7 = .ok (.iload 4, 2) := by decide +kernel
theorem dX11_stepsOfKin_9 : decode cX11_stepsOfKin 9 = .ok (.bipush 6, 2) := by decide +kernel
theorem dX11_stepsOfKin_11 : decode cX11_stepsOfKin 11 = .ok (.if_icmp .ge 76, 3) := by decide +kernel
theorem dX11_stepsOfKin_14 : decode cX11_stepsOfKin 14 = .ok (.iload_n 3, 1) := by decide +kernel
theorem dX11_stepsOfKin_15 : decode cX11_stepsOfKin 15 = .ok (.iload_n 2, 1) := by decide +kernel
theorem dX11_stepsOfKin_16 : decode cX11_stepsOfKin 16 = .ok (.ishr, 1) := by decide +kernel
theorem dX11_stepsOfKin_17 : decode cX11_stepsOfKin 17 = .ok (.iconst 1, 1) := by decide +kernel
theorem dX11_stepsOfKin_18 : decode cX11_stepsOfKin 18 = .ok (.iand, 1) := by decide +kernel
theorem dX11_stepsOfKin_19 : decode cX11_stepsOfKin 19 = .ok (.iconst 1, 1) := by decide +kernel
theorem dX11_stepsOfKin_20 : decode cX11_stepsOfKin 20 = .ok (.if_icmp .ne 6, 3) := by decide +kernel
theorem dX11_stepsOfKin_23 : decode cX11_stepsOfKin 23 = .ok (.iload 4, 2) := by decide +kernel
theorem dX11_stepsOfKin_25 : decode cX11_stepsOfKin 25 = .ok (.ireturn, 1) := by decide +kernel
theorem dX11_stepsOfKin_26 : decode cX11_stepsOfKin 26 = .ok (.iload_n 3, 1) := by decide +kernel
theorem dX11_stepsOfKin_27 : decode cX11_stepsOfKin 27 = .ok (.istore 5, 2) := by decide +kernel
theorem dX11_stepsOfKin_29 : decode cX11_stepsOfKin 29 = .ok (.iconst 0, 1) := by decide +kernel
theorem dX11_stepsOfKin_30 : decode cX11_stepsOfKin 30 = .ok (.istore 6, 2) := by decide +kernel
theorem dX11_stepsOfKin_32 : decode cX11_stepsOfKin 32 = .ok (.iload 6, 2) := by decide +kernel
theorem dX11_stepsOfKin_34 : decode cX11_stepsOfKin 34 = .ok (.aload_n 0, 1) := by decide +kernel
theorem dX11_stepsOfKin_35 : decode cX11_stepsOfKin 35 = .ok (.getfield 30, 3) := by decide +kernel
theorem dX11_stepsOfKin_38 : decode cX11_stepsOfKin 38 = .ok (.getfield 263, 3) := by decide +kernel
theorem dX11_stepsOfKin_41 : decode cX11_stepsOfKin 41 = .ok (.if_icmp .ge 37, 3) := by decide +kernel
theorem dX11_stepsOfKin_44 : decode cX11_stepsOfKin 44 = .ok (.iload_n 3, 1) := by decide +kernel
theorem dX11_stepsOfKin_45 : decode cX11_stepsOfKin 45 = .ok (.iload 6, 2) := by decide +kernel
theorem dX11_stepsOfKin_47 : decode cX11_stepsOfKin 47 = .ok (.ishr, 1) := by decide +kernel
theorem dX11_stepsOfKin_48 : decode cX11_stepsOfKin 48 = .ok (.iconst 1, 1) := by decide +kernel
theorem dX11_stepsOfKin_49 : decode cX11_stepsOfKin 49 = .ok (.iand, 1) := by decide +kernel
theorem dX11_stepsOfKin_50 : decode cX11_stepsOfKin 50 = .ok (.iconst 1, 1) := by decide +kernel
theorem dX11_stepsOfKin_51 : decode cX11_stepsOfKin 51 = .ok (.if_icmp .ne 21, 3) := by decide +kernel
theorem dX11_stepsOfKin_54 : decode cX11_stepsOfKin 54 = .ok (.iload 5, 2) := by decide +kernel
theorem dX11_stepsOfKin_56 : decode cX11_stepsOfKin 56 = .ok (.aload_n 0, 1) := by decide +kernel
theorem dX11_stepsOfKin_57 : decode cX11_stepsOfKin 57 = .ok (.getfield 30, 3) := by decide +kernel
theorem dX11_stepsOfKin_60 : decode cX11_stepsOfKin 60 = .ok (.getfield 140, 3) := by decide +kernel
theorem dX11_stepsOfKin_63 : decode cX11_stepsOfKin 63 = .ok (.iload 6, 2) := by decide +kernel
theorem dX11_stepsOfKin_65 : decode cX11_stepsOfKin 65 = .ok (.aaload, 1) := by decide +kernel
theorem dX11_stepsOfKin_66 : decode cX11_stepsOfKin 66 = .ok (.getfield 379, 3) := by decide +kernel
theorem dX11_stepsOfKin_69 : decode cX11_stepsOfKin 69 = .ok (.ior, 1) := by decide +kernel
theorem dX11_stepsOfKin_70 : decode cX11_stepsOfKin 70 = .ok (.istore 5, 2) := by decide +kernel
theorem dX11_stepsOfKin_72 : decode cX11_stepsOfKin 72 = .ok (.iinc 6 1, 3) := by decide +kernel
theorem dX11_stepsOfKin_75 : decode cX11_stepsOfKin 75 = .ok (.goto (-43), 3) := by decide +kernel
theorem dX11_stepsOfKin_78 : decode cX11_stepsOfKin 78 = .ok (.iload 5, 2) := by decide +kernel
theorem dX11_stepsOfKin_80 : decode cX11_stepsOfKin 80 = .ok (.istore_n 3, 1) := by decide +kernel
theorem dX11_stepsOfKin_81 : decode cX11_stepsOfKin 81 = .ok (.iinc 4 1, 3) := by decide +kernel
theorem dX11_stepsOfKin_84 : decode cX11_stepsOfKin 84 = .ok (.goto (-77), 3) := by decide +kernel
theorem dX11_stepsOfKin_87 : decode cX11_stepsOfKin 87 = .ok (.bipush (-2), 2) := by decide +kernel
theorem dX11_stepsOfKin_89 : decode cX11_stepsOfKin 89 = .ok (.ireturn, 1) := by decide +kernel
theorem dX11_guestsWho_0 : decode cX11_guestsWho 0 = .ok (.iconst 0, 1) := by decide +kernel
theorem dX11_guestsWho_1 : decode cX11_guestsWho 1 = .ok (.istore_n 3, 1) := by decide +kernel
theorem dX11_guestsWho_2 : decode cX11_guestsWho 2 = .ok (.iconst 0, 1) := by decide +kernel
theorem dX11_guestsWho_3 : decode cX11_guestsWho 3 = .ok (.istore 4, 2) := by decide +kernel
theorem dX11_guestsWho_5 : decode cX11_guestsWho 5 = .ok (.iload 4, 2) := by decide +kernel
theorem dX11_guestsWho_7 : decode cX11_guestsWho 7 = .ok (.aload_n 0, 1) := by decide +kernel
theorem dX11_guestsWho_8 : decode cX11_guestsWho 8 = .ok (.getfield 82, 3) := by decide +kernel
theorem dX11_guestsWho_11 : decode cX11_guestsWho 11 = .ok (.getfield 180, 3) := by decide +kernel
theorem dX11_guestsWho_14 : decode cX11_guestsWho 14 = .ok (.if_icmp .ge 44, 3) := by decide +kernel
theorem dX11_guestsWho_17 : decode cX11_guestsWho 17 = .ok (.aload_n 0, 1) := by decide +kernel
theorem dX11_guestsWho_18 : decode cX11_guestsWho 18 = .ok (.getfield 82, 3) := by decide +kernel
theorem dX11_guestsWho_21 : decode cX11_guestsWho 21 = .ok (.getfield 183, 3) := by decide +kernel
theorem dX11_guestsWho_24 : decode cX11_guestsWho 24 = .ok (.iload 4, 2) := by decide +kernel
theorem dX11_guestsWho_26 : decode cX11_guestsWho 26 = .ok (.iaload, 1) := by decide +kernel
theorem dX11_guestsWho_27 : decode cX11_guestsWho 27 = .ok (.iload_n 1, 1) := by decide +kernel
theorem dX11_guestsWho_28 : decode cX11_guestsWho 28 = .ok (.if_icmp .lt 24, 3) := by decide +kernel
theorem dX11_guestsWho_31 : decode cX11_guestsWho 31 = .ok (.aload_n 0, 1) := by decide +kernel
theorem dX11_guestsWho_32 : decode cX11_guestsWho 32 = .ok (.getfield 82, 3) := by decide +kernel
theorem dX11_guestsWho_35 : decode cX11_guestsWho 35 = .ok (.getfield 186, 3) := by decide +kernel
theorem dX11_guestsWho_38 : decode cX11_guestsWho 38 = .ok (.iload 4, 2) := by decide +kernel
theorem dX11_guestsWho_40 : decode cX11_guestsWho 40 = .ok (.iaload, 1) := by decide +kernel
theorem dX11_guestsWho_41 : decode cX11_guestsWho 41 = .ok (.iload_n 2, 1) := by decide +kernel
theorem dX11_guestsWho_42 : decode cX11_guestsWho 42 = .ok (.if_icmp .lt 10, 3) := by decide +kernel
theorem dX11_guestsWho_45 : decode cX11_guestsWho 45 = .ok (.iload_n 3, 1) := by decide +kernel
theorem dX11_guestsWho_46 : decode cX11_guestsWho 46 = .ok (.iconst 1, 1) := by decide +kernel
theorem dX11_guestsWho_47 : decode cX11_guestsWho 47 = .ok (.iload 4, 2) := by decide +kernel
theorem dX11_guestsWho_49 : decode cX11_guestsWho 49 = .ok (.ishl, 1) := by decide +kernel
theorem dX11_guestsWho_50 : decode cX11_guestsWho 50 = .ok (.ior, 1) := by decide +kernel
theorem dX11_guestsWho_51 : decode cX11_guestsWho 51 = .ok (.istore_n 3, 1) := by decide +kernel
theorem dX11_guestsWho_52 : decode cX11_guestsWho 52 = .ok (.iinc 4 1, 3) := by decide +kernel
theorem dX11_guestsWho_55 : decode cX11_guestsWho 55 = .ok (.goto (-50), 3) := by decide +kernel
theorem dX11_guestsWho_58 : decode cX11_guestsWho 58 = .ok (.iload_n 3, 1) := by decide +kernel
theorem dX11_guestsWho_59 : decode cX11_guestsWho 59 = .ok (.ireturn, 1) := by decide +kernel
theorem dX11_weighTurns_0 : decode cX11_weighTurns 0 = .ok (.iconst 0, 1) := by decide +kernel
theorem dX11_weighTurns_1 : decode cX11_weighTurns 1 = .ok (.istore_n 3, 1) := by decide +kernel
theorem dX11_weighTurns_2 : decode cX11_weighTurns 2 = .ok (.iload_n 3, 1) := by decide +kernel
theorem dX11_weighTurns_3 : decode cX11_weighTurns 3 = .ok (.iconst 3, 1) := by decide +kernel
theorem dX11_weighTurns_4 : decode cX11_weighTurns 4 = .ok (.if_icmp .ge 108, 3) := by decide +kernel
theorem dX11_weighTurns_7 : decode cX11_weighTurns 7 = .ok (.iconst 0, 1) := by decide +kernel
theorem dX11_weighTurns_8 : decode cX11_weighTurns 8 = .ok (.istore 4, 2) := by decide +kernel
theorem dX11_weighTurns_10 : decode cX11_weighTurns 10 = .ok (.iload 4, 2) := by decide +kernel
theorem dX11_weighTurns_12 : decode cX11_weighTurns 12 = .ok (.bipush 10, 2) := by decide +kernel
theorem dX11_weighTurns_14 : decode cX11_weighTurns 14 = .ok (.if_icmp .ge 92, 3) := by decide +kernel
theorem dX11_weighTurns_17 : decode cX11_weighTurns 17 = .ok (.iconst 0, 1) := by decide +kernel
theorem dX11_weighTurns_18 : decode cX11_weighTurns 18 = .ok (.istore 5, 2) := by decide +kernel
theorem dX11_weighTurns_20 : decode cX11_weighTurns 20 = .ok (.iload 4, 2) := by decide +kernel
theorem dX11_weighTurns_22 : decode cX11_weighTurns 22 = .ok (.iload_n 2, 1) := by decide +kernel
theorem dX11_weighTurns_23 : decode cX11_weighTurns 23 = .ok (.if_icmp .gt 63, 3) := by decide +kernel
theorem dX11_weighTurns_26 : decode cX11_weighTurns 26 = .ok (.iload_n 3, 1) := by decide +kernel
theorem dX11_weighTurns_27 : decode cX11_weighTurns 27 = .ok (.aload_n 0, 1) := by decide +kernel
theorem dX11_weighTurns_28 : decode cX11_weighTurns 28 = .ok (.getfield 30, 3) := by decide +kernel
theorem dX11_weighTurns_31 : decode cX11_weighTurns 31 = .ok (.getfield 263, 3) := by decide +kernel
theorem dX11_weighTurns_34 : decode cX11_weighTurns 34 = .ok (.if_icmp .ge 52, 3) := by decide +kernel
theorem dX11_weighTurns_37 : decode cX11_weighTurns 37 = .ok (.aload_n 0, 1) := by decide +kernel
theorem dX11_weighTurns_38 : decode cX11_weighTurns 38 = .ok (.getfield 68, 3) := by decide +kernel
theorem dX11_weighTurns_41 : decode cX11_weighTurns 41 = .ok (.aload_n 0, 1) := by decide +kernel
theorem dX11_weighTurns_42 : decode cX11_weighTurns 42 = .ok (.getfield 30, 3) := by decide +kernel
theorem dX11_weighTurns_45 : decode cX11_weighTurns 45 = .ok (.getfield 140, 3) := by decide +kernel
theorem dX11_weighTurns_48 : decode cX11_weighTurns 48 = .ok (.iload_n 3, 1) := by decide +kernel
theorem dX11_weighTurns_49 : decode cX11_weighTurns 49 = .ok (.aaload, 1) := by decide +kernel
theorem dX11_weighTurns_50 : decode cX11_weighTurns 50 = .ok (.invokevirtual 223, 3) := by decide +kernel
theorem dX11_weighTurns_53 : decode cX11_weighTurns 53 = .ok (.aload_n 0, 1) := by decide +kernel
theorem dX11_weighTurns_54 : decode cX11_weighTurns 54 = .ok (.getfield 68, 3) := by decide +kernel
theorem dX11_weighTurns_57 : decode cX11_weighTurns 57 = .ok (.bipush 99, 2) := by decide +kernel
theorem dX11_weighTurns_59 : decode cX11_weighTurns 59 = .ok (.aload_n 0, 1) := by decide +kernel
theorem dX11_weighTurns_60 : decode cX11_weighTurns 60 = .ok (.getfield 68, 3) := by decide +kernel
theorem dX11_weighTurns_63 : decode cX11_weighTurns 63 = .ok (.getfield 144, 3) := by decide +kernel
theorem dX11_weighTurns_66 : decode cX11_weighTurns 66 = .ok (.iload 4, 2) := by decide +kernel
theorem dX11_weighTurns_68 : decode cX11_weighTurns 68 = .ok (.iadd, 1) := by decide +kernel
theorem dX11_weighTurns_69 : decode cX11_weighTurns 69 = .ok (.invokestatic 211, 3) := by decide +kernel
theorem dX11_weighTurns_72 : decode cX11_weighTurns 72 = .ok (.putfield 144, 3) := by decide +kernel
theorem dX11_weighTurns_75 : decode cX11_weighTurns 75 = .ok (.aload_n 0, 1) := by decide +kernel
theorem dX11_weighTurns_76 : decode cX11_weighTurns 76 = .ok (.iload_n 1, 1) := by decide +kernel
theorem dX11_weighTurns_77 : decode cX11_weighTurns 77 = .ok (.aload_n 0, 1) := by decide +kernel
theorem dX11_weighTurns_78 : decode cX11_weighTurns 78 = .ok (.invokevirtual 279, 3) := by decide +kernel
theorem dX11_weighTurns_81 : decode cX11_weighTurns 81 = .ok (.invokevirtual 292, 3) := by decide +kernel
theorem dX11_weighTurns_84 : decode cX11_weighTurns 84 = .ok (.istore 5, 2) := by decide +kernel
theorem dX11_weighTurns_86 : decode cX11_weighTurns 86 = .ok (.aload_n 0, 1) := by decide +kernel
theorem dX11_weighTurns_87 : decode cX11_weighTurns 87 = .ok (.getfield 72, 3) := by decide +kernel
theorem dX11_weighTurns_90 : decode cX11_weighTurns 90 = .ok (.iload_n 3, 1) := by decide +kernel
theorem dX11_weighTurns_91 : decode cX11_weighTurns 91 = .ok (.bipush 10, 2) := by decide +kernel
theorem dX11_weighTurns_93 : decode cX11_weighTurns 93 = .ok (.imul, 1) := by decide +kernel
theorem dX11_weighTurns_94 : decode cX11_weighTurns 94 = .ok (.iload 4, 2) := by decide +kernel
theorem dX11_weighTurns_96 : decode cX11_weighTurns 96 = .ok (.iadd, 1) := by decide +kernel
theorem dX11_weighTurns_97 : decode cX11_weighTurns 97 = .ok (.iload 5, 2) := by decide +kernel
theorem dX11_weighTurns_99 : decode cX11_weighTurns 99 = .ok (.iastore, 1) := by decide +kernel
theorem dX11_weighTurns_100 : decode cX11_weighTurns 100 = .ok (.iinc 4 1, 3) := by decide +kernel
theorem dX11_weighTurns_103 : decode cX11_weighTurns 103 = .ok (.goto (-93), 3) := by decide +kernel
theorem dX11_weighTurns_106 : decode cX11_weighTurns 106 = .ok (.iinc 3 1, 3) := by decide +kernel
theorem dX11_weighTurns_109 : decode cX11_weighTurns 109 = .ok (.goto (-107), 3) := by decide +kernel
theorem dX11_weighTurns_112 : decode cX11_weighTurns 112 = .ok (.return_, 1) := by decide +kernel
theorem dX11_windBest_0 : decode cX11_windBest 0 = .ok (.iconst (-1), 1) := by decide +kernel
theorem dX11_windBest_1 : decode cX11_windBest 1 = .ok (.istore_n 2, 1) := by decide +kernel
theorem dX11_windBest_2 : decode cX11_windBest 2 = .ok (.iconst 0, 1) := by decide +kernel
theorem dX11_windBest_3 : decode cX11_windBest 3 = .ok (.istore_n 3, 1) := by decide +kernel
theorem dX11_windBest_4 : decode cX11_windBest 4 = .ok (.iload_n 3, 1) := by decide +kernel
theorem dX11_windBest_5 : decode cX11_windBest 5 = .ok (.iload_n 1, 1) := by decide +kernel
theorem dX11_windBest_6 : decode cX11_windBest 6 = .ok (.if_icmp .gt 108, 3) := by decide +kernel
theorem dX11_windBest_9 : decode cX11_windBest 9 = .ok (.iconst 0, 1) := by decide +kernel
theorem dX11_windBest_10 : decode cX11_windBest 10 = .ok (.istore 4, 2) := by decide +kernel
theorem dX11_windBest_12 : decode cX11_windBest 12 = .ok (.iload_n 3, 1) := by decide +kernel
theorem dX11_windBest_13 : decode cX11_windBest 13 = .ok (.iload 4, 2) := by decide +kernel
theorem dX11_windBest_15 : decode cX11_windBest 15 = .ok (.iadd, 1) := by decide +kernel
theorem dX11_windBest_16 : decode cX11_windBest 16 = .ok (.iload_n 1, 1) := by decide +kernel
theorem dX11_windBest_17 : decode cX11_windBest 17 = .ok (.if_icmp .gt 91, 3) := by decide +kernel
theorem dX11_windBest_20 : decode cX11_windBest 20 = .ok (.iconst 0, 1) := by decide +kernel
theorem dX11_windBest_21 : decode cX11_windBest 21 = .ok (.istore 5, 2) := by decide +kernel
theorem dX11_windBest_23 : decode cX11_windBest 23 = .ok (.iload_n 3, 1) := by decide +kernel
theorem dX11_windBest_24 : decode cX11_windBest 24 = .ok (.iload 4, 2) := by decide +kernel
theorem dX11_windBest_26 : decode cX11_windBest 26 = .ok (.iadd, 1) := by decide +kernel
theorem dX11_windBest_27 : decode cX11_windBest 27 = .ok (.iload 5, 2) := by decide +kernel
theorem dX11_windBest_29 : decode cX11_windBest 29 = .ok (.iadd, 1) := by decide +kernel
theorem dX11_windBest_30 : decode cX11_windBest 30 = .ok (.iload_n 1, 1) := by decide +kernel
theorem dX11_windBest_31 : decode cX11_windBest 31 = .ok (.if_icmp .gt 71, 3) := by decide +kernel
theorem dX11_windBest_34 : decode cX11_windBest 34 = .ok (.aload_n 0, 1) := by decide +kernel
theorem dX11_windBest_35 : decode cX11_windBest 35 = .ok (.getfield 72, 3) := by decide +kernel
theorem dX11_windBest_38 : decode cX11_windBest 38 = .ok (.iload_n 3, 1) := by decide +kernel
theorem dX11_windBest_39 : decode cX11_windBest 39 = .ok (.iaload, 1) := by decide +kernel
theorem dX11_windBest_40 : decode cX11_windBest 40 = .ok (.aload_n 0, 1) := by decide +kernel
theorem dX11_windBest_41 : decode cX11_windBest 41 = .ok (.getfield 72, 3) := by decide +kernel
theorem dX11_windBest_44 : decode cX11_windBest 44 = .ok (.bipush 10, 2) := by decide +kernel
theorem dX11_windBest_46 : decode cX11_windBest 46 = .ok (.iload 4, 2) := by decide +kernel
theorem dX11_windBest_48 : decode cX11_windBest 48 = .ok (.iadd, 1) := by decide +kernel
theorem dX11_windBest_49 : decode cX11_windBest 49 = .ok (.iaload, 1) := by decide +kernel
theorem dX11_windBest_50 : decode cX11_windBest 50 = .ok (.iadd, 1) := by decide +kernel
theorem dX11_windBest_51 : decode cX11_windBest 51 = .ok (.aload_n 0, 1) := by decide +kernel
theorem dX11_windBest_52 : decode cX11_windBest 52 = .ok (.getfield 72, 3) := by decide +kernel
theorem dX11_windBest_55 : decode cX11_windBest 55 = .ok (.bipush 20, 2) := by decide +kernel
theorem dX11_windBest_57 : decode cX11_windBest 57 = .ok (.iload 5, 2) := by decide +kernel
theorem dX11_windBest_59 : decode cX11_windBest 59 = .ok (.iadd, 1) := by decide +kernel
theorem dX11_windBest_60 : decode cX11_windBest 60 = .ok (.iaload, 1) := by decide +kernel
theorem dX11_windBest_61 : decode cX11_windBest 61 = .ok (.iadd, 1) := by decide +kernel
theorem dX11_windBest_62 : decode cX11_windBest 62 = .ok (.istore 6, 2) := by decide +kernel
theorem dX11_windBest_64 : decode cX11_windBest 64 = .ok (.iload 6, 2) := by decide +kernel
theorem dX11_windBest_66 : decode cX11_windBest 66 = .ok (.iload_n 2, 1) := by decide +kernel
theorem dX11_windBest_67 : decode cX11_windBest 67 = .ok (.if_icmp .le 29, 3) := by decide +kernel
theorem dX11_windBest_70 : decode cX11_windBest 70 = .ok (.iload 6, 2) := by decide +kernel
theorem dX11_windBest_72 : decode cX11_windBest 72 = .ok (.istore_n 2, 1) := by decide +kernel
theorem dX11_windBest_73 : decode cX11_windBest 73 = .ok (.aload_n 0, 1) := by decide +kernel
theorem dX11_windBest_74 : decode cX11_windBest 74 = .ok (.getfield 76, 3) := by decide +kernel
theorem dX11_windBest_77 : decode cX11_windBest 77 = .ok (.iconst 0, 1) := by decide +kernel
theorem dX11_windBest_78 : decode cX11_windBest 78 = .ok (.iload_n 3, 1) := by decide +kernel
theorem dX11_windBest_79 : decode cX11_windBest 79 = .ok (.iastore, 1) := by decide +kernel
theorem dX11_windBest_80 : decode cX11_windBest 80 = .ok (.aload_n 0, 1) := by decide +kernel
theorem dX11_windBest_81 : decode cX11_windBest 81 = .ok (.getfield 76, 3) := by decide +kernel
theorem dX11_windBest_84 : decode cX11_windBest 84 = .ok (.iconst 1, 1) := by decide +kernel
theorem dX11_windBest_85 : decode cX11_windBest 85 = .ok (.iload 4, 2) := by decide +kernel
theorem dX11_windBest_87 : decode cX11_windBest 87 = .ok (.iastore, 1) := by decide +kernel
theorem dX11_windBest_88 : decode cX11_windBest 88 = .ok (.aload_n 0, 1) := by decide +kernel
theorem dX11_windBest_89 : decode cX11_windBest 89 = .ok (.getfield 76, 3) := by decide +kernel
theorem dX11_windBest_92 : decode cX11_windBest 92 = .ok (.iconst 2, 1) := by decide +kernel
theorem dX11_windBest_93 : decode cX11_windBest 93 = .ok (.iload 5, 2) := by decide +kernel
theorem dX11_windBest_95 : decode cX11_windBest 95 = .ok (.iastore, 1) := by decide +kernel
theorem dX11_windBest_96 : decode cX11_windBest 96 = .ok (.iinc 5 1, 3) := by decide +kernel
theorem dX11_windBest_99 : decode cX11_windBest 99 = .ok (.goto (-76), 3) := by decide +kernel
theorem dX11_windBest_102 : decode cX11_windBest 102 = .ok (.iinc 4 1, 3) := by decide +kernel
theorem dX11_windBest_105 : decode cX11_windBest 105 = .ok (.goto (-93), 3) := by decide +kernel
theorem dX11_windBest_108 : decode cX11_windBest 108 = .ok (.iinc 3 1, 3) := by decide +kernel
theorem dX11_windBest_111 : decode cX11_windBest 111 = .ok (.goto (-107), 3) := by decide +kernel
theorem dX11_windBest_114 : decode cX11_windBest 114 = .ok (.iload_n 2, 1) := by decide +kernel
theorem dX11_windBest_115 : decode cX11_windBest 115 = .ok (.ireturn, 1) := by decide +kernel
theorem dX11_laughterOfThisYear_0 : decode cX11_laughterOfThisYear 0 = .ok (.aload_n 0, 1) := by decide +kernel
theorem dX11_laughterOfThisYear_1 : decode cX11_laughterOfThisYear 1 = .ok (.getfield 68, 3) := by decide +kernel
theorem dX11_laughterOfThisYear_4 : decode cX11_laughterOfThisYear 4 = .ok (.aload_n 0, 1) := by decide +kernel
theorem dX11_laughterOfThisYear_5 : decode cX11_laughterOfThisYear 5 = .ok (.getfield 30, 3) := by decide +kernel
theorem dX11_laughterOfThisYear_8 : decode cX11_laughterOfThisYear 8 = .ok (.getfield 140, 3) := by decide +kernel
theorem dX11_laughterOfThisYear_11 : decode cX11_laughterOfThisYear 11 = .ok (.iload_n 1, 1) := by decide +kernel
theorem dX11_laughterOfThisYear_12 : decode cX11_laughterOfThisYear 12 = .ok (.aaload, 1) := by decide +kernel
theorem dX11_laughterOfThisYear_13 : decode cX11_laughterOfThisYear 13 = .ok (.invokevirtual 223, 3) := by decide +kernel
theorem dX11_laughterOfThisYear_16 : decode cX11_laughterOfThisYear 16 = .ok (.aload_n 0, 1) := by decide +kernel
theorem dX11_laughterOfThisYear_17 : decode cX11_laughterOfThisYear 17 = .ok (.iconst 1, 1) := by decide +kernel
theorem dX11_laughterOfThisYear_18 : decode cX11_laughterOfThisYear 18 = .ok (.aload_n 0, 1) := by decide +kernel
theorem dX11_laughterOfThisYear_19 : decode cX11_laughterOfThisYear 19 = .ok (.invokevirtual 279, 3) := by decide +kernel
theorem dX11_laughterOfThisYear_22 : decode cX11_laughterOfThisYear 22 = .ok (.invokevirtual 292, 3) := by decide +kernel
theorem dX11_laughterOfThisYear_25 : decode cX11_laughterOfThisYear 25 = .ok (.ireturn, 1) := by decide +kernel
theorem dX11_keyIsWorth_0 : decode cX11_keyIsWorth 0 = .ok (.iload_n 1, 1) := by decide +kernel
theorem dX11_keyIsWorth_1 : decode cX11_keyIsWorth 1 = .ok (.iload_n 2, 1) := by decide +kernel
theorem dX11_keyIsWorth_2 : decode cX11_keyIsWorth 2 = .ok (.if_icmp .ge 5, 3) := by decide +kernel
theorem dX11_keyIsWorth_5 : decode cX11_keyIsWorth 5 = .ok (.iconst 0, 1) := by decide +kernel
theorem dX11_keyIsWorth_6 : decode cX11_keyIsWorth 6 = .ok (.ireturn, 1) := by decide +kernel
theorem dX11_keyIsWorth_7 : decode cX11_keyIsWorth 7 = .ok (.iload_n 1, 1) := by decide +kernel
theorem dX11_keyIsWorth_8 : decode cX11_keyIsWorth 8 = .ok (.iload_n 2, 1) := by decide +kernel
theorem dX11_keyIsWorth_9 : decode cX11_keyIsWorth 9 = .ok (.if_icmp .le 7, 3) := by decide +kernel
theorem dX11_keyIsWorth_12 : decode cX11_keyIsWorth 12 = .ok (.iload_n 0, 1) := by decide +kernel
theorem dX11_keyIsWorth_13 : decode cX11_keyIsWorth 13 = .ok (.goto 6, 3) := by decide +kernel
theorem dX11_keyIsWorth_16 : decode cX11_keyIsWorth 16 = .ok (.iload_n 0, 1) := by decide +kernel
theorem dX11_keyIsWorth_17 : decode cX11_keyIsWorth 17 = .ok (.iconst 2, 1) := by decide +kernel
theorem dX11_keyIsWorth_18 : decode cX11_keyIsWorth 18 = .ok (.idiv, 1) := by decide +kernel
theorem dX11_keyIsWorth_19 : decode cX11_keyIsWorth 19 = .ok (.iload_n 1, 1) := by decide +kernel
theorem dX11_keyIsWorth_20 : decode cX11_keyIsWorth 20 = .ok (.isub, 1) := by decide +kernel
theorem dX11_keyIsWorth_21 : decode cX11_keyIsWorth 21 = .ok (.ireturn, 1) := by decide +kernel
theorem dX11_isRest_0 : decode cX11_isRest 0 = .ok (.iconst 0, 1) := by decide +kernel
theorem dX11_isRest_1 : decode cX11_isRest 1 = .ok (.istore_n 3, 1) := by decide +kernel
theorem dX11_isRest_2 : decode cX11_isRest 2 = .ok (.iload_n 3, 1) := by decide +kernel
theorem dX11_isRest_3 : decode cX11_isRest 3 = .ok (.iconst 4, 1) := by decide +kernel
theorem dX11_isRest_4 : decode cX11_isRest 4 = .ok (.if_icmp .gt 41, 3) := by decide +kernel
theorem dX11_isRest_7 : decode cX11_isRest 7 = .ok (.iload_n 0, 1) := by decide +kernel
theorem dX11_isRest_8 : decode cX11_isRest 8 = .ok (.iload_n 3, 1) := by decide +kernel
theorem dX11_isRest_9 : decode cX11_isRest 9 = .ok (.iload_n 2, 1) := by decide +kernel
theorem dX11_isRest_10 : decode cX11_isRest 10 = .ok (.invokestatic 382, 3) := by decide +kernel
theorem dX11_isRest_13 : decode cX11_isRest 13 = .ok (.iload_n 0, 1) := by decide +kernel
theorem dX11_isRest_14 : decode cX11_isRest 14 = .ok (.iload_n 1, 1) := by decide +kernel
theorem dX11_isRest_15 : decode cX11_isRest 15 = .ok (.iload_n 2, 1) := by decide +kernel
theorem dX11_isRest_16 : decode cX11_isRest 16 = .ok (.invokestatic 382, 3) := by decide +kernel
theorem dX11_isRest_19 : decode cX11_isRest 19 = .ok (.if_icmp .gt 18, 3) := by decide +kernel
theorem dX11_isRest_22 : decode cX11_isRest 22 = .ok (.iload_n 0, 1) := by decide +kernel
theorem dX11_isRest_23 : decode cX11_isRest 23 = .ok (.iload_n 3, 1) := by decide +kernel
theorem dX11_isRest_24 : decode cX11_isRest 24 = .ok (.iload_n 1, 1) := by decide +kernel
theorem dX11_isRest_25 : decode cX11_isRest 25 = .ok (.invokestatic 382, 3) := by decide +kernel
theorem dX11_isRest_28 : decode cX11_isRest 28 = .ok (.iload_n 0, 1) := by decide +kernel
theorem dX11_isRest_29 : decode cX11_isRest 29 = .ok (.iload_n 2, 1) := by decide +kernel
theorem dX11_isRest_30 : decode cX11_isRest 30 = .ok (.iload_n 1, 1) := by decide +kernel
theorem dX11_isRest_31 : decode cX11_isRest 31 = .ok (.invokestatic 382, 3) := by decide +kernel
theorem dX11_isRest_34 : decode cX11_isRest 34 = .ok (.if_icmp .le 5, 3) := by decide +kernel
theorem dX11_isRest_37 : decode cX11_isRest 37 = .ok (.iconst 0, 1) := by decide +kernel
theorem dX11_isRest_38 : decode cX11_isRest 38 = .ok (.ireturn, 1) := by decide +kernel
theorem dX11_isRest_39 : decode cX11_isRest 39 = .ok (.iinc 3 1, 3) := by decide +kernel
theorem dX11_isRest_42 : decode cX11_isRest 42 = .ok (.goto (-40), 3) := by decide +kernel
theorem dX11_isRest_45 : decode cX11_isRest 45 = .ok (.iconst 1, 1) := by decide +kernel
theorem dX11_isRest_46 : decode cX11_isRest 46 = .ok (.ireturn, 1) := by decide +kernel
