theorem dX11_init_0 : decode cX11_init 0 = .ok (.aload_n 0, 1) := by decide +kernel
theorem dX11_init_1 : decode cX11_init 1 = .ok (.invokespecial 3, 3) := by decide +kernel
theorem dX11_init_4 : decode cX11_init 4 = .ok (.aload_n 0, 1) := by decide +kernel
theorem dX11_init_5 : decode cX11_init 5 = .ok (.sipush 700, 3) := by decide +kernel
theorem dX11_init_8 : decode cX11_init 8 = .ok (.newarray .byte, 2) := by decide +kernel
theorem dX11_init_10 : decode cX11_init 10 = .ok (.putfield 11, 3) := by decide +kernel
theorem dX11_init_13 : decode cX11_init 13 = .ok (.aload_n 0, 1) := by decide +kernel
theorem dX11_init_14 : decode cX11_init 14 = .ok (.new 15, 3) := by decide +kernel
theorem dX11_init_17 : decode cX11_init 17 = .ok (.dup, 1) := by decide +kernel
theorem dX11_init_18 : decode cX11_init 18 = .ok (.aload_n 0, 1) := by decide +kernel
theorem dX11_init_19 : decode cX11_init 19 = .ok (.getfield 11, 3) := by decide +kernel
theorem dX11_init_22 : decode cX11_init 22 = .ok (.invokespecial 17, 3) := by decide +kernel
theorem dX11_init_25 : decode cX11_init 25 = .ok (.putfield 20, 3) := by decide +kernel
theorem dX11_init_28 : decode cX11_init 28 = .ok (.aload_n 0, 1) := by decide +kernel
theorem dX11_init_29 : decode cX11_init 29 = .ok (.new 24, 3) := by decide +kernel
theorem dX11_init_32 : decode cX11_init 32 = .ok (.dup, 1) := by decide +kernel
theorem dX11_init_33 : decode cX11_init 33 = .ok (.invokespecial 26, 3) := by decide +kernel
theorem dX11_init_36 : decode cX11_init 36 = .ok (.putfield 27, 3) := by decide +kernel
theorem dX11_init_39 : decode cX11_init 39 = .ok (.aload_n 0, 1) := by decide +kernel
theorem dX11_init_40 : decode cX11_init 40 = .ok (.new 24, 3) := by decide +kernel
theorem dX11_init_43 : decode cX11_init 43 = .ok (.dup, 1) := by decide +kernel
theorem dX11_init_44 : decode cX11_init 44 = .ok (.invokespecial 26, 3) := by decide +kernel
theorem dX11_init_47 : decode cX11_init 47 = .ok (.putfield 31, 3) := by decide +kernel
theorem dX11_init_50 : decode cX11_init 50 = .ok (.aload_n 0, 1) := by decide +kernel
theorem dX11_init_51 : decode cX11_init 51 = .ok (.new 34, 3) := by decide +kernel
theorem dX11_init_54 : decode cX11_init 54 = .ok (.dup, 1) := by decide +kernel
theorem dX11_init_55 : decode cX11_init 55 = .ok (.invokespecial 36, 3) := by decide +kernel
theorem dX11_init_58 : decode cX11_init 58 = .ok (.putfield 37, 3) := by decide +kernel
theorem dX11_init_61 : decode cX11_init 61 = .ok (.aload_n 0, 1) := by decide +kernel
theorem dX11_init_62 : decode cX11_init 62 = .ok (.new 34, 3) := by decide +kernel
theorem dX11_init_65 : decode cX11_init 65 = .ok (.dup, 1) := by decide +kernel
theorem dX11_init_66 : decode cX11_init 66 = .ok (.invokespecial 36, 3) := by decide +kernel
theorem dX11_init_69 : decode cX11_init 69 = .ok (.putfield 41, 3) := by decide +kernel
theorem dX11_init_72 : decode cX11_init 72 = .ok (.aload_n 0, 1) := by decide +kernel
theorem dX11_init_73 : decode cX11_init 73 = .ok (.new 34, 3) := by decide +kernel
theorem dX11_init_76 : decode cX11_init 76 = .ok (.dup, 1) := by decide +kernel
theorem dX11_init_77 : decode cX11_init 77 = .ok (.invokespecial 36, 3) := by decide +kernel
theorem dX11_init_80 : decode cX11_init 80 = .ok (.putfield 44, 3) := by decide +kernel
theorem dX11_init_83 : decode cX11_init 83 = .ok (.aload_n 0, 1) := by decide +kernel
theorem dX11_init_84 : decode cX11_init 84 = .ok (.new 47, 3) := by decide +kernel
theorem dX11_init_87 : decode cX11_init 87 = .ok (.dup, 1) := by decide +kernel
theorem dX11_init_88 : decode cX11_init 88 = .ok (.invokespecial 49, 3) := by decide +kernel
theorem dX11_init_91 : decode cX11_init 91 = .ok (.putfield 50, 3) := by decide +kernel
theorem dX11_init_94 : decode cX11_init 94 = .ok (.aload_n 0, 1) := by decide +kernel
theorem dX11_init_95 : decode cX11_init 95 = .ok (.new 54, 3) := by decide +kernel
theorem dX11_init_98 : decode cX11_init 98 = .ok (.dup, 1) := by decide +kernel
theorem dX11_init_99 : decode cX11_init 99 = .ok (.invokespecial 56, 3) := by decide +kernel
theorem dX11_init_102 : decode cX11_init 102 = .ok (.putfield 57, 3) := by decide +kernel
theorem dX11_init_105 : decode cX11_init 105 = .ok (.aload_n 0, 1) := by decide +kernel
theorem dX11_init_106 : decode cX11_init 106 = .ok (.new 61, 3) := by decide +kernel
theorem dX11_init_109 : decode cX11_init 109 = .ok (.dup, 1) := by decide +kernel
theorem dX11_init_110 : decode cX11_init 110 = .ok (.invokespecial 63, 3) := by decide +kernel
theorem dX11_init_113 : decode cX11_init 113 = .ok (.putfield 64, 3) := by decide +kernel
theorem dX11_init_116 : decode cX11_init 116 = .ok (.aload_n 0, 1) := by decide +kernel
theorem dX11_init_117 : decode cX11_init 117 = .ok (.new 68, 3) := by decide +kernel
theorem dX11_init_120 : decode cX11_init 120 = .ok (.dup, 1) := by decide +kernel
theorem dX11_init_121 : decode cX11_init 121 = .ok (.invokespecial 70, 3) := by decide +kernel
theorem dX11_init_124 : decode cX11_init 124 = .ok (.putfield 71, 3) := by decide +kernel
theorem dX11_init_127 : decode cX11_init 127 = .ok (.aload_n 0, 1) := by decide +kernel
theorem dX11_init_128 : decode cX11_init 128 = .ok (.new 75, 3) := by decide +kernel
theorem dX11_init_131 : decode cX11_init 131 = .ok (.dup, 1) := by decide +kernel
theorem dX11_init_132 : decode cX11_init 132 = .ok (.invokespecial 77, 3) := by decide +kernel
theorem dX11_init_135 : decode cX11_init 135 = .ok (.putfield 78, 3) := by decide +kernel
theorem dX11_init_138 : decode cX11_init 138 = .ok (.aload_n 0, 1) := by decide +kernel
theorem dX11_init_139 : decode cX11_init 139 = .ok (.getfield 37, 3) := by decide +kernel
theorem dX11_init_142 : decode cX11_init 142 = .ok (.aload_n 0, 1) := by decide +kernel
theorem dX11_init_143 : decode cX11_init 143 = .ok (.getfield 27, 3) := by decide +kernel
theorem dX11_init_146 : decode cX11_init 146 = .ok (.invokevirtual 82, 3) := by decide +kernel
theorem dX11_init_149 : decode cX11_init 149 = .ok (.return_, 1) := by decide +kernel
theorem dX11_feed_0 : decode cX11_feed 0 = .ok (.aload_n 0, 1) := by decide +kernel
theorem dX11_feed_1 : decode cX11_feed 1 = .ok (.getfield 86, 3) := by decide +kernel
theorem dX11_feed_4 : decode cX11_feed 4 = .ok (.sipush 680, 3) := by decide +kernel
theorem dX11_feed_7 : decode cX11_feed 7 = .ok (.if_icmp .le 5, 3) := by decide +kernel
theorem dX11_feed_10 : decode cX11_feed 10 = .ok (.iconst (-1), 1) := by decide +kernel
theorem dX11_feed_11 : decode cX11_feed 11 = .ok (.ireturn, 1) := by decide +kernel
theorem dX11_feed_12 : decode cX11_feed 12 = .ok (.aload_n 0, 1) := by decide +kernel
theorem dX11_feed_13 : decode cX11_feed 13 = .ok (.iload_n 1, 1) := by decide +kernel
theorem dX11_feed_14 : decode cX11_feed 14 = .ok (.invokevirtual 90, 3) := by decide +kernel
theorem dX11_feed_17 : decode cX11_feed 17 = .ok (.aload_n 0, 1) := by decide +kernel
theorem dX11_feed_18 : decode cX11_feed 18 = .ok (.iload_n 2, 1) := by decide +kernel
theorem dX11_feed_19 : decode cX11_feed 19 = .ok (.invokevirtual 90, 3) := by decide +kernel
theorem dX11_feed_22 : decode cX11_feed 22 = .ok (.aload_n 0, 1) := by decide +kernel
theorem dX11_feed_23 : decode cX11_feed 23 = .ok (.iload_n 3, 1) := by decide +kernel
theorem dX11_feed_24 : decode cX11_feed 24 = .ok (.invokevirtual 90, 3) := by decide +kernel
theorem dX11_feed_27 : decode cX11_feed 27 = .ok (.aload_n 0, 1) := by decide +kernel
theorem dX11_feed_28 : decode cX11_feed 28 = .ok (.iload 4, 2) := by decide +kernel
theorem dX11_feed_30 : decode cX11_feed 30 = .ok (.invokevirtual 90, 3) := by decide +kernel
theorem dX11_feed_33 : decode cX11_feed 33 = .ok (.aload_n 0, 1) := by decide +kernel
theorem dX11_feed_34 : decode cX11_feed 34 = .ok (.iload 5, 2) := by decide +kernel
theorem dX11_feed_36 : decode cX11_feed 36 = .ok (.invokevirtual 90, 3) := by decide +kernel
theorem dX11_feed_39 : decode cX11_feed 39 = .ok (.aload_n 0, 1) := by decide +kernel
theorem dX11_feed_40 : decode cX11_feed 40 = .ok (.getfield 86, 3) := by decide +kernel
theorem dX11_feed_43 : decode cX11_feed 43 = .ok (.ireturn, 1) := by decide +kernel
theorem dX11_putBytes_0 : decode cX11_putBytes 0 = .ok (.bipush 24, 2) := by decide +kernel
theorem dX11_putBytes_2 : decode cX11_putBytes 2 = .ok (.istore_n 2, 1) := by decide +kernel
theorem dX11_putBytes_3 : decode cX11_putBytes 3 = .ok (.iload_n 2, 1) := by decide +kernel
theorem dX11_putBytes_4 : decode cX11_putBytes 4 = .ok (.ifCond .lt 51, 3) := by decide +kernel
theorem dX11_putBytes_7 : decode cX11_putBytes 7 = .ok (.aload_n 0, 1) := by decide +kernel
theorem dX11_putBytes_8 : decode cX11_putBytes 8 = .ok (.getfield 86, 3) := by decide +kernel
theorem dX11_putBytes_11 : decode cX11_putBytes 11 = .ok (.ifCond .lt 38, 3) := by decide +kernel
theorem dX11_putBytes_14 : decode cX11_putBytes 14 = .ok (.aload_n 0, 1) := by decide +kernel
theorem dX11_putBytes_15 : decode cX11_putBytes 15 = .ok (.getfield 86, 3) := by decide +kernel
theorem dX11_putBytes_18 : decode cX11_putBytes 18 = .ok (.aload_n 0, 1) := by decide +kernel
theorem dX11_putBytes_19 : decode cX11_putBytes 19 = .ok (.getfield 11, 3) := by decide +kernel
theorem dX11_putBytes_22 : decode cX11_putBytes 22 = .ok (.arraylength, 1) := by decide +kernel
theorem dX11_putBytes_23 : decode cX11_putBytes 23 = .ok (.if_icmp .ge 26, 3) := by decide +kernel
theorem dX11_putBytes_26 : decode cX11_putBytes 26 = .ok (.aload_n 0, 1) := by decide +kernel
theorem dX11_putBytes_27 : decode cX11_putBytes 27 = .ok (.getfield 11, 3) := by decide +kernel
theorem dX11_putBytes_30 : decode cX11_putBytes 30 = .ok (.aload_n 0, 1) := by decide +kernel
theorem dX11_putBytes_31 : decode cX11_putBytes 31 = .ok (.getfield 86, 3) := by decide +kernel
theorem dX11_putBytes_34 : decode cX11_putBytes 34 = .ok (.iload_n 1, 1) := by decide +kernel
theorem dX11_putBytes_35 : decode cX11_putBytes 35 = .ok (.iload_n 2, 1) := by decide +kernel
theorem dX11_putBytes_36 : decode cX11_putBytes 36 = .ok (.iushr, 1) := by decide +kernel
theorem dX11_putBytes_37 : decode cX11_putBytes 37 = .ok (.i2b, 1) := by decide +kernel
theorem dX11_putBytes_38 : decode cX11_putBytes 38 = .ok (.bastore, 1) := by decide +kernel
theorem dX11_putBytes_39 : decode cX11_putBytes 39 = .ok (.aload_n 0, 1) := by decide +kernel
theorem dX11_putBytes_40 : decode cX11_putBytes 40 = .ok (.dup, 1) := by decide +kernel
theorem dX11_putBytes_41 : decode cX11_putBytes 41 = .ok (.getfield 86, 3) := by decide +kernel
theorem dX11_putBytes_44 : decode cX11_putBytes 44 = .ok (.iconst 1, 1) := by decide +kernel
theorem dX11_putBytes_45 : decode cX11_putBytes 45 = .ok (.iadd, 1) := by decide +kernel
theorem dX11_putBytes_46 : decode cX11_putBytes 46 = .ok (.putfield 86, 3) := by decide +kernel
theorem dX11_putBytes_49 : decode cX11_putBytes 49 = .ok (.iinc 2 (-8), 3) := by decide +kernel
theorem dX11_putBytes_52 : decode cX11_putBytes 52 = .ok (.goto (-49), 3) := by decide +kernel
theorem dX11_putBytes_55 : decode cX11_putBytes 55 = .ok (.return_, 1) := by decide +kernel
theorem dX11_text_0 : decode cX11_text 0 = .ok (.iload_n 1, 1) := by decide +kernel
theorem dX11_text_1 : decode cX11_text 1 = .ok (.ifCond .lt 11, 3) := by decide +kernel
theorem dX11_text_4 : decode cX11_text 4 = .ok (.iload_n 1, 1) := by decide +kernel
theorem dX11_text_5 : decode cX11_text 5 = .ok (.aload_n 0, 1) := by decide +kernel
theorem dX11_text_6 : decode cX11_text 6 = .ok (.getfield 86, 3) := by decide +kernel
theorem dX11_text_9 : decode cX11_text 9 = .ok (.if_icmp .le 6, 3) := by decide +kernel
theorem dX11_text_12 : decode cX11_text 12 = .ok (.bipush (-2), 2) := by decide +kernel
theorem dX11_text_14 : decode cX11_text 14 = .ok (.ireturn, 1) := by decide +kernel
theorem dX11_text_15 : decode cX11_text 15 = .ok (.aload_n 0, 1) := by decide +kernel
theorem dX11_text_16 : decode cX11_text 16 = .ok (.iconst 0, 1) := by decide +kernel
theorem dX11_text_17 : decode cX11_text 17 = .ok (.putfield 86, 3) := by decide +kernel
theorem dX11_text_20 : decode cX11_text 20 = .ok (.aload_n 0, 1) := by decide +kernel
theorem dX11_text_21 : decode cX11_text 21 = .ok (.getfield 20, 3) := by decide +kernel
theorem dX11_text_24 : decode cX11_text 24 = .ok (.iload_n 1, 1) := by decide +kernel
theorem dX11_text_25 : decode cX11_text 25 = .ok (.aload_n 0, 1) := by decide +kernel
theorem dX11_text_26 : decode cX11_text 26 = .ok (.getfield 31, 3) := by decide +kernel
theorem dX11_text_29 : decode cX11_text 29 = .ok (.invokevirtual 94, 3) := by decide +kernel
theorem dX11_text_32 : decode cX11_text 32 = .ok (.ifCond .ne 5, 3) := by decide +kernel
theorem dX11_text_35 : decode cX11_text 35 = .ok (.iconst (-1), 1) := by decide +kernel
theorem dX11_text_36 : decode cX11_text 36 = .ok (.ireturn, 1) := by decide +kernel
theorem dX11_text_37 : decode cX11_text 37 = .ok (.aload_n 0, 1) := by decide +kernel
theorem dX11_text_38 : decode cX11_text 38 = .ok (.getfield 27, 3) := by decide +kernel
theorem dX11_text_41 : decode cX11_text 41 = .ok (.astore_n 2, 1) := by decide +kernel
theorem dX11_text_42 : decode cX11_text 42 = .ok (.aload_n 0, 1) := by decide +kernel
theorem dX11_text_43 : decode cX11_text 43 = .ok (.aload_n 0, 1) := by decide +kernel
theorem dX11_text_44 : decode cX11_text 44 = .ok (.getfield 31, 3) := by decide +kernel
theorem dX11_text_47 : decode cX11_text 47 = .ok (.putfield 27, 3) := by decide +kernel
theorem dX11_text_50 : decode cX11_text 50 = .ok (.aload_n 0, 1) := by decide +kernel
theorem dX11_text_51 : decode cX11_text 51 = .ok (.aload_n 2, 1) := by decide +kernel
theorem dX11_text_52 : decode cX11_text 52 = .ok (.putfield 31, 3) := by decide +kernel
theorem dX11_text_55 : decode cX11_text 55 = .ok (.aload_n 0, 1) := by decide +kernel
theorem dX11_text_56 : decode cX11_text 56 = .ok (.getfield 37, 3) := by decide +kernel
theorem dX11_text_59 : decode cX11_text 59 = .ok (.aload_n 0, 1) := by decide +kernel
theorem dX11_text_60 : decode cX11_text 60 = .ok (.getfield 27, 3) := by decide +kernel
theorem dX11_text_63 : decode cX11_text 63 = .ok (.invokevirtual 82, 3) := by decide +kernel
theorem dX11_text_66 : decode cX11_text 66 = .ok (.aload_n 0, 1) := by decide +kernel
theorem dX11_text_67 : decode cX11_text 67 = .ok (.getfield 64, 3) := by decide +kernel
theorem dX11_text_70 : decode cX11_text 70 = .ok (.invokevirtual 98, 3) := by decide +kernel
theorem dX11_text_73 : decode cX11_text 73 = .ok (.aload_n 0, 1) := by decide +kernel
theorem dX11_text_74 : decode cX11_text 74 = .ok (.getfield 57, 3) := by decide +kernel
theorem dX11_text_77 : decode cX11_text 77 = .ok (.invokevirtual 101, 3) := by decide +kernel
theorem dX11_text_80 : decode cX11_text 80 = .ok (.aload_n 0, 1) := by decide +kernel
theorem dX11_text_81 : decode cX11_text 81 = .ok (.iconst 0, 1) := by decide +kernel
theorem dX11_text_82 : decode cX11_text 82 = .ok (.putfield 102, 3) := by decide +kernel
theorem dX11_text_85 : decode cX11_text 85 = .ok (.aload_n 0, 1) := by decide +kernel
theorem dX11_text_86 : decode cX11_text 86 = .ok (.getfield 27, 3) := by decide +kernel
theorem dX11_text_89 : decode cX11_text 89 = .ok (.getfield 106, 3) := by decide +kernel
theorem dX11_text_92 : decode cX11_text 92 = .ok (.ireturn, 1) := by decide +kernel
theorem dX11_fault_0 : decode cX11_fault 0 = .ok (.iload_n 1, 1) := by decide +kernel
theorem dX11_fault_1 : decode cX11_fault 1 = .ok (.ifCond .ne 11, 3) := by decide +kernel
theorem dX11_fault_4 : decode cX11_fault 4 = .ok (.aload_n 0, 1) := by decide +kernel
theorem dX11_fault_5 : decode cX11_fault 5 = .ok (.getfield 20, 3) := by decide +kernel
theorem dX11_fault_8 : decode cX11_fault 8 = .ok (.getfield 109, 3) := by decide +kernel
theorem dX11_fault_11 : decode cX11_fault 11 = .ok (.ireturn, 1) := by decide +kernel
theorem dX11_fault_12 : decode cX11_fault 12 = .ok (.iload_n 1, 1) := by decide +kernel
theorem dX11_fault_13 : decode cX11_fault 13 = .ok (.iconst 1, 1) := by decide +kernel
theorem dX11_fault_14 : decode cX11_fault 14 = .ok (.if_icmp .ne 13, 3) := by decide +kernel
theorem dX11_fault_17 : decode cX11_fault 17 = .ok (.aload_n 0, 1) := by decide +kernel
theorem dX11_fault_18 : decode cX11_fault 18 = .ok (.getfield 20, 3) := by decide +kernel
theorem dX11_fault_21 : decode cX11_fault 21 = .ok (.getfield 112, 3) := by decide +kernel
theorem dX11_fault_24 : decode cX11_fault 24 = .ok (.goto 4, 3) := by decide +kernel
theorem dX11_fault_27 : decode cX11_fault 27 = .ok (.iconst (-1), 1) := by decide +kernel
theorem dX11_fault_28 : decode cX11_fault 28 = .ok (.ireturn, 1) := by decide +kernel
theorem dX11_named_0 : decode cX11_named 0 = .ok (.iload_n 1, 1) := by decide +kernel
theorem dX11_named_1 : decode cX11_named 1 = .ok (.ifCond .ne 15, 3) := by decide +kernel
theorem dX11_named_4 : decode cX11_named 4 = .ok (.aload_n 0, 1) := by decide +kernel
theorem dX11_named_5 : decode cX11_named 5 = .ok (.getfield 27, 3) := by decide +kernel
theorem dX11_named_8 : decode cX11_named 8 = .ok (.getfield 115, 3) := by decide +kernel
theorem dX11_named_11 : decode cX11_named 11 = .ok (.iload_n 2, 1) := by decide +kernel
theorem dX11_named_12 : decode cX11_named 12 = .ok (.invokevirtual 119, 3) := by decide +kernel
theorem dX11_named_15 : decode cX11_named 15 = .ok (.ireturn, 1) := by decide +kernel
theorem dX11_named_16 : decode cX11_named 16 = .ok (.iload_n 1, 1) := by decide +kernel
theorem dX11_named_17 : decode cX11_named 17 = .ok (.iconst 1, 1) := by decide +kernel
theorem dX11_named_18 : decode cX11_named 18 = .ok (.if_icmp .ne 17, 3) := by decide +kernel
theorem dX11_named_21 : decode cX11_named 21 = .ok (.aload_n 0, 1) := by decide +kernel
theorem dX11_named_22 : decode cX11_named 22 = .ok (.getfield 27, 3) := by decide +kernel
theorem dX11_named_25 : decode cX11_named 25 = .ok (.getfield 125, 3) := by decide +kernel
theorem dX11_named_28 : decode cX11_named 28 = .ok (.iload_n 2, 1) := by decide +kernel
theorem dX11_named_29 : decode cX11_named 29 = .ok (.invokevirtual 119, 3) := by decide +kernel
theorem dX11_named_32 : decode cX11_named 32 = .ok (.goto 4, 3) := by decide +kernel
theorem dX11_named_35 : decode cX11_named 35 = .ok (.iconst (-1), 1) := by decide +kernel
theorem dX11_named_36 : decode cX11_named 36 = .ok (.ireturn, 1) := by decide +kernel
theorem dX11_tub_0 : decode cX11_tub 0 = .ok (.aload_n 0, 1) := by decide +kernel
theorem dX11_tub_1 : decode cX11_tub 1 = .ok (.getfield 27, 3) := by decide +kernel
theorem dX11_tub_4 : decode cX11_tub 4 = .ok (.iload_n 1, 1) := by decide +kernel
theorem dX11_tub_5 : decode cX11_tub 5 = .ok (.invokevirtual 128, 3) := by decide +kernel
theorem dX11_tub_8 : decode cX11_tub 8 = .ok (.ifCond .ne 13, 3) := by decide +kernel
theorem dX11_tub_11 : decode cX11_tub 11 = .ok (.new 132, 3) := by decide +kernel
theorem dX11_tub_14 : decode cX11_tub 14 = .ok (.dup, 1) := by decide +kernel
theorem dX11_tub_15 : decode cX11_tub 15 = .ok (.ldc 134, 2) := by decide +kernel
theorem dX11_tub_17 : decode cX11_tub 17 = .ok (.invokespecial 136, 3) := by decide +kernel
theorem dX11_tub_20 : decode cX11_tub 20 = .ok (.athrow, 1) := by decide +kernel
theorem dX11_tub_21 : decode cX11_tub 21 = .ok (.iload_n 2, 1) := by decide +kernel
theorem dX11_tub_22 : decode cX11_tub 22 = .ok (.tableswitch 56 0 2 #[26, 36, 46], 26) := by decide +kernel
theorem dX11_tub_48 : decode cX11_tub 48 = .ok (.aload_n 0, 1) := by decide +kernel
theorem dX11_tub_49 : decode cX11_tub 49 = .ok (.getfield 37, 3) := by decide +kernel
theorem dX11_tub_52 : decode cX11_tub 52 = .ok (.getfield 139, 3) := by decide +kernel
theorem dX11_tub_55 : decode cX11_tub 55 = .ok (.iload_n 1, 1) := by decide +kernel
theorem dX11_tub_56 : decode cX11_tub 56 = .ok (.iaload, 1) := by decide +kernel
theorem dX11_tub_57 : decode cX11_tub 57 = .ok (.ireturn, 1) := by decide +kernel
theorem dX11_tub_58 : decode cX11_tub 58 = .ok (.aload_n 0, 1) := by decide +kernel
theorem dX11_tub_59 : decode cX11_tub 59 = .ok (.getfield 37, 3) := by decide +kernel
theorem dX11_tub_62 : decode cX11_tub 62 = .ok (.getfield 143, 3) := by decide +kernel
theorem dX11_tub_65 : decode cX11_tub 65 = .ok (.iload_n 1, 1) := by decide +kernel
theorem dX11_tub_66 : decode cX11_tub 66 = .ok (.iaload, 1) := by decide +kernel
theorem dX11_tub_67 : decode cX11_tub 67 = .ok (.ireturn, 1) := by decide +kernel
theorem dX11_tub_68 : decode cX11_tub 68 = .ok (.aload_n 0, 1) := by decide +kernel
theorem dX11_tub_69 : decode cX11_tub 69 = .ok (.getfield 37, 3) := by decide +kernel
theorem dX11_tub_72 : decode cX11_tub 72 = .ok (.getfield 146, 3) := by decide +kernel
theorem dX11_tub_75 : decode cX11_tub 75 = .ok (.iload_n 1, 1) := by decide +kernel
theorem dX11_tub_76 : decode cX11_tub 76 = .ok (.iaload, 1) := by decide +kernel
theorem dX11_tub_77 : decode cX11_tub 77 = .ok (.ireturn, 1) := by decide +kernel
theorem dX11_tub_78 : decode cX11_tub 78 = .ok (.new 149, 3) := by decide +kernel
theorem dX11_tub_81 : decode cX11_tub 81 = .ok (.dup, 1) := by decide +kernel
theorem dX11_tub_82 : decode cX11_tub 82 = .ok (.ldc 151, 2) := by decide +kernel
theorem dX11_tub_84 : decode cX11_tub 84 = .ok (.invokespecial 153, 3) := by decide +kernel
theorem dX11_tub_87 : decode cX11_tub 87 = .ok (.athrow, 1) := by decide +kernel
theorem dX11_knight_0 : decode cX11_knight 0 = .ok (.aload_n 0, 1) := by decide +kernel
theorem dX11_knight_1 : decode cX11_knight 1 = .ok (.getfield 27, 3) := by decide +kernel
theorem dX11_knight_4 : decode cX11_knight 4 = .ok (.iload_n 1, 1) := by decide +kernel
theorem dX11_knight_5 : decode cX11_knight 5 = .ok (.invokevirtual 154, 3) := by decide +kernel
theorem dX11_knight_8 : decode cX11_knight 8 = .ok (.ifCond .ne 5, 3) := by decide +kernel
theorem dX11_knight_11 : decode cX11_knight 11 = .ok (.iconst (-1), 1) := by decide +kernel
theorem dX11_knight_12 : decode cX11_knight 12 = .ok (.ireturn, 1) := by decide +kernel
theorem dX11_knight_13 : decode cX11_knight 13 = .ok (.iload_n 2, 1) := by decide +kernel
theorem dX11_knight_14 : decode cX11_knight 14 = .ok (.tableswitch 111 0 6 #[42, 52, 61, 71, 81, 91, 101], 42) := by decide +kernel
theorem dX11_knight_56 : decode cX11_knight 56 = .ok (.aload_n 0, 1) := by decide +kernel
theorem dX11_knight_57 : decode cX11_knight 57 = .ok (.getfield 37, 3) := by decide +kernel
theorem dX11_knight_60 : decode cX11_knight 60 = .ok (.getfield 157, 3) := by decide +kernel
theorem dX11_knight_63 : decode cX11_knight 63 = .ok (.iload_n 1, 1) := by decide +kernel
theorem dX11_knight_64 : decode cX11_knight 64 = .ok (.iaload, 1) := by decide +kernel
theorem dX11_knight_65 : decode cX11_knight 65 = .ok (.ireturn, 1) := by decide +kernel
theorem dX11_knight_66 : decode cX11_knight 66 = .ok (.aload_n 0, 1) := by decide +kernel
theorem dX11_knight_67 : decode cX11_knight 67 = .ok (.getfield 27, 3) := by decide +kernel
theorem dX11_knight_70 : decode cX11_knight 70 = .ok (.iload_n 1, 1) := by decide +kernel
theorem dX11_knight_71 : decode cX11_knight 71 = .ok (.invokevirtual 160, 3) := by decide +kernel
theorem dX11_knight_74 : decode cX11_knight 74 = .ok (.ireturn, 1) := by decide +kernel
theorem dX11_knight_75 : decode cX11_knight 75 = .ok (.aload_n 0, 1) := by decide +kernel
theorem dX11_knight_76 : decode cX11_knight 76 = .ok (.getfield 37, 3) := by decide +kernel
theorem dX11_knight_79 : decode cX11_knight 79 = .ok (.getfield 163, 3) := by decide +kernel
theorem dX11_knight_82 : decode cX11_knight 82 = .ok (.iload_n 1, 1) := by decide +kernel
theorem dX11_knight_83 : decode cX11_knight 83 = .ok (.iaload, 1) := by decide +kernel
theorem dX11_knight_84 : decode cX11_knight 84 = .ok (.ireturn, 1) := by decide +kernel
theorem dX11_knight_85 : decode cX11_knight 85 = .ok (.aload_n 0, 1) := by decide +kernel
theorem dX11_knight_86 : decode cX11_knight 86 = .ok (.getfield 37, 3) := by decide +kernel
theorem dX11_knight_89 : decode cX11_knight 89 = .ok (.getfield 166, 3) := by decide +kernel
theorem dX11_knight_92 : decode cX11_knight 92 = .ok (.iload_n 1, 1) := by decide +kernel
theorem dX11_knight_93 : decode cX11_knight 93 = .ok (.iaload, 1) := by decide +kernel
theorem dX11_knight_94 : decode cX11_knight 94 = .ok (.ireturn, 1) := by decide +kernel
theorem dX11_knight_95 : decode cX11_knight 95 = .ok (.aload_n 0, 1) := by decide +kernel
theorem dX11_knight_96 : decode cX11_knight 96 = .ok (.getfield 37, 3) := by decide +kernel
theorem dX11_knight_99 : decode cX11_knight 99 = .ok (.getfield 169, 3) := by decide +kernel
theorem dX11_knight_102 : decode cX11_knight 102 = .ok (.iload_n 1, 1) := by decide +kernel
theorem dX11_knight_103 : decode cX11_knight 103 = .ok (.iaload, 1) := by decide +kernel
theorem dX11_knight_104 : decode cX11_knight 104 = .ok (.ireturn, 1) := by decide +kernel
theorem dX11_knight_105 : decode cX11_knight 105 = .ok (.aload_n 0, 1) := by decide +kernel
theorem dX11_knight_106 : decode cX11_knight 106 = .ok (.getfield 37, 3) := by decide +kernel
theorem dX11_knight_109 : decode cX11_knight 109 = .ok (.getfield 172, 3) := by decide +kernel
theorem dX11_knight_112 : decode cX11_knight 112 = .ok (.iload_n 1, 1) := by decide +kernel
theorem dX11_knight_113 : decode cX11_knight 113 = .ok (.iaload, 1) := by decide +kernel
theorem dX11_knight_114 : decode cX11_knight 114 = .ok (.ireturn, 1) := by decide +kernel
theorem dX11_knight_115 : decode cX11_knight 115 = .ok (.aload_n 0, 1) := by decide +kernel
theorem dX11_knight_116 : decode cX11_knight 116 = .ok (.getfield 37, 3) := by decide +kernel
theorem dX11_knight_119 : decode cX11_knight 119 = .ok (.getfield 175, 3) := by decide +kernel
theorem dX11_knight_122 : decode cX11_knight 122 = .ok (.iload_n 1, 1) := by decide +kernel
theorem dX11_knight_123 : decode cX11_knight 123 = .ok (.iaload, 1) := by decide +kernel
theorem dX11_knight_124 : decode cX11_knight 124 = .ok (.ireturn, 1) := by decide +kernel
theorem dX11_knight_125 : decode cX11_knight 125 = .ok (.iconst (-1), 1) := by decide +kernel
theorem dX11_knight_126 : decode cX11_knight 126 = .ok (.ireturn, 1) := by decide +kernel
theorem dX11_atEase_0 : decode cX11_atEase 0 = .ok (.aload_n 0, 1) := by decide +kernel
theorem dX11_atEase_1 : decode cX11_atEase 1 = .ok (.getfield 27, 3) := by decide +kernel
theorem dX11_atEase_4 : decode cX11_atEase 4 = .ok (.iload_n 1, 1) := by decide +kernel
theorem dX11_atEase_5 : decode cX11_atEase 5 = .ok (.invokevirtual 154, 3) := by decide +kernel
theorem dX11_atEase_8 : decode cX11_atEase 8 = .ok (.ifCond .eq 14, 3) := by decide +kernel
theorem dX11_atEase_11 : decode cX11_atEase 11 = .ok (.aload_n 0, 1) := by decide +kernel
theorem dX11_atEase_12 : decode cX11_atEase 12 = .ok (.getfield 27, 3) := by decide +kernel
theorem dX11_atEase_15 : decode cX11_atEase 15 = .ok (.iload_n 2, 1) := by decide +kernel
theorem dX11_atEase_16 : decode cX11_atEase 16 = .ok (.invokevirtual 128, 3) := by decide +kernel
theorem dX11_atEase_19 : decode cX11_atEase 19 = .ok (.ifCond .ne 5, 3) := by decide +kernel
theorem dX11_atEase_22 : decode cX11_atEase 22 = .ok (.iconst (-1), 1) := by decide +kernel
theorem dX11_atEase_23 : decode cX11_atEase 23 = .ok (.ireturn, 1) := by decide +kernel
theorem dX11_atEase_24 : decode cX11_atEase 24 = .ok (.aload_n 0, 1) := by decide +kernel
theorem dX11_atEase_25 : decode cX11_atEase 25 = .ok (.getfield 27, 3) := by decide +kernel
theorem dX11_atEase_28 : decode cX11_atEase 28 = .ok (.aload_n 0, 1) := by decide +kernel
theorem dX11_atEase_29 : decode cX11_atEase 29 = .ok (.getfield 37, 3) := by decide +kernel
theorem dX11_atEase_32 : decode cX11_atEase 32 = .ok (.iload_n 1, 1) := by decide +kernel
theorem dX11_atEase_33 : decode cX11_atEase 33 = .ok (.iload_n 2, 1) := by decide +kernel
theorem dX11_atEase_34 : decode cX11_atEase 34 = .ok (.iconst 0, 1) := by decide +kernel
theorem dX11_atEase_35 : decode cX11_atEase 35 = .ok (.invokevirtual 178, 3) := by decide +kernel
theorem dX11_atEase_38 : decode cX11_atEase 38 = .ok (.ifCond .eq 7, 3) := by decide +kernel
theorem dX11_atEase_41 : decode cX11_atEase 41 = .ok (.iconst 1, 1) := by decide +kernel
theorem dX11_atEase_42 : decode cX11_atEase 42 = .ok (.goto 4, 3) := by decide +kernel
theorem dX11_atEase_45 : decode cX11_atEase 45 = .ok (.iconst 0, 1) := by decide +kernel
theorem dX11_atEase_46 : decode cX11_atEase 46 = .ok (.ireturn, 1) := by decide +kernel
theorem dX11_law_0 : decode cX11_law 0 = .ok (.iload_n 1, 1) := by decide +kernel
theorem dX11_law_1 : decode cX11_law 1 = .ok (.ifCond .lt 19, 3) := by decide +kernel
theorem dX11_law_4 : decode cX11_law 4 = .ok (.iload_n 1, 1) := by decide +kernel
theorem dX11_law_5 : decode cX11_law 5 = .ok (.iconst 2, 1) := by decide +kernel
theorem dX11_law_6 : decode cX11_law 6 = .ok (.if_icmp .gt 14, 3) := by decide +kernel
theorem dX11_law_9 : decode cX11_law 9 = .ok (.aload_n 0, 1) := by decide +kernel
theorem dX11_law_10 : decode cX11_law 10 = .ok (.getfield 27, 3) := by decide +kernel
theorem dX11_law_13 : decode cX11_law 13 = .ok (.iload_n 3, 1) := by decide +kernel
theorem dX11_law_14 : decode cX11_law 14 = .ok (.invokevirtual 128, 3) := by decide +kernel
theorem dX11_law_17 : decode cX11_law 17 = .ok (.ifCond .ne 7, 3) := by decide +kernel
theorem dX11_law_20 : decode cX11_law 20 = .ok (.ldc2_w 182, 3) := by decide +kernel
theorem dX11_law_23 : decode cX11_law 23 = .ok (.lreturn, 1) := by decide +kernel
theorem dX11_law_24 : decode cX11_law 24 = .ok (.iload_n 1, 1) := by decide +kernel
theorem dX11_law_25 : decode cX11_law 25 = .ok (.ifCond .eq 18, 3) := by decide +kernel
theorem dX11_law_28 : decode cX11_law 28 = .ok (.aload_n 0, 1) := by decide +kernel
theorem dX11_law_29 : decode cX11_law 29 = .ok (.getfield 27, 3) := by decide +kernel
theorem dX11_law_32 : decode cX11_law 32 = .ok (.iload_n 2, 1) := by decide +kernel
theorem dX11_law_33 : decode cX11_law 33 = .ok (.invokevirtual 154, 3) := by decide +kernel
theorem dX11_law_36 : decode cX11_law 36 = .ok (.ifCond .ne 7, 3) := by decide +kernel
theorem dX11_law_39 : decode cX11_law 39 = .ok (.ldc2_w 182, 3) := by decide +kernel
theorem dX11_law_42 : decode cX11_law 42 = .ok (.lreturn, 1) := by decide +kernel
theorem dX11_law_43 : decode cX11_law 43 = .ok (.aload_n 0, 1) := by decide +kernel
theorem dX11_law_44 : decode cX11_law 44 = .ok (.getfield 27, 3) := by decide +kernel
theorem dX11_law_47 : decode cX11_law 47 = .ok (.iload_n 1, 1) := by decide +kernel
theorem dX11_law_48 : decode cX11_law 48 = .ok (.aload_n 0, 1) := by decide +kernel
theorem dX11_law_49 : decode cX11_law 49 = .ok (.getfield 37, 3) := by decide +kernel
theorem dX11_law_52 : decode cX11_law 52 = .ok (.iload_n 2, 1) := by decide +kernel
theorem dX11_law_53 : decode cX11_law 53 = .ok (.iload_n 3, 1) := by decide +kernel
theorem dX11_law_54 : decode cX11_law 54 = .ok (.iconst 0, 1) := by decide +kernel
theorem dX11_law_55 : decode cX11_law 55 = .ok (.invokevirtual 184, 3) := by decide +kernel
theorem dX11_law_58 : decode cX11_law 58 = .ok (.lreturn, 1) := by decide +kernel
theorem dX11_add_0 : decode cX11_add 0 = .ok (.aload_n 0, 1) := by decide +kernel
theorem dX11_add_1 : decode cX11_add 1 = .ok (.getfield 27, 3) := by decide +kernel
theorem dX11_add_4 : decode cX11_add 4 = .ok (.iload_n 1, 1) := by decide +kernel
theorem dX11_add_5 : decode cX11_add 5 = .ok (.invokevirtual 128, 3) := by decide +kernel
theorem dX11_add_8 : decode cX11_add 8 = .ok (.ifCond .eq 10, 3) := by decide +kernel
theorem dX11_add_11 : decode cX11_add 11 = .ok (.iload_n 2, 1) := by decide +kernel
theorem dX11_add_12 : decode cX11_add 12 = .ok (.invokestatic 188, 3) := by decide +kernel
theorem dX11_add_15 : decode cX11_add 15 = .ok (.ifCond .ne 5, 3) := by decide +kernel
theorem dX11_add_18 : decode cX11_add 18 = .ok (.iconst (-1), 1) := by decide +kernel
theorem dX11_add_19 : decode cX11_add 19 = .ok (.ireturn, 1) := by decide +kernel
theorem dX11_add_20 : decode cX11_add 20 = .ok (.aload_n 0, 1) := by decide +kernel
theorem dX11_add_21 : decode cX11_add 21 = .ok (.getfield 37, 3) := by decide +kernel
theorem dX11_add_24 : decode cX11_add 24 = .ok (.iload_n 1, 1) := by decide +kernel
theorem dX11_add_25 : decode cX11_add 25 = .ok (.iload_n 2, 1) := by decide +kernel
theorem dX11_add_26 : decode cX11_add 26 = .ok (.invokevirtual 191, 3) := by decide +kernel
theorem dX11_add_29 : decode cX11_add 29 = .ok (.ifCond .ne 6, 3) := by decide +kernel
theorem dX11_add_32 : decode cX11_add 32 = .ok (.bipush (-2), 2) := by decide +kernel
theorem dX11_add_34 : decode cX11_add 34 = .ok (.ireturn, 1) := by decide +kernel
theorem dX11_add_35 : decode cX11_add 35 = .ok (.aload_n 0, 1) := by decide +kernel
theorem dX11_add_36 : decode cX11_add 36 = .ok (.getfield 57, 3) := by decide +kernel
theorem dX11_add_39 : decode cX11_add 39 = .ok (.aload_n 0, 1) := by decide +kernel
theorem dX11_add_40 : decode cX11_add 40 = .ok (.getfield 37, 3) := by decide +kernel
theorem dX11_add_43 : decode cX11_add 43 = .ok (.invokevirtual 195, 3) := by decide +kernel
theorem dX11_add_46 : decode cX11_add 46 = .ok (.aload_n 0, 1) := by decide +kernel
theorem dX11_add_47 : decode cX11_add 47 = .ok (.getfield 37, 3) := by decide +kernel
theorem dX11_add_50 : decode cX11_add 50 = .ok (.iload_n 1, 1) := by decide +kernel
theorem dX11_add_51 : decode cX11_add 51 = .ok (.iload_n 2, 1) := by decide +kernel
theorem dX11_add_52 : decode cX11_add 52 = .ok (.sipush 990, 3) := by decide +kernel
theorem dX11_add_55 : decode cX11_add 55 = .ok (.invokevirtual 199, 3) := by decide +kernel
theorem dX11_add_58 : decode cX11_add 58 = .ok (.aload_n 0, 1) := by decide +kernel
theorem dX11_add_59 : decode cX11_add 59 = .ok (.getfield 37, 3) := by decide +kernel
theorem dX11_add_62 : decode cX11_add 62 = .ok (.getfield 143, 3) := by decide +kernel
theorem dX11_add_65 : decode cX11_add 65 = .ok (.iload_n 1, 1) := by decide +kernel
theorem dX11_add_66 : decode cX11_add 66 = .ok (.iaload, 1) := by decide +kernel
theorem dX11_add_67 : decode cX11_add 67 = .ok (.ireturn, 1) := by decide +kernel
theorem dX11_pour_0 : decode cX11_pour 0 = .ok (.aload_n 0, 1) := by decide +kernel
theorem dX11_pour_1 : decode cX11_pour 1 = .ok (.getfield 27, 3) := by decide +kernel
theorem dX11_pour_4 : decode cX11_pour 4 = .ok (.iload_n 1, 1) := by decide +kernel
theorem dX11_pour_5 : decode cX11_pour 5 = .ok (.invokevirtual 128, 3) := by decide +kernel
theorem dX11_pour_8 : decode cX11_pour 8 = .ok (.ifCond .eq 26, 3) := by decide +kernel
theorem dX11_pour_11 : decode cX11_pour 11 = .ok (.aload_n 0, 1) := by decide +kernel
theorem dX11_pour_12 : decode cX11_pour 12 = .ok (.getfield 27, 3) := by decide +kernel
theorem dX11_pour_15 : decode cX11_pour 15 = .ok (.iload_n 2, 1) := by decide +kernel
theorem dX11_pour_16 : decode cX11_pour 16 = .ok (.invokevirtual 128, 3) := by decide +kernel
theorem dX11_pour_19 : decode cX11_pour 19 = .ok (.ifCond .eq 15, 3) := by decide +kernel
theorem dX11_pour_22 : decode cX11_pour 22 = .ok (.iload_n 1, 1) := by decide +kernel
theorem dX11_pour_23 : decode cX11_pour 23 = .ok (.iload_n 2, 1) := by decide +kernel
theorem dX11_pour_24 : decode cX11_pour 24 = .ok (.if_icmp .eq 10, 3) := by decide +kernel
theorem dX11_pour_27 : decode cX11_pour 27 = .ok (.iload_n 3, 1) := by decide +kernel
theorem dX11_pour_28 : decode cX11_pour 28 = .ok (.invokestatic 188, 3) := by decide +kernel
theorem dX11_pour_31 : decode cX11_pour 31 = .ok (.ifCond .ne 5, 3) := by decide +kernel
theorem dX11_pour_34 : decode cX11_pour 34 = .ok (.iconst (-1), 1) := by decide +kernel
theorem dX11_pour_35 : decode cX11_pour 35 = .ok (.ireturn, 1) := by decide +kernel
theorem dX11_pour_36 : decode cX11_pour 36 = .ok (.aload_n 0, 1) := by decide +kernel
theorem dX11_pour_37 : decode cX11_pour 37 = .ok (.getfield 37, 3) := by decide +kernel
theorem dX11_pour_40 : decode cX11_pour 40 = .ok (.getfield 139, 3) := by decide +kernel
theorem dX11_pour_43 : decode cX11_pour 43 = .ok (.iload_n 1, 1) := by decide +kernel
theorem dX11_pour_44 : decode cX11_pour 44 = .ok (.iaload, 1) := by decide +kernel
theorem dX11_pour_45 : decode cX11_pour 45 = .ok (.iload_n 3, 1) := by decide +kernel
theorem dX11_pour_46 : decode cX11_pour 46 = .ok (.if_icmp .le 15, 3) := by decide +kernel
theorem dX11_pour_49 : decode cX11_pour 49 = .ok (.aload_n 0, 1) := by decide +kernel
theorem dX11_pour_50 : decode cX11_pour 50 = .ok (.getfield 37, 3) := by decide +kernel
theorem dX11_pour_53 : decode cX11_pour 53 = .ok (.iload_n 2, 1) := by decide +kernel
theorem dX11_pour_54 : decode cX11_pour 54 = .ok (.iload_n 3, 1) := by decide +kernel
theorem dX11_pour_55 : decode cX11_pour 55 = .ok (.invokevirtual 191, 3) := by decide +kernel
theorem dX11_pour_58 : decode cX11_pour 58 = .ok (.ifCond .ne 6, 3) := by decide +kernel
theorem dX11_pour_61 : decode cX11_pour 61 = .ok (.bipush (-2), 2) := by decide +kernel
theorem dX11_pour_63 : decode cX11_pour 63 = .ok (.ireturn, 1) := by decide +kernel
theorem dX11_pour_64 : decode cX11_pour 64 = .ok (.aload_n 0, 1) := by decide +kernel
theorem dX11_pour_65 : decode cX11_pour 65 = .ok (.getfield 57, 3) := by decide +kernel
theorem dX11_pour_68 : decode cX11_pour 68 = .ok (.aload_n 0, 1) := by decide +kernel
theorem dX11_pour_69 : decode cX11_pour 69 = .ok (.getfield 37, 3) := by decide +kernel
theorem dX11_pour_72 : decode cX11_pour 72 = .ok (.invokevirtual 195, 3) := by decide +kernel
theorem dX11_pour_75 : decode cX11_pour 75 = .ok (.aload_n 0, 1) := by decide +kernel
theorem dX11_pour_76 : decode cX11_pour 76 = .ok (.getfield 37, 3) := by decide +kernel
theorem dX11_pour_79 : decode cX11_pour 79 = .ok (.iload_n 2, 1) := by decide +kernel
theorem dX11_pour_80 : decode cX11_pour 80 = .ok (.iload_n 3, 1) := by decide +kernel
theorem dX11_pour_81 : decode cX11_pour 81 = .ok (.aload_n 0, 1) := by decide +kernel
theorem dX11_pour_82 : decode cX11_pour 82 = .ok (.getfield 37, 3) := by decide +kernel
theorem dX11_pour_85 : decode cX11_pour 85 = .ok (.getfield 143, 3) := by decide +kernel
theorem dX11_pour_88 : decode cX11_pour 88 = .ok (.iload_n 1, 1) := by decide +kernel
theorem dX11_pour_89 : decode cX11_pour 89 = .ok (.iaload, 1) := by decide +kernel
theorem dX11_pour_90 : decode cX11_pour 90 = .ok (.invokevirtual 199, 3) := by decide +kernel
theorem dX11_pour_93 : decode cX11_pour 93 = .ok (.aload_n 0, 1) := by decide +kernel
theorem dX11_pour_94 : decode cX11_pour 94 = .ok (.getfield 37, 3) := by decide +kernel
theorem dX11_pour_97 : decode cX11_pour 97 = .ok (.getfield 139, 3) := by decide +kernel
theorem dX11_pour_100 : decode cX11_pour 100 = .ok (.iload_n 1, 1) := by decide +kernel
theorem dX11_pour_101 : decode cX11_pour 101 = .ok (.dup2, 1) := by decide +kernel
theorem dX11_pour_102 : decode cX11_pour 102 = .ok (.iaload, 1) := by decide +kernel
theorem dX11_pour_103 : decode cX11_pour 103 = .ok (.iload_n 3, 1) := by decide +kernel
theorem dX11_pour_104 : decode cX11_pour 104 = .ok (.isub, 1) := by decide +kernel
theorem dX11_pour_105 : decode cX11_pour 105 = .ok (.iastore, 1) := by decide +kernel
theorem dX11_pour_106 : decode cX11_pour 106 = .ok (.aload_n 0, 1) := by decide +kernel
theorem dX11_pour_107 : decode cX11_pour 107 = .ok (.getfield 37, 3) := by decide +kernel
theorem dX11_pour_110 : decode cX11_pour 110 = .ok (.getfield 143, 3) := by decide +kernel
theorem dX11_pour_113 : decode cX11_pour 113 = .ok (.iload_n 2, 1) := by decide +kernel
theorem dX11_pour_114 : decode cX11_pour 114 = .ok (.iaload, 1) := by decide +kernel
theorem dX11_pour_115 : decode cX11_pour 115 = .ok (.ireturn, 1) := by decide +kernel
theorem dX11_isPoured_0 : decode cX11_isPoured 0 = .ok (.iload_n 0, 1) := by decide +kernel
theorem dX11_isPoured_1 : decode cX11_isPoured 1 = .ok (.iconst 1, 1) := by decide +kernel
theorem dX11_isPoured_2 : decode cX11_isPoured 2 = .ok (.if_icmp .lt 13, 3) := by decide +kernel
theorem dX11_isPoured_5 : decode cX11_isPoured 5 = .ok (.iload_n 0, 1) := by decide +kernel
theorem dX11_isPoured_6 : decode cX11_isPoured 6 = .ok (.bipush 60, 2) := by decide +kernel
theorem dX11_isPoured_8 : decode cX11_isPoured 8 = .ok (.if_icmp .gt 7, 3) := by decide +kernel
theorem dX11_isPoured_11 : decode cX11_isPoured 11 = .ok (.iconst 1, 1) := by decide +kernel
theorem dX11_isPoured_12 : decode cX11_isPoured 12 = .ok (.goto 4, 3) := by decide +kernel
theorem dX11_isPoured_15 : decode cX11_isPoured 15 = .ok (.iconst 0, 1) := by decide +kernel
theorem dX11_isPoured_16 : decode cX11_isPoured 16 = .ok (.ireturn, 1) := by decide +kernel
theorem dX11_sit_0 : decode cX11_sit 0 = .ok (.aload_n 0, 1) := by decide +kernel
theorem dX11_sit_1 : decode cX11_sit 1 = .ok (.getfield 27, 3) := by decide +kernel
theorem dX11_sit_4 : decode cX11_sit 4 = .ok (.iload_n 1, 1) := by decide +kernel
theorem dX11_sit_5 : decode cX11_sit 5 = .ok (.invokevirtual 154, 3) := by decide +kernel
theorem dX11_sit_8 : decode cX11_sit 8 = .ok (.ifCond .eq 26, 3) := by decide +kernel
theorem dX11_sit_11 : decode cX11_sit 11 = .ok (.aload_n 0, 1) := by decide +kernel
theorem dX11_sit_12 : decode cX11_sit 12 = .ok (.getfield 27, 3) := by decide +kernel
theorem dX11_sit_15 : decode cX11_sit 15 = .ok (.iload_n 2, 1) := by decide +kernel
theorem dX11_sit_16 : decode cX11_sit 16 = .ok (.invokevirtual 128, 3) := by decide +kernel
theorem dX11_sit_19 : decode cX11_sit 19 = .ok (.ifCond .eq 15, 3) := by decide +kernel
theorem dX11_sit_22 : decode cX11_sit 22 = .ok (.aload_n 0, 1) := by decide +kernel
theorem dX11_sit_23 : decode cX11_sit 23 = .ok (.getfield 37, 3) := by decide +kernel
theorem dX11_sit_26 : decode cX11_sit 26 = .ok (.getfield 146, 3) := by decide +kernel
theorem dX11_sit_29 : decode cX11_sit 29 = .ok (.iload_n 2, 1) := by decide +kernel
theorem dX11_sit_30 : decode cX11_sit 30 = .ok (.iaload, 1) := by decide +kernel
theorem dX11_sit_31 : decode cX11_sit 31 = .ok (.ifCond .lt 5, 3) := by decide +kernel
theorem dX11_sit_34 : decode cX11_sit 34 = .ok (.iconst 0, 1) := by decide +kernel
theorem dX11_sit_35 : decode cX11_sit 35 = .ok (.ireturn, 1) := by decide +kernel
theorem dX11_sit_36 : decode cX11_sit 36 = .ok (.aload_n 0, 1) := by decide +kernel
theorem dX11_sit_37 : decode cX11_sit 37 = .ok (.getfield 57, 3) := by decide +kernel
theorem dX11_sit_40 : decode cX11_sit 40 = .ok (.aload_n 0, 1) := by decide +kernel
theorem dX11_sit_41 : decode cX11_sit 41 = .ok (.getfield 37, 3) := by decide +kernel
theorem dX11_sit_44 : decode cX11_sit 44 = .ok (.invokevirtual 195, 3) := by decide +kernel
theorem dX11_sit_47 : decode cX11_sit 47 = .ok (.aload_n 0, 1) := by decide +kernel
theorem dX11_sit_48 : decode cX11_sit 48 = .ok (.getfield 37, 3) := by decide +kernel
theorem dX11_sit_51 : decode cX11_sit 51 = .ok (.iload_n 1, 1) := by decide +kernel
theorem dX11_sit_52 : decode cX11_sit 52 = .ok (.iload_n 2, 1) := by decide +kernel
theorem dX11_sit_53 : decode cX11_sit 53 = .ok (.invokevirtual 203, 3) := by decide +kernel
theorem dX11_sit_56 : decode cX11_sit 56 = .ok (.ireturn, 1) := by decide +kernel
theorem dX11_rise_0 : decode cX11_rise 0 = .ok (.aload_n 0, 1) := by decide +kernel
theorem dX11_rise_1 : decode cX11_rise 1 = .ok (.getfield 27, 3) := by decide +kernel
theorem dX11_rise_4 : decode cX11_rise 4 = .ok (.iload_n 1, 1) := by decide +kernel
theorem dX11_rise_5 : decode cX11_rise 5 = .ok (.invokevirtual 154, 3) := by decide +kernel
theorem dX11_rise_8 : decode cX11_rise 8 = .ok (.ifCond .eq 15, 3) := by decide +kernel
theorem dX11_rise_11 : decode cX11_rise 11 = .ok (.aload_n 0, 1) := by decide +kernel
theorem dX11_rise_12 : decode cX11_rise 12 = .ok (.getfield 37, 3) := by decide +kernel
theorem dX11_rise_15 : decode cX11_rise 15 = .ok (.getfield 163, 3) := by decide +kernel
theorem dX11_rise_18 : decode cX11_rise 18 = .ok (.iload_n 1, 1) := by decide +kernel
theorem dX11_rise_19 : decode cX11_rise 19 = .ok (.iaload, 1) := by decide +kernel
theorem dX11_rise_20 : decode cX11_rise 20 = .ok (.ifCond .ge 5, 3) := by decide +kernel
theorem dX11_rise_23 : decode cX11_rise 23 = .ok (.iconst 0, 1) := by decide +kernel
theorem dX11_rise_24 : decode cX11_rise 24 = .ok (.ireturn, 1) := by decide +kernel
theorem dX11_rise_25 : decode cX11_rise 25 = .ok (.aload_n 0, 1) := by decide +kernel
theorem dX11_rise_26 : decode cX11_rise 26 = .ok (.getfield 57, 3) := by decide +kernel
theorem dX11_rise_29 : decode cX11_rise 29 = .ok (.aload_n 0, 1) := by decide +kernel
theorem dX11_rise_30 : decode cX11_rise 30 = .ok (.getfield 37, 3) := by decide +kernel
theorem dX11_rise_33 : decode cX11_rise 33 = .ok (.invokevirtual 195, 3) := by decide +kernel
theorem dX11_rise_36 : decode cX11_rise 36 = .ok (.aload_n 0, 1) := by decide +kernel
theorem dX11_rise_37 : decode cX11_rise 37 = .ok (.getfield 37, 3) := by decide +kernel
theorem dX11_rise_40 : decode cX11_rise 40 = .ok (.iload_n 1, 1) := by decide +kernel
theorem dX11_rise_41 : decode cX11_rise 41 = .ok (.invokevirtual 206, 3) := by decide +kernel
theorem dX11_rise_44 : decode cX11_rise 44 = .ok (.iconst 1, 1) := by decide +kernel
theorem dX11_rise_45 : decode cX11_rise 45 = .ok (.ireturn, 1) := by decide +kernel
theorem dX11_go_0 : decode cX11_go 0 = .ok (.iload_n 1, 1) := by decide +kernel
theorem dX11_go_1 : decode cX11_go 1 = .ok (.ifCond .lt 25, 3) := by decide +kernel
theorem dX11_go_4 : decode cX11_go 4 = .ok (.iload_n 1, 1) := by decide +kernel
theorem dX11_go_5 : decode cX11_go 5 = .ok (.sipush 200, 3) := by decide +kernel
theorem dX11_go_8 : decode cX11_go 8 = .ok (.if_icmp .gt 18, 3) := by decide +kernel
theorem dX11_go_11 : decode cX11_go 11 = .ok (.aload_n 0, 1) := by decide +kernel
theorem dX11_go_12 : decode cX11_go 12 = .ok (.getfield 37, 3) := by decide +kernel
theorem dX11_go_15 : decode cX11_go 15 = .ok (.getfield 209, 3) := by decide +kernel
theorem dX11_go_18 : decode cX11_go 18 = .ok (.iload_n 1, 1) := by decide +kernel
theorem dX11_go_19 : decode cX11_go 19 = .ok (.iadd, 1) := by decide +kernel
theorem dX11_go_20 : decode cX11_go 20 = .ok (.sipush 9800, 3) := by decide +kernel
theorem dX11_go_23 : decode cX11_go 23 = .ok (.if_icmp .le 5, 3) := by decide +kernel
theorem dX11_go_26 : decode cX11_go 26 = .ok (.iconst (-1), 1) := by decide +kernel
theorem dX11_go_27 : decode cX11_go 27 = .ok (.ireturn, 1) := by decide +kernel
theorem dX11_go_28 : decode cX11_go 28 = .ok (.aload_n 0, 1) := by decide +kernel
theorem dX11_go_29 : decode cX11_go 29 = .ok (.getfield 50, 3) := by decide +kernel
theorem dX11_go_32 : decode cX11_go 32 = .ok (.invokevirtual 212, 3) := by decide +kernel
theorem dX11_go_35 : decode cX11_go 35 = .ok (.aload_n 0, 1) := by decide +kernel
theorem dX11_go_36 : decode cX11_go 36 = .ok (.getfield 50, 3) := by decide +kernel
theorem dX11_go_39 : decode cX11_go 39 = .ok (.aload_n 0, 1) := by decide +kernel
theorem dX11_go_40 : decode cX11_go 40 = .ok (.getfield 27, 3) := by decide +kernel
theorem dX11_go_43 : decode cX11_go 43 = .ok (.aload_n 0, 1) := by decide +kernel
theorem dX11_go_44 : decode cX11_go 44 = .ok (.getfield 37, 3) := by decide +kernel
theorem dX11_go_47 : decode cX11_go 47 = .ok (.iload_n 1, 1) := by decide +kernel
theorem dX11_go_48 : decode cX11_go 48 = .ok (.invokevirtual 215, 3) := by decide +kernel
theorem dX11_go_51 : decode cX11_go 51 = .ok (.iload_n 1, 1) := by decide +kernel
theorem dX11_go_52 : decode cX11_go 52 = .ok (.ifCond .le 10, 3) := by decide +kernel
theorem dX11_go_55 : decode cX11_go 55 = .ok (.aload_n 0, 1) := by decide +kernel
theorem dX11_go_56 : decode cX11_go 56 = .ok (.getfield 57, 3) := by decide +kernel
theorem dX11_go_59 : decode cX11_go 59 = .ok (.invokevirtual 101, 3) := by decide +kernel
theorem dX11_go_62 : decode cX11_go 62 = .ok (.aload_n 0, 1) := by decide +kernel
theorem dX11_go_63 : decode cX11_go 63 = .ok (.getfield 37, 3) := by decide +kernel
theorem dX11_go_66 : decode cX11_go 66 = .ok (.getfield 209, 3) := by decide +kernel
theorem dX11_go_69 : decode cX11_go 69 = .ok (.ireturn, 1) := by decide +kernel
theorem dX11_ahead_0 : decode cX11_ahead 0 = .ok (.iload_n 1, 1) := by decide +kernel
theorem dX11_ahead_1 : decode cX11_ahead 1 = .ok (.ifCond .lt 19, 3) := by decide +kernel
theorem dX11_ahead_4 : decode cX11_ahead 4 = .ok (.iload_n 1, 1) := by decide +kernel
theorem dX11_ahead_5 : decode cX11_ahead 5 = .ok (.sipush 200, 3) := by decide +kernel
theorem dX11_ahead_8 : decode cX11_ahead 8 = .ok (.if_icmp .gt 12, 3) := by decide +kernel
theorem dX11_ahead_11 : decode cX11_ahead 11 = .ok (.iload_n 2, 1) := by decide +kernel
theorem dX11_ahead_12 : decode cX11_ahead 12 = .ok (.ifCond .lt 8, 3) := by decide +kernel
theorem dX11_ahead_15 : decode cX11_ahead 15 = .ok (.iload_n 2, 1) := by decide +kernel
theorem dX11_ahead_16 : decode cX11_ahead 16 = .ok (.iconst 4, 1) := by decide +kernel
theorem dX11_ahead_17 : decode cX11_ahead 17 = .ok (.if_icmp .le 5, 3) := by decide +kernel
theorem dX11_ahead_20 : decode cX11_ahead 20 = .ok (.iconst (-1), 1) := by decide +kernel
theorem dX11_ahead_21 : decode cX11_ahead 21 = .ok (.ireturn, 1) := by decide +kernel
theorem dX11_ahead_22 : decode cX11_ahead 22 = .ok (.iload_n 2, 1) := by decide +kernel
theorem dX11_ahead_23 : decode cX11_ahead 23 = .ok (.iconst 1, 1) := by decide +kernel
theorem dX11_ahead_24 : decode cX11_ahead 24 = .ok (.if_icmp .gt 14, 3) := by decide +kernel
theorem dX11_ahead_27 : decode cX11_ahead 27 = .ok (.aload_n 0, 1) := by decide +kernel
theorem dX11_ahead_28 : decode cX11_ahead 28 = .ok (.getfield 27, 3) := by decide +kernel
theorem dX11_ahead_31 : decode cX11_ahead 31 = .ok (.iload_n 3, 1) := by decide +kernel
theorem dX11_ahead_32 : decode cX11_ahead 32 = .ok (.invokevirtual 128, 3) := by decide +kernel
theorem dX11_ahead_35 : decode cX11_ahead 35 = .ok (.ifCond .eq 24, 3) := by decide +kernel
theorem dX11_ahead_38 : decode cX11_ahead 38 = .ok (.iload_n 2, 1) := by decide +kernel
theorem dX11_ahead_39 : decode cX11_ahead 39 = .ok (.iconst 2, 1) := by decide +kernel
theorem dX11_ahead_40 : decode cX11_ahead 40 = .ok (.if_icmp .eq 8, 3) := by decide +kernel
theorem dX11_ahead_43 : decode cX11_ahead 43 = .ok (.iload_n 2, 1) := by decide +kernel
theorem dX11_ahead_44 : decode cX11_ahead 44 = .ok (.iconst 3, 1) := by decide +kernel
theorem dX11_ahead_45 : decode cX11_ahead 45 = .ok (.if_icmp .ne 16, 3) := by decide +kernel
theorem dX11_ahead_48 : decode cX11_ahead 48 = .ok (.aload_n 0, 1) := by decide +kernel
theorem dX11_ahead_49 : decode cX11_ahead 49 = .ok (.getfield 27, 3) := by decide +kernel
theorem dX11_ahead_52 : decode cX11_ahead 52 = .ok (.iload_n 3, 1) := by decide +kernel
theorem dX11_ahead_53 : decode cX11_ahead 53 = .ok (.invokevirtual 154, 3) := by decide +kernel
theorem dX11_ahead_56 : decode cX11_ahead 56 = .ok (.ifCond .ne 5, 3) := by decide +kernel
theorem dX11_ahead_59 : decode cX11_ahead 59 = .ok (.iconst (-1), 1) := by decide +kernel
theorem dX11_ahead_60 : decode cX11_ahead 60 = .ok (.ireturn, 1) := by decide +kernel
theorem dX11_ahead_61 : decode cX11_ahead 61 = .ok (.aload_n 0, 1) := by decide +kernel
theorem dX11_ahead_62 : decode cX11_ahead 62 = .ok (.invokevirtual 219, 3) := by decide +kernel
theorem dX11_ahead_65 : decode cX11_ahead 65 = .ok (.aload_n 0, 1) := by decide +kernel
theorem dX11_ahead_66 : decode cX11_ahead 66 = .ok (.getfield 50, 3) := by decide +kernel
theorem dX11_ahead_69 : decode cX11_ahead 69 = .ok (.aload_n 0, 1) := by decide +kernel
theorem dX11_ahead_70 : decode cX11_ahead 70 = .ok (.getfield 27, 3) := by decide +kernel
theorem dX11_ahead_73 : decode cX11_ahead 73 = .ok (.aload_n 0, 1) := by decide +kernel
theorem dX11_ahead_74 : decode cX11_ahead 74 = .ok (.getfield 41, 3) := by decide +kernel
theorem dX11_ahead_77 : decode cX11_ahead 77 = .ok (.iload_n 1, 1) := by decide +kernel
theorem dX11_ahead_78 : decode cX11_ahead 78 = .ok (.invokevirtual 215, 3) := by decide +kernel
theorem dX11_ahead_81 : decode cX11_ahead 81 = .ok (.iload_n 2, 1) := by decide +kernel
theorem dX11_ahead_82 : decode cX11_ahead 82 = .ok (.tableswitch 70 0 3 #[30, 40, 50, 60], 30) := by decide +kernel
theorem dX11_ahead_112 : decode cX11_ahead 112 = .ok (.aload_n 0, 1) := by decide +kernel
theorem dX11_ahead_113 : decode cX11_ahead 113 = .ok (.getfield 41, 3) := by decide +kernel
theorem dX11_ahead_116 : decode cX11_ahead 116 = .ok (.getfield 143, 3) := by decide +kernel
theorem dX11_ahead_119 : decode cX11_ahead 119 = .ok (.iload_n 3, 1) := by decide +kernel
theorem dX11_ahead_120 : decode cX11_ahead 120 = .ok (.iaload, 1) := by decide +kernel
theorem dX11_ahead_121 : decode cX11_ahead 121 = .ok (.ireturn, 1) := by decide +kernel
theorem dX11_ahead_122 : decode cX11_ahead 122 = .ok (.aload_n 0, 1) := by decide +kernel
theorem dX11_ahead_123 : decode cX11_ahead 123 = .ok (.getfield 41, 3) := by decide +kernel
theorem dX11_ahead_126 : decode cX11_ahead 126 = .ok (.getfield 139, 3) := by decide +kernel
theorem dX11_ahead_129 : decode cX11_ahead 129 = .ok (.iload_n 3, 1) := by decide +kernel
theorem dX11_ahead_130 : decode cX11_ahead 130 = .ok (.iaload, 1) := by decide +kernel
theorem dX11_ahead_131 : decode cX11_ahead 131 = .ok (.ireturn, 1) := by decide +kernel
theorem dX11_ahead_132 : decode cX11_ahead 132 = .ok (.aload_n 0, 1) := by decide +kernel
theorem dX11_ahead_133 : decode cX11_ahead 133 = .ok (.getfield 41, 3) := by decide +kernel
theorem dX11_ahead_136 : decode cX11_ahead 136 = .ok (.getfield 166, 3) := by decide +kernel
theorem dX11_ahead_139 : decode cX11_ahead 139 = .ok (.iload_n 3, 1) := by decide +kernel
theorem dX11_ahead_140 : decode cX11_ahead 140 = .ok (.iaload, 1) := by decide +kernel
theorem dX11_ahead_141 : decode cX11_ahead 141 = .ok (.ireturn, 1) := by decide +kernel
theorem dX11_ahead_142 : decode cX11_ahead 142 = .ok (.aload_n 0, 1) := by decide +kernel
theorem dX11_ahead_143 : decode cX11_ahead 143 = .ok (.getfield 41, 3) := by decide +kernel
theorem dX11_ahead_146 : decode cX11_ahead 146 = .ok (.getfield 169, 3) := by decide +kernel
theorem dX11_ahead_149 : decode cX11_ahead 149 = .ok (.iload_n 3, 1) := by decide +kernel
theorem dX11_ahead_150 : decode cX11_ahead 150 = .ok (.iaload, 1) := by decide +kernel
theorem dX11_ahead_151 : decode cX11_ahead 151 = .ok (.ireturn, 1) := by decide +kernel
theorem dX11_ahead_152 : decode cX11_ahead 152 = .ok (.aload_n 0, 1) := by decide +kernel
theorem dX11_ahead_153 : decode cX11_ahead 153 = .ok (.getfield 41, 3) := by decide +kernel
theorem dX11_ahead_156 : decode cX11_ahead 156 = .ok (.getfield 175, 3) := by decide +kernel
theorem dX11_ahead_159 : decode cX11_ahead 159 = .ok (.invokestatic 222, 3) := by decide +kernel
theorem dX11_ahead_162 : decode cX11_ahead 162 = .ok (.aload_n 0, 1) := by decide +kernel
theorem dX11_ahead_163 : decode cX11_ahead 163 = .ok (.getfield 37, 3) := by decide +kernel
theorem dX11_ahead_166 : decode cX11_ahead 166 = .ok (.getfield 175, 3) := by decide +kernel
theorem dX11_ahead_169 : decode cX11_ahead 169 = .ok (.invokestatic 222, 3) := by decide +kernel
theorem dX11_ahead_172 : decode cX11_ahead 172 = .ok (.isub, 1) := by decide +kernel
theorem dX11_ahead_173 : decode cX11_ahead 173 = .ok (.ireturn, 1) := by decide +kernel
theorem dX11_tryAsItGoes_0 : decode cX11_tryAsItGoes 0 = .ok (.aload_n 0, 1) := by decide +kernel
theorem dX11_tryAsItGoes_1 : decode cX11_tryAsItGoes 1 = .ok (.getfield 41, 3) := by decide +kernel
theorem dX11_tryAsItGoes_4 : decode cX11_tryAsItGoes 4 = .ok (.aload_n 0, 1) := by decide +kernel
theorem dX11_tryAsItGoes_5 : decode cX11_tryAsItGoes 5 = .ok (.getfield 37, 3) := by decide +kernel
theorem dX11_tryAsItGoes_8 : decode cX11_tryAsItGoes 8 = .ok (.invokevirtual 226, 3) := by decide +kernel
theorem dX11_tryAsItGoes_11 : decode cX11_tryAsItGoes 11 = .ok (.aload_n 0, 1) := by decide +kernel
theorem dX11_tryAsItGoes_12 : decode cX11_tryAsItGoes 12 = .ok (.getfield 50, 3) := by decide +kernel
theorem dX11_tryAsItGoes_15 : decode cX11_tryAsItGoes 15 = .ok (.aload_n 0, 1) := by decide +kernel
theorem dX11_tryAsItGoes_16 : decode cX11_tryAsItGoes 16 = .ok (.getfield 27, 3) := by decide +kernel
theorem dX11_tryAsItGoes_19 : decode cX11_tryAsItGoes 19 = .ok (.invokevirtual 229, 3) := by decide +kernel
theorem dX11_tryAsItGoes_22 : decode cX11_tryAsItGoes 22 = .ok (.return_, 1) := by decide +kernel
theorem dX11_sumOf_0 : decode cX11_sumOf 0 = .ok (.iconst 0, 1) := by decide +kernel
theorem dX11_sumOf_1 : decode cX11_sumOf 1 = .ok (.istore_n 1, 1) := by decide +kernel
theorem dX11_sumOf_2 : decode cX11_sumOf 2 = .ok (.iconst 0, 1) := by decide +kernel
theorem dX11_sumOf_3 : decode cX11_sumOf 3 = .ok (.istore_n 2, 1) := by decide +kernel
theorem dX11_sumOf_4 : decode cX11_sumOf 4 = .ok (.iload_n 2, 1) := by decide +kernel
theorem dX11_sumOf_5 : decode cX11_sumOf 5 = .ok (.aload_n 0, 1) := by decide +kernel
theorem dX11_sumOf_6 : decode cX11_sumOf 6 = .ok (.arraylength, 1) := by decide +kernel
theorem dX11_sumOf_7 : decode cX11_sumOf 7 = .ok (.if_icmp .ge 15, 3) := by decide +kernel
theorem dX11_sumOf_10 : decode cX11_sumOf 10 = .ok (.iload_n 1, 1) := by decide +kernel
theorem dX11_sumOf_11 : decode cX11_sumOf 11 = .ok (.aload_n 0, 1) := by decide +kernel
theorem dX11_sumOf_12 : decode cX11_sumOf 12 = .ok (.iload_n 2, 1) := by decide +kernel
theorem dX11_sumOf_13 : decode cX11_sumOf 13 = .ok (.iaload, 1) := by decide +kernel
theorem dX11_sumOf_14 : decode cX11_sumOf 14 = .ok (.iadd, 1) := by decide +kernel
theorem dX11_sumOf_15 : decode cX11_sumOf 15 = .ok (.istore_n 1, 1) := by decide +kernel
theorem dX11_sumOf_16 : decode cX11_sumOf 16 = .ok (.iinc 2 1, 3) := by decide +kernel
theorem dX11_sumOf_19 : decode cX11_sumOf 19 = .ok (.goto (-15), 3) := by decide +kernel
theorem dX11_sumOf_22 : decode cX11_sumOf 22 = .ok (.iload_n 1, 1) := by decide +kernel
theorem dX11_sumOf_23 : decode cX11_sumOf 23 = .ok (.ireturn, 1) := by decide +kernel
theorem dX11_cools_0 : decode cX11_cools 0 = .ok (.aload_n 0, 1) := by decide +kernel
theorem dX11_cools_1 : decode cX11_cools 1 = .ok (.getfield 27, 3) := by decide +kernel
theorem dX11_cools_4 : decode cX11_cools 4 = .ok (.iload_n 1, 1) := by decide +kernel
theorem dX11_cools_5 : decode cX11_cools 5 = .ok (.invokevirtual 128, 3) := by decide +kernel
theorem dX11_cools_8 : decode cX11_cools 8 = .ok (.ifCond .eq 10, 3) := by decide +kernel
theorem dX11_cools_11 : decode cX11_cools 11 = .ok (.iload_n 2, 1) := by decide +kernel
theorem dX11_cools_12 : decode cX11_cools 12 = .ok (.invokestatic 232, 3) := by decide +kernel
theorem dX11_cools_15 : decode cX11_cools 15 = .ok (.ifCond .ne 5, 3) := by decide +kernel
theorem dX11_cools_18 : decode cX11_cools 18 = .ok (.iconst (-1), 1) := by decide +kernel
theorem dX11_cools_19 : decode cX11_cools 19 = .ok (.ireturn, 1) := by decide +kernel
theorem dX11_cools_20 : decode cX11_cools 20 = .ok (.aload_n 0, 1) := by decide +kernel
theorem dX11_cools_21 : decode cX11_cools 21 = .ok (.invokevirtual 219, 3) := by decide +kernel
theorem dX11_cools_24 : decode cX11_cools 24 = .ok (.iconst 0, 1) := by decide +kernel
theorem dX11_cools_25 : decode cX11_cools 25 = .ok (.istore_n 3, 1) := by decide +kernel
theorem dX11_cools_26 : decode cX11_cools 26 = .ok (.iload_n 3, 1) := by decide +kernel
theorem dX11_cools_27 : decode cX11_cools 27 = .ok (.sipush 199, 3) := by decide +kernel
theorem dX11_cools_30 : decode cX11_cools 30 = .ok (.if_icmp .gt 42, 3) := by decide +kernel
theorem dX11_cools_33 : decode cX11_cools 33 = .ok (.aload_n 0, 1) := by decide +kernel
theorem dX11_cools_34 : decode cX11_cools 34 = .ok (.getfield 41, 3) := by decide +kernel
theorem dX11_cools_37 : decode cX11_cools 37 = .ok (.getfield 143, 3) := by decide +kernel
theorem dX11_cools_40 : decode cX11_cools 40 = .ok (.iload_n 1, 1) := by decide +kernel
theorem dX11_cools_41 : decode cX11_cools 41 = .ok (.iaload, 1) := by decide +kernel
theorem dX11_cools_42 : decode cX11_cools 42 = .ok (.bipush 10, 2) := by decide +kernel
theorem dX11_cools_44 : decode cX11_cools 44 = .ok (.iload_n 2, 1) := by decide +kernel
theorem dX11_cools_45 : decode cX11_cools 45 = .ok (.imul, 1) := by decide +kernel
theorem dX11_cools_46 : decode cX11_cools 46 = .ok (.if_icmp .gt 5, 3) := by decide +kernel
theorem dX11_cools_49 : decode cX11_cools 49 = .ok (.iload_n 3, 1) := by decide +kernel
theorem dX11_cools_50 : decode cX11_cools 50 = .ok (.ireturn, 1) := by decide +kernel
theorem dX11_cools_51 : decode cX11_cools 51 = .ok (.aload_n 0, 1) := by decide +kernel
theorem dX11_cools_52 : decode cX11_cools 52 = .ok (.getfield 50, 3) := by decide +kernel
theorem dX11_cools_55 : decode cX11_cools 55 = .ok (.aload_n 0, 1) := by decide +kernel
theorem dX11_cools_56 : decode cX11_cools 56 = .ok (.getfield 27, 3) := by decide +kernel
theorem dX11_cools_59 : decode cX11_cools 59 = .ok (.aload_n 0, 1) := by decide +kernel
theorem dX11_cools_60 : decode cX11_cools 60 = .ok (.getfield 41, 3) := by decide +kernel
theorem dX11_cools_63 : decode cX11_cools 63 = .ok (.invokevirtual 235, 3) := by decide +kernel
theorem dX11_cools_66 : decode cX11_cools 66 = .ok (.iinc 3 1, 3) := by decide +kernel
theorem dX11_cools_69 : decode cX11_cools 69 = .ok (.goto (-43), 3) := by decide +kernel
theorem dX11_cools_72 : decode cX11_cools 72 = .ok (.bipush (-2), 2) := by decide +kernel
theorem dX11_cools_74 : decode cX11_cools 74 = .ok (.ireturn, 1) := by decide +kernel
theorem dX11_isDegrees_0 : decode cX11_isDegrees 0 = .ok (.iload_n 0, 1) := by decide +kernel
theorem dX11_isDegrees_1 : decode cX11_isDegrees 1 = .ok (.ifCond .lt 13, 3) := by decide +kernel
theorem dX11_isDegrees_4 : decode cX11_isDegrees 4 = .ok (.iload_n 0, 1) := by decide +kernel
theorem dX11_isDegrees_5 : decode cX11_isDegrees 5 = .ok (.bipush 99, 2) := by decide +kernel
theorem dX11_isDegrees_7 : decode cX11_isDegrees 7 = .ok (.if_icmp .gt 7, 3) := by decide +kernel
theorem dX11_isDegrees_10 : decode cX11_isDegrees 10 = .ok (.iconst 1, 1) := by decide +kernel
theorem dX11_isDegrees_11 : decode cX11_isDegrees 11 = .ok (.goto 4, 3) := by decide +kernel
theorem dX11_isDegrees_14 : decode cX11_isDegrees 14 = .ok (.iconst 0, 1) := by decide +kernel
theorem dX11_isDegrees_15 : decode cX11_isDegrees 15 = .ok (.ireturn, 1) := by decide +kernel
theorem dX11_flinches_0 : decode cX11_flinches 0 = .ok (.aload_n 0, 1) := by decide +kernel
theorem dX11_flinches_1 : decode cX11_flinches 1 = .ok (.getfield 27, 3) := by decide +kernel
theorem dX11_flinches_4 : decode cX11_flinches 4 = .ok (.iload_n 1, 1) := by decide +kernel
theorem dX11_flinches_5 : decode cX11_flinches 5 = .ok (.invokevirtual 154, 3) := by decide +kernel
theorem dX11_flinches_8 : decode cX11_flinches 8 = .ok (.ifCond .ne 5, 3) := by decide +kernel
theorem dX11_flinches_11 : decode cX11_flinches 11 = .ok (.iconst (-1), 1) := by decide +kernel
theorem dX11_flinches_12 : decode cX11_flinches 12 = .ok (.ireturn, 1) := by decide +kernel
theorem dX11_flinches_13 : decode cX11_flinches 13 = .ok (.aload_n 0, 1) := by decide +kernel
theorem dX11_flinches_14 : decode cX11_flinches 14 = .ok (.invokevirtual 219, 3) := by decide +kernel
theorem dX11_flinches_17 : decode cX11_flinches 17 = .ok (.iconst 1, 1) := by decide +kernel
theorem dX11_flinches_18 : decode cX11_flinches 18 = .ok (.istore_n 2, 1) := by decide +kernel
theorem dX11_flinches_19 : decode cX11_flinches 19 = .ok (.iload_n 2, 1) := by decide +kernel
theorem dX11_flinches_20 : decode cX11_flinches 20 = .ok (.sipush 199, 3) := by decide +kernel
theorem dX11_flinches_23 : decode cX11_flinches 23 = .ok (.if_icmp .gt 47, 3) := by decide +kernel
theorem dX11_flinches_26 : decode cX11_flinches 26 = .ok (.aload_n 0, 1) := by decide +kernel
theorem dX11_flinches_27 : decode cX11_flinches 27 = .ok (.getfield 50, 3) := by decide +kernel
theorem dX11_flinches_30 : decode cX11_flinches 30 = .ok (.aload_n 0, 1) := by decide +kernel
theorem dX11_flinches_31 : decode cX11_flinches 31 = .ok (.getfield 27, 3) := by decide +kernel
theorem dX11_flinches_34 : decode cX11_flinches 34 = .ok (.aload_n 0, 1) := by decide +kernel
theorem dX11_flinches_35 : decode cX11_flinches 35 = .ok (.getfield 41, 3) := by decide +kernel
theorem dX11_flinches_38 : decode cX11_flinches 38 = .ok (.invokevirtual 235, 3) := by decide +kernel
theorem dX11_flinches_41 : decode cX11_flinches 41 = .ok (.aload_n 0, 1) := by decide +kernel
theorem dX11_flinches_42 : decode cX11_flinches 42 = .ok (.getfield 41, 3) := by decide +kernel
theorem dX11_flinches_45 : decode cX11_flinches 45 = .ok (.getfield 175, 3) := by decide +kernel
theorem dX11_flinches_48 : decode cX11_flinches 48 = .ok (.iload_n 1, 1) := by decide +kernel
theorem dX11_flinches_49 : decode cX11_flinches 49 = .ok (.iaload, 1) := by decide +kernel
theorem dX11_flinches_50 : decode cX11_flinches 50 = .ok (.aload_n 0, 1) := by decide +kernel
theorem dX11_flinches_51 : decode cX11_flinches 51 = .ok (.getfield 37, 3) := by decide +kernel
theorem dX11_flinches_54 : decode cX11_flinches 54 = .ok (.getfield 175, 3) := by decide +kernel
theorem dX11_flinches_57 : decode cX11_flinches 57 = .ok (.iload_n 1, 1) := by decide +kernel
theorem dX11_flinches_58 : decode cX11_flinches 58 = .ok (.iaload, 1) := by decide +kernel
theorem dX11_flinches_59 : decode cX11_flinches 59 = .ok (.if_icmp .le 5, 3) := by decide +kernel
theorem dX11_flinches_62 : decode cX11_flinches 62 = .ok (.iload_n 2, 1) := by decide +kernel
theorem dX11_flinches_63 : decode cX11_flinches 63 = .ok (.ireturn, 1) := by decide +kernel
theorem dX11_flinches_64 : decode cX11_flinches 64 = .ok (.iinc 2 1, 3) := by decide +kernel
theorem dX11_flinches_67 : decode cX11_flinches 67 = .ok (.goto (-48), 3) := by decide +kernel
theorem dX11_flinches_70 : decode cX11_flinches 70 = .ok (.bipush (-2), 2) := by decide +kernel
theorem dX11_flinches_72 : decode cX11_flinches 72 = .ok (.ireturn, 1) := by decide +kernel
theorem dX11_order_0 : decode cX11_order 0 = .ok (.iload_n 1, 1) := by decide +kernel
theorem dX11_order_1 : decode cX11_order 1 = .ok (.ifCond .ge 5, 3) := by decide +kernel
theorem dX11_order_4 : decode cX11_order 4 = .ok (.iconst (-1), 1) := by decide +kernel
theorem dX11_order_5 : decode cX11_order 5 = .ok (.ireturn, 1) := by decide +kernel
theorem dX11_order_6 : decode cX11_order 6 = .ok (.iconst 0, 1) := by decide +kernel
theorem dX11_order_7 : decode cX11_order 7 = .ok (.istore_n 2, 1) := by decide +kernel
theorem dX11_order_8 : decode cX11_order 8 = .ok (.iload_n 2, 1) := by decide +kernel
theorem dX11_order_9 : decode cX11_order 9 = .ok (.aload_n 0, 1) := by decide +kernel
theorem dX11_order_10 : decode cX11_order 10 = .ok (.getfield 27, 3) := by decide +kernel
theorem dX11_order_13 : decode cX11_order 13 = .ok (.getfield 115, 3) := by decide +kernel
theorem dX11_order_16 : decode cX11_order 16 = .ok (.getfield 239, 3) := by decide +kernel
theorem dX11_order_19 : decode cX11_order 19 = .ok (.if_icmp .ge 68, 3) := by decide +kernel
theorem dX11_order_22 : decode cX11_order 22 = .ok (.iload_n 2, 1) := by decide +kernel
theorem dX11_order_23 : decode cX11_order 23 = .ok (.bipush 6, 2) := by decide +kernel
theorem dX11_order_25 : decode cX11_order 25 = .ok (.if_icmp .ge 62, 3) := by decide +kernel
theorem dX11_order_28 : decode cX11_order 28 = .ok (.iconst 0, 1) := by decide +kernel
theorem dX11_order_29 : decode cX11_order 29 = .ok (.istore_n 3, 1) := by decide +kernel
theorem dX11_order_30 : decode cX11_order 30 = .ok (.iconst 0, 1) := by decide +kernel
theorem dX11_order_31 : decode cX11_order 31 = .ok (.istore 4, 2) := by decide +kernel
theorem dX11_order_33 : decode cX11_order 33 = .ok (.iload 4, 2) := by decide +kernel
theorem dX11_order_35 : decode cX11_order 35 = .ok (.aload_n 0, 1) := by decide +kernel
theorem dX11_order_36 : decode cX11_order 36 = .ok (.getfield 27, 3) := by decide +kernel
theorem dX11_order_39 : decode cX11_order 39 = .ok (.getfield 115, 3) := by decide +kernel
theorem dX11_order_42 : decode cX11_order 42 = .ok (.getfield 239, 3) := by decide +kernel
theorem dX11_order_45 : decode cX11_order 45 = .ok (.if_icmp .ge 29, 3) := by decide +kernel
theorem dX11_order_48 : decode cX11_order 48 = .ok (.iload 4, 2) := by decide +kernel
theorem dX11_order_50 : decode cX11_order 50 = .ok (.bipush 6, 2) := by decide +kernel
theorem dX11_order_52 : decode cX11_order 52 = .ok (.if_icmp .ge 22, 3) := by decide +kernel
theorem dX11_order_55 : decode cX11_order 55 = .ok (.aload_n 0, 1) := by decide +kernel
theorem dX11_order_56 : decode cX11_order 56 = .ok (.iload 4, 2) := by decide +kernel
theorem dX11_order_58 : decode cX11_order 58 = .ok (.iload_n 2, 1) := by decide +kernel
theorem dX11_order_59 : decode cX11_order 59 = .ok (.invokevirtual 242, 3) := by decide +kernel
theorem dX11_order_62 : decode cX11_order 62 = .ok (.ifCond .eq 6, 3) := by decide +kernel
theorem dX11_order_65 : decode cX11_order 65 = .ok (.iinc 3 1, 3) := by decide +kernel
theorem dX11_order_68 : decode cX11_order 68 = .ok (.iinc 4 1, 3) := by decide +kernel
theorem dX11_order_71 : decode cX11_order 71 = .ok (.goto (-38), 3) := by decide +kernel
theorem dX11_order_74 : decode cX11_order 74 = .ok (.iload_n 3, 1) := by decide +kernel
theorem dX11_order_75 : decode cX11_order 75 = .ok (.iload_n 1, 1) := by decide +kernel
theorem dX11_order_76 : decode cX11_order 76 = .ok (.if_icmp .ne 5, 3) := by decide +kernel
theorem dX11_order_79 : decode cX11_order 79 = .ok (.iload_n 2, 1) := by decide +kernel
theorem dX11_order_80 : decode cX11_order 80 = .ok (.ireturn, 1) := by decide +kernel
theorem dX11_order_81 : decode cX11_order 81 = .ok (.iinc 2 1, 3) := by decide +kernel
theorem dX11_order_84 : decode cX11_order 84 = .ok (.goto (-76), 3) := by decide +kernel
theorem dX11_order_87 : decode cX11_order 87 = .ok (.bipush (-2), 2) := by decide +kernel
theorem dX11_order_89 : decode cX11_order 89 = .ok (.ireturn, 1) := by decide +kernel
theorem dX11_standsAhead_0 : decode cX11_standsAhead 0 = .ok (.aload_n 0, 1) := by decide +kernel
theorem dX11_standsAhead_1 : decode cX11_standsAhead 1 = .ok (.getfield 37, 3) := by decide +kernel
theorem dX11_standsAhead_4 : decode cX11_standsAhead 4 = .ok (.getfield 169, 3) := by decide +kernel
theorem dX11_standsAhead_7 : decode cX11_standsAhead 7 = .ok (.iload_n 1, 1) := by decide +kernel
theorem dX11_standsAhead_8 : decode cX11_standsAhead 8 = .ok (.iaload, 1) := by decide +kernel
theorem dX11_standsAhead_9 : decode cX11_standsAhead 9 = .ok (.aload_n 0, 1) := by decide +kernel
theorem dX11_standsAhead_10 : decode cX11_standsAhead 10 = .ok (.getfield 37, 3) := by decide +kernel
theorem dX11_standsAhead_13 : decode cX11_standsAhead 13 = .ok (.getfield 169, 3) := by decide +kernel
theorem dX11_standsAhead_16 : decode cX11_standsAhead 16 = .ok (.iload_n 2, 1) := by decide +kernel
theorem dX11_standsAhead_17 : decode cX11_standsAhead 17 = .ok (.iaload, 1) := by decide +kernel
theorem dX11_standsAhead_18 : decode cX11_standsAhead 18 = .ok (.if_icmp .eq 30, 3) := by decide +kernel
theorem dX11_standsAhead_21 : decode cX11_standsAhead 21 = .ok (.aload_n 0, 1) := by decide +kernel
theorem dX11_standsAhead_22 : decode cX11_standsAhead 22 = .ok (.getfield 37, 3) := by decide +kernel
theorem dX11_standsAhead_25 : decode cX11_standsAhead 25 = .ok (.getfield 169, 3) := by decide +kernel
theorem dX11_standsAhead_28 : decode cX11_standsAhead 28 = .ok (.iload_n 1, 1) := by decide +kernel
theorem dX11_standsAhead_29 : decode cX11_standsAhead 29 = .ok (.iaload, 1) := by decide +kernel
theorem dX11_standsAhead_30 : decode cX11_standsAhead 30 = .ok (.aload_n 0, 1) := by decide +kernel
theorem dX11_standsAhead_31 : decode cX11_standsAhead 31 = .ok (.getfield 37, 3) := by decide +kernel
theorem dX11_standsAhead_34 : decode cX11_standsAhead 34 = .ok (.getfield 169, 3) := by decide +kernel
theorem dX11_standsAhead_37 : decode cX11_standsAhead 37 = .ok (.iload_n 2, 1) := by decide +kernel
theorem dX11_standsAhead_38 : decode cX11_standsAhead 38 = .ok (.iaload, 1) := by decide +kernel
theorem dX11_standsAhead_39 : decode cX11_standsAhead 39 = .ok (.if_icmp .le 7, 3) := by decide +kernel
theorem dX11_standsAhead_42 : decode cX11_standsAhead 42 = .ok (.iconst 1, 1) := by decide +kernel
theorem dX11_standsAhead_43 : decode cX11_standsAhead 43 = .ok (.goto 4, 3) := by decide +kernel
theorem dX11_standsAhead_46 : decode cX11_standsAhead 46 = .ok (.iconst 0, 1) := by decide +kernel
theorem dX11_standsAhead_47 : decode cX11_standsAhead 47 = .ok (.ireturn, 1) := by decide +kernel
theorem dX11_standsAhead_48 : decode cX11_standsAhead 48 = .ok (.aload_n 0, 1) := by decide +kernel
theorem dX11_standsAhead_49 : decode cX11_standsAhead 49 = .ok (.getfield 37, 3) := by decide +kernel
theorem dX11_standsAhead_52 : decode cX11_standsAhead 52 = .ok (.getfield 166, 3) := by decide +kernel
theorem dX11_standsAhead_55 : decode cX11_standsAhead 55 = .ok (.iload_n 1, 1) := by decide +kernel
theorem dX11_standsAhead_56 : decode cX11_standsAhead 56 = .ok (.iaload, 1) := by decide +kernel
theorem dX11_standsAhead_57 : decode cX11_standsAhead 57 = .ok (.aload_n 0, 1) := by decide +kernel
theorem dX11_standsAhead_58 : decode cX11_standsAhead 58 = .ok (.getfield 37, 3) := by decide +kernel
theorem dX11_standsAhead_61 : decode cX11_standsAhead 61 = .ok (.getfield 166, 3) := by decide +kernel
theorem dX11_standsAhead_64 : decode cX11_standsAhead 64 = .ok (.iload_n 2, 1) := by decide +kernel
theorem dX11_standsAhead_65 : decode cX11_standsAhead 65 = .ok (.iaload, 1) := by decide +kernel
theorem dX11_standsAhead_66 : decode cX11_standsAhead 66 = .ok (.if_icmp .eq 30, 3) := by decide +kernel
theorem dX11_standsAhead_69 : decode cX11_standsAhead 69 = .ok (.aload_n 0, 1) := by decide +kernel
theorem dX11_standsAhead_70 : decode cX11_standsAhead 70 = .ok (.getfield 37, 3) := by decide +kernel
theorem dX11_standsAhead_73 : decode cX11_standsAhead 73 = .ok (.getfield 166, 3) := by decide +kernel
theorem dX11_standsAhead_76 : decode cX11_standsAhead 76 = .ok (.iload_n 1, 1) := by decide +kernel
theorem dX11_standsAhead_77 : decode cX11_standsAhead 77 = .ok (.iaload, 1) := by decide +kernel
theorem dX11_standsAhead_78 : decode cX11_standsAhead 78 = .ok (.aload_n 0, 1) := by decide +kernel
theorem dX11_standsAhead_79 : decode cX11_standsAhead 79 = .ok (.getfield 37, 3) := by decide +kernel
theorem dX11_standsAhead_82 : decode cX11_standsAhead 82 = .ok (.getfield 166, 3) := by decide +kernel
theorem dX11_standsAhead_85 : decode cX11_standsAhead 85 = .ok (.iload_n 2, 1) := by decide +kernel
theorem dX11_standsAhead_86 : decode cX11_standsAhead 86 = .ok (.iaload, 1) := by decide +kernel
theorem dX11_standsAhead_87 : decode cX11_standsAhead 87 = .ok (.if_icmp .le 7, 3) := by decide +kernel
theorem dX11_standsAhead_90 : decode cX11_standsAhead 90 = .ok (.iconst 1, 1) := by decide +kernel
theorem dX11_standsAhead_91 : decode cX11_standsAhead 91 = .ok (.goto 4, 3) := by decide +kernel
theorem dX11_standsAhead_94 : decode cX11_standsAhead 94 = .ok (.iconst 0, 1) := by decide +kernel
theorem dX11_standsAhead_95 : decode cX11_standsAhead 95 = .ok (.ireturn, 1) := by decide +kernel
theorem dX11_standsAhead_96 : decode cX11_standsAhead 96 = .ok (.iload_n 1, 1) := by decide +kernel
theorem dX11_standsAhead_97 : decode cX11_standsAhead 97 = .ok (.iload_n 2, 1) := by decide +kernel
theorem dX11_standsAhead_98 : decode cX11_standsAhead 98 = .ok (.if_icmp .ge 7, 3) := by decide +kernel
theorem dX11_standsAhead_101 : decode cX11_standsAhead 101 = .ok (.iconst 1, 1) := by decide +kernel
theorem dX11_standsAhead_102 : decode cX11_standsAhead 102 = .ok (.goto 4, 3) := by decide +kernel
theorem dX11_standsAhead_105 : decode cX11_standsAhead 105 = .ok (.iconst 0, 1) := by decide +kernel
theorem dX11_standsAhead_106 : decode cX11_standsAhead 106 = .ok (.ireturn, 1) := by decide +kernel
theorem dX11_addFor_0 : decode cX11_addFor 0 = .ok (.aload_n 0, 1) := by decide +kernel
theorem dX11_addFor_1 : decode cX11_addFor 1 = .ok (.getfield 27, 3) := by decide +kernel
theorem dX11_addFor_4 : decode cX11_addFor 4 = .ok (.iload_n 1, 1) := by decide +kernel
theorem dX11_addFor_5 : decode cX11_addFor 5 = .ok (.invokevirtual 128, 3) := by decide +kernel
theorem dX11_addFor_8 : decode cX11_addFor 8 = .ok (.ifCond .eq 19, 3) := by decide +kernel
theorem dX11_addFor_11 : decode cX11_addFor 11 = .ok (.iload_n 2, 1) := by decide +kernel
theorem dX11_addFor_12 : decode cX11_addFor 12 = .ok (.invokestatic 232, 3) := by decide +kernel
theorem dX11_addFor_15 : decode cX11_addFor 15 = .ok (.ifCond .eq 12, 3) := by decide +kernel
theorem dX11_addFor_18 : decode cX11_addFor 18 = .ok (.aload_n 0, 1) := by decide +kernel
theorem dX11_addFor_19 : decode cX11_addFor 19 = .ok (.iload_n 1, 1) := by decide +kernel
theorem dX11_addFor_20 : decode cX11_addFor 20 = .ok (.iload_n 2, 1) := by decide +kernel
theorem dX11_addFor_21 : decode cX11_addFor 21 = .ok (.invokevirtual 245, 3) := by decide +kernel
theorem dX11_addFor_24 : decode cX11_addFor 24 = .ok (.goto 4, 3) := by decide +kernel
theorem dX11_addFor_27 : decode cX11_addFor 27 = .ok (.iconst (-1), 1) := by decide +kernel
theorem dX11_addFor_28 : decode cX11_addFor 28 = .ok (.ireturn, 1) := by decide +kernel
theorem dX11_fewestFor_0 : decode cX11_fewestFor 0 = .ok (.aload_n 0, 1) := by decide +kernel
theorem dX11_fewestFor_1 : decode cX11_fewestFor 1 = .ok (.getfield 37, 3) := by decide +kernel
theorem dX11_fewestFor_4 : decode cX11_fewestFor 4 = .ok (.getfield 143, 3) := by decide +kernel
theorem dX11_fewestFor_7 : decode cX11_fewestFor 7 = .ok (.iload_n 1, 1) := by decide +kernel
theorem dX11_fewestFor_8 : decode cX11_fewestFor 8 = .ok (.iaload, 1) := by decide +kernel
theorem dX11_fewestFor_9 : decode cX11_fewestFor 9 = .ok (.bipush 10, 2) := by decide +kernel
theorem dX11_fewestFor_11 : decode cX11_fewestFor 11 = .ok (.iload_n 2, 1) := by decide +kernel
theorem dX11_fewestFor_12 : decode cX11_fewestFor 12 = .ok (.imul, 1) := by decide +kernel
theorem dX11_fewestFor_13 : decode cX11_fewestFor 13 = .ok (.if_icmp .lt 5, 3) := by decide +kernel
theorem dX11_fewestFor_16 : decode cX11_fewestFor 16 = .ok (.iconst 0, 1) := by decide +kernel
theorem dX11_fewestFor_17 : decode cX11_fewestFor 17 = .ok (.ireturn, 1) := by decide +kernel
theorem dX11_fewestFor_18 : decode cX11_fewestFor 18 = .ok (.iconst 1, 1) := by decide +kernel
theorem dX11_fewestFor_19 : decode cX11_fewestFor 19 = .ok (.istore_n 3, 1) := by decide +kernel
theorem dX11_fewestFor_20 : decode cX11_fewestFor 20 = .ok (.iload_n 3, 1) := by decide +kernel
theorem dX11_fewestFor_21 : decode cX11_fewestFor 21 = .ok (.bipush 60, 2) := by decide +kernel
theorem dX11_fewestFor_23 : decode cX11_fewestFor 23 = .ok (.if_icmp .gt 45, 3) := by decide +kernel
theorem dX11_fewestFor_26 : decode cX11_fewestFor 26 = .ok (.aload_n 0, 1) := by decide +kernel
theorem dX11_fewestFor_27 : decode cX11_fewestFor 27 = .ok (.getfield 37, 3) := by decide +kernel
theorem dX11_fewestFor_30 : decode cX11_fewestFor 30 = .ok (.iload_n 1, 1) := by decide +kernel
theorem dX11_fewestFor_31 : decode cX11_fewestFor 31 = .ok (.iload_n 3, 1) := by decide +kernel
theorem dX11_fewestFor_32 : decode cX11_fewestFor 32 = .ok (.invokevirtual 191, 3) := by decide +kernel
theorem dX11_fewestFor_35 : decode cX11_fewestFor 35 = .ok (.ifCond .ne 6, 3) := by decide +kernel
theorem dX11_fewestFor_38 : decode cX11_fewestFor 38 = .ok (.bipush (-2), 2) := by decide +kernel
theorem dX11_fewestFor_40 : decode cX11_fewestFor 40 = .ok (.ireturn, 1) := by decide +kernel
theorem dX11_fewestFor_41 : decode cX11_fewestFor 41 = .ok (.aload_n 0, 1) := by decide +kernel
theorem dX11_fewestFor_42 : decode cX11_fewestFor 42 = .ok (.getfield 37, 3) := by decide +kernel
theorem dX11_fewestFor_45 : decode cX11_fewestFor 45 = .ok (.iload_n 1, 1) := by decide +kernel
theorem dX11_fewestFor_46 : decode cX11_fewestFor 46 = .ok (.iload_n 3, 1) := by decide +kernel
theorem dX11_fewestFor_47 : decode cX11_fewestFor 47 = .ok (.sipush 990, 3) := by decide +kernel
theorem dX11_fewestFor_50 : decode cX11_fewestFor 50 = .ok (.invokevirtual 249, 3) := by decide +kernel
theorem dX11_fewestFor_53 : decode cX11_fewestFor 53 = .ok (.bipush 10, 2) := by decide +kernel
theorem dX11_fewestFor_55 : decode cX11_fewestFor 55 = .ok (.iload_n 2, 1) := by decide +kernel
theorem dX11_fewestFor_56 : decode cX11_fewestFor 56 = .ok (.imul, 1) := by decide +kernel
theorem dX11_fewestFor_57 : decode cX11_fewestFor 57 = .ok (.if_icmp .lt 5, 3) := by decide +kernel
theorem dX11_fewestFor_60 : decode cX11_fewestFor 60 = .ok (.iload_n 3, 1) := by decide +kernel
theorem dX11_fewestFor_61 : decode cX11_fewestFor 61 = .ok (.ireturn, 1) := by decide +kernel
theorem dX11_fewestFor_62 : decode cX11_fewestFor 62 = .ok (.iinc 3 1, 3) := by decide +kernel
theorem dX11_fewestFor_65 : decode cX11_fewestFor 65 = .ok (.goto (-45), 3) := by decide +kernel
theorem dX11_fewestFor_68 : decode cX11_fewestFor 68 = .ok (.bipush (-2), 2) := by decide +kernel
theorem dX11_fewestFor_70 : decode cX11_fewestFor 70 = .ok (.ireturn, 1) := by decide +kernel
theorem dX11_coal_0 : decode cX11_coal 0 = .ok (.iload_n 1, 1) := by decide +kernel
theorem dX11_coal_1 : decode cX11_coal 1 = .ok (.invokestatic 232, 3) := by decide +kernel
theorem dX11_coal_4 : decode cX11_coal 4 = .ok (.ifCond .ne 5, 3) := by decide +kernel
theorem dX11_coal_7 : decode cX11_coal 7 = .ok (.iconst (-1), 1) := by decide +kernel
theorem dX11_coal_8 : decode cX11_coal 8 = .ok (.ireturn, 1) := by decide +kernel
theorem dX11_coal_9 : decode cX11_coal 9 = .ok (.iconst 0, 1) := by decide +kernel
theorem dX11_coal_10 : decode cX11_coal 10 = .ok (.istore_n 2, 1) := by decide +kernel
theorem dX11_coal_11 : decode cX11_coal 11 = .ok (.iconst 0, 1) := by decide +kernel
theorem dX11_coal_12 : decode cX11_coal 12 = .ok (.istore_n 3, 1) := by decide +kernel
theorem dX11_coal_13 : decode cX11_coal 13 = .ok (.iload_n 3, 1) := by decide +kernel
theorem dX11_coal_14 : decode cX11_coal 14 = .ok (.aload_n 0, 1) := by decide +kernel
theorem dX11_coal_15 : decode cX11_coal 15 = .ok (.getfield 27, 3) := by decide +kernel
theorem dX11_coal_18 : decode cX11_coal 18 = .ok (.getfield 125, 3) := by decide +kernel
theorem dX11_coal_21 : decode cX11_coal 21 = .ok (.getfield 239, 3) := by decide +kernel
theorem dX11_coal_24 : decode cX11_coal 24 = .ok (.if_icmp .ge 36, 3) := by decide +kernel
theorem dX11_coal_27 : decode cX11_coal 27 = .ok (.iload_n 3, 1) := by decide +kernel
theorem dX11_coal_28 : decode cX11_coal 28 = .ok (.bipush 6, 2) := by decide +kernel
theorem dX11_coal_30 : decode cX11_coal 30 = .ok (.if_icmp .ge 30, 3) := by decide +kernel
theorem dX11_coal_33 : decode cX11_coal 33 = .ok (.aload_n 0, 1) := by decide +kernel
theorem dX11_coal_34 : decode cX11_coal 34 = .ok (.iload_n 3, 1) := by decide +kernel
theorem dX11_coal_35 : decode cX11_coal 35 = .ok (.iload_n 1, 1) := by decide +kernel
theorem dX11_coal_36 : decode cX11_coal 36 = .ok (.invokevirtual 245, 3) := by decide +kernel
theorem dX11_coal_39 : decode cX11_coal 39 = .ok (.istore 4, 2) := by decide +kernel
theorem dX11_coal_41 : decode cX11_coal 41 = .ok (.iload 4, 2) := by decide +kernel
theorem dX11_coal_43 : decode cX11_coal 43 = .ok (.ifCond .ge 6, 3) := by decide +kernel
theorem dX11_coal_46 : decode cX11_coal 46 = .ok (.bipush (-2), 2) := by decide +kernel
theorem dX11_coal_48 : decode cX11_coal 48 = .ok (.ireturn, 1) := by decide +kernel
theorem dX11_coal_49 : decode cX11_coal 49 = .ok (.iload_n 2, 1) := by decide +kernel
theorem dX11_coal_50 : decode cX11_coal 50 = .ok (.iload 4, 2) := by decide +kernel
theorem dX11_coal_52 : decode cX11_coal 52 = .ok (.iadd, 1) := by decide +kernel
theorem dX11_coal_53 : decode cX11_coal 53 = .ok (.istore_n 2, 1) := by decide +kernel
theorem dX11_coal_54 : decode cX11_coal 54 = .ok (.iinc 3 1, 3) := by decide +kernel
theorem dX11_coal_57 : decode cX11_coal 57 = .ok (.goto (-44), 3) := by decide +kernel
theorem dX11_coal_60 : decode cX11_coal 60 = .ok (.iload_n 2, 1) := by decide +kernel
theorem dX11_coal_61 : decode cX11_coal 61 = .ok (.ireturn, 1) := by decide +kernel
theorem dX11_together_0 : decode cX11_together 0 = .ok (.iload_n 1, 1) := by decide +kernel
theorem dX11_together_1 : decode cX11_together 1 = .ok (.iconst 1, 1) := by decide +kernel
theorem dX11_together_2 : decode cX11_together 2 = .ok (.if_icmp .lt 28, 3) := by decide +kernel
theorem dX11_together_5 : decode cX11_together 5 = .ok (.iload_n 1, 1) := by decide +kernel
theorem dX11_together_6 : decode cX11_together 6 = .ok (.iconst 1, 1) := by decide +kernel
theorem dX11_together_7 : decode cX11_together 7 = .ok (.aload_n 0, 1) := by decide +kernel
theorem dX11_together_8 : decode cX11_together 8 = .ok (.getfield 27, 3) := by decide +kernel
theorem dX11_together_11 : decode cX11_together 11 = .ok (.getfield 125, 3) := by decide +kernel
theorem dX11_together_14 : decode cX11_together 14 = .ok (.getfield 239, 3) := by decide +kernel
theorem dX11_together_17 : decode cX11_together 17 = .ok (.ishl, 1) := by decide +kernel
theorem dX11_together_18 : decode cX11_together 18 = .ok (.if_icmp .ge 12, 3) := by decide +kernel
theorem dX11_together_21 : decode cX11_together 21 = .ok (.iload_n 2, 1) := by decide +kernel
theorem dX11_together_22 : decode cX11_together 22 = .ok (.ifCond .lt 8, 3) := by decide +kernel
theorem dX11_together_25 : decode cX11_together 25 = .ok (.iload_n 2, 1) := by decide +kernel
theorem dX11_together_26 : decode cX11_together 26 = .ok (.iconst 1, 1) := by decide +kernel
theorem dX11_together_27 : decode cX11_together 27 = .ok (.if_icmp .le 5, 3) := by decide +kernel
theorem dX11_together_30 : decode cX11_together 30 = .ok (.iconst (-1), 1) := by decide +kernel
theorem dX11_together_31 : decode cX11_together 31 = .ok (.ireturn, 1) := by decide +kernel
theorem dX11_together_32 : decode cX11_together 32 = .ok (.iconst 0, 1) := by decide +kernel
theorem dX11_together_33 : decode cX11_together 33 = .ok (.istore_n 3, 1) := by decide +kernel
theorem dX11_together_34 : decode cX11_together 34 = .ok (.iconst 0, 1) := by decide +kernel
theorem dX11_together_35 : decode cX11_together 35 = .ok (.istore 4, 2) := by decide +kernel
theorem dX11_together_37 : decode cX11_together 37 = .ok (.iconst 0, 1) := by decide +kernel
theorem dX11_together_38 : decode cX11_together 38 = .ok (.istore 5, 2) := by decide +kernel
theorem dX11_together_40 : decode cX11_together 40 = .ok (.iload 5, 2) := by decide +kernel
theorem dX11_together_42 : decode cX11_together 42 = .ok (.aload_n 0, 1) := by decide +kernel
theorem dX11_together_43 : decode cX11_together 43 = .ok (.getfield 27, 3) := by decide +kernel
theorem dX11_together_46 : decode cX11_together 46 = .ok (.getfield 125, 3) := by decide +kernel
theorem dX11_together_49 : decode cX11_together 49 = .ok (.getfield 239, 3) := by decide +kernel
theorem dX11_together_52 : decode cX11_together 52 = .ok (.if_icmp .ge 65, 3) := by decide +kernel
theorem dX11_together_55 : decode cX11_together 55 = .ok (.iload 5, 2) := by decide +kernel
theorem dX11_together_57 : decode cX11_together 57 = .ok (.bipush 6, 2) := by decide +kernel
theorem dX11_together_59 : decode cX11_together 59 = .ok (.if_icmp .ge 58, 3) := by decide +kernel
theorem dX11_together_62 : decode cX11_together 62 = .ok (.iload_n 1, 1) := by decide +kernel
theorem dX11_together_63 : decode cX11_together 63 = .ok (.iload 5, 2) := by decide +kernel
theorem dX11_together_65 : decode cX11_together 65 = .ok (.ishr, 1) := by decide +kernel
theorem dX11_together_66 : decode cX11_together 66 = .ok (.iconst 1, 1) := by decide +kernel
theorem dX11_together_67 : decode cX11_together 67 = .ok (.iand, 1) := by decide +kernel
theorem dX11_together_68 : decode cX11_together 68 = .ok (.iconst 1, 1) := by decide +kernel
theorem dX11_together_69 : decode cX11_together 69 = .ok (.if_icmp .ne 42, 3) := by decide +kernel
theorem dX11_together_72 : decode cX11_together 72 = .ok (.iload_n 3, 1) := by decide +kernel
theorem dX11_together_73 : decode cX11_together 73 = .ok (.aload_n 0, 1) := by decide +kernel
theorem dX11_together_74 : decode cX11_together 74 = .ok (.getfield 37, 3) := by decide +kernel
theorem dX11_together_77 : decode cX11_together 77 = .ok (.getfield 139, 3) := by decide +kernel
theorem dX11_together_80 : decode cX11_together 80 = .ok (.iload 5, 2) := by decide +kernel
theorem dX11_together_82 : decode cX11_together 82 = .ok (.iaload, 1) := by decide +kernel
theorem dX11_together_83 : decode cX11_together 83 = .ok (.aload_n 0, 1) := by decide +kernel
theorem dX11_together_84 : decode cX11_together 84 = .ok (.getfield 37, 3) := by decide +kernel
theorem dX11_together_87 : decode cX11_together 87 = .ok (.getfield 143, 3) := by decide +kernel
theorem dX11_together_90 : decode cX11_together 90 = .ok (.iload 5, 2) := by decide +kernel
theorem dX11_together_92 : decode cX11_together 92 = .ok (.iaload, 1) := by decide +kernel
theorem dX11_together_93 : decode cX11_together 93 = .ok (.imul, 1) := by decide +kernel
theorem dX11_together_94 : decode cX11_together 94 = .ok (.iadd, 1) := by decide +kernel
theorem dX11_together_95 : decode cX11_together 95 = .ok (.istore_n 3, 1) := by decide +kernel
theorem dX11_together_96 : decode cX11_together 96 = .ok (.iload 4, 2) := by decide +kernel
theorem dX11_together_98 : decode cX11_together 98 = .ok (.aload_n 0, 1) := by decide +kernel
theorem dX11_together_99 : decode cX11_together 99 = .ok (.getfield 37, 3) := by decide +kernel
theorem dX11_together_102 : decode cX11_together 102 = .ok (.getfield 139, 3) := by decide +kernel
theorem dX11_together_105 : decode cX11_together 105 = .ok (.iload 5, 2) := by decide +kernel
theorem dX11_together_107 : decode cX11_together 107 = .ok (.iaload, 1) := by decide +kernel
theorem dX11_together_108 : decode cX11_together 108 = .ok (.iadd, 1) := by decide +kernel
theorem dX11_together_109 : decode cX11_together 109 = .ok (.istore 4, 2) := by decide +kernel
theorem dX11_together_111 : decode cX11_together 111 = .ok (.iinc 5 1, 3) := by decide +kernel
theorem dX11_together_114 : decode cX11_together 114 = .ok (.goto (-74), 3) := by decide +kernel
theorem dX11_together_117 : decode cX11_together 117 = .ok (.iload_n 3, 1) := by decide +kernel
theorem dX11_together_118 : decode cX11_together 118 = .ok (.i2l, 1) := by decide +kernel
theorem dX11_together_119 : decode cX11_together 119 = .ok (.iload 4, 2) := by decide +kernel
theorem dX11_together_121 : decode cX11_together 121 = .ok (.i2l, 1) := by decide +kernel
theorem dX11_together_122 : decode cX11_together 122 = .ok (.iload_n 2, 1) := by decide +kernel
theorem dX11_together_123 : decode cX11_together 123 = .ok (.invokestatic 253, 3) := by decide +kernel
theorem dX11_together_126 : decode cX11_together 126 = .ok (.l2i, 1) := by decide +kernel
theorem dX11_together_127 : decode cX11_together 127 = .ok (.ireturn, 1) := by decide +kernel
theorem dX11_leastTerm_0 : decode cX11_leastTerm 0 = .ok (.lload_n 0, 1) := by decide +kernel
theorem dX11_leastTerm_1 : decode cX11_leastTerm 1 = .ok (.lstore 5, 2) := by decide +kernel
theorem dX11_leastTerm_3 : decode cX11_leastTerm 3 = .ok (.lload_n 2, 1) := by decide +kernel
theorem dX11_leastTerm_4 : decode cX11_leastTerm 4 = .ok (.lstore 7, 2) := by decide +kernel
theorem dX11_leastTerm_6 : decode cX11_leastTerm 6 = .ok (.iconst 0, 1) := by decide +kernel
theorem dX11_leastTerm_7 : decode cX11_leastTerm 7 = .ok (.istore 9, 2) := by decide +kernel
theorem dX11_leastTerm_9 : decode cX11_leastTerm 9 = .ok (.iload 9, 2) := by decide +kernel
theorem dX11_leastTerm_11 : decode cX11_leastTerm 11 = .ok (.sipush 200, 3) := by decide +kernel
theorem dX11_leastTerm_14 : decode cX11_leastTerm 14 = .ok (.if_icmp .ge 31, 3) := by decide +kernel
theorem dX11_leastTerm_17 : decode cX11_leastTerm 17 = .ok (.lload 7, 2) := by decide +kernel
theorem dX11_leastTerm_19 : decode cX11_leastTerm 19 = .ok (.lconst 0, 1) := by decide +kernel
theorem dX11_leastTerm_20 : decode cX11_leastTerm 20 = .ok (.lcmp, 1) := by decide +kernel
theorem dX11_leastTerm_21 : decode cX11_leastTerm 21 = .ok (.ifCond .eq 24, 3) := by decide +kernel
theorem dX11_leastTerm_24 : decode cX11_leastTerm 24 = .ok (.lload 5, 2) := by decide +kernel
theorem dX11_leastTerm_26 : decode cX11_leastTerm 26 = .ok (.lload 7, 2) := by decide +kernel
theorem dX11_leastTerm_28 : decode cX11_leastTerm 28 = .ok (.lrem, 1) := by decide +kernel
theorem dX11_leastTerm_29 : decode cX11_leastTerm 29 = .ok (.lstore 10, 2) := by decide +kernel
theorem dX11_leastTerm_31 : decode cX11_leastTerm 31 = .ok (.lload 7, 2) := by decide +kernel
theorem dX11_leastTerm_33 : decode cX11_leastTerm 33 = .ok (.lstore 5, 2) := by decide +kernel
theorem dX11_leastTerm_35 : decode cX11_leastTerm 35 = .ok (.lload 10, 2) := by decide +kernel
theorem dX11_leastTerm_37 : decode cX11_leastTerm 37 = .ok (.lstore 7, 2) := by decide +kernel
theorem dX11_leastTerm_39 : decode cX11_leastTerm 39 = .ok (.iinc 9 1, 3) := by decide +kernel
theorem dX11_leastTerm_42 : decode cX11_leastTerm 42 = .ok (.goto (-33), 3) := by decide +kernel
theorem dX11_leastTerm_45 : decode cX11_leastTerm 45 = .ok (.lload 5, 2) := by decide +kernel
theorem dX11_leastTerm_47 : decode cX11_leastTerm 47 = .ok (.lconst 0, 1) := by decide +kernel
theorem dX11_leastTerm_48 : decode cX11_leastTerm 48 = .ok (.lcmp, 1) := by decide +kernel
theorem dX11_leastTerm_49 : decode cX11_leastTerm 49 = .ok (.ifCond .ne 7, 3) := by decide +kernel
theorem dX11_leastTerm_52 : decode cX11_leastTerm 52 = .ok (.ldc2_w 257, 3) := by decide +kernel
theorem dX11_leastTerm_55 : decode cX11_leastTerm 55 = .ok (.lreturn, 1) := by decide +kernel
theorem dX11_leastTerm_56 : decode cX11_leastTerm 56 = .ok (.iload 4, 2) := by decide +kernel
theorem dX11_leastTerm_58 : decode cX11_leastTerm 58 = .ok (.ifCond .ne 7, 3) := by decide +kernel
theorem dX11_leastTerm_61 : decode cX11_leastTerm 61 = .ok (.lload_n 0, 1) := by decide +kernel
theorem dX11_leastTerm_62 : decode cX11_leastTerm 62 = .ok (.goto 4, 3) := by decide +kernel
theorem dX11_leastTerm_65 : decode cX11_leastTerm 65 = .ok (.lload_n 2, 1) := by decide +kernel
theorem dX11_leastTerm_66 : decode cX11_leastTerm 66 = .ok (.lload 5, 2) := by decide +kernel
theorem dX11_leastTerm_68 : decode cX11_leastTerm 68 = .ok (.ldiv, 1) := by decide +kernel
theorem dX11_leastTerm_69 : decode cX11_leastTerm 69 = .ok (.lreturn, 1) := by decide +kernel
theorem dX11_match_0 : decode cX11_match 0 = .ok (.iload_n 1, 1) := by decide +kernel
theorem dX11_match_1 : decode cX11_match 1 = .ok (.ifCond .lt 9, 3) := by decide +kernel
theorem dX11_match_4 : decode cX11_match 4 = .ok (.iload_n 1, 1) := by decide +kernel
theorem dX11_match_5 : decode cX11_match 5 = .ok (.bipush 7, 2) := by decide +kernel
theorem dX11_match_7 : decode cX11_match 7 = .ok (.if_icmp .le 5, 3) := by decide +kernel
theorem dX11_match_10 : decode cX11_match 10 = .ok (.iconst (-1), 1) := by decide +kernel
theorem dX11_match_11 : decode cX11_match 11 = .ok (.ireturn, 1) := by decide +kernel
theorem dX11_match_12 : decode cX11_match 12 = .ok (.aload_n 0, 1) := by decide +kernel
theorem dX11_match_13 : decode cX11_match 13 = .ok (.getfield 78, 3) := by decide +kernel
theorem dX11_match_16 : decode cX11_match 16 = .ok (.aload_n 0, 1) := by decide +kernel
theorem dX11_match_17 : decode cX11_match 17 = .ok (.getfield 27, 3) := by decide +kernel
theorem dX11_match_20 : decode cX11_match 20 = .ok (.aload_n 0, 1) := by decide +kernel
theorem dX11_match_21 : decode cX11_match 21 = .ok (.getfield 37, 3) := by decide +kernel
theorem dX11_match_24 : decode cX11_match 24 = .ok (.invokevirtual 259, 3) := by decide +kernel
theorem dX11_match_27 : decode cX11_match 27 = .ok (.iload_n 1, 1) := by decide +kernel
theorem dX11_match_28 : decode cX11_match 28 = .ok (.bipush 6, 2) := by decide +kernel
theorem dX11_match_30 : decode cX11_match 30 = .ok (.if_icmp .ge 13, 3) := by decide +kernel
theorem dX11_match_33 : decode cX11_match 33 = .ok (.aload_n 0, 1) := by decide +kernel
theorem dX11_match_34 : decode cX11_match 34 = .ok (.getfield 78, 3) := by decide +kernel
theorem dX11_match_37 : decode cX11_match 37 = .ok (.getfield 261, 3) := by decide +kernel
theorem dX11_match_40 : decode cX11_match 40 = .ok (.iload_n 1, 1) := by decide +kernel
theorem dX11_match_41 : decode cX11_match 41 = .ok (.iaload, 1) := by decide +kernel
theorem dX11_match_42 : decode cX11_match 42 = .ok (.ireturn, 1) := by decide +kernel
theorem dX11_match_43 : decode cX11_match 43 = .ok (.iload_n 1, 1) := by decide +kernel
theorem dX11_match_44 : decode cX11_match 44 = .ok (.bipush 6, 2) := by decide +kernel
theorem dX11_match_46 : decode cX11_match 46 = .ok (.if_icmp .ne 13, 3) := by decide +kernel
theorem dX11_match_49 : decode cX11_match 49 = .ok (.aload_n 0, 1) := by decide +kernel
theorem dX11_match_50 : decode cX11_match 50 = .ok (.getfield 78, 3) := by decide +kernel
theorem dX11_match_53 : decode cX11_match 53 = .ok (.getfield 264, 3) := by decide +kernel
theorem dX11_match_56 : decode cX11_match 56 = .ok (.goto 10, 3) := by decide +kernel
theorem dX11_match_59 : decode cX11_match 59 = .ok (.aload_n 0, 1) := by decide +kernel
theorem dX11_match_60 : decode cX11_match 60 = .ok (.getfield 78, 3) := by decide +kernel
theorem dX11_match_63 : decode cX11_match 63 = .ok (.getfield 267, 3) := by decide +kernel
theorem dX11_match_66 : decode cX11_match 66 = .ok (.ireturn, 1) := by decide +kernel
theorem dX11_game_0 : decode cX11_game 0 = .ok (.aload_n 0, 1) := by decide +kernel
theorem dX11_game_1 : decode cX11_game 1 = .ok (.getfield 27, 3) := by decide +kernel
theorem dX11_game_4 : decode cX11_game 4 = .ok (.iload_n 1, 1) := by decide +kernel
theorem dX11_game_5 : decode cX11_game 5 = .ok (.invokevirtual 128, 3) := by decide +kernel
theorem dX11_game_8 : decode cX11_game 8 = .ok (.ifCond .eq 22, 3) := by decide +kernel
theorem dX11_game_11 : decode cX11_game 11 = .ok (.iload_n 2, 1) := by decide +kernel
theorem dX11_game_12 : decode cX11_game 12 = .ok (.ifCond .lt 18, 3) := by decide +kernel
theorem dX11_game_15 : decode cX11_game 15 = .ok (.iload_n 2, 1) := by decide +kernel
theorem dX11_game_16 : decode cX11_game 16 = .ok (.bipush 99, 2) := by decide +kernel
theorem dX11_game_18 : decode cX11_game 18 = .ok (.if_icmp .ge 12, 3) := by decide +kernel
theorem dX11_game_21 : decode cX11_game 21 = .ok (.iload_n 3, 1) := by decide +kernel
theorem dX11_game_22 : decode cX11_game 22 = .ok (.ifCond .lt 8, 3) := by decide +kernel
theorem dX11_game_25 : decode cX11_game 25 = .ok (.iload_n 3, 1) := by decide +kernel
theorem dX11_game_26 : decode cX11_game 26 = .ok (.iconst 1, 1) := by decide +kernel
theorem dX11_game_27 : decode cX11_game 27 = .ok (.if_icmp .le 5, 3) := by decide +kernel
theorem dX11_game_30 : decode cX11_game 30 = .ok (.iconst (-1), 1) := by decide +kernel
theorem dX11_game_31 : decode cX11_game 31 = .ok (.ireturn, 1) := by decide +kernel
theorem dX11_game_32 : decode cX11_game 32 = .ok (.aload_n 0, 1) := by decide +kernel
theorem dX11_game_33 : decode cX11_game 33 = .ok (.getfield 37, 3) := by decide +kernel
theorem dX11_game_36 : decode cX11_game 36 = .ok (.getfield 143, 3) := by decide +kernel
theorem dX11_game_39 : decode cX11_game 39 = .ok (.iload_n 1, 1) := by decide +kernel
theorem dX11_game_40 : decode cX11_game 40 = .ok (.iaload, 1) := by decide +kernel
theorem dX11_game_41 : decode cX11_game 41 = .ok (.bipush 10, 2) := by decide +kernel
theorem dX11_game_43 : decode cX11_game 43 = .ok (.iload_n 2, 1) := by decide +kernel
theorem dX11_game_44 : decode cX11_game 44 = .ok (.imul, 1) := by decide +kernel
theorem dX11_game_45 : decode cX11_game 45 = .ok (.if_icmp .le 6, 3) := by decide +kernel
theorem dX11_game_48 : decode cX11_game 48 = .ok (.bipush (-2), 2) := by decide +kernel
theorem dX11_game_50 : decode cX11_game 50 = .ok (.ireturn, 1) := by decide +kernel
theorem dX11_game_51 : decode cX11_game 51 = .ok (.aload_n 0, 1) := by decide +kernel
theorem dX11_game_52 : decode cX11_game 52 = .ok (.iload_n 1, 1) := by decide +kernel
theorem dX11_game_53 : decode cX11_game 53 = .ok (.bipush 10, 2) := by decide +kernel
theorem dX11_game_55 : decode cX11_game 55 = .ok (.iload_n 2, 1) := by decide +kernel
theorem dX11_game_56 : decode cX11_game 56 = .ok (.imul, 1) := by decide +kernel
theorem dX11_game_57 : decode cX11_game 57 = .ok (.invokevirtual 270, 3) := by decide +kernel
theorem dX11_game_60 : decode cX11_game 60 = .ok (.istore 4, 2) := by decide +kernel
theorem dX11_game_62 : decode cX11_game 62 = .ok (.iload_n 3, 1) := by decide +kernel
theorem dX11_game_63 : decode cX11_game 63 = .ok (.ifCond .ne 14, 3) := by decide +kernel
theorem dX11_game_66 : decode cX11_game 66 = .ok (.iload 4, 2) := by decide +kernel
theorem dX11_game_68 : decode cX11_game 68 = .ok (.ifCond .le 7, 3) := by decide +kernel
theorem dX11_game_71 : decode cX11_game 71 = .ok (.iconst 0, 1) := by decide +kernel
theorem dX11_game_72 : decode cX11_game 72 = .ok (.goto 4, 3) := by decide +kernel
theorem dX11_game_75 : decode cX11_game 75 = .ok (.iconst 1, 1) := by decide +kernel
theorem dX11_game_76 : decode cX11_game 76 = .ok (.ireturn, 1) := by decide +kernel
theorem dX11_game_77 : decode cX11_game 77 = .ok (.iload 4, 2) := by decide +kernel
theorem dX11_game_79 : decode cX11_game 79 = .ok (.ifCond .le 8, 3) := by decide +kernel
theorem dX11_game_82 : decode cX11_game 82 = .ok (.iload 4, 2) := by decide +kernel
theorem dX11_game_84 : decode cX11_game 84 = .ok (.goto 5, 3) := by decide +kernel
theorem dX11_game_87 : decode cX11_game 87 = .ok (.bipush (-2), 2) := by decide +kernel
theorem dX11_game_89 : decode cX11_game 89 = .ok (.ireturn, 1) := by decide +kernel
theorem dX11_winningLitres_0 : decode cX11_winningLitres 0 = .ok (.iconst 1, 1) := by decide +kernel
theorem dX11_winningLitres_1 : decode cX11_winningLitres 1 = .ok (.istore_n 3, 1) := by decide +kernel
theorem dX11_winningLitres_2 : decode cX11_winningLitres 2 = .ok (.iconst 1, 1) := by decide +kernel
theorem dX11_winningLitres_3 : decode cX11_winningLitres 3 = .ok (.istore 4, 2) := by decide +kernel
theorem dX11_winningLitres_5 : decode cX11_winningLitres 5 = .ok (.iconst 1, 1) := by decide +kernel
theorem dX11_winningLitres_6 : decode cX11_winningLitres 6 = .ok (.istore 5, 2) := by decide +kernel
theorem dX11_winningLitres_8 : decode cX11_winningLitres 8 = .ok (.iconst 0, 1) := by decide +kernel
theorem dX11_winningLitres_9 : decode cX11_winningLitres 9 = .ok (.istore 6, 2) := by decide +kernel
theorem dX11_winningLitres_11 : decode cX11_winningLitres 11 = .ok (.sipush 999, 3) := by decide +kernel
theorem dX11_winningLitres_14 : decode cX11_winningLitres 14 = .ok (.aload_n 0, 1) := by decide +kernel
theorem dX11_winningLitres_15 : decode cX11_winningLitres 15 = .ok (.getfield 37, 3) := by decide +kernel
theorem dX11_winningLitres_18 : decode cX11_winningLitres 18 = .ok (.getfield 139, 3) := by decide +kernel
theorem dX11_winningLitres_21 : decode cX11_winningLitres 21 = .ok (.iload_n 1, 1) := by decide +kernel
theorem dX11_winningLitres_22 : decode cX11_winningLitres 22 = .ok (.iaload, 1) := by decide +kernel
theorem dX11_winningLitres_23 : decode cX11_winningLitres 23 = .ok (.isub, 1) := by decide +kernel
theorem dX11_winningLitres_24 : decode cX11_winningLitres 24 = .ok (.istore 7, 2) := by decide +kernel
theorem dX11_winningLitres_26 : decode cX11_winningLitres 26 = .ok (.iload 7, 2) := by decide +kernel
theorem dX11_winningLitres_28 : decode cX11_winningLitres 28 = .ok (.ifCond .lt 69, 3) := by decide +kernel
theorem dX11_winningLitres_31 : decode cX11_winningLitres 31 = .ok (.iload_n 3, 1) := by decide +kernel
theorem dX11_winningLitres_32 : decode cX11_winningLitres 32 = .ok (.ifCond .ne 7, 3) := by decide +kernel
theorem dX11_winningLitres_35 : decode cX11_winningLitres 35 = .ok (.iconst 1, 1) := by decide +kernel
theorem dX11_winningLitres_36 : decode cX11_winningLitres 36 = .ok (.goto 22, 3) := by decide +kernel
theorem dX11_winningLitres_39 : decode cX11_winningLitres 39 = .ok (.iload 4, 2) := by decide +kernel
theorem dX11_winningLitres_41 : decode cX11_winningLitres 41 = .ok (.ifCond .ne 7, 3) := by decide +kernel
theorem dX11_winningLitres_44 : decode cX11_winningLitres 44 = .ok (.iconst 2, 1) := by decide +kernel
theorem dX11_winningLitres_45 : decode cX11_winningLitres 45 = .ok (.goto 13, 3) := by decide +kernel
theorem dX11_winningLitres_48 : decode cX11_winningLitres 48 = .ok (.iload 5, 2) := by decide +kernel
theorem dX11_winningLitres_50 : decode cX11_winningLitres 50 = .ok (.ifCond .ne 7, 3) := by decide +kernel
theorem dX11_winningLitres_53 : decode cX11_winningLitres 53 = .ok (.iconst 3, 1) := by decide +kernel
theorem dX11_winningLitres_54 : decode cX11_winningLitres 54 = .ok (.goto 4, 3) := by decide +kernel
theorem dX11_winningLitres_57 : decode cX11_winningLitres 57 = .ok (.iconst 0, 1) := by decide +kernel
theorem dX11_winningLitres_58 : decode cX11_winningLitres 58 = .ok (.istore 6, 2) := by decide +kernel
theorem dX11_winningLitres_60 : decode cX11_winningLitres 60 = .ok (.iload 4, 2) := by decide +kernel
theorem dX11_winningLitres_62 : decode cX11_winningLitres 62 = .ok (.istore 5, 2) := by decide +kernel
theorem dX11_winningLitres_64 : decode cX11_winningLitres 64 = .ok (.iload_n 3, 1) := by decide +kernel
theorem dX11_winningLitres_65 : decode cX11_winningLitres 65 = .ok (.istore 4, 2) := by decide +kernel
theorem dX11_winningLitres_67 : decode cX11_winningLitres 67 = .ok (.aload_n 0, 1) := by decide +kernel
theorem dX11_winningLitres_68 : decode cX11_winningLitres 68 = .ok (.getfield 37, 3) := by decide +kernel
theorem dX11_winningLitres_71 : decode cX11_winningLitres 71 = .ok (.iload_n 1, 1) := by decide +kernel
theorem dX11_winningLitres_72 : decode cX11_winningLitres 72 = .ok (.iload 7, 2) := by decide +kernel
theorem dX11_winningLitres_74 : decode cX11_winningLitres 74 = .ok (.sipush 990, 3) := by decide +kernel
theorem dX11_winningLitres_77 : decode cX11_winningLitres 77 = .ok (.invokevirtual 249, 3) := by decide +kernel
theorem dX11_winningLitres_80 : decode cX11_winningLitres 80 = .ok (.iload_n 2, 1) := by decide +kernel
theorem dX11_winningLitres_81 : decode cX11_winningLitres 81 = .ok (.if_icmp .le 7, 3) := by decide +kernel
theorem dX11_winningLitres_84 : decode cX11_winningLitres 84 = .ok (.iconst 1, 1) := by decide +kernel
theorem dX11_winningLitres_85 : decode cX11_winningLitres 85 = .ok (.goto 5, 3) := by decide +kernel
theorem dX11_winningLitres_88 : decode cX11_winningLitres 88 = .ok (.iload 6, 2) := by decide +kernel
theorem dX11_winningLitres_90 : decode cX11_winningLitres 90 = .ok (.istore_n 3, 1) := by decide +kernel
theorem dX11_winningLitres_91 : decode cX11_winningLitres 91 = .ok (.iinc 7 (-1), 3) := by decide +kernel
theorem dX11_winningLitres_94 : decode cX11_winningLitres 94 = .ok (.goto (-68), 3) := by decide +kernel
theorem dX11_winningLitres_97 : decode cX11_winningLitres 97 = .ok (.iload 6, 2) := by decide +kernel
theorem dX11_winningLitres_99 : decode cX11_winningLitres 99 = .ok (.ireturn, 1) := by decide +kernel
theorem dX11_tells_0 : decode cX11_tells 0 = .ok (.aload_n 0, 1) := by decide +kernel
theorem dX11_tells_1 : decode cX11_tells 1 = .ok (.getfield 27, 3) := by decide +kernel
theorem dX11_tells_4 : decode cX11_tells 4 = .ok (.iload_n 1, 1) := by decide +kernel
theorem dX11_tells_5 : decode cX11_tells 5 = .ok (.invokevirtual 128, 3) := by decide +kernel
theorem dX11_tells_8 : decode cX11_tells 8 = .ok (.ifCond .ne 5, 3) := by decide +kernel
theorem dX11_tells_11 : decode cX11_tells 11 = .ok (.iconst (-1), 1) := by decide +kernel
theorem dX11_tells_12 : decode cX11_tells 12 = .ok (.ireturn, 1) := by decide +kernel
theorem dX11_tells_13 : decode cX11_tells 13 = .ok (.iconst 0, 1) := by decide +kernel
theorem dX11_tells_14 : decode cX11_tells 14 = .ok (.istore_n 2, 1) := by decide +kernel
theorem dX11_tells_15 : decode cX11_tells 15 = .ok (.iconst 0, 1) := by decide +kernel
theorem dX11_tells_16 : decode cX11_tells 16 = .ok (.istore_n 3, 1) := by decide +kernel
theorem dX11_tells_17 : decode cX11_tells 17 = .ok (.iload_n 3, 1) := by decide +kernel
theorem dX11_tells_18 : decode cX11_tells 18 = .ok (.aload_n 0, 1) := by decide +kernel
theorem dX11_tells_19 : decode cX11_tells 19 = .ok (.getfield 27, 3) := by decide +kernel
theorem dX11_tells_22 : decode cX11_tells 22 = .ok (.getfield 115, 3) := by decide +kernel
theorem dX11_tells_25 : decode cX11_tells 25 = .ok (.getfield 239, 3) := by decide +kernel
theorem dX11_tells_28 : decode cX11_tells 28 = .ok (.if_icmp .ge 29, 3) := by decide +kernel
theorem dX11_tells_31 : decode cX11_tells 31 = .ok (.aload_n 0, 1) := by decide +kernel
theorem dX11_tells_32 : decode cX11_tells 32 = .ok (.getfield 27, 3) := by decide +kernel
theorem dX11_tells_35 : decode cX11_tells 35 = .ok (.aload_n 0, 1) := by decide +kernel
theorem dX11_tells_36 : decode cX11_tells 36 = .ok (.getfield 37, 3) := by decide +kernel
theorem dX11_tells_39 : decode cX11_tells 39 = .ok (.iload_n 3, 1) := by decide +kernel
theorem dX11_tells_40 : decode cX11_tells 40 = .ok (.iload_n 1, 1) := by decide +kernel
theorem dX11_tells_41 : decode cX11_tells 41 = .ok (.iconst 0, 1) := by decide +kernel
theorem dX11_tells_42 : decode cX11_tells 42 = .ok (.invokevirtual 178, 3) := by decide +kernel
theorem dX11_tells_45 : decode cX11_tells 45 = .ok (.ifCond .eq 6, 3) := by decide +kernel
theorem dX11_tells_48 : decode cX11_tells 48 = .ok (.iinc 2 1, 3) := by decide +kernel
theorem dX11_tells_51 : decode cX11_tells 51 = .ok (.iinc 3 1, 3) := by decide +kernel
theorem dX11_tells_54 : decode cX11_tells 54 = .ok (.goto (-37), 3) := by decide +kernel
theorem dX11_tells_57 : decode cX11_tells 57 = .ok (.iload_n 2, 1) := by decide +kernel
theorem dX11_tells_58 : decode cX11_tells 58 = .ok (.aload_n 0, 1) := by decide +kernel
theorem dX11_tells_59 : decode cX11_tells 59 = .ok (.getfield 27, 3) := by decide +kernel
theorem dX11_tells_62 : decode cX11_tells 62 = .ok (.getfield 115, 3) := by decide +kernel
theorem dX11_tells_65 : decode cX11_tells 65 = .ok (.getfield 239, 3) := by decide +kernel
theorem dX11_tells_68 : decode cX11_tells 68 = .ok (.iload_n 2, 1) := by decide +kernel
theorem dX11_tells_69 : decode cX11_tells 69 = .ok (.isub, 1) := by decide +kernel
theorem dX11_tells_70 : decode cX11_tells 70 = .ok (.invokestatic 273, 3) := by decide +kernel
theorem dX11_tells_73 : decode cX11_tells 73 = .ok (.ireturn, 1) := by decide +kernel
theorem dX11_rests_0 : decode cX11_rests 0 = .ok (.aload_n 0, 1) := by decide +kernel
theorem dX11_rests_1 : decode cX11_rests 1 = .ok (.iload_n 1, 1) := by decide +kernel
theorem dX11_rests_2 : decode cX11_rests 2 = .ok (.iload_n 2, 1) := by decide +kernel
theorem dX11_rests_3 : decode cX11_rests 3 = .ok (.invokevirtual 278, 3) := by decide +kernel
theorem dX11_rests_6 : decode cX11_rests 6 = .ok (.ifCond .eq 13, 3) := by decide +kernel
theorem dX11_rests_9 : decode cX11_rests 9 = .ok (.aload_n 0, 1) := by decide +kernel
theorem dX11_rests_10 : decode cX11_rests 10 = .ok (.iload_n 1, 1) := by decide +kernel
theorem dX11_rests_11 : decode cX11_rests 11 = .ok (.iload_n 2, 1) := by decide +kernel
theorem dX11_rests_12 : decode cX11_rests 12 = .ok (.iconst 4, 1) := by decide +kernel
theorem dX11_rests_13 : decode cX11_rests 13 = .ok (.invokevirtual 281, 3) := by decide +kernel
theorem dX11_rests_16 : decode cX11_rests 16 = .ok (.goto 4, 3) := by decide +kernel
theorem dX11_rests_19 : decode cX11_rests 19 = .ok (.iconst (-1), 1) := by decide +kernel
theorem dX11_rests_20 : decode cX11_rests 20 = .ok (.ireturn, 1) := by decide +kernel
theorem dX11_areTwo_0 : decode cX11_areTwo 0 = .ok (.aload_n 0, 1) := by decide +kernel
theorem dX11_areTwo_1 : decode cX11_areTwo 1 = .ok (.getfield 27, 3) := by decide +kernel
theorem dX11_areTwo_4 : decode cX11_areTwo 4 = .ok (.iload_n 1, 1) := by decide +kernel
theorem dX11_areTwo_5 : decode cX11_areTwo 5 = .ok (.invokevirtual 154, 3) := by decide +kernel
theorem dX11_areTwo_8 : decode cX11_areTwo 8 = .ok (.ifCond .eq 23, 3) := by decide +kernel
theorem dX11_areTwo_11 : decode cX11_areTwo 11 = .ok (.aload_n 0, 1) := by decide +kernel
theorem dX11_areTwo_12 : decode cX11_areTwo 12 = .ok (.getfield 27, 3) := by decide +kernel
theorem dX11_areTwo_15 : decode cX11_areTwo 15 = .ok (.iload_n 2, 1) := by decide +kernel
theorem dX11_areTwo_16 : decode cX11_areTwo 16 = .ok (.invokevirtual 154, 3) := by decide +kernel
theorem dX11_areTwo_19 : decode cX11_areTwo 19 = .ok (.ifCond .eq 12, 3) := by decide +kernel
theorem dX11_areTwo_22 : decode cX11_areTwo 22 = .ok (.iload_n 1, 1) := by decide +kernel
theorem dX11_areTwo_23 : decode cX11_areTwo 23 = .ok (.iload_n 2, 1) := by decide +kernel
theorem dX11_areTwo_24 : decode cX11_areTwo 24 = .ok (.if_icmp .eq 7, 3) := by decide +kernel
theorem dX11_areTwo_27 : decode cX11_areTwo 27 = .ok (.iconst 1, 1) := by decide +kernel
theorem dX11_areTwo_28 : decode cX11_areTwo 28 = .ok (.goto 4, 3) := by decide +kernel
theorem dX11_areTwo_31 : decode cX11_areTwo 31 = .ok (.iconst 0, 1) := by decide +kernel
theorem dX11_areTwo_32 : decode cX11_areTwo 32 = .ok (.ireturn, 1) := by decide +kernel
theorem dX11_restsUpTo_0 : decode cX11_restsUpTo 0 = .ok (.iconst 0, 1) := by decide +kernel
theorem dX11_restsUpTo_1 : decode cX11_restsUpTo 1 = .ok (.istore 4, 2) := by decide +kernel
theorem dX11_restsUpTo_3 : decode cX11_restsUpTo 3 = .ok (.iconst 0, 1) := by decide +kernel
theorem dX11_restsUpTo_4 : decode cX11_restsUpTo 4 = .ok (.istore 5, 2) := by decide +kernel
theorem dX11_restsUpTo_6 : decode cX11_restsUpTo 6 = .ok (.iload 5, 2) := by decide +kernel
theorem dX11_restsUpTo_8 : decode cX11_restsUpTo 8 = .ok (.iload_n 3, 1) := by decide +kernel
theorem dX11_restsUpTo_9 : decode cX11_restsUpTo 9 = .ok (.if_icmp .ge 23, 3) := by decide +kernel
theorem dX11_restsUpTo_12 : decode cX11_restsUpTo 12 = .ok (.aload_n 0, 1) := by decide +kernel
theorem dX11_restsUpTo_13 : decode cX11_restsUpTo 13 = .ok (.iload_n 1, 1) := by decide +kernel
theorem dX11_restsUpTo_14 : decode cX11_restsUpTo 14 = .ok (.iload_n 2, 1) := by decide +kernel
theorem dX11_restsUpTo_15 : decode cX11_restsUpTo 15 = .ok (.iload 5, 2) := by decide +kernel
theorem dX11_restsUpTo_17 : decode cX11_restsUpTo 17 = .ok (.invokevirtual 284, 3) := by decide +kernel
theorem dX11_restsUpTo_20 : decode cX11_restsUpTo 20 = .ok (.ifCond .eq 6, 3) := by decide +kernel
theorem dX11_restsUpTo_23 : decode cX11_restsUpTo 23 = .ok (.iinc 4 1, 3) := by decide +kernel
theorem dX11_restsUpTo_26 : decode cX11_restsUpTo 26 = .ok (.iinc 5 1, 3) := by decide +kernel
theorem dX11_restsUpTo_29 : decode cX11_restsUpTo 29 = .ok (.goto (-23), 3) := by decide +kernel
theorem dX11_restsUpTo_32 : decode cX11_restsUpTo 32 = .ok (.iload 4, 2) := by decide +kernel
theorem dX11_restsUpTo_34 : decode cX11_restsUpTo 34 = .ok (.ireturn, 1) := by decide +kernel
theorem dX11_isRest_0 : decode cX11_isRest 0 = .ok (.iload_n 3, 1) := by decide +kernel
theorem dX11_isRest_1 : decode cX11_isRest 1 = .ok (.iconst 2, 1) := by decide +kernel
theorem dX11_isRest_2 : decode cX11_isRest 2 = .ok (.idiv, 1) := by decide +kernel
theorem dX11_isRest_3 : decode cX11_isRest 3 = .ok (.istore 4, 2) := by decide +kernel
theorem dX11_isRest_5 : decode cX11_isRest 5 = .ok (.iload_n 3, 1) := by decide +kernel
theorem dX11_isRest_6 : decode cX11_isRest 6 = .ok (.iconst 2, 1) := by decide +kernel
theorem dX11_isRest_7 : decode cX11_isRest 7 = .ok (.irem, 1) := by decide +kernel
theorem dX11_isRest_8 : decode cX11_isRest 8 = .ok (.istore 5, 2) := by decide +kernel
theorem dX11_isRest_10 : decode cX11_isRest 10 = .ok (.aload_n 0, 1) := by decide +kernel
theorem dX11_isRest_11 : decode cX11_isRest 11 = .ok (.getfield 27, 3) := by decide +kernel
theorem dX11_isRest_14 : decode cX11_isRest 14 = .ok (.iload_n 1, 1) := by decide +kernel
theorem dX11_isRest_15 : decode cX11_isRest 15 = .ok (.invokevirtual 160, 3) := by decide +kernel
theorem dX11_isRest_18 : decode cX11_isRest 18 = .ok (.istore 6, 2) := by decide +kernel
theorem dX11_isRest_20 : decode cX11_isRest 20 = .ok (.aload_n 0, 1) := by decide +kernel
theorem dX11_isRest_21 : decode cX11_isRest 21 = .ok (.getfield 27, 3) := by decide +kernel
theorem dX11_isRest_24 : decode cX11_isRest 24 = .ok (.iload_n 2, 1) := by decide +kernel
theorem dX11_isRest_25 : decode cX11_isRest 25 = .ok (.invokevirtual 160, 3) := by decide +kernel
theorem dX11_isRest_28 : decode cX11_isRest 28 = .ok (.istore 7, 2) := by decide +kernel
theorem dX11_isRest_30 : decode cX11_isRest 30 = .ok (.iload 6, 2) := by decide +kernel
theorem dX11_isRest_32 : decode cX11_isRest 32 = .ok (.iload 4, 2) := by decide +kernel
theorem dX11_isRest_34 : decode cX11_isRest 34 = .ok (.iload 5, 2) := by decide +kernel
theorem dX11_isRest_36 : decode cX11_isRest 36 = .ok (.invokestatic 288, 3) := by decide +kernel
theorem dX11_isRest_39 : decode cX11_isRest 39 = .ok (.iload 6, 2) := by decide +kernel
theorem dX11_isRest_41 : decode cX11_isRest 41 = .ok (.iconst 1, 1) := by decide +kernel
theorem dX11_isRest_42 : decode cX11_isRest 42 = .ok (.iload 4, 2) := by decide +kernel
theorem dX11_isRest_44 : decode cX11_isRest 44 = .ok (.isub, 1) := by decide +kernel
theorem dX11_isRest_45 : decode cX11_isRest 45 = .ok (.iload 5, 2) := by decide +kernel
theorem dX11_isRest_47 : decode cX11_isRest 47 = .ok (.invokestatic 288, 3) := by decide +kernel
theorem dX11_isRest_50 : decode cX11_isRest 50 = .ok (.if_icmp .lt 30, 3) := by decide +kernel
theorem dX11_isRest_53 : decode cX11_isRest 53 = .ok (.iload 7, 2) := by decide +kernel
theorem dX11_isRest_55 : decode cX11_isRest 55 = .ok (.iload 5, 2) := by decide +kernel
theorem dX11_isRest_57 : decode cX11_isRest 57 = .ok (.iload 4, 2) := by decide +kernel
theorem dX11_isRest_59 : decode cX11_isRest 59 = .ok (.invokestatic 288, 3) := by decide +kernel
theorem dX11_isRest_62 : decode cX11_isRest 62 = .ok (.iload 7, 2) := by decide +kernel
theorem dX11_isRest_64 : decode cX11_isRest 64 = .ok (.iconst 1, 1) := by decide +kernel
theorem dX11_isRest_65 : decode cX11_isRest 65 = .ok (.iload 5, 2) := by decide +kernel
theorem dX11_isRest_67 : decode cX11_isRest 67 = .ok (.isub, 1) := by decide +kernel
theorem dX11_isRest_68 : decode cX11_isRest 68 = .ok (.iload 4, 2) := by decide +kernel
theorem dX11_isRest_70 : decode cX11_isRest 70 = .ok (.invokestatic 288, 3) := by decide +kernel
theorem dX11_isRest_73 : decode cX11_isRest 73 = .ok (.if_icmp .lt 7, 3) := by decide +kernel
theorem dX11_isRest_76 : decode cX11_isRest 76 = .ok (.iconst 1, 1) := by decide +kernel
theorem dX11_isRest_77 : decode cX11_isRest 77 = .ok (.goto 4, 3) := by decide +kernel
theorem dX11_isRest_80 : decode cX11_isRest 80 = .ok (.iconst 0, 1) := by decide +kernel
theorem dX11_isRest_81 : decode cX11_isRest 81 = .ok (.ireturn, 1) := by decide +kernel
theorem dX11_gain_0 : decode cX11_gain 0 = .ok (.iload_n 1, 1) := by decide +kernel
theorem dX11_gain_1 : decode cX11_gain 1 = .ok (.ifCond .ne 17, 3) := by decide +kernel
theorem dX11_gain_4 : decode cX11_gain 4 = .ok (.iload_n 2, 1) := by decide +kernel
theorem dX11_gain_5 : decode cX11_gain 5 = .ok (.ifCond .ne 9, 3) := by decide +kernel
theorem dX11_gain_8 : decode cX11_gain 8 = .ok (.iload_n 0, 1) := by decide +kernel
theorem dX11_gain_9 : decode cX11_gain 9 = .ok (.iconst 2, 1) := by decide +kernel
theorem dX11_gain_10 : decode cX11_gain 10 = .ok (.isub, 1) := by decide +kernel
theorem dX11_gain_11 : decode cX11_gain 11 = .ok (.goto 6, 3) := by decide +kernel
theorem dX11_gain_14 : decode cX11_gain 14 = .ok (.iload_n 0, 1) := by decide +kernel
theorem dX11_gain_15 : decode cX11_gain 15 = .ok (.iconst 3, 1) := by decide +kernel
theorem dX11_gain_16 : decode cX11_gain 16 = .ok (.iadd, 1) := by decide +kernel
theorem dX11_gain_17 : decode cX11_gain 17 = .ok (.ireturn, 1) := by decide +kernel
theorem dX11_gain_18 : decode cX11_gain 18 = .ok (.iload_n 2, 1) := by decide +kernel
theorem dX11_gain_19 : decode cX11_gain 19 = .ok (.ifCond .ne 7, 3) := by decide +kernel
theorem dX11_gain_22 : decode cX11_gain 22 = .ok (.iconst 1, 1) := by decide +kernel
theorem dX11_gain_23 : decode cX11_gain 23 = .ok (.goto 6, 3) := by decide +kernel
theorem dX11_gain_26 : decode cX11_gain 26 = .ok (.iload_n 0, 1) := by decide +kernel
theorem dX11_gain_27 : decode cX11_gain 27 = .ok (.iconst 2, 1) := by decide +kernel
theorem dX11_gain_28 : decode cX11_gain 28 = .ok (.idiv, 1) := by decide +kernel
theorem dX11_gain_29 : decode cX11_gain 29 = .ok (.ireturn, 1) := by decide +kernel
theorem dX11_rest_0 : decode cX11_rest 0 = .ok (.aload_n 0, 1) := by decide +kernel
theorem dX11_rest_1 : decode cX11_rest 1 = .ok (.iload_n 1, 1) := by decide +kernel
theorem dX11_rest_2 : decode cX11_rest 2 = .ok (.iload_n 2, 1) := by decide +kernel
theorem dX11_rest_3 : decode cX11_rest 3 = .ok (.invokevirtual 278, 3) := by decide +kernel
theorem dX11_rest_6 : decode cX11_rest 6 = .ok (.ifCond .eq 7, 3) := by decide +kernel
theorem dX11_rest_9 : decode cX11_rest 9 = .ok (.iload_n 3, 1) := by decide +kernel
theorem dX11_rest_10 : decode cX11_rest 10 = .ok (.ifCond .ge 5, 3) := by decide +kernel
theorem dX11_rest_13 : decode cX11_rest 13 = .ok (.iconst (-1), 1) := by decide +kernel
theorem dX11_rest_14 : decode cX11_rest 14 = .ok (.ireturn, 1) := by decide +kernel
theorem dX11_rest_15 : decode cX11_rest 15 = .ok (.iconst 0, 1) := by decide +kernel
theorem dX11_rest_16 : decode cX11_rest 16 = .ok (.istore 4, 2) := by decide +kernel
theorem dX11_rest_18 : decode cX11_rest 18 = .ok (.iload 4, 2) := by decide +kernel
theorem dX11_rest_20 : decode cX11_rest 20 = .ok (.iconst 4, 1) := by decide +kernel
theorem dX11_rest_21 : decode cX11_rest 21 = .ok (.if_icmp .ge 45, 3) := by decide +kernel
theorem dX11_rest_24 : decode cX11_rest 24 = .ok (.aload_n 0, 1) := by decide +kernel
theorem dX11_rest_25 : decode cX11_rest 25 = .ok (.iload_n 1, 1) := by decide +kernel
theorem dX11_rest_26 : decode cX11_rest 26 = .ok (.iload_n 2, 1) := by decide +kernel
theorem dX11_rest_27 : decode cX11_rest 27 = .ok (.iload 4, 2) := by decide +kernel
theorem dX11_rest_29 : decode cX11_rest 29 = .ok (.invokevirtual 284, 3) := by decide +kernel
theorem dX11_rest_32 : decode cX11_rest 32 = .ok (.ifCond .eq 28, 3) := by decide +kernel
theorem dX11_rest_35 : decode cX11_rest 35 = .ok (.aload_n 0, 1) := by decide +kernel
theorem dX11_rest_36 : decode cX11_rest 36 = .ok (.iload_n 1, 1) := by decide +kernel
theorem dX11_rest_37 : decode cX11_rest 37 = .ok (.iload_n 2, 1) := by decide +kernel
theorem dX11_rest_38 : decode cX11_rest 38 = .ok (.iload 4, 2) := by decide +kernel
theorem dX11_rest_40 : decode cX11_rest 40 = .ok (.invokevirtual 281, 3) := by decide +kernel
theorem dX11_rest_43 : decode cX11_rest 43 = .ok (.iload_n 3, 1) := by decide +kernel
theorem dX11_rest_44 : decode cX11_rest 44 = .ok (.if_icmp .ne 16, 3) := by decide +kernel
theorem dX11_rest_47 : decode cX11_rest 47 = .ok (.bipush 10, 2) := by decide +kernel
theorem dX11_rest_49 : decode cX11_rest 49 = .ok (.iload 4, 2) := by decide +kernel
theorem dX11_rest_51 : decode cX11_rest 51 = .ok (.iconst 2, 1) := by decide +kernel
theorem dX11_rest_52 : decode cX11_rest 52 = .ok (.idiv, 1) := by decide +kernel
theorem dX11_rest_53 : decode cX11_rest 53 = .ok (.imul, 1) := by decide +kernel
theorem dX11_rest_54 : decode cX11_rest 54 = .ok (.iload 4, 2) := by decide +kernel
theorem dX11_rest_56 : decode cX11_rest 56 = .ok (.iconst 2, 1) := by decide +kernel
theorem dX11_rest_57 : decode cX11_rest 57 = .ok (.irem, 1) := by decide +kernel
theorem dX11_rest_58 : decode cX11_rest 58 = .ok (.iadd, 1) := by decide +kernel
theorem dX11_rest_59 : decode cX11_rest 59 = .ok (.ireturn, 1) := by decide +kernel
theorem dX11_rest_60 : decode cX11_rest 60 = .ok (.iinc 4 1, 3) := by decide +kernel
theorem dX11_rest_63 : decode cX11_rest 63 = .ok (.goto (-45), 3) := by decide +kernel
theorem dX11_rest_66 : decode cX11_rest 66 = .ok (.bipush (-2), 2) := by decide +kernel
theorem dX11_rest_68 : decode cX11_rest 68 = .ok (.ireturn, 1) := by decide +kernel
theorem dX11_steady_0 : decode cX11_steady 0 = .ok (.iload_n 1, 1) := by decide +kernel
theorem dX11_steady_1 : decode cX11_steady 1 = .ok (.ifCond .lt 18, 3) := by decide +kernel
theorem dX11_steady_4 : decode cX11_steady 4 = .ok (.iload_n 1, 1) := by decide +kernel
theorem dX11_steady_5 : decode cX11_steady 5 = .ok (.bipush 6, 2) := by decide +kernel
theorem dX11_steady_7 : decode cX11_steady 7 = .ok (.if_icmp .gt 12, 3) := by decide +kernel
theorem dX11_steady_10 : decode cX11_steady 10 = .ok (.iload_n 2, 1) := by decide +kernel
theorem dX11_steady_11 : decode cX11_steady 11 = .ok (.ifCond .lt 8, 3) := by decide +kernel
theorem dX11_steady_14 : decode cX11_steady 14 = .ok (.iload_n 2, 1) := by decide +kernel
theorem dX11_steady_15 : decode cX11_steady 15 = .ok (.iconst 1, 1) := by decide +kernel
theorem dX11_steady_16 : decode cX11_steady 16 = .ok (.if_icmp .le 7, 3) := by decide +kernel
theorem dX11_steady_19 : decode cX11_steady 19 = .ok (.ldc2_w 257, 3) := by decide +kernel
theorem dX11_steady_22 : decode cX11_steady 22 = .ok (.lreturn, 1) := by decide +kernel
theorem dX11_steady_23 : decode cX11_steady 23 = .ok (.lconst 1, 1) := by decide +kernel
theorem dX11_steady_24 : decode cX11_steady 24 = .ok (.lstore_n 3, 1) := by decide +kernel
theorem dX11_steady_25 : decode cX11_steady 25 = .ok (.lconst 1, 1) := by decide +kernel
theorem dX11_steady_26 : decode cX11_steady 26 = .ok (.lstore 5, 2) := by decide +kernel
theorem dX11_steady_28 : decode cX11_steady 28 = .ok (.iconst 0, 1) := by decide +kernel
theorem dX11_steady_29 : decode cX11_steady 29 = .ok (.istore 7, 2) := by decide +kernel
theorem dX11_steady_31 : decode cX11_steady 31 = .ok (.iload 7, 2) := by decide +kernel
theorem dX11_steady_33 : decode cX11_steady 33 = .ok (.iload_n 1, 1) := by decide +kernel
theorem dX11_steady_34 : decode cX11_steady 34 = .ok (.if_icmp .ge 31, 3) := by decide +kernel
theorem dX11_steady_37 : decode cX11_steady 37 = .ok (.lload_n 3, 1) := by decide +kernel
theorem dX11_steady_38 : decode cX11_steady 38 = .ok (.bipush 100, 2) := by decide +kernel
theorem dX11_steady_40 : decode cX11_steady 40 = .ok (.aload_n 0, 1) := by decide +kernel
theorem dX11_steady_41 : decode cX11_steady 41 = .ok (.getfield 27, 3) := by decide +kernel
theorem dX11_steady_44 : decode cX11_steady 44 = .ok (.getfield 291, 3) := by decide +kernel
theorem dX11_steady_47 : decode cX11_steady 47 = .ok (.isub, 1) := by decide +kernel
theorem dX11_steady_48 : decode cX11_steady 48 = .ok (.i2l, 1) := by decide +kernel
theorem dX11_steady_49 : decode cX11_steady 49 = .ok (.lmul, 1) := by decide +kernel
theorem dX11_steady_50 : decode cX11_steady 50 = .ok (.lstore_n 3, 1) := by decide +kernel
theorem dX11_steady_51 : decode cX11_steady 51 = .ok (.lload 5, 2) := by decide +kernel
theorem dX11_steady_53 : decode cX11_steady 53 = .ok (.ldc2_w 294, 3) := by decide +kernel
theorem dX11_steady_56 : decode cX11_steady 56 = .ok (.lmul, 1) := by decide +kernel
theorem dX11_steady_57 : decode cX11_steady 57 = .ok (.lstore 5, 2) := by decide +kernel
theorem dX11_steady_59 : decode cX11_steady 59 = .ok (.iinc 7 1, 3) := by decide +kernel
theorem dX11_steady_62 : decode cX11_steady 62 = .ok (.goto (-31), 3) := by decide +kernel
theorem dX11_steady_65 : decode cX11_steady 65 = .ok (.lload_n 3, 1) := by decide +kernel
theorem dX11_steady_66 : decode cX11_steady 66 = .ok (.lload 5, 2) := by decide +kernel
theorem dX11_steady_68 : decode cX11_steady 68 = .ok (.iload_n 2, 1) := by decide +kernel
theorem dX11_steady_69 : decode cX11_steady 69 = .ok (.invokestatic 253, 3) := by decide +kernel
theorem dX11_steady_72 : decode cX11_steady 72 = .ok (.lreturn, 1) := by decide +kernel
theorem dX11_see_0 : decode cX11_see 0 = .ok (.iload_n 1, 1) := by decide +kernel
theorem dX11_see_1 : decode cX11_see 1 = .ok (.iconst 1, 1) := by decide +kernel
theorem dX11_see_2 : decode cX11_see 2 = .ok (.if_icmp .lt 20, 3) := by decide +kernel
theorem dX11_see_5 : decode cX11_see 5 = .ok (.iload_n 1, 1) := by decide +kernel
theorem dX11_see_6 : decode cX11_see 6 = .ok (.bipush 60, 2) := by decide +kernel
theorem dX11_see_8 : decode cX11_see 8 = .ok (.if_icmp .gt 14, 3) := by decide +kernel
theorem dX11_see_11 : decode cX11_see 11 = .ok (.aload_n 0, 1) := by decide +kernel
theorem dX11_see_12 : decode cX11_see 12 = .ok (.getfield 27, 3) := by decide +kernel
theorem dX11_see_15 : decode cX11_see 15 = .ok (.iload_n 2, 1) := by decide +kernel
theorem dX11_see_16 : decode cX11_see 16 = .ok (.invokevirtual 154, 3) := by decide +kernel
theorem dX11_see_19 : decode cX11_see 19 = .ok (.ifCond .ne 5, 3) := by decide +kernel
theorem dX11_see_22 : decode cX11_see 22 = .ok (.iconst (-1), 1) := by decide +kernel
theorem dX11_see_23 : decode cX11_see 23 = .ok (.ireturn, 1) := by decide +kernel
theorem dX11_see_24 : decode cX11_see 24 = .ok (.iload_n 3, 1) := by decide +kernel
theorem dX11_see_25 : decode cX11_see 25 = .ok (.ifCond .lt 9, 3) := by decide +kernel
theorem dX11_see_28 : decode cX11_see 28 = .ok (.iload_n 3, 1) := by decide +kernel
theorem dX11_see_29 : decode cX11_see 29 = .ok (.bipush 99, 2) := by decide +kernel
theorem dX11_see_31 : decode cX11_see 31 = .ok (.if_icmp .le 5, 3) := by decide +kernel
theorem dX11_see_34 : decode cX11_see 34 = .ok (.iconst (-1), 1) := by decide +kernel
theorem dX11_see_35 : decode cX11_see 35 = .ok (.ireturn, 1) := by decide +kernel
theorem dX11_see_36 : decode cX11_see 36 = .ok (.aload_n 0, 1) := by decide +kernel
theorem dX11_see_37 : decode cX11_see 37 = .ok (.getfield 64, 3) := by decide +kernel
theorem dX11_see_40 : decode cX11_see 40 = .ok (.iload_n 1, 1) := by decide +kernel
theorem dX11_see_41 : decode cX11_see 41 = .ok (.iload_n 2, 1) := by decide +kernel
theorem dX11_see_42 : decode cX11_see 42 = .ok (.iload_n 3, 1) := by decide +kernel
theorem dX11_see_43 : decode cX11_see 43 = .ok (.iload 4, 2) := by decide +kernel
theorem dX11_see_45 : decode cX11_see 45 = .ok (.invokevirtual 296, 3) := by decide +kernel
theorem dX11_see_48 : decode cX11_see 48 = .ok (.ireturn, 1) := by decide +kernel
theorem dX11_strike_0 : decode cX11_strike 0 = .ok (.aload_n 0, 1) := by decide +kernel
theorem dX11_strike_1 : decode cX11_strike 1 = .ok (.getfield 64, 3) := by decide +kernel
theorem dX11_strike_4 : decode cX11_strike 4 = .ok (.iload_n 1, 1) := by decide +kernel
theorem dX11_strike_5 : decode cX11_strike 5 = .ok (.invokevirtual 300, 3) := by decide +kernel
theorem dX11_strike_8 : decode cX11_strike 8 = .ok (.ireturn, 1) := by decide +kernel
theorem dX11_known_0 : decode cX11_known 0 = .ok (.iload_n 1, 1) := by decide +kernel
theorem dX11_known_1 : decode cX11_known 1 = .ok (.iconst (-1), 1) := by decide +kernel
theorem dX11_known_2 : decode cX11_known 2 = .ok (.if_icmp .lt 14, 3) := by decide +kernel
theorem dX11_known_5 : decode cX11_known 5 = .ok (.iload_n 1, 1) := by decide +kernel
theorem dX11_known_6 : decode cX11_known 6 = .ok (.aload_n 0, 1) := by decide +kernel
theorem dX11_known_7 : decode cX11_known 7 = .ok (.getfield 64, 3) := by decide +kernel
theorem dX11_known_10 : decode cX11_known 10 = .ok (.getfield 303, 3) := by decide +kernel
theorem dX11_known_13 : decode cX11_known 13 = .ok (.if_icmp .le 5, 3) := by decide +kernel
theorem dX11_known_16 : decode cX11_known 16 = .ok (.iconst 0, 1) := by decide +kernel
theorem dX11_known_17 : decode cX11_known 17 = .ok (.ireturn, 1) := by decide +kernel
theorem dX11_known_18 : decode cX11_known 18 = .ok (.aload_n 0, 1) := by decide +kernel
theorem dX11_known_19 : decode cX11_known 19 = .ok (.getfield 64, 3) := by decide +kernel
theorem dX11_known_22 : decode cX11_known 22 = .ok (.iload_n 1, 1) := by decide +kernel
theorem dX11_known_23 : decode cX11_known 23 = .ok (.putfield 304, 3) := by decide +kernel
theorem dX11_known_26 : decode cX11_known 26 = .ok (.iconst 1, 1) := by decide +kernel
theorem dX11_known_27 : decode cX11_known 27 = .ok (.ireturn, 1) := by decide +kernel
theorem dX11_borne_0 : decode cX11_borne 0 = .ok (.aload_n 0, 1) := by decide +kernel
theorem dX11_borne_1 : decode cX11_borne 1 = .ok (.getfield 27, 3) := by decide +kernel
theorem dX11_borne_4 : decode cX11_borne 4 = .ok (.iload_n 1, 1) := by decide +kernel
theorem dX11_borne_5 : decode cX11_borne 5 = .ok (.invokevirtual 154, 3) := by decide +kernel
theorem dX11_borne_8 : decode cX11_borne 8 = .ok (.ifCond .ne 5, 3) := by decide +kernel
theorem dX11_borne_11 : decode cX11_borne 11 = .ok (.iconst (-1), 1) := by decide +kernel
theorem dX11_borne_12 : decode cX11_borne 12 = .ok (.ireturn, 1) := by decide +kernel
theorem dX11_borne_13 : decode cX11_borne 13 = .ok (.aload_n 0, 1) := by decide +kernel
theorem dX11_borne_14 : decode cX11_borne 14 = .ok (.getfield 64, 3) := by decide +kernel
theorem dX11_borne_17 : decode cX11_borne 17 = .ok (.invokevirtual 307, 3) := by decide +kernel
theorem dX11_borne_20 : decode cX11_borne 20 = .ok (.aload_n 0, 1) := by decide +kernel
theorem dX11_borne_21 : decode cX11_borne 21 = .ok (.getfield 50, 3) := by decide +kernel
theorem dX11_borne_24 : decode cX11_borne 24 = .ok (.aload_n 0, 1) := by decide +kernel
theorem dX11_borne_25 : decode cX11_borne 25 = .ok (.getfield 27, 3) := by decide +kernel
theorem dX11_borne_28 : decode cX11_borne 28 = .ok (.invokevirtual 229, 3) := by decide +kernel
theorem dX11_borne_31 : decode cX11_borne 31 = .ok (.aload_n 0, 1) := by decide +kernel
theorem dX11_borne_32 : decode cX11_borne 32 = .ok (.getfield 71, 3) := by decide +kernel
theorem dX11_borne_35 : decode cX11_borne 35 = .ok (.aload_n 0, 1) := by decide +kernel
theorem dX11_borne_36 : decode cX11_borne 36 = .ok (.getfield 27, 3) := by decide +kernel
theorem dX11_borne_39 : decode cX11_borne 39 = .ok (.aload_n 0, 1) := by decide +kernel
theorem dX11_borne_40 : decode cX11_borne 40 = .ok (.getfield 50, 3) := by decide +kernel
theorem dX11_borne_43 : decode cX11_borne 43 = .ok (.aload_n 0, 1) := by decide +kernel
theorem dX11_borne_44 : decode cX11_borne 44 = .ok (.getfield 64, 3) := by decide +kernel
theorem dX11_borne_47 : decode cX11_borne 47 = .ok (.iload_n 1, 1) := by decide +kernel
theorem dX11_borne_48 : decode cX11_borne 48 = .ok (.aload_n 0, 1) := by decide +kernel
theorem dX11_borne_49 : decode cX11_borne 49 = .ok (.getfield 64, 3) := by decide +kernel
theorem dX11_borne_52 : decode cX11_borne 52 = .ok (.invokevirtual 310, 3) := by decide +kernel
theorem dX11_borne_55 : decode cX11_borne 55 = .ok (.invokevirtual 314, 3) := by decide +kernel
theorem dX11_borne_58 : decode cX11_borne 58 = .ok (.ireturn, 1) := by decide +kernel
theorem dX11_ask_0 : decode cX11_ask 0 = .ok (.aload_n 0, 1) := by decide +kernel
theorem dX11_ask_1 : decode cX11_ask 1 = .ok (.getfield 27, 3) := by decide +kernel
theorem dX11_ask_4 : decode cX11_ask 4 = .ok (.iload_n 1, 1) := by decide +kernel
theorem dX11_ask_5 : decode cX11_ask 5 = .ok (.invokevirtual 154, 3) := by decide +kernel
theorem dX11_ask_8 : decode cX11_ask 8 = .ok (.ifCond .eq 12, 3) := by decide +kernel
theorem dX11_ask_11 : decode cX11_ask 11 = .ok (.iload_n 2, 1) := by decide +kernel
theorem dX11_ask_12 : decode cX11_ask 12 = .ok (.ifCond .lt 8, 3) := by decide +kernel
theorem dX11_ask_15 : decode cX11_ask 15 = .ok (.iload_n 2, 1) := by decide +kernel
theorem dX11_ask_16 : decode cX11_ask 16 = .ok (.iconst 1, 1) := by decide +kernel
theorem dX11_ask_17 : decode cX11_ask 17 = .ok (.if_icmp .le 5, 3) := by decide +kernel
theorem dX11_ask_20 : decode cX11_ask 20 = .ok (.iconst (-1), 1) := by decide +kernel
theorem dX11_ask_21 : decode cX11_ask 21 = .ok (.ireturn, 1) := by decide +kernel
theorem dX11_ask_22 : decode cX11_ask 22 = .ok (.aload_n 0, 1) := by decide +kernel
theorem dX11_ask_23 : decode cX11_ask 23 = .ok (.getfield 64, 3) := by decide +kernel
theorem dX11_ask_26 : decode cX11_ask 26 = .ok (.invokevirtual 307, 3) := by decide +kernel
theorem dX11_ask_29 : decode cX11_ask 29 = .ok (.aload_n 0, 1) := by decide +kernel
theorem dX11_ask_30 : decode cX11_ask 30 = .ok (.getfield 50, 3) := by decide +kernel
theorem dX11_ask_33 : decode cX11_ask 33 = .ok (.aload_n 0, 1) := by decide +kernel
theorem dX11_ask_34 : decode cX11_ask 34 = .ok (.getfield 27, 3) := by decide +kernel
theorem dX11_ask_37 : decode cX11_ask 37 = .ok (.invokevirtual 229, 3) := by decide +kernel
theorem dX11_ask_40 : decode cX11_ask 40 = .ok (.aload_n 0, 1) := by decide +kernel
theorem dX11_ask_41 : decode cX11_ask 41 = .ok (.getfield 71, 3) := by decide +kernel
theorem dX11_ask_44 : decode cX11_ask 44 = .ok (.aload_n 0, 1) := by decide +kernel
theorem dX11_ask_45 : decode cX11_ask 45 = .ok (.getfield 27, 3) := by decide +kernel
theorem dX11_ask_48 : decode cX11_ask 48 = .ok (.aload_n 0, 1) := by decide +kernel
theorem dX11_ask_49 : decode cX11_ask 49 = .ok (.getfield 50, 3) := by decide +kernel
theorem dX11_ask_52 : decode cX11_ask 52 = .ok (.aload_n 0, 1) := by decide +kernel
theorem dX11_ask_53 : decode cX11_ask 53 = .ok (.getfield 64, 3) := by decide +kernel
theorem dX11_ask_56 : decode cX11_ask 56 = .ok (.iload_n 1, 1) := by decide +kernel
theorem dX11_ask_57 : decode cX11_ask 57 = .ok (.bipush 60, 2) := by decide +kernel
theorem dX11_ask_59 : decode cX11_ask 59 = .ok (.invokevirtual 314, 3) := by decide +kernel
theorem dX11_ask_62 : decode cX11_ask 62 = .ok (.pop, 1) := by decide +kernel
theorem dX11_ask_63 : decode cX11_ask 63 = .ok (.aload_n 0, 1) := by decide +kernel
theorem dX11_ask_64 : decode cX11_ask 64 = .ok (.getfield 71, 3) := by decide +kernel
theorem dX11_ask_67 : decode cX11_ask 67 = .ok (.invokevirtual 317, 3) := by decide +kernel
theorem dX11_ask_70 : decode cX11_ask 70 = .ok (.iload_n 2, 1) := by decide +kernel
theorem dX11_ask_71 : decode cX11_ask 71 = .ok (.ifCond .ne 13, 3) := by decide +kernel
theorem dX11_ask_74 : decode cX11_ask 74 = .ok (.aload_n 0, 1) := by decide +kernel
theorem dX11_ask_75 : decode cX11_ask 75 = .ok (.getfield 71, 3) := by decide +kernel
theorem dX11_ask_78 : decode cX11_ask 78 = .ok (.getfield 320, 3) := by decide +kernel
theorem dX11_ask_81 : decode cX11_ask 81 = .ok (.goto 10, 3) := by decide +kernel
theorem dX11_ask_84 : decode cX11_ask 84 = .ok (.aload_n 0, 1) := by decide +kernel
theorem dX11_ask_85 : decode cX11_ask 85 = .ok (.getfield 71, 3) := by decide +kernel
theorem dX11_ask_88 : decode cX11_ask 88 = .ok (.getfield 323, 3) := by decide +kernel
theorem dX11_ask_91 : decode cX11_ask 91 = .ok (.ireturn, 1) := by decide +kernel
theorem dX11_chance_0 : decode cX11_chance 0 = .ok (.iload_n 1, 1) := by decide +kernel
theorem dX11_chance_1 : decode cX11_chance 1 = .ok (.ifCond .lt 25, 3) := by decide +kernel
theorem dX11_chance_4 : decode cX11_chance 4 = .ok (.iload_n 2, 1) := by decide +kernel
theorem dX11_chance_5 : decode cX11_chance 5 = .ok (.iconst 1, 1) := by decide +kernel
theorem dX11_chance_6 : decode cX11_chance 6 = .ok (.if_icmp .lt 20, 3) := by decide +kernel
theorem dX11_chance_9 : decode cX11_chance 9 = .ok (.iload_n 2, 1) := by decide +kernel
theorem dX11_chance_10 : decode cX11_chance 10 = .ok (.bipush 99, 2) := by decide +kernel
theorem dX11_chance_12 : decode cX11_chance 12 = .ok (.if_icmp .gt 14, 3) := by decide +kernel
theorem dX11_chance_15 : decode cX11_chance 15 = .ok (.aload_n 0, 1) := by decide +kernel
theorem dX11_chance_16 : decode cX11_chance 16 = .ok (.getfield 27, 3) := by decide +kernel
theorem dX11_chance_19 : decode cX11_chance 19 = .ok (.iload_n 3, 1) := by decide +kernel
theorem dX11_chance_20 : decode cX11_chance 20 = .ok (.invokevirtual 154, 3) := by decide +kernel
theorem dX11_chance_23 : decode cX11_chance 23 = .ok (.ifCond .ne 5, 3) := by decide +kernel
theorem dX11_chance_26 : decode cX11_chance 26 = .ok (.iconst (-1), 1) := by decide +kernel
theorem dX11_chance_27 : decode cX11_chance 27 = .ok (.ireturn, 1) := by decide +kernel
theorem dX11_chance_28 : decode cX11_chance 28 = .ok (.aload_n 0, 1) := by decide +kernel
theorem dX11_chance_29 : decode cX11_chance 29 = .ok (.getfield 50, 3) := by decide +kernel
theorem dX11_chance_32 : decode cX11_chance 32 = .ok (.invokevirtual 212, 3) := by decide +kernel
theorem dX11_chance_35 : decode cX11_chance 35 = .ok (.iload_n 1, 1) := by decide +kernel
theorem dX11_chance_36 : decode cX11_chance 36 = .ok (.i2l, 1) := by decide +kernel
theorem dX11_chance_37 : decode cX11_chance 37 = .ok (.lstore 4, 2) := by decide +kernel
theorem dX11_chance_39 : decode cX11_chance 39 = .ok (.iconst 0, 1) := by decide +kernel
theorem dX11_chance_40 : decode cX11_chance 40 = .ok (.istore 6, 2) := by decide +kernel
theorem dX11_chance_42 : decode cX11_chance 42 = .ok (.iconst 0, 1) := by decide +kernel
theorem dX11_chance_43 : decode cX11_chance 43 = .ok (.istore 7, 2) := by decide +kernel
theorem dX11_chance_45 : decode cX11_chance 45 = .ok (.iload 7, 2) := by decide +kernel
theorem dX11_chance_47 : decode cX11_chance 47 = .ok (.bipush 10, 2) := by decide +kernel
theorem dX11_chance_49 : decode cX11_chance 49 = .ok (.if_icmp .ge 69, 3) := by decide +kernel
theorem dX11_chance_52 : decode cX11_chance 52 = .ok (.aload_n 0, 1) := by decide +kernel
theorem dX11_chance_53 : decode cX11_chance 53 = .ok (.getfield 41, 3) := by decide +kernel
theorem dX11_chance_56 : decode cX11_chance 56 = .ok (.aload_n 0, 1) := by decide +kernel
theorem dX11_chance_57 : decode cX11_chance 57 = .ok (.getfield 37, 3) := by decide +kernel
theorem dX11_chance_60 : decode cX11_chance 60 = .ok (.invokevirtual 226, 3) := by decide +kernel
theorem dX11_chance_63 : decode cX11_chance 63 = .ok (.aload_n 0, 1) := by decide +kernel
theorem dX11_chance_64 : decode cX11_chance 64 = .ok (.getfield 41, 3) := by decide +kernel
theorem dX11_chance_67 : decode cX11_chance 67 = .ok (.lload 4, 2) := by decide +kernel
theorem dX11_chance_69 : decode cX11_chance 69 = .ok (.putfield 326, 3) := by decide +kernel
theorem dX11_chance_72 : decode cX11_chance 72 = .ok (.aload_n 0, 1) := by decide +kernel
theorem dX11_chance_73 : decode cX11_chance 73 = .ok (.getfield 50, 3) := by decide +kernel
theorem dX11_chance_76 : decode cX11_chance 76 = .ok (.aload_n 0, 1) := by decide +kernel
theorem dX11_chance_77 : decode cX11_chance 77 = .ok (.getfield 27, 3) := by decide +kernel
theorem dX11_chance_80 : decode cX11_chance 80 = .ok (.aload_n 0, 1) := by decide +kernel
theorem dX11_chance_81 : decode cX11_chance 81 = .ok (.getfield 41, 3) := by decide +kernel
theorem dX11_chance_84 : decode cX11_chance 84 = .ok (.iload_n 2, 1) := by decide +kernel
theorem dX11_chance_85 : decode cX11_chance 85 = .ok (.invokevirtual 215, 3) := by decide +kernel
theorem dX11_chance_88 : decode cX11_chance 88 = .ok (.aload_n 0, 1) := by decide +kernel
theorem dX11_chance_89 : decode cX11_chance 89 = .ok (.getfield 41, 3) := by decide +kernel
theorem dX11_chance_92 : decode cX11_chance 92 = .ok (.getfield 326, 3) := by decide +kernel
theorem dX11_chance_95 : decode cX11_chance 95 = .ok (.lstore 4, 2) := by decide +kernel
theorem dX11_chance_97 : decode cX11_chance 97 = .ok (.aload_n 0, 1) := by decide +kernel
theorem dX11_chance_98 : decode cX11_chance 98 = .ok (.getfield 41, 3) := by decide +kernel
theorem dX11_chance_101 : decode cX11_chance 101 = .ok (.getfield 163, 3) := by decide +kernel
theorem dX11_chance_104 : decode cX11_chance 104 = .ok (.iload_n 3, 1) := by decide +kernel
theorem dX11_chance_105 : decode cX11_chance 105 = .ok (.iaload, 1) := by decide +kernel
theorem dX11_chance_106 : decode cX11_chance 106 = .ok (.ifCond .lt 6, 3) := by decide +kernel
theorem dX11_chance_109 : decode cX11_chance 109 = .ok (.iinc 6 1, 3) := by decide +kernel
theorem dX11_chance_112 : decode cX11_chance 112 = .ok (.iinc 7 1, 3) := by decide +kernel
theorem dX11_chance_115 : decode cX11_chance 115 = .ok (.goto (-70), 3) := by decide +kernel
theorem dX11_chance_118 : decode cX11_chance 118 = .ok (.iload 6, 2) := by decide +kernel
theorem dX11_chance_120 : decode cX11_chance 120 = .ok (.ireturn, 1) := by decide +kernel
theorem dX11_tried_0 : decode cX11_tried 0 = .ok (.iload_n 1, 1) := by decide +kernel
theorem dX11_tried_1 : decode cX11_tried 1 = .ok (.ifCond .lt 19, 3) := by decide +kernel
theorem dX11_tried_4 : decode cX11_tried 4 = .ok (.iload_n 1, 1) := by decide +kernel
theorem dX11_tried_5 : decode cX11_tried 5 = .ok (.iconst 4, 1) := by decide +kernel
theorem dX11_tried_6 : decode cX11_tried 6 = .ok (.if_icmp .gt 14, 3) := by decide +kernel
theorem dX11_tried_9 : decode cX11_tried 9 = .ok (.iload_n 3, 1) := by decide +kernel
theorem dX11_tried_10 : decode cX11_tried 10 = .ok (.ifCond .lt 10, 3) := by decide +kernel
theorem dX11_tried_13 : decode cX11_tried 13 = .ok (.iload_n 3, 1) := by decide +kernel
theorem dX11_tried_14 : decode cX11_tried 14 = .ok (.sipush 200, 3) := by decide +kernel
theorem dX11_tried_17 : decode cX11_tried 17 = .ok (.if_icmp .le 5, 3) := by decide +kernel
theorem dX11_tried_20 : decode cX11_tried 20 = .ok (.iconst (-1), 1) := by decide +kernel
theorem dX11_tried_21 : decode cX11_tried 21 = .ok (.ireturn, 1) := by decide +kernel
theorem dX11_tried_22 : decode cX11_tried 22 = .ok (.iload_n 1, 1) := by decide +kernel
theorem dX11_tried_23 : decode cX11_tried 23 = .ok (.iconst 2, 1) := by decide +kernel
theorem dX11_tried_24 : decode cX11_tried 24 = .ok (.if_icmp .ne 17, 3) := by decide +kernel
theorem dX11_tried_27 : decode cX11_tried 27 = .ok (.aload_n 0, 1) := by decide +kernel
theorem dX11_tried_28 : decode cX11_tried 28 = .ok (.getfield 27, 3) := by decide +kernel
theorem dX11_tried_31 : decode cX11_tried 31 = .ok (.iload_n 2, 1) := by decide +kernel
theorem dX11_tried_32 : decode cX11_tried 32 = .ok (.invokevirtual 154, 3) := by decide +kernel
theorem dX11_tried_35 : decode cX11_tried 35 = .ok (.ifCond .ne 12, 3) := by decide +kernel
theorem dX11_tried_38 : decode cX11_tried 38 = .ok (.goto 7, 3) := by decide +kernel
theorem dX11_tried_41 : decode cX11_tried 41 = .ok (.iload_n 2, 1) := by decide +kernel
theorem dX11_tried_42 : decode cX11_tried 42 = .ok (.ifCond .eq 5, 3) := by decide +kernel
theorem dX11_tried_45 : decode cX11_tried 45 = .ok (.iconst (-1), 1) := by decide +kernel
theorem dX11_tried_46 : decode cX11_tried 46 = .ok (.ireturn, 1) := by decide +kernel
theorem dX11_tried_47 : decode cX11_tried 47 = .ok (.aload_n 0, 1) := by decide +kernel
theorem dX11_tried_48 : decode cX11_tried 48 = .ok (.invokevirtual 219, 3) := by decide +kernel
theorem dX11_tried_51 : decode cX11_tried 51 = .ok (.aload_n 0, 1) := by decide +kernel
theorem dX11_tried_52 : decode cX11_tried 52 = .ok (.getfield 50, 3) := by decide +kernel
theorem dX11_tried_55 : decode cX11_tried 55 = .ok (.iload_n 1, 1) := by decide +kernel
theorem dX11_tried_56 : decode cX11_tried 56 = .ok (.iload_n 2, 1) := by decide +kernel
theorem dX11_tried_57 : decode cX11_tried 57 = .ok (.invokevirtual 330, 3) := by decide +kernel
theorem dX11_tried_60 : decode cX11_tried 60 = .ok (.aload_n 0, 1) := by decide +kernel
theorem dX11_tried_61 : decode cX11_tried 61 = .ok (.getfield 50, 3) := by decide +kernel
theorem dX11_tried_64 : decode cX11_tried 64 = .ok (.aload_n 0, 1) := by decide +kernel
theorem dX11_tried_65 : decode cX11_tried 65 = .ok (.getfield 27, 3) := by decide +kernel
theorem dX11_tried_68 : decode cX11_tried 68 = .ok (.aload_n 0, 1) := by decide +kernel
theorem dX11_tried_69 : decode cX11_tried 69 = .ok (.getfield 41, 3) := by decide +kernel
theorem dX11_tried_72 : decode cX11_tried 72 = .ok (.iload_n 3, 1) := by decide +kernel
theorem dX11_tried_73 : decode cX11_tried 73 = .ok (.invokevirtual 215, 3) := by decide +kernel
theorem dX11_tried_76 : decode cX11_tried 76 = .ok (.aload_n 0, 1) := by decide +kernel
theorem dX11_tried_77 : decode cX11_tried 77 = .ok (.getfield 41, 3) := by decide +kernel
theorem dX11_tried_80 : decode cX11_tried 80 = .ok (.getfield 166, 3) := by decide +kernel
theorem dX11_tried_83 : decode cX11_tried 83 = .ok (.invokestatic 222, 3) := by decide +kernel
theorem dX11_tried_86 : decode cX11_tried 86 = .ok (.ireturn, 1) := by decide +kernel
theorem dX11_undo_0 : decode cX11_undo 0 = .ok (.aload_n 0, 1) := by decide +kernel
theorem dX11_undo_1 : decode cX11_undo 1 = .ok (.getfield 57, 3) := by decide +kernel
theorem dX11_undo_4 : decode cX11_undo 4 = .ok (.aload_n 0, 1) := by decide +kernel
theorem dX11_undo_5 : decode cX11_undo 5 = .ok (.getfield 37, 3) := by decide +kernel
theorem dX11_undo_8 : decode cX11_undo 8 = .ok (.invokevirtual 334, 3) := by decide +kernel
theorem dX11_undo_11 : decode cX11_undo 11 = .ok (.ifCond .eq 13, 3) := by decide +kernel
theorem dX11_undo_14 : decode cX11_undo 14 = .ok (.aload_n 0, 1) := by decide +kernel
theorem dX11_undo_15 : decode cX11_undo 15 = .ok (.getfield 57, 3) := by decide +kernel
theorem dX11_undo_18 : decode cX11_undo 18 = .ok (.getfield 338, 3) := by decide +kernel
theorem dX11_undo_21 : decode cX11_undo 21 = .ok (.goto 4, 3) := by decide +kernel
theorem dX11_undo_24 : decode cX11_undo 24 = .ok (.iconst (-1), 1) := by decide +kernel
theorem dX11_undo_25 : decode cX11_undo 25 = .ok (.ireturn, 1) := by decide +kernel
theorem dX11_keep_0 : decode cX11_keep 0 = .ok (.aload_n 0, 1) := by decide +kernel
theorem dX11_keep_1 : decode cX11_keep 1 = .ok (.getfield 44, 3) := by decide +kernel
theorem dX11_keep_4 : decode cX11_keep 4 = .ok (.aload_n 0, 1) := by decide +kernel
theorem dX11_keep_5 : decode cX11_keep 5 = .ok (.getfield 37, 3) := by decide +kernel
theorem dX11_keep_8 : decode cX11_keep 8 = .ok (.invokevirtual 226, 3) := by decide +kernel
theorem dX11_keep_11 : decode cX11_keep 11 = .ok (.aload_n 0, 1) := by decide +kernel
theorem dX11_keep_12 : decode cX11_keep 12 = .ok (.iconst 1, 1) := by decide +kernel
theorem dX11_keep_13 : decode cX11_keep 13 = .ok (.putfield 102, 3) := by decide +kernel
theorem dX11_keep_16 : decode cX11_keep 16 = .ok (.aload_n 0, 1) := by decide +kernel
theorem dX11_keep_17 : decode cX11_keep 17 = .ok (.getfield 37, 3) := by decide +kernel
theorem dX11_keep_20 : decode cX11_keep 20 = .ok (.getfield 209, 3) := by decide +kernel
theorem dX11_keep_23 : decode cX11_keep 23 = .ok (.ireturn, 1) := by decide +kernel
theorem dX11_back_0 : decode cX11_back 0 = .ok (.aload_n 0, 1) := by decide +kernel
theorem dX11_back_1 : decode cX11_back 1 = .ok (.getfield 102, 3) := by decide +kernel
theorem dX11_back_4 : decode cX11_back 4 = .ok (.ifCond .ne 5, 3) := by decide +kernel
theorem dX11_back_7 : decode cX11_back 7 = .ok (.iconst (-1), 1) := by decide +kernel
theorem dX11_back_8 : decode cX11_back 8 = .ok (.ireturn, 1) := by decide +kernel
theorem dX11_back_9 : decode cX11_back 9 = .ok (.aload_n 0, 1) := by decide +kernel
theorem dX11_back_10 : decode cX11_back 10 = .ok (.getfield 37, 3) := by decide +kernel
theorem dX11_back_13 : decode cX11_back 13 = .ok (.aload_n 0, 1) := by decide +kernel
theorem dX11_back_14 : decode cX11_back 14 = .ok (.getfield 44, 3) := by decide +kernel
theorem dX11_back_17 : decode cX11_back 17 = .ok (.invokevirtual 226, 3) := by decide +kernel
theorem dX11_back_20 : decode cX11_back 20 = .ok (.aload_n 0, 1) := by decide +kernel
theorem dX11_back_21 : decode cX11_back 21 = .ok (.getfield 57, 3) := by decide +kernel
theorem dX11_back_24 : decode cX11_back 24 = .ok (.invokevirtual 101, 3) := by decide +kernel
theorem dX11_back_27 : decode cX11_back 27 = .ok (.aload_n 0, 1) := by decide +kernel
theorem dX11_back_28 : decode cX11_back 28 = .ok (.getfield 37, 3) := by decide +kernel
theorem dX11_back_31 : decode cX11_back 31 = .ok (.getfield 209, 3) := by decide +kernel
theorem dX11_back_34 : decode cX11_back 34 = .ok (.ireturn, 1) := by decide +kernel
theorem dX11_count_0 : decode cX11_count 0 = .ok (.iload_n 1, 1) := by decide +kernel
theorem dX11_count_1 : decode cX11_count 1 = .ok (.tableswitch 222 0 14 #[75, 86, 97, 108, 119, 130, 141, 149, 160, 168, 179, 190, 198, 206, 214], 75) := by decide +kernel
theorem dX11_count_76 : decode cX11_count 76 = .ok (.aload_n 0, 1) := by decide +kernel
theorem dX11_count_77 : decode cX11_count 77 = .ok (.getfield 27, 3) := by decide +kernel
theorem dX11_count_80 : decode cX11_count 80 = .ok (.getfield 115, 3) := by decide +kernel
theorem dX11_count_83 : decode cX11_count 83 = .ok (.getfield 239, 3) := by decide +kernel
theorem dX11_count_86 : decode cX11_count 86 = .ok (.ireturn, 1) := by decide +kernel
theorem dX11_count_87 : decode cX11_count 87 = .ok (.aload_n 0, 1) := by decide +kernel
theorem dX11_count_88 : decode cX11_count 88 = .ok (.getfield 27, 3) := by decide +kernel
theorem dX11_count_91 : decode cX11_count 91 = .ok (.getfield 125, 3) := by decide +kernel
theorem dX11_count_94 : decode cX11_count 94 = .ok (.getfield 239, 3) := by decide +kernel
theorem dX11_count_97 : decode cX11_count 97 = .ok (.ireturn, 1) := by decide +kernel
theorem dX11_count_98 : decode cX11_count 98 = .ok (.aload_n 0, 1) := by decide +kernel
theorem dX11_count_99 : decode cX11_count 99 = .ok (.getfield 27, 3) := by decide +kernel
theorem dX11_count_102 : decode cX11_count 102 = .ok (.getfield 339, 3) := by decide +kernel
theorem dX11_count_105 : decode cX11_count 105 = .ok (.getfield 239, 3) := by decide +kernel
theorem dX11_count_108 : decode cX11_count 108 = .ok (.ireturn, 1) := by decide +kernel
theorem dX11_count_109 : decode cX11_count 109 = .ok (.aload_n 0, 1) := by decide +kernel
theorem dX11_count_110 : decode cX11_count 110 = .ok (.getfield 27, 3) := by decide +kernel
theorem dX11_count_113 : decode cX11_count 113 = .ok (.getfield 342, 3) := by decide +kernel
theorem dX11_count_116 : decode cX11_count 116 = .ok (.getfield 239, 3) := by decide +kernel
theorem dX11_count_119 : decode cX11_count 119 = .ok (.ireturn, 1) := by decide +kernel
theorem dX11_count_120 : decode cX11_count 120 = .ok (.aload_n 0, 1) := by decide +kernel
theorem dX11_count_121 : decode cX11_count 121 = .ok (.getfield 27, 3) := by decide +kernel
theorem dX11_count_124 : decode cX11_count 124 = .ok (.getfield 345, 3) := by decide +kernel
theorem dX11_count_127 : decode cX11_count 127 = .ok (.getfield 239, 3) := by decide +kernel
theorem dX11_count_130 : decode cX11_count 130 = .ok (.ireturn, 1) := by decide +kernel
theorem dX11_count_131 : decode cX11_count 131 = .ok (.aload_n 0, 1) := by decide +kernel
theorem dX11_count_132 : decode cX11_count 132 = .ok (.getfield 27, 3) := by decide +kernel
theorem dX11_count_135 : decode cX11_count 135 = .ok (.getfield 348, 3) := by decide +kernel
theorem dX11_count_138 : decode cX11_count 138 = .ok (.getfield 352, 3) := by decide +kernel
theorem dX11_count_141 : decode cX11_count 141 = .ok (.ireturn, 1) := by decide +kernel
theorem dX11_count_142 : decode cX11_count 142 = .ok (.aload_n 0, 1) := by decide +kernel
theorem dX11_count_143 : decode cX11_count 143 = .ok (.getfield 37, 3) := by decide +kernel
theorem dX11_count_146 : decode cX11_count 146 = .ok (.getfield 209, 3) := by decide +kernel
theorem dX11_count_149 : decode cX11_count 149 = .ok (.ireturn, 1) := by decide +kernel
theorem dX11_count_150 : decode cX11_count 150 = .ok (.aload_n 0, 1) := by decide +kernel
theorem dX11_count_151 : decode cX11_count 151 = .ok (.getfield 37, 3) := by decide +kernel
theorem dX11_count_154 : decode cX11_count 154 = .ok (.getfield 139, 3) := by decide +kernel
theorem dX11_count_157 : decode cX11_count 157 = .ok (.invokestatic 222, 3) := by decide +kernel
theorem dX11_count_160 : decode cX11_count 160 = .ok (.ireturn, 1) := by decide +kernel
theorem dX11_count_161 : decode cX11_count 161 = .ok (.aload_n 0, 1) := by decide +kernel
theorem dX11_count_162 : decode cX11_count 162 = .ok (.getfield 37, 3) := by decide +kernel
theorem dX11_count_165 : decode cX11_count 165 = .ok (.invokevirtual 357, 3) := by decide +kernel
theorem dX11_count_168 : decode cX11_count 168 = .ok (.ireturn, 1) := by decide +kernel
theorem dX11_count_169 : decode cX11_count 169 = .ok (.aload_n 0, 1) := by decide +kernel
theorem dX11_count_170 : decode cX11_count 170 = .ok (.getfield 37, 3) := by decide +kernel
theorem dX11_count_173 : decode cX11_count 173 = .ok (.getfield 166, 3) := by decide +kernel
theorem dX11_count_176 : decode cX11_count 176 = .ok (.invokestatic 222, 3) := by decide +kernel
theorem dX11_count_179 : decode cX11_count 179 = .ok (.ireturn, 1) := by decide +kernel
theorem dX11_count_180 : decode cX11_count 180 = .ok (.aload_n 0, 1) := by decide +kernel
theorem dX11_count_181 : decode cX11_count 181 = .ok (.getfield 37, 3) := by decide +kernel
theorem dX11_count_184 : decode cX11_count 184 = .ok (.getfield 175, 3) := by decide +kernel
theorem dX11_count_187 : decode cX11_count 187 = .ok (.invokestatic 222, 3) := by decide +kernel
theorem dX11_count_190 : decode cX11_count 190 = .ok (.ireturn, 1) := by decide +kernel
theorem dX11_count_191 : decode cX11_count 191 = .ok (.aload_n 0, 1) := by decide +kernel
theorem dX11_count_192 : decode cX11_count 192 = .ok (.getfield 37, 3) := by decide +kernel
theorem dX11_count_195 : decode cX11_count 195 = .ok (.getfield 360, 3) := by decide +kernel
theorem dX11_count_198 : decode cX11_count 198 = .ok (.ireturn, 1) := by decide +kernel
theorem dX11_count_199 : decode cX11_count 199 = .ok (.aload_n 0, 1) := by decide +kernel
theorem dX11_count_200 : decode cX11_count 200 = .ok (.getfield 64, 3) := by decide +kernel
theorem dX11_count_203 : decode cX11_count 203 = .ok (.getfield 303, 3) := by decide +kernel
theorem dX11_count_206 : decode cX11_count 206 = .ok (.ireturn, 1) := by decide +kernel
theorem dX11_count_207 : decode cX11_count 207 = .ok (.aload_n 0, 1) := by decide +kernel
theorem dX11_count_208 : decode cX11_count 208 = .ok (.getfield 64, 3) := by decide +kernel
theorem dX11_count_211 : decode cX11_count 211 = .ok (.invokevirtual 363, 3) := by decide +kernel
theorem dX11_count_214 : decode cX11_count 214 = .ok (.ireturn, 1) := by decide +kernel
theorem dX11_count_215 : decode cX11_count 215 = .ok (.aload_n 0, 1) := by decide +kernel
theorem dX11_count_216 : decode cX11_count 216 = .ok (.getfield 57, 3) := by decide +kernel
theorem dX11_count_219 : decode cX11_count 219 = .ok (.getfield 338, 3) := by decide +kernel
theorem dX11_count_222 : decode cX11_count 222 = .ok (.ireturn, 1) := by decide +kernel
theorem dX11_count_223 : decode cX11_count 223 = .ok (.iconst (-1), 1) := by decide +kernel
theorem dX11_count_224 : decode cX11_count 224 = .ok (.ireturn, 1) := by decide +kernel
theorem dJ6_bitCount_0f7a4_0 : decode cJ6_bitCount_0f7a4 0 = .ok (.iload_n 0, 1) := by decide +kernel
theorem dJ6_bitCount_0f7a4_1 : decode cJ6_bitCount_0f7a4 1 = .ok (.iload_n 0, 1) := by decide +kernel
theorem dJ6_bitCount_0f7a4_2 : decode cJ6_bitCount_0f7a4 2 = .ok (.iconst 1, 1) := by decide +kernel
theorem dJ6_bitCount_0f7a4_3 : decode cJ6_bitCount_0f7a4 3 = .ok (.iushr, 1) := by decide +kernel
theorem dJ6_bitCount_0f7a4_4 : decode cJ6_bitCount_0f7a4 4 = .ok (.ldc_w 265, 3) := by decide +kernel
theorem dJ6_bitCount_0f7a4_7 : decode cJ6_bitCount_0f7a4 7 = .ok (.iand, 1) := by decide +kernel
theorem dJ6_bitCount_0f7a4_8 : decode cJ6_bitCount_0f7a4 8 = .ok (.isub, 1) := by decide +kernel
theorem dJ6_bitCount_0f7a4_9 : decode cJ6_bitCount_0f7a4 9 = .ok (.istore_n 0, 1) := by decide +kernel
theorem dJ6_bitCount_0f7a4_10 : decode cJ6_bitCount_0f7a4 10 = .ok (.iload_n 0, 1) := by decide +kernel
theorem dJ6_bitCount_0f7a4_11 : decode cJ6_bitCount_0f7a4 11 = .ok (.ldc_w 266, 3) := by decide +kernel
theorem dJ6_bitCount_0f7a4_14 : decode cJ6_bitCount_0f7a4 14 = .ok (.iand, 1) := by decide +kernel
theorem dJ6_bitCount_0f7a4_15 : decode cJ6_bitCount_0f7a4 15 = .ok (.iload_n 0, 1) := by decide +kernel
theorem dJ6_bitCount_0f7a4_16 : decode cJ6_bitCount_0f7a4 16 = .ok (.iconst 2, 1) := by decide +kernel
theorem dJ6_bitCount_0f7a4_17 : decode cJ6_bitCount_0f7a4 17 = .ok (.iushr, 1) := by decide +kernel
theorem dJ6_bitCount_0f7a4_18 : decode cJ6_bitCount_0f7a4 18 = .ok (.ldc_w 266, 3) := by decide +kernel
theorem dJ6_bitCount_0f7a4_21 : decode cJ6_bitCount_0f7a4 21 = .ok (.iand, 1) := by decide +kernel
theorem dJ6_bitCount_0f7a4_22 : decode cJ6_bitCount_0f7a4 22 = .ok (.iadd, 1) := by decide +kernel
theorem dJ6_bitCount_0f7a4_23 : decode cJ6_bitCount_0f7a4 23 = .ok (.istore_n 0, 1) := by decide +kernel
theorem dJ6_bitCount_0f7a4_24 : decode cJ6_bitCount_0f7a4 24 = .ok (.iload_n 0, 1) := by decide +kernel
theorem dJ6_bitCount_0f7a4_25 : decode cJ6_bitCount_0f7a4 25 = .ok (.iload_n 0, 1) := by decide +kernel
theorem dJ6_bitCount_0f7a4_26 : decode cJ6_bitCount_0f7a4 26 = .ok (.iconst 4, 1) := by decide +kernel
theorem dJ6_bitCount_0f7a4_27 : decode cJ6_bitCount_0f7a4 27 = .ok (.iushr, 1) := by decide +kernel
theorem dJ6_bitCount_0f7a4_28 : decode cJ6_bitCount_0f7a4 28 = .ok (.iadd, 1) := by decide +kernel
theorem dJ6_bitCount_0f7a4_29 : decode cJ6_bitCount_0f7a4 29 = .ok (.ldc_w 267, 3) := by decide +kernel
theorem dJ6_bitCount_0f7a4_32 : decode cJ6_bitCount_0f7a4 32 = .ok (.iand, 1) := by decide +kernel
theorem dJ6_bitCount_0f7a4_33 : decode cJ6_bitCount_0f7a4 33 = .ok (.istore_n 0, 1) := by decide +kernel
theorem dJ6_bitCount_0f7a4_34 : decode cJ6_bitCount_0f7a4 34 = .ok (.iload_n 0, 1) := by decide +kernel
theorem dJ6_bitCount_0f7a4_35 : decode cJ6_bitCount_0f7a4 35 = .ok (.iload_n 0, 1) := by decide +kernel
theorem dJ6_bitCount_0f7a4_36 : decode cJ6_bitCount_0f7a4 36 = .ok (.bipush 8, 2) := by decide +kernel
theorem dJ6_bitCount_0f7a4_38 : decode cJ6_bitCount_0f7a4 38 = .ok (.iushr, 1) := by decide +kernel
theorem dJ6_bitCount_0f7a4_39 : decode cJ6_bitCount_0f7a4 39 = .ok (.iadd, 1) := by decide +kernel
theorem dJ6_bitCount_0f7a4_40 : decode cJ6_bitCount_0f7a4 40 = .ok (.istore_n 0, 1) := by decide +kernel
theorem dJ6_bitCount_0f7a4_41 : decode cJ6_bitCount_0f7a4 41 = .ok (.iload_n 0, 1) := by decide +kernel
theorem dJ6_bitCount_0f7a4_42 : decode cJ6_bitCount_0f7a4 42 = .ok (.iload_n 0, 1) := by decide +kernel
theorem dJ6_bitCount_0f7a4_43 : decode cJ6_bitCount_0f7a4 43 = .ok (.bipush 16, 2) := by decide +kernel
theorem dJ6_bitCount_0f7a4_45 : decode cJ6_bitCount_0f7a4 45 = .ok (.iushr, 1) := by decide +kernel
theorem dJ6_bitCount_0f7a4_46 : decode cJ6_bitCount_0f7a4 46 = .ok (.iadd, 1) := by decide +kernel
theorem dJ6_bitCount_0f7a4_47 : decode cJ6_bitCount_0f7a4 47 = .ok (.istore_n 0, 1) := by decide +kernel
theorem dJ6_bitCount_0f7a4_48 : decode cJ6_bitCount_0f7a4 48 = .ok (.iload_n 0, 1) := by decide +kernel
theorem dJ6_bitCount_0f7a4_49 : decode cJ6_bitCount_0f7a4 49 = .ok (.bipush 63, 2) := by decide +kernel
theorem dJ6_bitCount_0f7a4_51 : decode cJ6_bitCount_0f7a4 51 = .ok (.iand, 1) := by decide +kernel
theorem dJ6_bitCount_0f7a4_52 : decode cJ6_bitCount_0f7a4 52 = .ok (.ireturn, 1) := by decide +kernel
