theorem dX7_copy_103 : decode cX7_copy 103 = .ok (.iload_n 3, 1) := by decide +kernel
theorem dX7_copy_104 : decode cX7_copy 104 = .ok (.aaload, 1) := by decide +kernel
theorem dX7_copy_105 : decode cX7_copy 105 = .ok (.iload 4, 2) := by decide +kernel
theorem dX7_copy_107 : decode cX7_copy 107 = .ok (.iload 5, 2) := by decide +kernel
theorem dX7_copy_109 : decode cX7_copy 109 = .ok (.invokestatic 120, 3) := by decide +kernel
theorem dX7_copy_112 : decode cX7_copy 112 = .ok (.iconst 1, 1) := by decide +kernel
theorem dX7_copy_113 : decode cX7_copy 113 = .ok (.ireturn, 1) := by decide +kernel
theorem dX7_mean_0 : decode cX7_mean 0 = .ok (.iload_n 1, 1) := by decide +kernel
theorem dX7_mean_1 : decode cX7_mean 1 = .ok (.bipush 6, 2) := by decide +kernel
theorem dX7_mean_3 : decode cX7_mean 3 = .ok (.invokestatic 105, 3) := by decide +kernel
theorem dX7_mean_6 : decode cX7_mean 6 = .ok (.ifCond .ne 5, 3) := by decide +kernel
theorem dX7_mean_9 : decode cX7_mean 9 = .ok (.iconst (-1), 1) := by decide +kernel
theorem dX7_mean_10 : decode cX7_mean 10 = .ok (.ireturn, 1) := by decide +kernel
theorem dX7_mean_11 : decode cX7_mean 11 = .ok (.aload_n 0, 1) := by decide +kernel
theorem dX7_mean_12 : decode cX7_mean 12 = .ok (.getfield 14, 3) := by decide +kernel
theorem dX7_mean_15 : decode cX7_mean 15 = .ok (.iload_n 1, 1) := by decide +kernel
theorem dX7_mean_16 : decode cX7_mean 16 = .ok (.iaload, 1) := by decide +kernel
theorem dX7_mean_17 : decode cX7_mean 17 = .ok (.istore_n 2, 1) := by decide +kernel
theorem dX7_mean_18 : decode cX7_mean 18 = .ok (.iload_n 2, 1) := by decide +kernel
theorem dX7_mean_19 : decode cX7_mean 19 = .ok (.ifCond .ge 9, 3) := by decide +kernel
theorem dX7_mean_22 : decode cX7_mean 22 = .ok (.aload_n 0, 1) := by decide +kernel
theorem dX7_mean_23 : decode cX7_mean 23 = .ok (.iconst 1, 1) := by decide +kernel
theorem dX7_mean_24 : decode cX7_mean 24 = .ok (.invokevirtual 109, 3) := by decide +kernel
theorem dX7_mean_27 : decode cX7_mean 27 = .ok (.ireturn, 1) := by decide +kernel
theorem dX7_mean_28 : decode cX7_mean 28 = .ok (.iload_n 2, 1) := by decide +kernel
theorem dX7_mean_29 : decode cX7_mean 29 = .ok (.ifCond .ne 9, 3) := by decide +kernel
theorem dX7_mean_32 : decode cX7_mean 32 = .ok (.aload_n 0, 1) := by decide +kernel
theorem dX7_mean_33 : decode cX7_mean 33 = .ok (.iconst 4, 1) := by decide +kernel
theorem dX7_mean_34 : decode cX7_mean 34 = .ok (.invokevirtual 109, 3) := by decide +kernel
theorem dX7_mean_37 : decode cX7_mean 37 = .ok (.ireturn, 1) := by decide +kernel
theorem dX7_mean_38 : decode cX7_mean 38 = .ok (.lconst 0, 1) := by decide +kernel
theorem dX7_mean_39 : decode cX7_mean 39 = .ok (.lstore_n 3, 1) := by decide +kernel
theorem dX7_mean_40 : decode cX7_mean 40 = .ok (.iconst 0, 1) := by decide +kernel
theorem dX7_mean_41 : decode cX7_mean 41 = .ok (.istore 5, 2) := by decide +kernel
theorem dX7_mean_43 : decode cX7_mean 43 = .ok (.iload 5, 2) := by decide +kernel
theorem dX7_mean_45 : decode cX7_mean 45 = .ok (.iload_n 2, 1) := by decide +kernel
theorem dX7_mean_46 : decode cX7_mean 46 = .ok (.if_icmp .ge 22, 3) := by decide +kernel
theorem dX7_mean_49 : decode cX7_mean 49 = .ok (.lload_n 3, 1) := by decide +kernel
theorem dX7_mean_50 : decode cX7_mean 50 = .ok (.aload_n 0, 1) := by decide +kernel
theorem dX7_mean_51 : decode cX7_mean 51 = .ok (.getfield 11, 3) := by decide +kernel
theorem dX7_mean_54 : decode cX7_mean 54 = .ok (.iload_n 1, 1) := by decide +kernel
theorem dX7_mean_55 : decode cX7_mean 55 = .ok (.aaload, 1) := by decide +kernel
theorem dX7_mean_56 : decode cX7_mean 56 = .ok (.iload 5, 2) := by decide +kernel
theorem dX7_mean_58 : decode cX7_mean 58 = .ok (.iaload, 1) := by decide +kernel
theorem dX7_mean_59 : decode cX7_mean 59 = .ok (.i2l, 1) := by decide +kernel
theorem dX7_mean_60 : decode cX7_mean 60 = .ok (.ladd, 1) := by decide +kernel
theorem dX7_mean_61 : decode cX7_mean 61 = .ok (.lstore_n 3, 1) := by decide +kernel
theorem dX7_mean_62 : decode cX7_mean 62 = .ok (.iinc 5 1, 3) := by decide +kernel
theorem dX7_mean_65 : decode cX7_mean 65 = .ok (.goto (-22), 3) := by decide +kernel
theorem dX7_mean_68 : decode cX7_mean 68 = .ok (.aload_n 0, 1) := by decide +kernel
theorem dX7_mean_69 : decode cX7_mean 69 = .ok (.lload_n 3, 1) := by decide +kernel
theorem dX7_mean_70 : decode cX7_mean 70 = .ok (.iload_n 2, 1) := by decide +kernel
theorem dX7_mean_71 : decode cX7_mean 71 = .ok (.i2l, 1) := by decide +kernel
theorem dX7_mean_72 : decode cX7_mean 72 = .ok (.ldiv, 1) := by decide +kernel
theorem dX7_mean_73 : decode cX7_mean 73 = .ok (.l2i, 1) := by decide +kernel
theorem dX7_mean_74 : decode cX7_mean 74 = .ok (.invokevirtual 113, 3) := by decide +kernel
theorem dX7_mean_77 : decode cX7_mean 77 = .ok (.ireturn, 1) := by decide +kernel
theorem dX7_text_0 : decode cX7_text 0 = .ok (.iload_n 1, 1) := by decide +kernel
theorem dX7_text_1 : decode cX7_text 1 = .ok (.iconst 4, 1) := by decide +kernel
theorem dX7_text_2 : decode cX7_text 2 = .ok (.invokestatic 105, 3) := by decide +kernel
theorem dX7_text_5 : decode cX7_text 5 = .ok (.ifCond .eq 9, 3) := by decide +kernel
theorem dX7_text_8 : decode cX7_text 8 = .ok (.iload_n 2, 1) := by decide +kernel
theorem dX7_text_9 : decode cX7_text 9 = .ok (.bipush 80, 2) := by decide +kernel
theorem dX7_text_11 : decode cX7_text 11 = .ok (.if_icmp .le 5, 3) := by decide +kernel
theorem dX7_text_14 : decode cX7_text 14 = .ok (.iconst (-1), 1) := by decide +kernel
theorem dX7_text_15 : decode cX7_text 15 = .ok (.ireturn, 1) := by decide +kernel
theorem dX7_text_16 : decode cX7_text 16 = .ok (.iload_n 2, 1) := by decide +kernel
theorem dX7_text_17 : decode cX7_text 17 = .ok (.ifCond .ge 9, 3) := by decide +kernel
theorem dX7_text_20 : decode cX7_text 20 = .ok (.aload_n 0, 1) := by decide +kernel
theorem dX7_text_21 : decode cX7_text 21 = .ok (.iconst 5, 1) := by decide +kernel
theorem dX7_text_22 : decode cX7_text 22 = .ok (.invokevirtual 109, 3) := by decide +kernel
theorem dX7_text_25 : decode cX7_text 25 = .ok (.ireturn, 1) := by decide +kernel
theorem dX7_text_26 : decode cX7_text 26 = .ok (.aload_n 0, 1) := by decide +kernel
theorem dX7_text_27 : decode cX7_text 27 = .ok (.getfield 26, 3) := by decide +kernel
theorem dX7_text_30 : decode cX7_text 30 = .ok (.iload_n 1, 1) := by decide +kernel
theorem dX7_text_31 : decode cX7_text 31 = .ok (.aaload, 1) := by decide +kernel
theorem dX7_text_32 : decode cX7_text 32 = .ok (.bipush 32, 2) := by decide +kernel
theorem dX7_text_34 : decode cX7_text 34 = .ok (.invokestatic 126, 3) := by decide +kernel
theorem dX7_text_37 : decode cX7_text 37 = .ok (.aload_n 0, 1) := by decide +kernel
theorem dX7_text_38 : decode cX7_text 38 = .ok (.getfield 29, 3) := by decide +kernel
theorem dX7_text_41 : decode cX7_text 41 = .ok (.iload_n 1, 1) := by decide +kernel
theorem dX7_text_42 : decode cX7_text 42 = .ok (.iload_n 2, 1) := by decide +kernel
theorem dX7_text_43 : decode cX7_text 43 = .ok (.iastore, 1) := by decide +kernel
theorem dX7_text_44 : decode cX7_text 44 = .ok (.iload_n 2, 1) := by decide +kernel
theorem dX7_text_45 : decode cX7_text 45 = .ok (.ireturn, 1) := by decide +kernel
theorem dX7_put_0 : decode cX7_put 0 = .ok (.iload_n 1, 1) := by decide +kernel
theorem dX7_put_1 : decode cX7_put 1 = .ok (.iconst 4, 1) := by decide +kernel
theorem dX7_put_2 : decode cX7_put 2 = .ok (.invokestatic 105, 3) := by decide +kernel
theorem dX7_put_5 : decode cX7_put 5 = .ok (.ifCond .ne 5, 3) := by decide +kernel
theorem dX7_put_8 : decode cX7_put 8 = .ok (.iconst (-1), 1) := by decide +kernel
theorem dX7_put_9 : decode cX7_put 9 = .ok (.ireturn, 1) := by decide +kernel
theorem dX7_put_10 : decode cX7_put 10 = .ok (.aload_n 0, 1) := by decide +kernel
theorem dX7_put_11 : decode cX7_put 11 = .ok (.getfield 29, 3) := by decide +kernel
theorem dX7_put_14 : decode cX7_put 14 = .ok (.iload_n 1, 1) := by decide +kernel
theorem dX7_put_15 : decode cX7_put 15 = .ok (.iaload, 1) := by decide +kernel
theorem dX7_put_16 : decode cX7_put 16 = .ok (.ifCond .ge 9, 3) := by decide +kernel
theorem dX7_put_19 : decode cX7_put 19 = .ok (.aload_n 0, 1) := by decide +kernel
theorem dX7_put_20 : decode cX7_put 20 = .ok (.iconst 1, 1) := by decide +kernel
theorem dX7_put_21 : decode cX7_put 21 = .ok (.invokevirtual 109, 3) := by decide +kernel
theorem dX7_put_24 : decode cX7_put 24 = .ok (.ireturn, 1) := by decide +kernel
theorem dX7_put_25 : decode cX7_put 25 = .ok (.iload_n 2, 1) := by decide +kernel
theorem dX7_put_26 : decode cX7_put 26 = .ok (.aload_n 0, 1) := by decide +kernel
theorem dX7_put_27 : decode cX7_put 27 = .ok (.getfield 29, 3) := by decide +kernel
theorem dX7_put_30 : decode cX7_put 30 = .ok (.iload_n 1, 1) := by decide +kernel
theorem dX7_put_31 : decode cX7_put 31 = .ok (.iaload, 1) := by decide +kernel
theorem dX7_put_32 : decode cX7_put 32 = .ok (.invokestatic 105, 3) := by decide +kernel
theorem dX7_put_35 : decode cX7_put 35 = .ok (.ifCond .ne 9, 3) := by decide +kernel
theorem dX7_put_38 : decode cX7_put 38 = .ok (.aload_n 0, 1) := by decide +kernel
theorem dX7_put_39 : decode cX7_put 39 = .ok (.iconst 2, 1) := by decide +kernel
theorem dX7_put_40 : decode cX7_put 40 = .ok (.invokevirtual 109, 3) := by decide +kernel
theorem dX7_put_43 : decode cX7_put 43 = .ok (.ireturn, 1) := by decide +kernel
theorem dX7_put_44 : decode cX7_put 44 = .ok (.aload_n 0, 1) := by decide +kernel
theorem dX7_put_45 : decode cX7_put 45 = .ok (.getfield 26, 3) := by decide +kernel
theorem dX7_put_48 : decode cX7_put 48 = .ok (.iload_n 1, 1) := by decide +kernel
theorem dX7_put_49 : decode cX7_put 49 = .ok (.aaload, 1) := by decide +kernel
theorem dX7_put_50 : decode cX7_put 50 = .ok (.iload_n 2, 1) := by decide +kernel
theorem dX7_put_51 : decode cX7_put 51 = .ok (.baload, 1) := by decide +kernel
theorem dX7_put_52 : decode cX7_put 52 = .ok (.istore 4, 2) := by decide +kernel
theorem dX7_put_54 : decode cX7_put 54 = .ok (.aload_n 0, 1) := by decide +kernel
theorem dX7_put_55 : decode cX7_put 55 = .ok (.getfield 26, 3) := by decide +kernel
theorem dX7_put_58 : decode cX7_put 58 = .ok (.iload_n 1, 1) := by decide +kernel
theorem dX7_put_59 : decode cX7_put 59 = .ok (.aaload, 1) := by decide +kernel
theorem dX7_put_60 : decode cX7_put 60 = .ok (.iload_n 2, 1) := by decide +kernel
theorem dX7_put_61 : decode cX7_put 61 = .ok (.iload_n 3, 1) := by decide +kernel
theorem dX7_put_62 : decode cX7_put 62 = .ok (.i2b, 1) := by decide +kernel
theorem dX7_put_63 : decode cX7_put 63 = .ok (.bastore, 1) := by decide +kernel
theorem dX7_put_64 : decode cX7_put 64 = .ok (.iload 4, 2) := by decide +kernel
theorem dX7_put_66 : decode cX7_put 66 = .ok (.sipush 1000, 3) := by decide +kernel
theorem dX7_put_69 : decode cX7_put 69 = .ok (.iadd, 1) := by decide +kernel
theorem dX7_put_70 : decode cX7_put 70 = .ok (.ireturn, 1) := by decide +kernel
theorem dX7_fault_0 : decode cX7_fault 0 = .ok (.iload_n 1, 1) := by decide +kernel
theorem dX7_fault_1 : decode cX7_fault 1 = .ok (.iconst 4, 1) := by decide +kernel
theorem dX7_fault_2 : decode cX7_fault 2 = .ok (.invokestatic 105, 3) := by decide +kernel
theorem dX7_fault_5 : decode cX7_fault 5 = .ok (.ifCond .ne 5, 3) := by decide +kernel
theorem dX7_fault_8 : decode cX7_fault 8 = .ok (.iconst (-1), 1) := by decide +kernel
theorem dX7_fault_9 : decode cX7_fault 9 = .ok (.ireturn, 1) := by decide +kernel
theorem dX7_fault_10 : decode cX7_fault 10 = .ok (.aload_n 0, 1) := by decide +kernel
theorem dX7_fault_11 : decode cX7_fault 11 = .ok (.getfield 29, 3) := by decide +kernel
theorem dX7_fault_14 : decode cX7_fault 14 = .ok (.iload_n 1, 1) := by decide +kernel
theorem dX7_fault_15 : decode cX7_fault 15 = .ok (.iaload, 1) := by decide +kernel
theorem dX7_fault_16 : decode cX7_fault 16 = .ok (.ifCond .ge 9, 3) := by decide +kernel
theorem dX7_fault_19 : decode cX7_fault 19 = .ok (.aload_n 0, 1) := by decide +kernel
theorem dX7_fault_20 : decode cX7_fault 20 = .ok (.iconst 1, 1) := by decide +kernel
theorem dX7_fault_21 : decode cX7_fault 21 = .ok (.invokevirtual 109, 3) := by decide +kernel
theorem dX7_fault_24 : decode cX7_fault 24 = .ok (.ireturn, 1) := by decide +kernel
theorem dX7_fault_25 : decode cX7_fault 25 = .ok (.iload_n 2, 1) := by decide +kernel
theorem dX7_fault_26 : decode cX7_fault 26 = .ok (.ifCond .eq 25, 3) := by decide +kernel
theorem dX7_fault_29 : decode cX7_fault 29 = .ok (.aload_n 0, 1) := by decide +kernel
theorem dX7_fault_30 : decode cX7_fault 30 = .ok (.getfield 63, 3) := by decide +kernel
theorem dX7_fault_33 : decode cX7_fault 33 = .ok (.aload_n 0, 1) := by decide +kernel
theorem dX7_fault_34 : decode cX7_fault 34 = .ok (.getfield 26, 3) := by decide +kernel
theorem dX7_fault_37 : decode cX7_fault 37 = .ok (.iload_n 1, 1) := by decide +kernel
theorem dX7_fault_38 : decode cX7_fault 38 = .ok (.aaload, 1) := by decide +kernel
theorem dX7_fault_39 : decode cX7_fault 39 = .ok (.aload_n 0, 1) := by decide +kernel
theorem dX7_fault_40 : decode cX7_fault 40 = .ok (.getfield 29, 3) := by decide +kernel
theorem dX7_fault_43 : decode cX7_fault 43 = .ok (.iload_n 1, 1) := by decide +kernel
theorem dX7_fault_44 : decode cX7_fault 44 = .ok (.iaload, 1) := by decide +kernel
theorem dX7_fault_45 : decode cX7_fault 45 = .ok (.invokevirtual 129, 3) := by decide +kernel
theorem dX7_fault_48 : decode cX7_fault 48 = .ok (.goto 22, 3) := by decide +kernel
theorem dX7_fault_51 : decode cX7_fault 51 = .ok (.aload_n 0, 1) := by decide +kernel
theorem dX7_fault_52 : decode cX7_fault 52 = .ok (.getfield 63, 3) := by decide +kernel
theorem dX7_fault_55 : decode cX7_fault 55 = .ok (.aload_n 0, 1) := by decide +kernel
theorem dX7_fault_56 : decode cX7_fault 56 = .ok (.getfield 26, 3) := by decide +kernel
theorem dX7_fault_59 : decode cX7_fault 59 = .ok (.iload_n 1, 1) := by decide +kernel
theorem dX7_fault_60 : decode cX7_fault 60 = .ok (.aaload, 1) := by decide +kernel
theorem dX7_fault_61 : decode cX7_fault 61 = .ok (.aload_n 0, 1) := by decide +kernel
theorem dX7_fault_62 : decode cX7_fault 62 = .ok (.getfield 29, 3) := by decide +kernel
theorem dX7_fault_65 : decode cX7_fault 65 = .ok (.iload_n 1, 1) := by decide +kernel
theorem dX7_fault_66 : decode cX7_fault 66 = .ok (.iaload, 1) := by decide +kernel
theorem dX7_fault_67 : decode cX7_fault 67 = .ok (.invokevirtual 133, 3) := by decide +kernel
theorem dX7_fault_70 : decode cX7_fault 70 = .ok (.ireturn, 1) := by decide +kernel
theorem dX7_snow_0 : decode cX7_snow 0 = .ok (.iload_n 1, 1) := by decide +kernel
theorem dX7_snow_1 : decode cX7_snow 1 = .ok (.iconst 4, 1) := by decide +kernel
theorem dX7_snow_2 : decode cX7_snow 2 = .ok (.invokestatic 105, 3) := by decide +kernel
theorem dX7_snow_5 : decode cX7_snow 5 = .ok (.ifCond .eq 11, 3) := by decide +kernel
theorem dX7_snow_8 : decode cX7_snow 8 = .ok (.iload_n 2, 1) := by decide +kernel
theorem dX7_snow_9 : decode cX7_snow 9 = .ok (.iconst 4, 1) := by decide +kernel
theorem dX7_snow_10 : decode cX7_snow 10 = .ok (.invokestatic 105, 3) := by decide +kernel
theorem dX7_snow_13 : decode cX7_snow 13 = .ok (.ifCond .ne 5, 3) := by decide +kernel
theorem dX7_snow_16 : decode cX7_snow 16 = .ok (.iconst (-1), 1) := by decide +kernel
theorem dX7_snow_17 : decode cX7_snow 17 = .ok (.ireturn, 1) := by decide +kernel
theorem dX7_snow_18 : decode cX7_snow 18 = .ok (.aload_n 0, 1) := by decide +kernel
theorem dX7_snow_19 : decode cX7_snow 19 = .ok (.getfield 29, 3) := by decide +kernel
theorem dX7_snow_22 : decode cX7_snow 22 = .ok (.iload_n 2, 1) := by decide +kernel
theorem dX7_snow_23 : decode cX7_snow 23 = .ok (.iaload, 1) := by decide +kernel
theorem dX7_snow_24 : decode cX7_snow 24 = .ok (.ifCond .ge 9, 3) := by decide +kernel
theorem dX7_snow_27 : decode cX7_snow 27 = .ok (.aload_n 0, 1) := by decide +kernel
theorem dX7_snow_28 : decode cX7_snow 28 = .ok (.iconst 1, 1) := by decide +kernel
theorem dX7_snow_29 : decode cX7_snow 29 = .ok (.invokevirtual 109, 3) := by decide +kernel
theorem dX7_snow_32 : decode cX7_snow 32 = .ok (.ireturn, 1) := by decide +kernel
theorem dX7_snow_33 : decode cX7_snow 33 = .ok (.aload_n 0, 1) := by decide +kernel
theorem dX7_snow_34 : decode cX7_snow 34 = .ok (.getfield 63, 3) := by decide +kernel
theorem dX7_snow_37 : decode cX7_snow 37 = .ok (.aload_n 0, 1) := by decide +kernel
theorem dX7_snow_38 : decode cX7_snow 38 = .ok (.getfield 26, 3) := by decide +kernel
theorem dX7_snow_41 : decode cX7_snow 41 = .ok (.iload_n 2, 1) := by decide +kernel
theorem dX7_snow_42 : decode cX7_snow 42 = .ok (.aaload, 1) := by decide +kernel
theorem dX7_snow_43 : decode cX7_snow 43 = .ok (.aload_n 0, 1) := by decide +kernel
theorem dX7_snow_44 : decode cX7_snow 44 = .ok (.getfield 29, 3) := by decide +kernel
theorem dX7_snow_47 : decode cX7_snow 47 = .ok (.iload_n 2, 1) := by decide +kernel
theorem dX7_snow_48 : decode cX7_snow 48 = .ok (.iaload, 1) := by decide +kernel
theorem dX7_snow_49 : decode cX7_snow 49 = .ok (.invokevirtual 133, 3) := by decide +kernel
theorem dX7_snow_52 : decode cX7_snow 52 = .ok (.bipush (-9), 2) := by decide +kernel
theorem dX7_snow_54 : decode cX7_snow 54 = .ok (.if_icmp .eq 6, 3) := by decide +kernel
theorem dX7_snow_57 : decode cX7_snow 57 = .ok (.bipush (-4), 2) := by decide +kernel
theorem dX7_snow_59 : decode cX7_snow 59 = .ok (.ireturn, 1) := by decide +kernel
theorem dX7_snow_60 : decode cX7_snow 60 = .ok (.aload_n 0, 1) := by decide +kernel
theorem dX7_snow_61 : decode cX7_snow 61 = .ok (.getfield 34, 3) := by decide +kernel
theorem dX7_snow_64 : decode cX7_snow 64 = .ok (.iload_n 1, 1) := by decide +kernel
theorem dX7_snow_65 : decode cX7_snow 65 = .ok (.aaload, 1) := by decide +kernel
theorem dX7_snow_66 : decode cX7_snow 66 = .ok (.aload_n 0, 1) := by decide +kernel
theorem dX7_snow_67 : decode cX7_snow 67 = .ok (.getfield 63, 3) := by decide +kernel
theorem dX7_snow_70 : decode cX7_snow 70 = .ok (.getfield 136, 3) := by decide +kernel
theorem dX7_snow_73 : decode cX7_snow 73 = .ok (.invokevirtual 140, 3) := by decide +kernel
theorem dX7_snow_76 : decode cX7_snow 76 = .ok (.aload_n 0, 1) := by decide +kernel
theorem dX7_snow_77 : decode cX7_snow 77 = .ok (.getfield 63, 3) := by decide +kernel
theorem dX7_snow_80 : decode cX7_snow 80 = .ok (.getfield 144, 3) := by decide +kernel
theorem dX7_snow_83 : decode cX7_snow 83 = .ok (.ireturn, 1) := by decide +kernel
theorem dX7_plan_0 : decode cX7_plan 0 = .ok (.iload_n 1, 1) := by decide +kernel
theorem dX7_plan_1 : decode cX7_plan 1 = .ok (.iconst 4, 1) := by decide +kernel
theorem dX7_plan_2 : decode cX7_plan 2 = .ok (.invokestatic 105, 3) := by decide +kernel
theorem dX7_plan_5 : decode cX7_plan 5 = .ok (.ifCond .eq 11, 3) := by decide +kernel
theorem dX7_plan_8 : decode cX7_plan 8 = .ok (.iload_n 2, 1) := by decide +kernel
theorem dX7_plan_9 : decode cX7_plan 9 = .ok (.iconst 4, 1) := by decide +kernel
theorem dX7_plan_10 : decode cX7_plan 10 = .ok (.invokestatic 105, 3) := by decide +kernel
theorem dX7_plan_13 : decode cX7_plan 13 = .ok (.ifCond .ne 5, 3) := by decide +kernel
theorem dX7_plan_16 : decode cX7_plan 16 = .ok (.iconst (-1), 1) := by decide +kernel
theorem dX7_plan_17 : decode cX7_plan 17 = .ok (.ireturn, 1) := by decide +kernel
theorem dX7_plan_18 : decode cX7_plan 18 = .ok (.aload_n 0, 1) := by decide +kernel
theorem dX7_plan_19 : decode cX7_plan 19 = .ok (.getfield 29, 3) := by decide +kernel
theorem dX7_plan_22 : decode cX7_plan 22 = .ok (.iload_n 2, 1) := by decide +kernel
theorem dX7_plan_23 : decode cX7_plan 23 = .ok (.iaload, 1) := by decide +kernel
theorem dX7_plan_24 : decode cX7_plan 24 = .ok (.ifCond .ge 9, 3) := by decide +kernel
theorem dX7_plan_27 : decode cX7_plan 27 = .ok (.aload_n 0, 1) := by decide +kernel
theorem dX7_plan_28 : decode cX7_plan 28 = .ok (.iconst 1, 1) := by decide +kernel
theorem dX7_plan_29 : decode cX7_plan 29 = .ok (.invokevirtual 109, 3) := by decide +kernel
theorem dX7_plan_32 : decode cX7_plan 32 = .ok (.ireturn, 1) := by decide +kernel
theorem dX7_plan_33 : decode cX7_plan 33 = .ok (.aload_n 0, 1) := by decide +kernel
theorem dX7_plan_34 : decode cX7_plan 34 = .ok (.getfield 63, 3) := by decide +kernel
theorem dX7_plan_37 : decode cX7_plan 37 = .ok (.aload_n 0, 1) := by decide +kernel
theorem dX7_plan_38 : decode cX7_plan 38 = .ok (.getfield 26, 3) := by decide +kernel
theorem dX7_plan_41 : decode cX7_plan 41 = .ok (.iload_n 2, 1) := by decide +kernel
theorem dX7_plan_42 : decode cX7_plan 42 = .ok (.aaload, 1) := by decide +kernel
theorem dX7_plan_43 : decode cX7_plan 43 = .ok (.aload_n 0, 1) := by decide +kernel
theorem dX7_plan_44 : decode cX7_plan 44 = .ok (.getfield 29, 3) := by decide +kernel
theorem dX7_plan_47 : decode cX7_plan 47 = .ok (.iload_n 2, 1) := by decide +kernel
theorem dX7_plan_48 : decode cX7_plan 48 = .ok (.iaload, 1) := by decide +kernel
theorem dX7_plan_49 : decode cX7_plan 49 = .ok (.invokevirtual 129, 3) := by decide +kernel
theorem dX7_plan_52 : decode cX7_plan 52 = .ok (.bipush (-9), 2) := by decide +kernel
theorem dX7_plan_54 : decode cX7_plan 54 = .ok (.if_icmp .eq 6, 3) := by decide +kernel
theorem dX7_plan_57 : decode cX7_plan 57 = .ok (.bipush (-4), 2) := by decide +kernel
theorem dX7_plan_59 : decode cX7_plan 59 = .ok (.ireturn, 1) := by decide +kernel
theorem dX7_plan_60 : decode cX7_plan 60 = .ok (.aload_n 0, 1) := by decide +kernel
theorem dX7_plan_61 : decode cX7_plan 61 = .ok (.getfield 41, 3) := by decide +kernel
theorem dX7_plan_64 : decode cX7_plan 64 = .ok (.iload_n 1, 1) := by decide +kernel
theorem dX7_plan_65 : decode cX7_plan 65 = .ok (.aaload, 1) := by decide +kernel
theorem dX7_plan_66 : decode cX7_plan 66 = .ok (.aload_n 0, 1) := by decide +kernel
theorem dX7_plan_67 : decode cX7_plan 67 = .ok (.getfield 63, 3) := by decide +kernel
theorem dX7_plan_70 : decode cX7_plan 70 = .ok (.getfield 147, 3) := by decide +kernel
theorem dX7_plan_73 : decode cX7_plan 73 = .ok (.invokevirtual 151, 3) := by decide +kernel
theorem dX7_plan_76 : decode cX7_plan 76 = .ok (.aload_n 0, 1) := by decide +kernel
theorem dX7_plan_77 : decode cX7_plan 77 = .ok (.getfield 41, 3) := by decide +kernel
theorem dX7_plan_80 : decode cX7_plan 80 = .ok (.iload_n 1, 1) := by decide +kernel
theorem dX7_plan_81 : decode cX7_plan 81 = .ok (.aaload, 1) := by decide +kernel
theorem dX7_plan_82 : decode cX7_plan 82 = .ok (.getfield 154, 3) := by decide +kernel
theorem dX7_plan_85 : decode cX7_plan 85 = .ok (.ireturn, 1) := by decide +kernel
theorem dX7_about_0 : decode cX7_about 0 = .ok (.iload_n 1, 1) := by decide +kernel
theorem dX7_about_1 : decode cX7_about 1 = .ok (.iconst 4, 1) := by decide +kernel
theorem dX7_about_2 : decode cX7_about 2 = .ok (.invokestatic 105, 3) := by decide +kernel
theorem dX7_about_5 : decode cX7_about 5 = .ok (.ifCond .eq 11, 3) := by decide +kernel
theorem dX7_about_8 : decode cX7_about 8 = .ok (.iload_n 2, 1) := by decide +kernel
theorem dX7_about_9 : decode cX7_about 9 = .ok (.iconst 4, 1) := by decide +kernel
theorem dX7_about_10 : decode cX7_about 10 = .ok (.invokestatic 105, 3) := by decide +kernel
theorem dX7_about_13 : decode cX7_about 13 = .ok (.ifCond .ne 5, 3) := by decide +kernel
theorem dX7_about_16 : decode cX7_about 16 = .ok (.iconst (-1), 1) := by decide +kernel
theorem dX7_about_17 : decode cX7_about 17 = .ok (.ireturn, 1) := by decide +kernel
theorem dX7_about_18 : decode cX7_about 18 = .ok (.aload_n 0, 1) := by decide +kernel
theorem dX7_about_19 : decode cX7_about 19 = .ok (.getfield 34, 3) := by decide +kernel
theorem dX7_about_22 : decode cX7_about 22 = .ok (.iload_n 1, 1) := by decide +kernel
theorem dX7_about_23 : decode cX7_about 23 = .ok (.aaload, 1) := by decide +kernel
theorem dX7_about_24 : decode cX7_about 24 = .ok (.getfield 157, 3) := by decide +kernel
theorem dX7_about_27 : decode cX7_about 27 = .ok (.ifCond .ne 9, 3) := by decide +kernel
theorem dX7_about_30 : decode cX7_about 30 = .ok (.aload_n 0, 1) := by decide +kernel
theorem dX7_about_31 : decode cX7_about 31 = .ok (.iconst 1, 1) := by decide +kernel
theorem dX7_about_32 : decode cX7_about 32 = .ok (.invokevirtual 109, 3) := by decide +kernel
theorem dX7_about_35 : decode cX7_about 35 = .ok (.ireturn, 1) := by decide +kernel
theorem dX7_about_36 : decode cX7_about 36 = .ok (.aload_n 0, 1) := by decide +kernel
theorem dX7_about_37 : decode cX7_about 37 = .ok (.aload_n 0, 1) := by decide +kernel
theorem dX7_about_38 : decode cX7_about 38 = .ok (.getfield 34, 3) := by decide +kernel
theorem dX7_about_41 : decode cX7_about 41 = .ok (.iload_n 1, 1) := by decide +kernel
theorem dX7_about_42 : decode cX7_about 42 = .ok (.aaload, 1) := by decide +kernel
theorem dX7_about_43 : decode cX7_about 43 = .ok (.getfield 161, 3) := by decide +kernel
theorem dX7_about_46 : decode cX7_about 46 = .ok (.iload_n 2, 1) := by decide +kernel
theorem dX7_about_47 : decode cX7_about 47 = .ok (.iaload, 1) := by decide +kernel
theorem dX7_about_48 : decode cX7_about 48 = .ok (.invokevirtual 113, 3) := by decide +kernel
theorem dX7_about_51 : decode cX7_about 51 = .ok (.ireturn, 1) := by decide +kernel
theorem dX7_tells_0 : decode cX7_tells 0 = .ok (.iload_n 1, 1) := by decide +kernel
theorem dX7_tells_1 : decode cX7_tells 1 = .ok (.iconst 4, 1) := by decide +kernel
theorem dX7_tells_2 : decode cX7_tells 2 = .ok (.invokestatic 105, 3) := by decide +kernel
theorem dX7_tells_5 : decode cX7_tells 5 = .ok (.ifCond .eq 11, 3) := by decide +kernel
theorem dX7_tells_8 : decode cX7_tells 8 = .ok (.iload_n 2, 1) := by decide +kernel
theorem dX7_tells_9 : decode cX7_tells 9 = .ok (.iconst 4, 1) := by decide +kernel
theorem dX7_tells_10 : decode cX7_tells 10 = .ok (.invokestatic 105, 3) := by decide +kernel
theorem dX7_tells_13 : decode cX7_tells 13 = .ok (.ifCond .ne 5, 3) := by decide +kernel
theorem dX7_tells_16 : decode cX7_tells 16 = .ok (.iconst (-1), 1) := by decide +kernel
theorem dX7_tells_17 : decode cX7_tells 17 = .ok (.ireturn, 1) := by decide +kernel
theorem dX7_tells_18 : decode cX7_tells 18 = .ok (.aload_n 0, 1) := by decide +kernel
theorem dX7_tells_19 : decode cX7_tells 19 = .ok (.getfield 41, 3) := by decide +kernel
theorem dX7_tells_22 : decode cX7_tells 22 = .ok (.iload_n 1, 1) := by decide +kernel
theorem dX7_tells_23 : decode cX7_tells 23 = .ok (.aaload, 1) := by decide +kernel
theorem dX7_tells_24 : decode cX7_tells 24 = .ok (.getfield 164, 3) := by decide +kernel
theorem dX7_tells_27 : decode cX7_tells 27 = .ok (.ifCond .ne 9, 3) := by decide +kernel
theorem dX7_tells_30 : decode cX7_tells 30 = .ok (.aload_n 0, 1) := by decide +kernel
theorem dX7_tells_31 : decode cX7_tells 31 = .ok (.iconst 1, 1) := by decide +kernel
theorem dX7_tells_32 : decode cX7_tells 32 = .ok (.invokevirtual 109, 3) := by decide +kernel
theorem dX7_tells_35 : decode cX7_tells 35 = .ok (.ireturn, 1) := by decide +kernel
theorem dX7_tells_36 : decode cX7_tells 36 = .ok (.aload_n 0, 1) := by decide +kernel
theorem dX7_tells_37 : decode cX7_tells 37 = .ok (.aload_n 0, 1) := by decide +kernel
theorem dX7_tells_38 : decode cX7_tells 38 = .ok (.getfield 41, 3) := by decide +kernel
theorem dX7_tells_41 : decode cX7_tells 41 = .ok (.iload_n 1, 1) := by decide +kernel
theorem dX7_tells_42 : decode cX7_tells 42 = .ok (.aaload, 1) := by decide +kernel
theorem dX7_tells_43 : decode cX7_tells 43 = .ok (.iload_n 2, 1) := by decide +kernel
theorem dX7_tells_44 : decode cX7_tells 44 = .ok (.invokevirtual 165, 3) := by decide +kernel
theorem dX7_tells_47 : decode cX7_tells 47 = .ok (.invokevirtual 113, 3) := by decide +kernel
theorem dX7_tells_50 : decode cX7_tells 50 = .ok (.ireturn, 1) := by decide +kernel
theorem dX7_course_0 : decode cX7_course 0 = .ok (.iload_n 1, 1) := by decide +kernel
theorem dX7_course_1 : decode cX7_course 1 = .ok (.iconst 4, 1) := by decide +kernel
theorem dX7_course_2 : decode cX7_course 2 = .ok (.invokestatic 105, 3) := by decide +kernel
theorem dX7_course_5 : decode cX7_course 5 = .ok (.ifCond .ne 5, 3) := by decide +kernel
theorem dX7_course_8 : decode cX7_course 8 = .ok (.iconst (-1), 1) := by decide +kernel
theorem dX7_course_9 : decode cX7_course 9 = .ok (.ireturn, 1) := by decide +kernel
theorem dX7_course_10 : decode cX7_course 10 = .ok (.aload_n 0, 1) := by decide +kernel
theorem dX7_course_11 : decode cX7_course 11 = .ok (.getfield 41, 3) := by decide +kernel
theorem dX7_course_14 : decode cX7_course 14 = .ok (.iload_n 1, 1) := by decide +kernel
theorem dX7_course_15 : decode cX7_course 15 = .ok (.aaload, 1) := by decide +kernel
theorem dX7_course_16 : decode cX7_course 16 = .ok (.getfield 164, 3) := by decide +kernel
theorem dX7_course_19 : decode cX7_course 19 = .ok (.ifCond .ne 9, 3) := by decide +kernel
theorem dX7_course_22 : decode cX7_course 22 = .ok (.aload_n 0, 1) := by decide +kernel
theorem dX7_course_23 : decode cX7_course 23 = .ok (.iconst 1, 1) := by decide +kernel
theorem dX7_course_24 : decode cX7_course 24 = .ok (.invokevirtual 109, 3) := by decide +kernel
theorem dX7_course_27 : decode cX7_course 27 = .ok (.ireturn, 1) := by decide +kernel
theorem dX7_course_28 : decode cX7_course 28 = .ok (.iload_n 2, 1) := by decide +kernel
theorem dX7_course_29 : decode cX7_course 29 = .ok (.aload_n 0, 1) := by decide +kernel
theorem dX7_course_30 : decode cX7_course 30 = .ok (.getfield 41, 3) := by decide +kernel
theorem dX7_course_33 : decode cX7_course 33 = .ok (.iload_n 1, 1) := by decide +kernel
theorem dX7_course_34 : decode cX7_course 34 = .ok (.aaload, 1) := by decide +kernel
theorem dX7_course_35 : decode cX7_course 35 = .ok (.getfield 168, 3) := by decide +kernel
theorem dX7_course_38 : decode cX7_course 38 = .ok (.invokestatic 105, 3) := by decide +kernel
theorem dX7_course_41 : decode cX7_course 41 = .ok (.ifCond .ne 9, 3) := by decide +kernel
theorem dX7_course_44 : decode cX7_course 44 = .ok (.aload_n 0, 1) := by decide +kernel
theorem dX7_course_45 : decode cX7_course 45 = .ok (.iconst 2, 1) := by decide +kernel
theorem dX7_course_46 : decode cX7_course 46 = .ok (.invokevirtual 109, 3) := by decide +kernel
theorem dX7_course_49 : decode cX7_course 49 = .ok (.ireturn, 1) := by decide +kernel
theorem dX7_course_50 : decode cX7_course 50 = .ok (.aload_n 0, 1) := by decide +kernel
theorem dX7_course_51 : decode cX7_course 51 = .ok (.aload_n 0, 1) := by decide +kernel
theorem dX7_course_52 : decode cX7_course 52 = .ok (.getfield 41, 3) := by decide +kernel
theorem dX7_course_55 : decode cX7_course 55 = .ok (.iload_n 1, 1) := by decide +kernel
theorem dX7_course_56 : decode cX7_course 56 = .ok (.aaload, 1) := by decide +kernel
theorem dX7_course_57 : decode cX7_course 57 = .ok (.iload_n 2, 1) := by decide +kernel
theorem dX7_course_58 : decode cX7_course 58 = .ok (.invokevirtual 171, 3) := by decide +kernel
theorem dX7_course_61 : decode cX7_course 61 = .ok (.putfield 88, 3) := by decide +kernel
theorem dX7_course_64 : decode cX7_course 64 = .ok (.aload_n 0, 1) := by decide +kernel
theorem dX7_course_65 : decode cX7_course 65 = .ok (.getfield 41, 3) := by decide +kernel
theorem dX7_course_68 : decode cX7_course 68 = .ok (.iload_n 1, 1) := by decide +kernel
theorem dX7_course_69 : decode cX7_course 69 = .ok (.aaload, 1) := by decide +kernel
theorem dX7_course_70 : decode cX7_course 70 = .ok (.getfield 174, 3) := by decide +kernel
theorem dX7_course_73 : decode cX7_course 73 = .ok (.iload_n 2, 1) := by decide +kernel
theorem dX7_course_74 : decode cX7_course 74 = .ok (.iaload, 1) := by decide +kernel
theorem dX7_course_75 : decode cX7_course 75 = .ok (.ireturn, 1) := by decide +kernel
theorem dX7_house_0 : decode cX7_house 0 = .ok (.iload_n 1, 1) := by decide +kernel
theorem dX7_house_1 : decode cX7_house 1 = .ok (.iconst 4, 1) := by decide +kernel
theorem dX7_house_2 : decode cX7_house 2 = .ok (.invokestatic 105, 3) := by decide +kernel
theorem dX7_house_5 : decode cX7_house 5 = .ok (.ifCond .eq 18, 3) := by decide +kernel
theorem dX7_house_8 : decode cX7_house 8 = .ok (.iload_n 2, 1) := by decide +kernel
theorem dX7_house_9 : decode cX7_house 9 = .ok (.iconst 4, 1) := by decide +kernel
theorem dX7_house_10 : decode cX7_house 10 = .ok (.invokestatic 105, 3) := by decide +kernel
theorem dX7_house_13 : decode cX7_house 13 = .ok (.ifCond .eq 10, 3) := by decide +kernel
theorem dX7_house_16 : decode cX7_house 16 = .ok (.iload_n 3, 1) := by decide +kernel
theorem dX7_house_17 : decode cX7_house 17 = .ok (.invokestatic 177, 3) := by decide +kernel
theorem dX7_house_20 : decode cX7_house 20 = .ok (.ifCond .ne 5, 3) := by decide +kernel
theorem dX7_house_23 : decode cX7_house 23 = .ok (.iconst (-1), 1) := by decide +kernel
theorem dX7_house_24 : decode cX7_house 24 = .ok (.ireturn, 1) := by decide +kernel
theorem dX7_house_25 : decode cX7_house 25 = .ok (.aload_n 0, 1) := by decide +kernel
theorem dX7_house_26 : decode cX7_house 26 = .ok (.getfield 34, 3) := by decide +kernel
theorem dX7_house_29 : decode cX7_house 29 = .ok (.iload_n 1, 1) := by decide +kernel
theorem dX7_house_30 : decode cX7_house 30 = .ok (.aaload, 1) := by decide +kernel
theorem dX7_house_31 : decode cX7_house 31 = .ok (.getfield 157, 3) := by decide +kernel
theorem dX7_house_34 : decode cX7_house 34 = .ok (.ifCond .eq 15, 3) := by decide +kernel
theorem dX7_house_37 : decode cX7_house 37 = .ok (.aload_n 0, 1) := by decide +kernel
theorem dX7_house_38 : decode cX7_house 38 = .ok (.getfield 41, 3) := by decide +kernel
theorem dX7_house_41 : decode cX7_house 41 = .ok (.iload_n 2, 1) := by decide +kernel
theorem dX7_house_42 : decode cX7_house 42 = .ok (.aaload, 1) := by decide +kernel
theorem dX7_house_43 : decode cX7_house 43 = .ok (.getfield 164, 3) := by decide +kernel
theorem dX7_house_46 : decode cX7_house 46 = .ok (.ifCond .ne 9, 3) := by decide +kernel
theorem dX7_house_49 : decode cX7_house 49 = .ok (.aload_n 0, 1) := by decide +kernel
theorem dX7_house_50 : decode cX7_house 50 = .ok (.iconst 1, 1) := by decide +kernel
theorem dX7_house_51 : decode cX7_house 51 = .ok (.invokevirtual 109, 3) := by decide +kernel
theorem dX7_house_54 : decode cX7_house 54 = .ok (.ireturn, 1) := by decide +kernel
theorem dX7_house_55 : decode cX7_house 55 = .ok (.aload_n 0, 1) := by decide +kernel
theorem dX7_house_56 : decode cX7_house 56 = .ok (.getfield 49, 3) := by decide +kernel
theorem dX7_house_59 : decode cX7_house 59 = .ok (.aload_n 0, 1) := by decide +kernel
theorem dX7_house_60 : decode cX7_house 60 = .ok (.getfield 34, 3) := by decide +kernel
theorem dX7_house_63 : decode cX7_house 63 = .ok (.iload_n 1, 1) := by decide +kernel
theorem dX7_house_64 : decode cX7_house 64 = .ok (.aaload, 1) := by decide +kernel
theorem dX7_house_65 : decode cX7_house 65 = .ok (.aload_n 0, 1) := by decide +kernel
theorem dX7_house_66 : decode cX7_house 66 = .ok (.getfield 41, 3) := by decide +kernel
theorem dX7_house_69 : decode cX7_house 69 = .ok (.iload_n 2, 1) := by decide +kernel
theorem dX7_house_70 : decode cX7_house 70 = .ok (.aaload, 1) := by decide +kernel
theorem dX7_house_71 : decode cX7_house 71 = .ok (.iload_n 3, 1) := by decide +kernel
theorem dX7_house_72 : decode cX7_house 72 = .ok (.invokevirtual 181, 3) := by decide +kernel
theorem dX7_house_75 : decode cX7_house 75 = .ok (.aload_n 0, 1) := by decide +kernel
theorem dX7_house_76 : decode cX7_house 76 = .ok (.getfield 49, 3) := by decide +kernel
theorem dX7_house_79 : decode cX7_house 79 = .ok (.getfield 185, 3) := by decide +kernel
theorem dX7_house_82 : decode cX7_house 82 = .ok (.getfield 154, 3) := by decide +kernel
theorem dX7_house_85 : decode cX7_house 85 = .ok (.ireturn, 1) := by decide +kernel
theorem dX7_go_0 : decode cX7_go 0 = .ok (.iload_n 1, 1) := by decide +kernel
theorem dX7_go_1 : decode cX7_go 1 = .ok (.bipush 60, 2) := by decide +kernel
theorem dX7_go_3 : decode cX7_go 3 = .ok (.invokestatic 186, 3) := by decide +kernel
theorem dX7_go_6 : decode cX7_go 6 = .ok (.ifCond .ne 5, 3) := by decide +kernel
theorem dX7_go_9 : decode cX7_go 9 = .ok (.iconst (-1), 1) := by decide +kernel
theorem dX7_go_10 : decode cX7_go 10 = .ok (.ireturn, 1) := by decide +kernel
theorem dX7_go_11 : decode cX7_go 11 = .ok (.aload_n 0, 1) := by decide +kernel
theorem dX7_go_12 : decode cX7_go 12 = .ok (.getfield 49, 3) := by decide +kernel
theorem dX7_go_15 : decode cX7_go 15 = .ok (.getfield 189, 3) := by decide +kernel
theorem dX7_go_18 : decode cX7_go 18 = .ok (.ifCond .ne 6, 3) := by decide +kernel
theorem dX7_go_21 : decode cX7_go 21 = .ok (.bipush (-4), 2) := by decide +kernel
theorem dX7_go_23 : decode cX7_go 23 = .ok (.ireturn, 1) := by decide +kernel
theorem dX7_go_24 : decode cX7_go 24 = .ok (.aload_n 0, 1) := by decide +kernel
theorem dX7_go_25 : decode cX7_go 25 = .ok (.getfield 49, 3) := by decide +kernel
theorem dX7_go_28 : decode cX7_go 28 = .ok (.getfield 190, 3) := by decide +kernel
theorem dX7_go_31 : decode cX7_go 31 = .ok (.iload_n 1, 1) := by decide +kernel
theorem dX7_go_32 : decode cX7_go 32 = .ok (.iadd, 1) := by decide +kernel
theorem dX7_go_33 : decode cX7_go 33 = .ok (.aload_n 0, 1) := by decide +kernel
theorem dX7_go_34 : decode cX7_go 34 = .ok (.getfield 49, 3) := by decide +kernel
theorem dX7_go_37 : decode cX7_go 37 = .ok (.getfield 185, 3) := by decide +kernel
theorem dX7_go_40 : decode cX7_go 40 = .ok (.getfield 154, 3) := by decide +kernel
theorem dX7_go_43 : decode cX7_go 43 = .ok (.if_icmp .le 6, 3) := by decide +kernel
theorem dX7_go_46 : decode cX7_go 46 = .ok (.bipush (-6), 2) := by decide +kernel
theorem dX7_go_48 : decode cX7_go 48 = .ok (.ireturn, 1) := by decide +kernel
theorem dX7_go_49 : decode cX7_go 49 = .ok (.iconst 0, 1) := by decide +kernel
theorem dX7_go_50 : decode cX7_go 50 = .ok (.istore_n 2, 1) := by decide +kernel
theorem dX7_go_51 : decode cX7_go 51 = .ok (.iload_n 2, 1) := by decide +kernel
theorem dX7_go_52 : decode cX7_go 52 = .ok (.iload_n 1, 1) := by decide +kernel
theorem dX7_go_53 : decode cX7_go 53 = .ok (.if_icmp .ge 16, 3) := by decide +kernel
theorem dX7_go_56 : decode cX7_go 56 = .ok (.aload_n 0, 1) := by decide +kernel
theorem dX7_go_57 : decode cX7_go 57 = .ok (.getfield 49, 3) := by decide +kernel
theorem dX7_go_60 : decode cX7_go 60 = .ok (.invokevirtual 193, 3) := by decide +kernel
theorem dX7_go_63 : decode cX7_go 63 = .ok (.iinc 2 1, 3) := by decide +kernel
theorem dX7_go_66 : decode cX7_go 66 = .ok (.goto (-15), 3) := by decide +kernel
theorem dX7_go_69 : decode cX7_go 69 = .ok (.aload_n 0, 1) := by decide +kernel
theorem dX7_go_70 : decode cX7_go 70 = .ok (.getfield 49, 3) := by decide +kernel
theorem dX7_go_73 : decode cX7_go 73 = .ok (.getfield 190, 3) := by decide +kernel
theorem dX7_go_76 : decode cX7_go 76 = .ok (.ireturn, 1) := by decide +kernel
theorem dX7_block_0 : decode cX7_block 0 = .ok (.aload_n 0, 1) := by decide +kernel
theorem dX7_block_1 : decode cX7_block 1 = .ok (.iload_n 1, 1) := by decide +kernel
theorem dX7_block_2 : decode cX7_block 2 = .ok (.invokevirtual 196, 3) := by decide +kernel
theorem dX7_block_5 : decode cX7_block 5 = .ok (.ifCond .eq 11, 3) := by decide +kernel
theorem dX7_block_8 : decode cX7_block 8 = .ok (.iload_n 2, 1) := by decide +kernel
theorem dX7_block_9 : decode cX7_block 9 = .ok (.iconst 5, 1) := by decide +kernel
theorem dX7_block_10 : decode cX7_block 10 = .ok (.invokestatic 105, 3) := by decide +kernel
theorem dX7_block_13 : decode cX7_block 13 = .ok (.ifCond .ne 5, 3) := by decide +kernel
theorem dX7_block_16 : decode cX7_block 16 = .ok (.iconst (-1), 1) := by decide +kernel
theorem dX7_block_17 : decode cX7_block 17 = .ok (.ireturn, 1) := by decide +kernel
theorem dX7_block_18 : decode cX7_block 18 = .ok (.aload_n 0, 1) := by decide +kernel
theorem dX7_block_19 : decode cX7_block 19 = .ok (.aload_n 0, 1) := by decide +kernel
theorem dX7_block_20 : decode cX7_block 20 = .ok (.getfield 49, 3) := by decide +kernel
theorem dX7_block_23 : decode cX7_block 23 = .ok (.iload_n 1, 1) := by decide +kernel
theorem dX7_block_24 : decode cX7_block 24 = .ok (.iload_n 2, 1) := by decide +kernel
theorem dX7_block_25 : decode cX7_block 25 = .ok (.invokevirtual 199, 3) := by decide +kernel
theorem dX7_block_28 : decode cX7_block 28 = .ok (.invokevirtual 113, 3) := by decide +kernel
theorem dX7_block_31 : decode cX7_block 31 = .ok (.ireturn, 1) := by decide +kernel
theorem dX7_pull_0 : decode cX7_pull 0 = .ok (.aload_n 0, 1) := by decide +kernel
theorem dX7_pull_1 : decode cX7_pull 1 = .ok (.iload_n 1, 1) := by decide +kernel
theorem dX7_pull_2 : decode cX7_pull 2 = .ok (.invokevirtual 196, 3) := by decide +kernel
theorem dX7_pull_5 : decode cX7_pull 5 = .ok (.ifCond .ne 5, 3) := by decide +kernel
theorem dX7_pull_8 : decode cX7_pull 8 = .ok (.iconst (-1), 1) := by decide +kernel
theorem dX7_pull_9 : decode cX7_pull 9 = .ok (.ireturn, 1) := by decide +kernel
theorem dX7_pull_10 : decode cX7_pull 10 = .ok (.aload_n 0, 1) := by decide +kernel
theorem dX7_pull_11 : decode cX7_pull 11 = .ok (.aload_n 0, 1) := by decide +kernel
theorem dX7_pull_12 : decode cX7_pull 12 = .ok (.getfield 49, 3) := by decide +kernel
theorem dX7_pull_15 : decode cX7_pull 15 = .ok (.iload_n 1, 1) := by decide +kernel
theorem dX7_pull_16 : decode cX7_pull 16 = .ok (.invokevirtual 202, 3) := by decide +kernel
theorem dX7_pull_19 : decode cX7_pull 19 = .ok (.putfield 88, 3) := by decide +kernel
theorem dX7_pull_22 : decode cX7_pull 22 = .ok (.aload_n 0, 1) := by decide +kernel
theorem dX7_pull_23 : decode cX7_pull 23 = .ok (.getfield 49, 3) := by decide +kernel
theorem dX7_pull_26 : decode cX7_pull 26 = .ok (.iload_n 1, 1) := by decide +kernel
theorem dX7_pull_27 : decode cX7_pull 27 = .ok (.invokevirtual 205, 3) := by decide +kernel
theorem dX7_pull_30 : decode cX7_pull 30 = .ok (.ireturn, 1) := by decide +kernel
theorem dX7_mark_0 : decode cX7_mark 0 = .ok (.aload_n 0, 1) := by decide +kernel
theorem dX7_mark_1 : decode cX7_mark 1 = .ok (.iload_n 1, 1) := by decide +kernel
theorem dX7_mark_2 : decode cX7_mark 2 = .ok (.invokevirtual 196, 3) := by decide +kernel
theorem dX7_mark_5 : decode cX7_mark 5 = .ok (.ifCond .eq 14, 3) := by decide +kernel
theorem dX7_mark_8 : decode cX7_mark 8 = .ok (.iload_n 2, 1) := by decide +kernel
theorem dX7_mark_9 : decode cX7_mark 9 = .ok (.iconst 1, 1) := by decide +kernel
theorem dX7_mark_10 : decode cX7_mark 10 = .ok (.if_icmp .lt 9, 3) := by decide +kernel
theorem dX7_mark_13 : decode cX7_mark 13 = .ok (.iload_n 2, 1) := by decide +kernel
theorem dX7_mark_14 : decode cX7_mark 14 = .ok (.bipush 6, 2) := by decide +kernel
theorem dX7_mark_16 : decode cX7_mark 16 = .ok (.if_icmp .le 5, 3) := by decide +kernel
theorem dX7_mark_19 : decode cX7_mark 19 = .ok (.iconst (-1), 1) := by decide +kernel
theorem dX7_mark_20 : decode cX7_mark 20 = .ok (.ireturn, 1) := by decide +kernel
theorem dX7_mark_21 : decode cX7_mark 21 = .ok (.aload_n 0, 1) := by decide +kernel
theorem dX7_mark_22 : decode cX7_mark 22 = .ok (.getfield 49, 3) := by decide +kernel
theorem dX7_mark_25 : decode cX7_mark 25 = .ok (.iload_n 1, 1) := by decide +kernel
theorem dX7_mark_26 : decode cX7_mark 26 = .ok (.iload_n 2, 1) := by decide +kernel
theorem dX7_mark_27 : decode cX7_mark 27 = .ok (.invokevirtual 208, 3) := by decide +kernel
theorem dX7_mark_30 : decode cX7_mark 30 = .ok (.ifCond .ne 9, 3) := by decide +kernel
theorem dX7_mark_33 : decode cX7_mark 33 = .ok (.aload_n 0, 1) := by decide +kernel
theorem dX7_mark_34 : decode cX7_mark 34 = .ok (.iconst 3, 1) := by decide +kernel
theorem dX7_mark_35 : decode cX7_mark 35 = .ok (.invokevirtual 109, 3) := by decide +kernel
theorem dX7_mark_38 : decode cX7_mark 38 = .ok (.ireturn, 1) := by decide +kernel
theorem dX7_mark_39 : decode cX7_mark 39 = .ok (.aload_n 0, 1) := by decide +kernel
theorem dX7_mark_40 : decode cX7_mark 40 = .ok (.getfield 49, 3) := by decide +kernel
theorem dX7_mark_43 : decode cX7_mark 43 = .ok (.iload_n 1, 1) := by decide +kernel
theorem dX7_mark_44 : decode cX7_mark 44 = .ok (.iload_n 2, 1) := by decide +kernel
theorem dX7_mark_45 : decode cX7_mark 45 = .ok (.invokevirtual 211, 3) := by decide +kernel
theorem dX7_mark_48 : decode cX7_mark 48 = .ok (.ireturn, 1) := by decide +kernel
theorem dX7_door_0 : decode cX7_door 0 = .ok (.iload_n 1, 1) := by decide +kernel
theorem dX7_door_1 : decode cX7_door 1 = .ok (.bipush 12, 2) := by decide +kernel
theorem dX7_door_3 : decode cX7_door 3 = .ok (.invokestatic 105, 3) := by decide +kernel
theorem dX7_door_6 : decode cX7_door 6 = .ok (.ifCond .ne 5, 3) := by decide +kernel
theorem dX7_door_9 : decode cX7_door 9 = .ok (.iconst (-1), 1) := by decide +kernel
theorem dX7_door_10 : decode cX7_door 10 = .ok (.ireturn, 1) := by decide +kernel
theorem dX7_door_11 : decode cX7_door 11 = .ok (.aload_n 0, 1) := by decide +kernel
theorem dX7_door_12 : decode cX7_door 12 = .ok (.getfield 49, 3) := by decide +kernel
theorem dX7_door_15 : decode cX7_door 15 = .ok (.getfield 189, 3) := by decide +kernel
theorem dX7_door_18 : decode cX7_door 18 = .ok (.ifCond .eq 33, 3) := by decide +kernel
theorem dX7_door_21 : decode cX7_door 21 = .ok (.aload_n 0, 1) := by decide +kernel
theorem dX7_door_22 : decode cX7_door 22 = .ok (.getfield 49, 3) := by decide +kernel
theorem dX7_door_25 : decode cX7_door 25 = .ok (.getfield 190, 3) := by decide +kernel
theorem dX7_door_28 : decode cX7_door 28 = .ok (.aload_n 0, 1) := by decide +kernel
theorem dX7_door_29 : decode cX7_door 29 = .ok (.getfield 49, 3) := by decide +kernel
theorem dX7_door_32 : decode cX7_door 32 = .ok (.getfield 185, 3) := by decide +kernel
theorem dX7_door_35 : decode cX7_door 35 = .ok (.getfield 154, 3) := by decide +kernel
theorem dX7_door_38 : decode cX7_door 38 = .ok (.if_icmp .lt 13, 3) := by decide +kernel
theorem dX7_door_41 : decode cX7_door 41 = .ok (.aload_n 0, 1) := by decide +kernel
theorem dX7_door_42 : decode cX7_door 42 = .ok (.getfield 49, 3) := by decide +kernel
theorem dX7_door_45 : decode cX7_door 45 = .ok (.getfield 214, 3) := by decide +kernel
theorem dX7_door_48 : decode cX7_door 48 = .ok (.ifCond .lt 6, 3) := by decide +kernel
theorem dX7_door_51 : decode cX7_door 51 = .ok (.bipush (-4), 2) := by decide +kernel
theorem dX7_door_53 : decode cX7_door 53 = .ok (.ireturn, 1) := by decide +kernel
theorem dX7_door_54 : decode cX7_door 54 = .ok (.iload_n 1, 1) := by decide +kernel
theorem dX7_door_55 : decode cX7_door 55 = .ok (.aload_n 0, 1) := by decide +kernel
theorem dX7_door_56 : decode cX7_door 56 = .ok (.getfield 49, 3) := by decide +kernel
theorem dX7_door_59 : decode cX7_door 59 = .ok (.getfield 185, 3) := by decide +kernel
theorem dX7_door_62 : decode cX7_door 62 = .ok (.getfield 217, 3) := by decide +kernel
theorem dX7_door_65 : decode cX7_door 65 = .ok (.iconst 0, 1) := by decide +kernel
theorem dX7_door_66 : decode cX7_door 66 = .ok (.iaload, 1) := by decide +kernel
theorem dX7_door_67 : decode cX7_door 67 = .ok (.if_icmp .lt 5, 3) := by decide +kernel
theorem dX7_door_70 : decode cX7_door 70 = .ok (.iconst (-1), 1) := by decide +kernel
theorem dX7_door_71 : decode cX7_door 71 = .ok (.ireturn, 1) := by decide +kernel
theorem dX7_door_72 : decode cX7_door 72 = .ok (.aload_n 0, 1) := by decide +kernel
theorem dX7_door_73 : decode cX7_door 73 = .ok (.getfield 49, 3) := by decide +kernel
theorem dX7_door_76 : decode cX7_door 76 = .ok (.getfield 220, 3) := by decide +kernel
theorem dX7_door_79 : decode cX7_door 79 = .ok (.iload_n 1, 1) := by decide +kernel
theorem dX7_door_80 : decode cX7_door 80 = .ok (.iaload, 1) := by decide +kernel
theorem dX7_door_81 : decode cX7_door 81 = .ok (.iconst 2, 1) := by decide +kernel
theorem dX7_door_82 : decode cX7_door 82 = .ok (.if_icmp .ne 9, 3) := by decide +kernel
theorem dX7_door_85 : decode cX7_door 85 = .ok (.aload_n 0, 1) := by decide +kernel
theorem dX7_door_86 : decode cX7_door 86 = .ok (.iconst 3, 1) := by decide +kernel
theorem dX7_door_87 : decode cX7_door 87 = .ok (.invokevirtual 109, 3) := by decide +kernel
theorem dX7_door_90 : decode cX7_door 90 = .ok (.ireturn, 1) := by decide +kernel
theorem dX7_door_91 : decode cX7_door 91 = .ok (.aload_n 0, 1) := by decide +kernel
theorem dX7_door_92 : decode cX7_door 92 = .ok (.getfield 49, 3) := by decide +kernel
theorem dX7_door_95 : decode cX7_door 95 = .ok (.iload_n 1, 1) := by decide +kernel
theorem dX7_door_96 : decode cX7_door 96 = .ok (.invokevirtual 223, 3) := by decide +kernel
theorem dX7_door_99 : decode cX7_door 99 = .ok (.aload_n 0, 1) := by decide +kernel
theorem dX7_door_100 : decode cX7_door 100 = .ok (.getfield 49, 3) := by decide +kernel
theorem dX7_door_103 : decode cX7_door 103 = .ok (.getfield 227, 3) := by decide +kernel
theorem dX7_door_106 : decode cX7_door 106 = .ok (.ireturn, 1) := by decide +kernel
theorem dX7_keep_0 : decode cX7_keep 0 = .ok (.iload_n 1, 1) := by decide +kernel
theorem dX7_keep_1 : decode cX7_keep 1 = .ok (.iconst 3, 1) := by decide +kernel
theorem dX7_keep_2 : decode cX7_keep 2 = .ok (.invokestatic 105, 3) := by decide +kernel
theorem dX7_keep_5 : decode cX7_keep 5 = .ok (.ifCond .ne 5, 3) := by decide +kernel
theorem dX7_keep_8 : decode cX7_keep 8 = .ok (.iconst (-1), 1) := by decide +kernel
theorem dX7_keep_9 : decode cX7_keep 9 = .ok (.ireturn, 1) := by decide +kernel
theorem dX7_keep_10 : decode cX7_keep 10 = .ok (.aload_n 0, 1) := by decide +kernel
theorem dX7_keep_11 : decode cX7_keep 11 = .ok (.getfield 49, 3) := by decide +kernel
theorem dX7_keep_14 : decode cX7_keep 14 = .ok (.getfield 189, 3) := by decide +kernel
theorem dX7_keep_17 : decode cX7_keep 17 = .ok (.ifCond .ne 6, 3) := by decide +kernel
theorem dX7_keep_20 : decode cX7_keep 20 = .ok (.bipush (-4), 2) := by decide +kernel
theorem dX7_keep_22 : decode cX7_keep 22 = .ok (.ireturn, 1) := by decide +kernel
theorem dX7_keep_23 : decode cX7_keep 23 = .ok (.aload_n 0, 1) := by decide +kernel
theorem dX7_keep_24 : decode cX7_keep 24 = .ok (.getfield 53, 3) := by decide +kernel
theorem dX7_keep_27 : decode cX7_keep 27 = .ok (.iload_n 1, 1) := by decide +kernel
theorem dX7_keep_28 : decode cX7_keep 28 = .ok (.aaload, 1) := by decide +kernel
theorem dX7_keep_29 : decode cX7_keep 29 = .ok (.aload_n 0, 1) := by decide +kernel
theorem dX7_keep_30 : decode cX7_keep 30 = .ok (.getfield 49, 3) := by decide +kernel
theorem dX7_keep_33 : decode cX7_keep 33 = .ok (.invokevirtual 230, 3) := by decide +kernel
theorem dX7_keep_36 : decode cX7_keep 36 = .ok (.aload_n 0, 1) := by decide +kernel
theorem dX7_keep_37 : decode cX7_keep 37 = .ok (.getfield 49, 3) := by decide +kernel
theorem dX7_keep_40 : decode cX7_keep 40 = .ok (.getfield 190, 3) := by decide +kernel
theorem dX7_keep_43 : decode cX7_keep 43 = .ok (.ireturn, 1) := by decide +kernel
theorem dX7_on_0 : decode cX7_on 0 = .ok (.iload_n 1, 1) := by decide +kernel
theorem dX7_on_1 : decode cX7_on 1 = .ok (.iconst 3, 1) := by decide +kernel
theorem dX7_on_2 : decode cX7_on 2 = .ok (.invokestatic 105, 3) := by decide +kernel
theorem dX7_on_5 : decode cX7_on 5 = .ok (.ifCond .ne 5, 3) := by decide +kernel
theorem dX7_on_8 : decode cX7_on 8 = .ok (.iconst (-1), 1) := by decide +kernel
theorem dX7_on_9 : decode cX7_on 9 = .ok (.ireturn, 1) := by decide +kernel
theorem dX7_on_10 : decode cX7_on 10 = .ok (.aload_n 0, 1) := by decide +kernel
theorem dX7_on_11 : decode cX7_on 11 = .ok (.getfield 53, 3) := by decide +kernel
theorem dX7_on_14 : decode cX7_on 14 = .ok (.iload_n 1, 1) := by decide +kernel
theorem dX7_on_15 : decode cX7_on 15 = .ok (.aaload, 1) := by decide +kernel
theorem dX7_on_16 : decode cX7_on 16 = .ok (.getfield 189, 3) := by decide +kernel
theorem dX7_on_19 : decode cX7_on 19 = .ok (.ifCond .ne 9, 3) := by decide +kernel
theorem dX7_on_22 : decode cX7_on 22 = .ok (.aload_n 0, 1) := by decide +kernel
theorem dX7_on_23 : decode cX7_on 23 = .ok (.iconst 1, 1) := by decide +kernel
theorem dX7_on_24 : decode cX7_on 24 = .ok (.invokevirtual 109, 3) := by decide +kernel
theorem dX7_on_27 : decode cX7_on 27 = .ok (.ireturn, 1) := by decide +kernel
theorem dX7_on_28 : decode cX7_on 28 = .ok (.aload_n 0, 1) := by decide +kernel
theorem dX7_on_29 : decode cX7_on 29 = .ok (.getfield 49, 3) := by decide +kernel
theorem dX7_on_32 : decode cX7_on 32 = .ok (.aload_n 0, 1) := by decide +kernel
theorem dX7_on_33 : decode cX7_on 33 = .ok (.getfield 53, 3) := by decide +kernel
theorem dX7_on_36 : decode cX7_on 36 = .ok (.iload_n 1, 1) := by decide +kernel
theorem dX7_on_37 : decode cX7_on 37 = .ok (.aaload, 1) := by decide +kernel
theorem dX7_on_38 : decode cX7_on 38 = .ok (.invokevirtual 230, 3) := by decide +kernel
theorem dX7_on_41 : decode cX7_on 41 = .ok (.aload_n 0, 1) := by decide +kernel
theorem dX7_on_42 : decode cX7_on 42 = .ok (.getfield 49, 3) := by decide +kernel
theorem dX7_on_45 : decode cX7_on 45 = .ok (.getfield 190, 3) := by decide +kernel
theorem dX7_on_48 : decode cX7_on 48 = .ok (.ireturn, 1) := by decide +kernel
theorem dX7_slumped_0 : decode cX7_slumped 0 = .ok (.aload_n 0, 1) := by decide +kernel
theorem dX7_slumped_1 : decode cX7_slumped 1 = .ok (.getfield 49, 3) := by decide +kernel
theorem dX7_slumped_4 : decode cX7_slumped 4 = .ok (.getfield 189, 3) := by decide +kernel
theorem dX7_slumped_7 : decode cX7_slumped 7 = .ok (.ifCond .ne 6, 3) := by decide +kernel
theorem dX7_slumped_10 : decode cX7_slumped 10 = .ok (.bipush (-4), 2) := by decide +kernel
theorem dX7_slumped_12 : decode cX7_slumped 12 = .ok (.ireturn, 1) := by decide +kernel
theorem dX7_slumped_13 : decode cX7_slumped 13 = .ok (.aload_n 0, 1) := by decide +kernel
theorem dX7_slumped_14 : decode cX7_slumped 14 = .ok (.aload_n 0, 1) := by decide +kernel
theorem dX7_slumped_15 : decode cX7_slumped 15 = .ok (.getfield 49, 3) := by decide +kernel
theorem dX7_slumped_18 : decode cX7_slumped 18 = .ok (.invokevirtual 233, 3) := by decide +kernel
theorem dX7_slumped_21 : decode cX7_slumped 21 = .ok (.putfield 88, 3) := by decide +kernel
theorem dX7_slumped_24 : decode cX7_slumped 24 = .ok (.aload_n 0, 1) := by decide +kernel
theorem dX7_slumped_25 : decode cX7_slumped 25 = .ok (.getfield 49, 3) := by decide +kernel
theorem dX7_slumped_28 : decode cX7_slumped 28 = .ok (.getfield 227, 3) := by decide +kernel
theorem dX7_slumped_31 : decode cX7_slumped 31 = .ok (.ireturn, 1) := by decide +kernel
theorem dX7_falls_0 : decode cX7_falls 0 = .ok (.aload_n 0, 1) := by decide +kernel
theorem dX7_falls_1 : decode cX7_falls 1 = .ok (.getfield 49, 3) := by decide +kernel
theorem dX7_falls_4 : decode cX7_falls 4 = .ok (.getfield 189, 3) := by decide +kernel
theorem dX7_falls_7 : decode cX7_falls 7 = .ok (.ifCond .ne 6, 3) := by decide +kernel
theorem dX7_falls_10 : decode cX7_falls 10 = .ok (.bipush (-4), 2) := by decide +kernel
theorem dX7_falls_12 : decode cX7_falls 12 = .ok (.ireturn, 1) := by decide +kernel
theorem dX7_falls_13 : decode cX7_falls 13 = .ok (.aload_n 0, 1) := by decide +kernel
theorem dX7_falls_14 : decode cX7_falls 14 = .ok (.getfield 57, 3) := by decide +kernel
theorem dX7_falls_17 : decode cX7_falls 17 = .ok (.aload_n 0, 1) := by decide +kernel
theorem dX7_falls_18 : decode cX7_falls 18 = .ok (.getfield 49, 3) := by decide +kernel
theorem dX7_falls_21 : decode cX7_falls 21 = .ok (.invokevirtual 230, 3) := by decide +kernel
theorem dX7_falls_24 : decode cX7_falls 24 = .ok (.aload_n 0, 1) := by decide +kernel
theorem dX7_falls_25 : decode cX7_falls 25 = .ok (.getfield 57, 3) := by decide +kernel
theorem dX7_falls_28 : decode cX7_falls 28 = .ok (.iconst 0, 1) := by decide +kernel
theorem dX7_falls_29 : decode cX7_falls 29 = .ok (.invokevirtual 237, 3) := by decide +kernel
theorem dX7_falls_32 : decode cX7_falls 32 = .ok (.ifCond .ne 6, 3) := by decide +kernel
theorem dX7_falls_35 : decode cX7_falls 35 = .ok (.bipush (-9), 2) := by decide +kernel
theorem dX7_falls_37 : decode cX7_falls 37 = .ok (.ireturn, 1) := by decide +kernel
theorem dX7_falls_38 : decode cX7_falls 38 = .ok (.aload_n 0, 1) := by decide +kernel
theorem dX7_falls_39 : decode cX7_falls 39 = .ok (.aload_n 0, 1) := by decide +kernel
theorem dX7_falls_40 : decode cX7_falls 40 = .ok (.getfield 57, 3) := by decide +kernel
theorem dX7_falls_43 : decode cX7_falls 43 = .ok (.invokevirtual 233, 3) := by decide +kernel
theorem dX7_falls_46 : decode cX7_falls 46 = .ok (.putfield 88, 3) := by decide +kernel
theorem dX7_falls_49 : decode cX7_falls 49 = .ok (.aload_n 0, 1) := by decide +kernel
theorem dX7_falls_50 : decode cX7_falls 50 = .ok (.getfield 57, 3) := by decide +kernel
theorem dX7_falls_53 : decode cX7_falls 53 = .ok (.getfield 190, 3) := by decide +kernel
theorem dX7_falls_56 : decode cX7_falls 56 = .ok (.iconst 1, 1) := by decide +kernel
theorem dX7_falls_57 : decode cX7_falls 57 = .ok (.isub, 1) := by decide +kernel
theorem dX7_falls_58 : decode cX7_falls 58 = .ok (.ireturn, 1) := by decide +kernel
theorem dX7_pace_0 : decode cX7_pace 0 = .ok (.iload_n 1, 1) := by decide +kernel
theorem dX7_pace_1 : decode cX7_pace 1 = .ok (.iconst 1, 1) := by decide +kernel
theorem dX7_pace_2 : decode cX7_pace 2 = .ok (.if_icmp .lt 9, 3) := by decide +kernel
theorem dX7_pace_5 : decode cX7_pace 5 = .ok (.iload_n 1, 1) := by decide +kernel
theorem dX7_pace_6 : decode cX7_pace 6 = .ok (.bipush 9, 2) := by decide +kernel
theorem dX7_pace_8 : decode cX7_pace 8 = .ok (.if_icmp .le 5, 3) := by decide +kernel
theorem dX7_pace_11 : decode cX7_pace 11 = .ok (.iconst (-1), 1) := by decide +kernel
theorem dX7_pace_12 : decode cX7_pace 12 = .ok (.ireturn, 1) := by decide +kernel
theorem dX7_pace_13 : decode cX7_pace 13 = .ok (.aload_n 0, 1) := by decide +kernel
theorem dX7_pace_14 : decode cX7_pace 14 = .ok (.getfield 49, 3) := by decide +kernel
theorem dX7_pace_17 : decode cX7_pace 17 = .ok (.getfield 189, 3) := by decide +kernel
theorem dX7_pace_20 : decode cX7_pace 20 = .ok (.ifCond .ne 6, 3) := by decide +kernel
theorem dX7_pace_23 : decode cX7_pace 23 = .ok (.bipush (-4), 2) := by decide +kernel
theorem dX7_pace_25 : decode cX7_pace 25 = .ok (.ireturn, 1) := by decide +kernel
theorem dX7_pace_26 : decode cX7_pace 26 = .ok (.aload_n 0, 1) := by decide +kernel
theorem dX7_pace_27 : decode cX7_pace 27 = .ok (.getfield 57, 3) := by decide +kernel
theorem dX7_pace_30 : decode cX7_pace 30 = .ok (.aload_n 0, 1) := by decide +kernel
theorem dX7_pace_31 : decode cX7_pace 31 = .ok (.getfield 49, 3) := by decide +kernel
theorem dX7_pace_34 : decode cX7_pace 34 = .ok (.invokevirtual 230, 3) := by decide +kernel
theorem dX7_pace_37 : decode cX7_pace 37 = .ok (.aload_n 0, 1) := by decide +kernel
theorem dX7_pace_38 : decode cX7_pace 38 = .ok (.getfield 57, 3) := by decide +kernel
theorem dX7_pace_41 : decode cX7_pace 41 = .ok (.getfield 185, 3) := by decide +kernel
theorem dX7_pace_44 : decode cX7_pace 44 = .ok (.iload_n 1, 1) := by decide +kernel
theorem dX7_pace_45 : decode cX7_pace 45 = .ok (.putfield 240, 3) := by decide +kernel
theorem dX7_pace_48 : decode cX7_pace 48 = .ok (.aload_n 0, 1) := by decide +kernel
theorem dX7_pace_49 : decode cX7_pace 49 = .ok (.getfield 57, 3) := by decide +kernel
theorem dX7_pace_52 : decode cX7_pace 52 = .ok (.bipush 60, 2) := by decide +kernel
theorem dX7_pace_54 : decode cX7_pace 54 = .ok (.invokevirtual 237, 3) := by decide +kernel
theorem dX7_pace_57 : decode cX7_pace 57 = .ok (.ireturn, 1) := by decide +kernel
theorem dX7_lean_0 : decode cX7_lean 0 = .ok (.iload_n 1, 1) := by decide +kernel
theorem dX7_lean_1 : decode cX7_lean 1 = .ok (.bipush 8, 2) := by decide +kernel
theorem dX7_lean_3 : decode cX7_lean 3 = .ok (.invokestatic 105, 3) := by decide +kernel
theorem dX7_lean_6 : decode cX7_lean 6 = .ok (.ifCond .ne 5, 3) := by decide +kernel
theorem dX7_lean_9 : decode cX7_lean 9 = .ok (.iconst (-1), 1) := by decide +kernel
theorem dX7_lean_10 : decode cX7_lean 10 = .ok (.ireturn, 1) := by decide +kernel
theorem dX7_lean_11 : decode cX7_lean 11 = .ok (.aload_n 0, 1) := by decide +kernel
theorem dX7_lean_12 : decode cX7_lean 12 = .ok (.getfield 49, 3) := by decide +kernel
theorem dX7_lean_15 : decode cX7_lean 15 = .ok (.getfield 189, 3) := by decide +kernel
theorem dX7_lean_18 : decode cX7_lean 18 = .ok (.ifCond .ne 6, 3) := by decide +kernel
theorem dX7_lean_21 : decode cX7_lean 21 = .ok (.bipush (-4), 2) := by decide +kernel
theorem dX7_lean_23 : decode cX7_lean 23 = .ok (.ireturn, 1) := by decide +kernel
theorem dX7_lean_24 : decode cX7_lean 24 = .ok (.iload_n 1, 1) := by decide +kernel
theorem dX7_lean_25 : decode cX7_lean 25 = .ok (.aload_n 0, 1) := by decide +kernel
theorem dX7_lean_26 : decode cX7_lean 26 = .ok (.getfield 49, 3) := by decide +kernel
theorem dX7_lean_29 : decode cX7_lean 29 = .ok (.getfield 185, 3) := by decide +kernel
theorem dX7_lean_32 : decode cX7_lean 32 = .ok (.getfield 168, 3) := by decide +kernel
theorem dX7_lean_35 : decode cX7_lean 35 = .ok (.if_icmp .lt 9, 3) := by decide +kernel
theorem dX7_lean_38 : decode cX7_lean 38 = .ok (.aload_n 0, 1) := by decide +kernel
theorem dX7_lean_39 : decode cX7_lean 39 = .ok (.iconst 2, 1) := by decide +kernel
theorem dX7_lean_40 : decode cX7_lean 40 = .ok (.invokevirtual 109, 3) := by decide +kernel
theorem dX7_lean_43 : decode cX7_lean 43 = .ok (.ireturn, 1) := by decide +kernel
theorem dX7_lean_44 : decode cX7_lean 44 = .ok (.aload_n 0, 1) := by decide +kernel
theorem dX7_lean_45 : decode cX7_lean 45 = .ok (.getfield 57, 3) := by decide +kernel
theorem dX7_lean_48 : decode cX7_lean 48 = .ok (.aload_n 0, 1) := by decide +kernel
theorem dX7_lean_49 : decode cX7_lean 49 = .ok (.getfield 49, 3) := by decide +kernel
theorem dX7_lean_52 : decode cX7_lean 52 = .ok (.invokevirtual 230, 3) := by decide +kernel
theorem dX7_lean_55 : decode cX7_lean 55 = .ok (.bipush 9, 2) := by decide +kernel
theorem dX7_lean_57 : decode cX7_lean 57 = .ok (.istore_n 2, 1) := by decide +kernel
theorem dX7_lean_58 : decode cX7_lean 58 = .ok (.iload_n 2, 1) := by decide +kernel
theorem dX7_lean_59 : decode cX7_lean 59 = .ok (.ifCond .lt 35, 3) := by decide +kernel
theorem dX7_lean_62 : decode cX7_lean 62 = .ok (.aload_n 0, 1) := by decide +kernel
theorem dX7_lean_63 : decode cX7_lean 63 = .ok (.getfield 57, 3) := by decide +kernel
theorem dX7_lean_66 : decode cX7_lean 66 = .ok (.getfield 185, 3) := by decide +kernel
theorem dX7_lean_69 : decode cX7_lean 69 = .ok (.getfield 243, 3) := by decide +kernel
theorem dX7_lean_72 : decode cX7_lean 72 = .ok (.iload_n 1, 1) := by decide +kernel
theorem dX7_lean_73 : decode cX7_lean 73 = .ok (.iload_n 2, 1) := by decide +kernel
theorem dX7_lean_74 : decode cX7_lean 74 = .ok (.iastore, 1) := by decide +kernel
theorem dX7_lean_75 : decode cX7_lean 75 = .ok (.aload_n 0, 1) := by decide +kernel
theorem dX7_lean_76 : decode cX7_lean 76 = .ok (.getfield 57, 3) := by decide +kernel
theorem dX7_lean_79 : decode cX7_lean 79 = .ok (.iconst 0, 1) := by decide +kernel
theorem dX7_lean_80 : decode cX7_lean 80 = .ok (.invokevirtual 237, 3) := by decide +kernel
theorem dX7_lean_83 : decode cX7_lean 83 = .ok (.ifCond .ne 5, 3) := by decide +kernel
theorem dX7_lean_86 : decode cX7_lean 86 = .ok (.iload_n 2, 1) := by decide +kernel
theorem dX7_lean_87 : decode cX7_lean 87 = .ok (.ireturn, 1) := by decide +kernel
theorem dX7_lean_88 : decode cX7_lean 88 = .ok (.iinc 2 (-1), 3) := by decide +kernel
theorem dX7_lean_91 : decode cX7_lean 91 = .ok (.goto (-33), 3) := by decide +kernel
theorem dX7_lean_94 : decode cX7_lean 94 = .ok (.bipush (-9), 2) := by decide +kernel
theorem dX7_lean_96 : decode cX7_lean 96 = .ok (.ireturn, 1) := by decide +kernel
theorem dX7_slow_0 : decode cX7_slow 0 = .ok (.aload_n 0, 1) := by decide +kernel
theorem dX7_slow_1 : decode cX7_slow 1 = .ok (.getfield 49, 3) := by decide +kernel
theorem dX7_slow_4 : decode cX7_slow 4 = .ok (.getfield 189, 3) := by decide +kernel
theorem dX7_slow_7 : decode cX7_slow 7 = .ok (.ifCond .ne 6, 3) := by decide +kernel
theorem dX7_slow_10 : decode cX7_slow 10 = .ok (.bipush (-4), 2) := by decide +kernel
theorem dX7_slow_12 : decode cX7_slow 12 = .ok (.ireturn, 1) := by decide +kernel
theorem dX7_slow_13 : decode cX7_slow 13 = .ok (.aload_n 0, 1) := by decide +kernel
theorem dX7_slow_14 : decode cX7_slow 14 = .ok (.invokevirtual 246, 3) := by decide +kernel
theorem dX7_slow_17 : decode cX7_slow 17 = .ok (.istore_n 1, 1) := by decide +kernel
theorem dX7_slow_18 : decode cX7_slow 18 = .ok (.iload_n 1, 1) := by decide +kernel
theorem dX7_slow_19 : decode cX7_slow 19 = .ok (.bipush (-9), 2) := by decide +kernel
theorem dX7_slow_21 : decode cX7_slow 21 = .ok (.if_icmp .eq 11, 3) := by decide +kernel
theorem dX7_slow_24 : decode cX7_slow 24 = .ok (.aload_n 0, 1) := by decide +kernel
theorem dX7_slow_25 : decode cX7_slow 25 = .ok (.aload_n 0, 1) := by decide +kernel
theorem dX7_slow_26 : decode cX7_slow 26 = .ok (.invokevirtual 249, 3) := by decide +kernel
theorem dX7_slow_29 : decode cX7_slow 29 = .ok (.putfield 88, 3) := by decide +kernel
theorem dX7_slow_32 : decode cX7_slow 32 = .ok (.iload_n 1, 1) := by decide +kernel
theorem dX7_slow_33 : decode cX7_slow 33 = .ok (.ireturn, 1) := by decide +kernel
theorem dX7_spiral_0 : decode cX7_spiral 0 = .ok (.aload_n 0, 1) := by decide +kernel
theorem dX7_spiral_1 : decode cX7_spiral 1 = .ok (.getfield 49, 3) := by decide +kernel
theorem dX7_spiral_4 : decode cX7_spiral 4 = .ok (.getfield 189, 3) := by decide +kernel
theorem dX7_spiral_7 : decode cX7_spiral 7 = .ok (.ifCond .ne 6, 3) := by decide +kernel
theorem dX7_spiral_10 : decode cX7_spiral 10 = .ok (.bipush (-4), 2) := by decide +kernel
theorem dX7_spiral_12 : decode cX7_spiral 12 = .ok (.ireturn, 1) := by decide +kernel
theorem dX7_spiral_13 : decode cX7_spiral 13 = .ok (.aload_n 0, 1) := by decide +kernel
theorem dX7_spiral_14 : decode cX7_spiral 14 = .ok (.getfield 57, 3) := by decide +kernel
theorem dX7_spiral_17 : decode cX7_spiral 17 = .ok (.aload_n 0, 1) := by decide +kernel
theorem dX7_spiral_18 : decode cX7_spiral 18 = .ok (.getfield 49, 3) := by decide +kernel
theorem dX7_spiral_21 : decode cX7_spiral 21 = .ok (.invokevirtual 230, 3) := by decide +kernel
theorem dX7_spiral_24 : decode cX7_spiral 24 = .ok (.iconst 0, 1) := by decide +kernel
theorem dX7_spiral_25 : decode cX7_spiral 25 = .ok (.istore_n 1, 1) := by decide +kernel
theorem dX7_spiral_26 : decode cX7_spiral 26 = .ok (.bipush 61, 2) := by decide +kernel
theorem dX7_spiral_28 : decode cX7_spiral 28 = .ok (.istore_n 2, 1) := by decide +kernel
theorem dX7_spiral_29 : decode cX7_spiral 29 = .ok (.iconst 1, 1) := by decide +kernel
theorem dX7_spiral_30 : decode cX7_spiral 30 = .ok (.aload_n 0, 1) := by decide +kernel
theorem dX7_spiral_31 : decode cX7_spiral 31 = .ok (.getfield 49, 3) := by decide +kernel
theorem dX7_spiral_34 : decode cX7_spiral 34 = .ok (.getfield 185, 3) := by decide +kernel
theorem dX7_spiral_37 : decode cX7_spiral 37 = .ok (.getfield 168, 3) := by decide +kernel
theorem dX7_spiral_40 : decode cX7_spiral 40 = .ok (.ishl, 1) := by decide +kernel
theorem dX7_spiral_41 : decode cX7_spiral 41 = .ok (.istore_n 3, 1) := by decide +kernel
theorem dX7_spiral_42 : decode cX7_spiral 42 = .ok (.iconst 0, 1) := by decide +kernel
theorem dX7_spiral_43 : decode cX7_spiral 43 = .ok (.istore 4, 2) := by decide +kernel
theorem dX7_spiral_45 : decode cX7_spiral 45 = .ok (.iload 4, 2) := by decide +kernel
theorem dX7_spiral_47 : decode cX7_spiral 47 = .ok (.iload_n 3, 1) := by decide +kernel
theorem dX7_spiral_48 : decode cX7_spiral 48 = .ok (.if_icmp .ge 46, 3) := by decide +kernel
theorem dX7_spiral_51 : decode cX7_spiral 51 = .ok (.iload_n 2, 1) := by decide +kernel
theorem dX7_spiral_52 : decode cX7_spiral 52 = .ok (.ifCond .le 42, 3) := by decide +kernel
theorem dX7_spiral_55 : decode cX7_spiral 55 = .ok (.aload_n 0, 1) := by decide +kernel
theorem dX7_spiral_56 : decode cX7_spiral 56 = .ok (.getfield 57, 3) := by decide +kernel
theorem dX7_spiral_59 : decode cX7_spiral 59 = .ok (.iload 4, 2) := by decide +kernel
theorem dX7_spiral_61 : decode cX7_spiral 61 = .ok (.invokevirtual 252, 3) := by decide +kernel
theorem dX7_spiral_64 : decode cX7_spiral 64 = .ok (.aload_n 0, 1) := by decide +kernel
theorem dX7_spiral_65 : decode cX7_spiral 65 = .ok (.getfield 57, 3) := by decide +kernel
theorem dX7_spiral_68 : decode cX7_spiral 68 = .ok (.iload_n 2, 1) := by decide +kernel
theorem dX7_spiral_69 : decode cX7_spiral 69 = .ok (.iconst 1, 1) := by decide +kernel
theorem dX7_spiral_70 : decode cX7_spiral 70 = .ok (.isub, 1) := by decide +kernel
theorem dX7_spiral_71 : decode cX7_spiral 71 = .ok (.invokevirtual 237, 3) := by decide +kernel
theorem dX7_spiral_74 : decode cX7_spiral 74 = .ok (.istore 5, 2) := by decide +kernel
theorem dX7_spiral_76 : decode cX7_spiral 76 = .ok (.iload 5, 2) := by decide +kernel
theorem dX7_spiral_78 : decode cX7_spiral 78 = .ok (.iload_n 2, 1) := by decide +kernel
theorem dX7_spiral_79 : decode cX7_spiral 79 = .ok (.if_icmp .ge 9, 3) := by decide +kernel
theorem dX7_spiral_82 : decode cX7_spiral 82 = .ok (.iload 5, 2) := by decide +kernel
theorem dX7_spiral_84 : decode cX7_spiral 84 = .ok (.istore_n 2, 1) := by decide +kernel
theorem dX7_spiral_85 : decode cX7_spiral 85 = .ok (.iload 4, 2) := by decide +kernel
theorem dX7_spiral_87 : decode cX7_spiral 87 = .ok (.istore_n 1, 1) := by decide +kernel
theorem dX7_spiral_88 : decode cX7_spiral 88 = .ok (.iinc 4 1, 3) := by decide +kernel
theorem dX7_spiral_91 : decode cX7_spiral 91 = .ok (.goto (-46), 3) := by decide +kernel
theorem dX7_spiral_94 : decode cX7_spiral 94 = .ok (.aload_n 0, 1) := by decide +kernel
theorem dX7_spiral_95 : decode cX7_spiral 95 = .ok (.iload_n 2, 1) := by decide +kernel
theorem dX7_spiral_96 : decode cX7_spiral 96 = .ok (.putfield 88, 3) := by decide +kernel
theorem dX7_spiral_99 : decode cX7_spiral 99 = .ok (.iload_n 1, 1) := by decide +kernel
theorem dX7_spiral_100 : decode cX7_spiral 100 = .ok (.ireturn, 1) := by decide +kernel
theorem dX7_fell_0 : decode cX7_fell 0 = .ok (.iload_n 1, 1) := by decide +kernel
theorem dX7_fell_1 : decode cX7_fell 1 = .ok (.bipush 6, 2) := by decide +kernel
theorem dX7_fell_3 : decode cX7_fell 3 = .ok (.invokestatic 105, 3) := by decide +kernel
theorem dX7_fell_6 : decode cX7_fell 6 = .ok (.ifCond .ne 5, 3) := by decide +kernel
theorem dX7_fell_9 : decode cX7_fell 9 = .ok (.iconst (-1), 1) := by decide +kernel
theorem dX7_fell_10 : decode cX7_fell 10 = .ok (.ireturn, 1) := by decide +kernel
theorem dX7_fell_11 : decode cX7_fell 11 = .ok (.aload_n 0, 1) := by decide +kernel
theorem dX7_fell_12 : decode cX7_fell 12 = .ok (.getfield 49, 3) := by decide +kernel
theorem dX7_fell_15 : decode cX7_fell 15 = .ok (.getfield 189, 3) := by decide +kernel
theorem dX7_fell_18 : decode cX7_fell 18 = .ok (.ifCond .ne 6, 3) := by decide +kernel
theorem dX7_fell_21 : decode cX7_fell 21 = .ok (.bipush (-4), 2) := by decide +kernel
theorem dX7_fell_23 : decode cX7_fell 23 = .ok (.ireturn, 1) := by decide +kernel
theorem dX7_fell_24 : decode cX7_fell 24 = .ok (.aload_n 0, 1) := by decide +kernel
theorem dX7_fell_25 : decode cX7_fell 25 = .ok (.getfield 14, 3) := by decide +kernel
theorem dX7_fell_28 : decode cX7_fell 28 = .ok (.iload_n 1, 1) := by decide +kernel
theorem dX7_fell_29 : decode cX7_fell 29 = .ok (.iaload, 1) := by decide +kernel
theorem dX7_fell_30 : decode cX7_fell 30 = .ok (.ifCond .ge 9, 3) := by decide +kernel
theorem dX7_fell_33 : decode cX7_fell 33 = .ok (.aload_n 0, 1) := by decide +kernel
theorem dX7_fell_34 : decode cX7_fell 34 = .ok (.iconst 1, 1) := by decide +kernel
theorem dX7_fell_35 : decode cX7_fell 35 = .ok (.invokevirtual 109, 3) := by decide +kernel
theorem dX7_fell_38 : decode cX7_fell 38 = .ok (.ireturn, 1) := by decide +kernel
theorem dX7_fell_39 : decode cX7_fell 39 = .ok (.aload_n 0, 1) := by decide +kernel
theorem dX7_fell_40 : decode cX7_fell 40 = .ok (.getfield 14, 3) := by decide +kernel
theorem dX7_fell_43 : decode cX7_fell 43 = .ok (.iload_n 1, 1) := by decide +kernel
theorem dX7_fell_44 : decode cX7_fell 44 = .ok (.iaload, 1) := by decide +kernel
theorem dX7_fell_45 : decode cX7_fell 45 = .ok (.aload_n 0, 1) := by decide +kernel
theorem dX7_fell_46 : decode cX7_fell 46 = .ok (.getfield 49, 3) := by decide +kernel
theorem dX7_fell_49 : decode cX7_fell 49 = .ok (.getfield 185, 3) := by decide +kernel
theorem dX7_fell_52 : decode cX7_fell 52 = .ok (.getfield 154, 3) := by decide +kernel
theorem dX7_fell_55 : decode cX7_fell 55 = .ok (.if_icmp .eq 9, 3) := by decide +kernel
theorem dX7_fell_58 : decode cX7_fell 58 = .ok (.aload_n 0, 1) := by decide +kernel
theorem dX7_fell_59 : decode cX7_fell 59 = .ok (.iconst 5, 1) := by decide +kernel
theorem dX7_fell_60 : decode cX7_fell 60 = .ok (.invokevirtual 109, 3) := by decide +kernel
theorem dX7_fell_63 : decode cX7_fell 63 = .ok (.ireturn, 1) := by decide +kernel
theorem dX7_fell_64 : decode cX7_fell 64 = .ok (.aload_n 0, 1) := by decide +kernel
theorem dX7_fell_65 : decode cX7_fell 65 = .ok (.iload_n 1, 1) := by decide +kernel
theorem dX7_fell_66 : decode cX7_fell 66 = .ok (.invokevirtual 255, 3) := by decide +kernel
theorem dX7_fell_69 : decode cX7_fell 69 = .ok (.istore_n 2, 1) := by decide +kernel
theorem dX7_fell_70 : decode cX7_fell 70 = .ok (.iload_n 2, 1) := by decide +kernel
theorem dX7_fell_71 : decode cX7_fell 71 = .ok (.ifCond .ge 9, 3) := by decide +kernel
theorem dX7_fell_74 : decode cX7_fell 74 = .ok (.aload_n 0, 1) := by decide +kernel
theorem dX7_fell_75 : decode cX7_fell 75 = .ok (.iconst 3, 1) := by decide +kernel
theorem dX7_fell_76 : decode cX7_fell 76 = .ok (.invokevirtual 109, 3) := by decide +kernel
theorem dX7_fell_79 : decode cX7_fell 79 = .ok (.ireturn, 1) := by decide +kernel
theorem dX7_fell_80 : decode cX7_fell 80 = .ok (.aload_n 0, 1) := by decide +kernel
theorem dX7_fell_81 : decode cX7_fell 81 = .ok (.getfield 57, 3) := by decide +kernel
theorem dX7_fell_84 : decode cX7_fell 84 = .ok (.aload_n 0, 1) := by decide +kernel
theorem dX7_fell_85 : decode cX7_fell 85 = .ok (.getfield 49, 3) := by decide +kernel
theorem dX7_fell_88 : decode cX7_fell 88 = .ok (.invokevirtual 230, 3) := by decide +kernel
theorem dX7_fell_91 : decode cX7_fell 91 = .ok (.bipush (-9), 2) := by decide +kernel
theorem dX7_fell_93 : decode cX7_fell 93 = .ok (.istore_n 3, 1) := by decide +kernel
theorem dX7_fell_94 : decode cX7_fell 94 = .ok (.iconst 0, 1) := by decide +kernel
theorem dX7_fell_95 : decode cX7_fell 95 = .ok (.istore 4, 2) := by decide +kernel
theorem dX7_fell_97 : decode cX7_fell 97 = .ok (.iconst 0, 1) := by decide +kernel
theorem dX7_fell_98 : decode cX7_fell 98 = .ok (.istore 5, 2) := by decide +kernel
theorem dX7_fell_100 : decode cX7_fell 100 = .ok (.iload 5, 2) := by decide +kernel
theorem dX7_fell_102 : decode cX7_fell 102 = .ok (.bipush 90, 2) := by decide +kernel
theorem dX7_fell_104 : decode cX7_fell 104 = .ok (.if_icmp .gt 76, 3) := by decide +kernel
theorem dX7_fell_107 : decode cX7_fell 107 = .ok (.aload_n 0, 1) := by decide +kernel
theorem dX7_fell_108 : decode cX7_fell 108 = .ok (.getfield 57, 3) := by decide +kernel
theorem dX7_fell_111 : decode cX7_fell 111 = .ok (.getfield 185, 3) := by decide +kernel
theorem dX7_fell_114 : decode cX7_fell 114 = .ok (.aload_n 0, 1) := by decide +kernel
theorem dX7_fell_115 : decode cX7_fell 115 = .ok (.getfield 49, 3) := by decide +kernel
theorem dX7_fell_118 : decode cX7_fell 118 = .ok (.getfield 185, 3) := by decide +kernel
theorem dX7_fell_121 : decode cX7_fell 121 = .ok (.iload 5, 2) := by decide +kernel
theorem dX7_fell_123 : decode cX7_fell 123 = .ok (.invokevirtual 258, 3) := by decide +kernel
theorem dX7_fell_126 : decode cX7_fell 126 = .ok (.ifCond .ne 6, 3) := by decide +kernel
theorem dX7_fell_129 : decode cX7_fell 129 = .ok (.goto 45, 3) := by decide +kernel
theorem dX7_fell_132 : decode cX7_fell 132 = .ok (.aload_n 0, 1) := by decide +kernel
theorem dX7_fell_133 : decode cX7_fell 133 = .ok (.getfield 57, 3) := by decide +kernel
theorem dX7_fell_136 : decode cX7_fell 136 = .ok (.iload_n 2, 1) := by decide +kernel
theorem dX7_fell_137 : decode cX7_fell 137 = .ok (.invokevirtual 237, 3) := by decide +kernel
theorem dX7_fell_140 : decode cX7_fell 140 = .ok (.iload_n 2, 1) := by decide +kernel
theorem dX7_fell_141 : decode cX7_fell 141 = .ok (.if_icmp .ne 33, 3) := by decide +kernel
theorem dX7_fell_144 : decode cX7_fell 144 = .ok (.aload_n 0, 1) := by decide +kernel
theorem dX7_fell_145 : decode cX7_fell 145 = .ok (.getfield 57, 3) := by decide +kernel
theorem dX7_fell_148 : decode cX7_fell 148 = .ok (.aload_n 0, 1) := by decide +kernel
theorem dX7_fell_149 : decode cX7_fell 149 = .ok (.getfield 11, 3) := by decide +kernel
theorem dX7_fell_152 : decode cX7_fell 152 = .ok (.iload_n 1, 1) := by decide +kernel
theorem dX7_fell_153 : decode cX7_fell 153 = .ok (.aaload, 1) := by decide +kernel
theorem dX7_fell_154 : decode cX7_fell 154 = .ok (.invokevirtual 262, 3) := by decide +kernel
theorem dX7_fell_157 : decode cX7_fell 157 = .ok (.ifCond .ne 6, 3) := by decide +kernel
theorem dX7_fell_160 : decode cX7_fell 160 = .ok (.goto 14, 3) := by decide +kernel
theorem dX7_fell_163 : decode cX7_fell 163 = .ok (.iload 4, 2) := by decide +kernel
theorem dX7_fell_165 : decode cX7_fell 165 = .ok (.ifCond .ne 6, 3) := by decide +kernel
theorem dX7_fell_168 : decode cX7_fell 168 = .ok (.iload 5, 2) := by decide +kernel
theorem dX7_fell_170 : decode cX7_fell 170 = .ok (.istore_n 3, 1) := by decide +kernel
theorem dX7_fell_171 : decode cX7_fell 171 = .ok (.iinc 4 1, 3) := by decide +kernel
theorem dX7_fell_174 : decode cX7_fell 174 = .ok (.iinc 5 1, 3) := by decide +kernel
theorem dX7_fell_177 : decode cX7_fell 177 = .ok (.goto (-77), 3) := by decide +kernel
theorem dX7_fell_180 : decode cX7_fell 180 = .ok (.iload 4, 2) := by decide +kernel
theorem dX7_fell_182 : decode cX7_fell 182 = .ok (.ifCond .le 9, 3) := by decide +kernel
theorem dX7_fell_185 : decode cX7_fell 185 = .ok (.aload_n 0, 1) := by decide +kernel
theorem dX7_fell_186 : decode cX7_fell 186 = .ok (.iload 4, 2) := by decide +kernel
theorem dX7_fell_188 : decode cX7_fell 188 = .ok (.putfield 88, 3) := by decide +kernel
theorem dX7_fell_191 : decode cX7_fell 191 = .ok (.iload_n 3, 1) := by decide +kernel
theorem dX7_fell_192 : decode cX7_fell 192 = .ok (.ireturn, 1) := by decide +kernel
theorem dX7_odds_0 : decode cX7_odds 0 = .ok (.aload_n 0, 1) := by decide +kernel
theorem dX7_odds_1 : decode cX7_odds 1 = .ok (.getfield 49, 3) := by decide +kernel
theorem dX7_odds_4 : decode cX7_odds 4 = .ok (.getfield 189, 3) := by decide +kernel
theorem dX7_odds_7 : decode cX7_odds 7 = .ok (.ifCond .ne 6, 3) := by decide +kernel
theorem dX7_odds_10 : decode cX7_odds 10 = .ok (.bipush (-4), 2) := by decide +kernel
theorem dX7_odds_12 : decode cX7_odds 12 = .ok (.ireturn, 1) := by decide +kernel
theorem dX7_odds_13 : decode cX7_odds 13 = .ok (.aload_n 0, 1) := by decide +kernel
theorem dX7_odds_14 : decode cX7_odds 14 = .ok (.getfield 57, 3) := by decide +kernel
theorem dX7_odds_17 : decode cX7_odds 17 = .ok (.aload_n 0, 1) := by decide +kernel
theorem dX7_odds_18 : decode cX7_odds 18 = .ok (.getfield 49, 3) := by decide +kernel
theorem dX7_odds_21 : decode cX7_odds 21 = .ok (.invokevirtual 230, 3) := by decide +kernel
theorem dX7_odds_24 : decode cX7_odds 24 = .ok (.iconst 0, 1) := by decide +kernel
theorem dX7_odds_25 : decode cX7_odds 25 = .ok (.istore_n 1, 1) := by decide +kernel
theorem dX7_odds_26 : decode cX7_odds 26 = .ok (.iconst 0, 1) := by decide +kernel
theorem dX7_odds_27 : decode cX7_odds 27 = .ok (.istore_n 2, 1) := by decide +kernel
theorem dX7_odds_28 : decode cX7_odds 28 = .ok (.iconst 0, 1) := by decide +kernel
theorem dX7_odds_29 : decode cX7_odds 29 = .ok (.istore_n 3, 1) := by decide +kernel
theorem dX7_odds_30 : decode cX7_odds 30 = .ok (.iload_n 3, 1) := by decide +kernel
theorem dX7_odds_31 : decode cX7_odds 31 = .ok (.bipush 90, 2) := by decide +kernel
theorem dX7_odds_33 : decode cX7_odds 33 = .ok (.if_icmp .gt 50, 3) := by decide +kernel
theorem dX7_odds_36 : decode cX7_odds 36 = .ok (.aload_n 0, 1) := by decide +kernel
theorem dX7_odds_37 : decode cX7_odds 37 = .ok (.getfield 57, 3) := by decide +kernel
theorem dX7_odds_40 : decode cX7_odds 40 = .ok (.getfield 185, 3) := by decide +kernel
theorem dX7_odds_43 : decode cX7_odds 43 = .ok (.aload_n 0, 1) := by decide +kernel
theorem dX7_odds_44 : decode cX7_odds 44 = .ok (.getfield 49, 3) := by decide +kernel
theorem dX7_odds_47 : decode cX7_odds 47 = .ok (.getfield 185, 3) := by decide +kernel
theorem dX7_odds_50 : decode cX7_odds 50 = .ok (.iload_n 3, 1) := by decide +kernel
theorem dX7_odds_51 : decode cX7_odds 51 = .ok (.invokevirtual 258, 3) := by decide +kernel
theorem dX7_odds_54 : decode cX7_odds 54 = .ok (.ifCond .ne 6, 3) := by decide +kernel
theorem dX7_odds_57 : decode cX7_odds 57 = .ok (.goto 20, 3) := by decide +kernel
theorem dX7_odds_60 : decode cX7_odds 60 = .ok (.iinc 1 1, 3) := by decide +kernel
theorem dX7_odds_63 : decode cX7_odds 63 = .ok (.aload_n 0, 1) := by decide +kernel
theorem dX7_odds_64 : decode cX7_odds 64 = .ok (.getfield 57, 3) := by decide +kernel
theorem dX7_odds_67 : decode cX7_odds 67 = .ok (.iconst 0, 1) := by decide +kernel
theorem dX7_odds_68 : decode cX7_odds 68 = .ok (.invokevirtual 237, 3) := by decide +kernel
theorem dX7_odds_71 : decode cX7_odds 71 = .ok (.ifCond .ne 6, 3) := by decide +kernel
theorem dX7_odds_74 : decode cX7_odds 74 = .ok (.iinc 2 1, 3) := by decide +kernel
theorem dX7_odds_77 : decode cX7_odds 77 = .ok (.iinc 3 1, 3) := by decide +kernel
theorem dX7_odds_80 : decode cX7_odds 80 = .ok (.goto (-50), 3) := by decide +kernel
theorem dX7_odds_83 : decode cX7_odds 83 = .ok (.aload_n 0, 1) := by decide +kernel
theorem dX7_odds_84 : decode cX7_odds 84 = .ok (.iload_n 2, 1) := by decide +kernel
theorem dX7_odds_85 : decode cX7_odds 85 = .ok (.iload_n 1, 1) := by decide +kernel
theorem dX7_odds_86 : decode cX7_odds 86 = .ok (.invokevirtual 266, 3) := by decide +kernel
theorem dX7_odds_89 : decode cX7_odds 89 = .ok (.iload_n 1, 1) := by decide +kernel
theorem dX7_odds_90 : decode cX7_odds 90 = .ok (.ireturn, 1) := by decide +kernel
theorem dX7_storm_0 : decode cX7_storm 0 = .ok (.iload_n 1, 1) := by decide +kernel
theorem dX7_storm_1 : decode cX7_storm 1 = .ok (.iconst 4, 1) := by decide +kernel
theorem dX7_storm_2 : decode cX7_storm 2 = .ok (.invokestatic 105, 3) := by decide +kernel
theorem dX7_storm_5 : decode cX7_storm 5 = .ok (.ifCond .eq 10, 3) := by decide +kernel
theorem dX7_storm_8 : decode cX7_storm 8 = .ok (.iload_n 2, 1) := by decide +kernel
theorem dX7_storm_9 : decode cX7_storm 9 = .ok (.invokestatic 177, 3) := by decide +kernel
theorem dX7_storm_12 : decode cX7_storm 12 = .ok (.ifCond .ne 5, 3) := by decide +kernel
theorem dX7_storm_15 : decode cX7_storm 15 = .ok (.iconst (-1), 1) := by decide +kernel
theorem dX7_storm_16 : decode cX7_storm 16 = .ok (.ireturn, 1) := by decide +kernel
theorem dX7_storm_17 : decode cX7_storm 17 = .ok (.iload_n 3, 1) := by decide +kernel
theorem dX7_storm_18 : decode cX7_storm 18 = .ok (.sipush 600, 3) := by decide +kernel
theorem dX7_storm_21 : decode cX7_storm 21 = .ok (.invokestatic 186, 3) := by decide +kernel
theorem dX7_storm_24 : decode cX7_storm 24 = .ok (.ifCond .eq 13, 3) := by decide +kernel
theorem dX7_storm_27 : decode cX7_storm 27 = .ok (.iload 4, 2) := by decide +kernel
theorem dX7_storm_29 : decode cX7_storm 29 = .ok (.bipush 6, 2) := by decide +kernel
theorem dX7_storm_31 : decode cX7_storm 31 = .ok (.invokestatic 186, 3) := by decide +kernel
theorem dX7_storm_34 : decode cX7_storm 34 = .ok (.ifCond .ne 5, 3) := by decide +kernel
theorem dX7_storm_37 : decode cX7_storm 37 = .ok (.iconst (-1), 1) := by decide +kernel
theorem dX7_storm_38 : decode cX7_storm 38 = .ok (.ireturn, 1) := by decide +kernel
theorem dX7_storm_39 : decode cX7_storm 39 = .ok (.aload_n 0, 1) := by decide +kernel
theorem dX7_storm_40 : decode cX7_storm 40 = .ok (.getfield 34, 3) := by decide +kernel
theorem dX7_storm_43 : decode cX7_storm 43 = .ok (.iload_n 1, 1) := by decide +kernel
theorem dX7_storm_44 : decode cX7_storm 44 = .ok (.aaload, 1) := by decide +kernel
theorem dX7_storm_45 : decode cX7_storm 45 = .ok (.getfield 157, 3) := by decide +kernel
theorem dX7_storm_48 : decode cX7_storm 48 = .ok (.ifCond .eq 10, 3) := by decide +kernel
theorem dX7_storm_51 : decode cX7_storm 51 = .ok (.aload_n 0, 1) := by decide +kernel
theorem dX7_storm_52 : decode cX7_storm 52 = .ok (.invokevirtual 270, 3) := by decide +kernel
theorem dX7_storm_55 : decode cX7_storm 55 = .ok (.ifCond .ne 9, 3) := by decide +kernel
theorem dX7_storm_58 : decode cX7_storm 58 = .ok (.aload_n 0, 1) := by decide +kernel
theorem dX7_storm_59 : decode cX7_storm 59 = .ok (.iconst 1, 1) := by decide +kernel
theorem dX7_storm_60 : decode cX7_storm 60 = .ok (.invokevirtual 109, 3) := by decide +kernel
theorem dX7_storm_63 : decode cX7_storm 63 = .ok (.ireturn, 1) := by decide +kernel
theorem dX7_storm_64 : decode cX7_storm 64 = .ok (.bipush (-9), 2) := by decide +kernel
theorem dX7_storm_66 : decode cX7_storm 66 = .ok (.istore 5, 2) := by decide +kernel
theorem dX7_storm_68 : decode cX7_storm 68 = .ok (.bipush 61, 2) := by decide +kernel
theorem dX7_storm_70 : decode cX7_storm 70 = .ok (.istore 6, 2) := by decide +kernel
theorem dX7_storm_72 : decode cX7_storm 72 = .ok (.iconst 0, 1) := by decide +kernel
theorem dX7_storm_73 : decode cX7_storm 73 = .ok (.istore 7, 2) := by decide +kernel
theorem dX7_storm_75 : decode cX7_storm 75 = .ok (.iload 7, 2) := by decide +kernel
theorem dX7_storm_77 : decode cX7_storm 77 = .ok (.iconst 4, 1) := by decide +kernel
theorem dX7_storm_78 : decode cX7_storm 78 = .ok (.if_icmp .ge 103, 3) := by decide +kernel
theorem dX7_storm_81 : decode cX7_storm 81 = .ok (.aload_n 0, 1) := by decide +kernel
theorem dX7_storm_82 : decode cX7_storm 82 = .ok (.getfield 41, 3) := by decide +kernel
theorem dX7_storm_85 : decode cX7_storm 85 = .ok (.iload 7, 2) := by decide +kernel
theorem dX7_storm_87 : decode cX7_storm 87 = .ok (.aaload, 1) := by decide +kernel
theorem dX7_storm_88 : decode cX7_storm 88 = .ok (.astore 8, 2) := by decide +kernel
theorem dX7_storm_90 : decode cX7_storm 90 = .ok (.aload 8, 2) := by decide +kernel
theorem dX7_storm_92 : decode cX7_storm 92 = .ok (.getfield 164, 3) := by decide +kernel
theorem dX7_storm_95 : decode cX7_storm 95 = .ok (.ifCond .eq 80, 3) := by decide +kernel
theorem dX7_storm_98 : decode cX7_storm 98 = .ok (.aload 8, 2) := by decide +kernel
theorem dX7_storm_100 : decode cX7_storm 100 = .ok (.getfield 154, 3) := by decide +kernel
theorem dX7_storm_103 : decode cX7_storm 103 = .ok (.iload 6, 2) := by decide +kernel
theorem dX7_storm_105 : decode cX7_storm 105 = .ok (.if_icmp .lt 6, 3) := by decide +kernel
theorem dX7_storm_108 : decode cX7_storm 108 = .ok (.goto 67, 3) := by decide +kernel
theorem dX7_storm_111 : decode cX7_storm 111 = .ok (.aload 8, 2) := by decide +kernel
theorem dX7_storm_113 : decode cX7_storm 113 = .ok (.invokevirtual 273, 3) := by decide +kernel
theorem dX7_storm_116 : decode cX7_storm 116 = .ok (.iload 4, 2) := by decide +kernel
theorem dX7_storm_118 : decode cX7_storm 118 = .ok (.if_icmp .lt 57, 3) := by decide +kernel
theorem dX7_storm_121 : decode cX7_storm 121 = .ok (.aload 8, 2) := by decide +kernel
theorem dX7_storm_123 : decode cX7_storm 123 = .ok (.iload_n 2, 1) := by decide +kernel
theorem dX7_storm_124 : decode cX7_storm 124 = .ok (.invokevirtual 276, 3) := by decide +kernel
theorem dX7_storm_127 : decode cX7_storm 127 = .ok (.iload_n 3, 1) := by decide +kernel
theorem dX7_storm_128 : decode cX7_storm 128 = .ok (.if_icmp .le 6, 3) := by decide +kernel
theorem dX7_storm_131 : decode cX7_storm 131 = .ok (.goto 44, 3) := by decide +kernel
theorem dX7_storm_134 : decode cX7_storm 134 = .ok (.aload_n 0, 1) := by decide +kernel
theorem dX7_storm_135 : decode cX7_storm 135 = .ok (.getfield 57, 3) := by decide +kernel
theorem dX7_storm_138 : decode cX7_storm 138 = .ok (.aload_n 0, 1) := by decide +kernel
theorem dX7_storm_139 : decode cX7_storm 139 = .ok (.getfield 34, 3) := by decide +kernel
theorem dX7_storm_142 : decode cX7_storm 142 = .ok (.iload_n 1, 1) := by decide +kernel
theorem dX7_storm_143 : decode cX7_storm 143 = .ok (.aaload, 1) := by decide +kernel
theorem dX7_storm_144 : decode cX7_storm 144 = .ok (.aload 8, 2) := by decide +kernel
theorem dX7_storm_146 : decode cX7_storm 146 = .ok (.iload_n 2, 1) := by decide +kernel
theorem dX7_storm_147 : decode cX7_storm 147 = .ok (.invokevirtual 181, 3) := by decide +kernel
theorem dX7_storm_150 : decode cX7_storm 150 = .ok (.aload_n 0, 1) := by decide +kernel
theorem dX7_storm_151 : decode cX7_storm 151 = .ok (.getfield 57, 3) := by decide +kernel
theorem dX7_storm_154 : decode cX7_storm 154 = .ok (.iconst 0, 1) := by decide +kernel
theorem dX7_storm_155 : decode cX7_storm 155 = .ok (.invokevirtual 237, 3) := by decide +kernel
theorem dX7_storm_158 : decode cX7_storm 158 = .ok (.ifCond .le 6, 3) := by decide +kernel
theorem dX7_storm_161 : decode cX7_storm 161 = .ok (.goto 14, 3) := by decide +kernel
theorem dX7_storm_164 : decode cX7_storm 164 = .ok (.iload 7, 2) := by decide +kernel
theorem dX7_storm_166 : decode cX7_storm 166 = .ok (.istore 5, 2) := by decide +kernel
theorem dX7_storm_168 : decode cX7_storm 168 = .ok (.aload 8, 2) := by decide +kernel
theorem dX7_storm_170 : decode cX7_storm 170 = .ok (.getfield 154, 3) := by decide +kernel
theorem dX7_storm_173 : decode cX7_storm 173 = .ok (.istore 6, 2) := by decide +kernel
theorem dX7_storm_175 : decode cX7_storm 175 = .ok (.iinc 7 1, 3) := by decide +kernel
theorem dX7_storm_178 : decode cX7_storm 178 = .ok (.goto (-103), 3) := by decide +kernel
theorem dX7_storm_181 : decode cX7_storm 181 = .ok (.iload 5, 2) := by decide +kernel
theorem dX7_storm_183 : decode cX7_storm 183 = .ok (.bipush (-9), 2) := by decide +kernel
theorem dX7_storm_185 : decode cX7_storm 185 = .ok (.if_icmp .eq 18, 3) := by decide +kernel
theorem dX7_storm_188 : decode cX7_storm 188 = .ok (.aload_n 0, 1) := by decide +kernel
theorem dX7_storm_189 : decode cX7_storm 189 = .ok (.aload_n 0, 1) := by decide +kernel
theorem dX7_storm_190 : decode cX7_storm 190 = .ok (.getfield 41, 3) := by decide +kernel
theorem dX7_storm_193 : decode cX7_storm 193 = .ok (.iload 5, 2) := by decide +kernel
theorem dX7_storm_195 : decode cX7_storm 195 = .ok (.aaload, 1) := by decide +kernel
theorem dX7_storm_196 : decode cX7_storm 196 = .ok (.iload_n 2, 1) := by decide +kernel
theorem dX7_storm_197 : decode cX7_storm 197 = .ok (.invokevirtual 276, 3) := by decide +kernel
theorem dX7_storm_200 : decode cX7_storm 200 = .ok (.putfield 88, 3) := by decide +kernel
theorem dX7_storm_203 : decode cX7_storm 203 = .ok (.iload 5, 2) := by decide +kernel
theorem dX7_storm_205 : decode cX7_storm 205 = .ok (.ireturn, 1) := by decide +kernel
theorem dX7_halls_0 : decode cX7_halls 0 = .ok (.iload_n 1, 1) := by decide +kernel
theorem dX7_halls_1 : decode cX7_halls 1 = .ok (.iconst 4, 1) := by decide +kernel
theorem dX7_halls_2 : decode cX7_halls 2 = .ok (.invokestatic 105, 3) := by decide +kernel
theorem dX7_halls_5 : decode cX7_halls 5 = .ok (.ifCond .eq 23, 3) := by decide +kernel
theorem dX7_halls_8 : decode cX7_halls 8 = .ok (.iload_n 2, 1) := by decide +kernel
theorem dX7_halls_9 : decode cX7_halls 9 = .ok (.iconst 1, 1) := by decide +kernel
theorem dX7_halls_10 : decode cX7_halls 10 = .ok (.if_icmp .lt 18, 3) := by decide +kernel
theorem dX7_halls_13 : decode cX7_halls 13 = .ok (.iload_n 2, 1) := by decide +kernel
theorem dX7_halls_14 : decode cX7_halls 14 = .ok (.bipush 40, 2) := by decide +kernel
theorem dX7_halls_16 : decode cX7_halls 16 = .ok (.if_icmp .gt 12, 3) := by decide +kernel
theorem dX7_halls_19 : decode cX7_halls 19 = .ok (.iload_n 3, 1) := by decide +kernel
theorem dX7_halls_20 : decode cX7_halls 20 = .ok (.bipush 6, 2) := by decide +kernel
theorem dX7_halls_22 : decode cX7_halls 22 = .ok (.invokestatic 105, 3) := by decide +kernel
theorem dX7_halls_25 : decode cX7_halls 25 = .ok (.ifCond .ne 5, 3) := by decide +kernel
theorem dX7_halls_28 : decode cX7_halls 28 = .ok (.iconst (-1), 1) := by decide +kernel
theorem dX7_halls_29 : decode cX7_halls 29 = .ok (.ireturn, 1) := by decide +kernel
theorem dX7_halls_30 : decode cX7_halls 30 = .ok (.aload_n 0, 1) := by decide +kernel
theorem dX7_halls_31 : decode cX7_halls 31 = .ok (.getfield 34, 3) := by decide +kernel
theorem dX7_halls_34 : decode cX7_halls 34 = .ok (.iload_n 1, 1) := by decide +kernel
theorem dX7_halls_35 : decode cX7_halls 35 = .ok (.aaload, 1) := by decide +kernel
theorem dX7_halls_36 : decode cX7_halls 36 = .ok (.getfield 157, 3) := by decide +kernel
theorem dX7_halls_39 : decode cX7_halls 39 = .ok (.ifCond .eq 10, 3) := by decide +kernel
theorem dX7_halls_42 : decode cX7_halls 42 = .ok (.aload_n 0, 1) := by decide +kernel
theorem dX7_halls_43 : decode cX7_halls 43 = .ok (.invokevirtual 270, 3) := by decide +kernel
theorem dX7_halls_46 : decode cX7_halls 46 = .ok (.ifCond .ne 9, 3) := by decide +kernel
theorem dX7_halls_49 : decode cX7_halls 49 = .ok (.aload_n 0, 1) := by decide +kernel
theorem dX7_halls_50 : decode cX7_halls 50 = .ok (.iconst 1, 1) := by decide +kernel
theorem dX7_halls_51 : decode cX7_halls 51 = .ok (.invokevirtual 109, 3) := by decide +kernel
theorem dX7_halls_54 : decode cX7_halls 54 = .ok (.ireturn, 1) := by decide +kernel
theorem dX7_halls_55 : decode cX7_halls 55 = .ok (.aload_n 0, 1) := by decide +kernel
theorem dX7_halls_56 : decode cX7_halls 56 = .ok (.getfield 84, 3) := by decide +kernel
theorem dX7_halls_59 : decode cX7_halls 59 = .ok (.invokevirtual 279, 3) := by decide +kernel
theorem dX7_halls_62 : decode cX7_halls 62 = .ok (.iconst 3, 1) := by decide +kernel
theorem dX7_halls_63 : decode cX7_halls 63 = .ok (.istore 4, 2) := by decide +kernel
theorem dX7_halls_65 : decode cX7_halls 65 = .ok (.iload 4, 2) := by decide +kernel
theorem dX7_halls_67 : decode cX7_halls 67 = .ok (.ifCond .lt 102, 3) := by decide +kernel
theorem dX7_halls_70 : decode cX7_halls 70 = .ok (.iconst 0, 1) := by decide +kernel
theorem dX7_halls_71 : decode cX7_halls 71 = .ok (.istore 5, 2) := by decide +kernel
theorem dX7_halls_73 : decode cX7_halls 73 = .ok (.aload_n 0, 1) := by decide +kernel
theorem dX7_halls_74 : decode cX7_halls 74 = .ok (.getfield 41, 3) := by decide +kernel
theorem dX7_halls_77 : decode cX7_halls 77 = .ok (.iload 4, 2) := by decide +kernel
theorem dX7_halls_79 : decode cX7_halls 79 = .ok (.aaload, 1) := by decide +kernel
theorem dX7_halls_80 : decode cX7_halls 80 = .ok (.getfield 164, 3) := by decide +kernel
theorem dX7_halls_83 : decode cX7_halls 83 = .ok (.ifCond .eq 42, 3) := by decide +kernel
theorem dX7_halls_86 : decode cX7_halls 86 = .ok (.aload_n 0, 1) := by decide +kernel
theorem dX7_halls_87 : decode cX7_halls 87 = .ok (.getfield 57, 3) := by decide +kernel
theorem dX7_halls_90 : decode cX7_halls 90 = .ok (.aload_n 0, 1) := by decide +kernel
theorem dX7_halls_91 : decode cX7_halls 91 = .ok (.getfield 34, 3) := by decide +kernel
theorem dX7_halls_94 : decode cX7_halls 94 = .ok (.iload_n 1, 1) := by decide +kernel
theorem dX7_halls_95 : decode cX7_halls 95 = .ok (.aaload, 1) := by decide +kernel
theorem dX7_halls_96 : decode cX7_halls 96 = .ok (.aload_n 0, 1) := by decide +kernel
theorem dX7_halls_97 : decode cX7_halls 97 = .ok (.getfield 41, 3) := by decide +kernel
theorem dX7_halls_100 : decode cX7_halls 100 = .ok (.iload 4, 2) := by decide +kernel
theorem dX7_halls_102 : decode cX7_halls 102 = .ok (.aaload, 1) := by decide +kernel
theorem dX7_halls_103 : decode cX7_halls 103 = .ok (.iconst 1, 1) := by decide +kernel
theorem dX7_halls_104 : decode cX7_halls 104 = .ok (.invokevirtual 181, 3) := by decide +kernel
theorem dX7_halls_107 : decode cX7_halls 107 = .ok (.aload_n 0, 1) := by decide +kernel
theorem dX7_halls_108 : decode cX7_halls 108 = .ok (.getfield 57, 3) := by decide +kernel
theorem dX7_halls_111 : decode cX7_halls 111 = .ok (.iconst 0, 1) := by decide +kernel
theorem dX7_halls_112 : decode cX7_halls 112 = .ok (.invokevirtual 237, 3) := by decide +kernel
theorem dX7_halls_115 : decode cX7_halls 115 = .ok (.ifCond .ne 7, 3) := by decide +kernel
theorem dX7_halls_118 : decode cX7_halls 118 = .ok (.iconst 1, 1) := by decide +kernel
theorem dX7_halls_119 : decode cX7_halls 119 = .ok (.goto 4, 3) := by decide +kernel
theorem dX7_halls_122 : decode cX7_halls 122 = .ok (.iconst 0, 1) := by decide +kernel
theorem dX7_halls_123 : decode cX7_halls 123 = .ok (.istore 5, 2) := by decide +kernel
theorem dX7_halls_125 : decode cX7_halls 125 = .ok (.aload_n 0, 1) := by decide +kernel
theorem dX7_halls_126 : decode cX7_halls 126 = .ok (.getfield 84, 3) := by decide +kernel
theorem dX7_halls_129 : decode cX7_halls 129 = .ok (.iload 4, 2) := by decide +kernel
theorem dX7_halls_131 : decode cX7_halls 131 = .ok (.iload 5, 2) := by decide +kernel
theorem dX7_halls_133 : decode cX7_halls 133 = .ok (.ifCond .eq 16, 3) := by decide +kernel
theorem dX7_halls_136 : decode cX7_halls 136 = .ok (.aload_n 0, 1) := by decide +kernel
theorem dX7_halls_137 : decode cX7_halls 137 = .ok (.getfield 41, 3) := by decide +kernel
theorem dX7_halls_140 : decode cX7_halls 140 = .ok (.iload 4, 2) := by decide +kernel
theorem dX7_halls_142 : decode cX7_halls 142 = .ok (.aaload, 1) := by decide +kernel
theorem dX7_halls_143 : decode cX7_halls 143 = .ok (.invokevirtual 273, 3) := by decide +kernel
theorem dX7_halls_146 : decode cX7_halls 146 = .ok (.goto 4, 3) := by decide +kernel
theorem dX7_halls_149 : decode cX7_halls 149 = .ok (.iconst 0, 1) := by decide +kernel
theorem dX7_halls_150 : decode cX7_halls 150 = .ok (.aload_n 0, 1) := by decide +kernel
theorem dX7_halls_151 : decode cX7_halls 151 = .ok (.getfield 41, 3) := by decide +kernel
theorem dX7_halls_154 : decode cX7_halls 154 = .ok (.iload 4, 2) := by decide +kernel
theorem dX7_halls_156 : decode cX7_halls 156 = .ok (.aaload, 1) := by decide +kernel
theorem dX7_halls_157 : decode cX7_halls 157 = .ok (.getfield 154, 3) := by decide +kernel
theorem dX7_halls_160 : decode cX7_halls 160 = .ok (.invokevirtual 282, 3) := by decide +kernel
theorem dX7_halls_163 : decode cX7_halls 163 = .ok (.iinc 4 (-1), 3) := by decide +kernel
theorem dX7_halls_166 : decode cX7_halls 166 = .ok (.goto (-101), 3) := by decide +kernel
theorem dX7_halls_169 : decode cX7_halls 169 = .ok (.aload_n 0, 1) := by decide +kernel
theorem dX7_halls_170 : decode cX7_halls 170 = .ok (.getfield 84, 3) := by decide +kernel
theorem dX7_halls_173 : decode cX7_halls 173 = .ok (.iload_n 2, 1) := by decide +kernel
theorem dX7_halls_174 : decode cX7_halls 174 = .ok (.invokevirtual 286, 3) := by decide +kernel
theorem dX7_halls_177 : decode cX7_halls 177 = .ok (.istore 4, 2) := by decide +kernel
theorem dX7_halls_179 : decode cX7_halls 179 = .ok (.iload 4, 2) := by decide +kernel
theorem dX7_halls_181 : decode cX7_halls 181 = .ok (.bipush (-9), 2) := by decide +kernel
theorem dX7_halls_183 : decode cX7_halls 183 = .ok (.if_icmp .ne 6, 3) := by decide +kernel
theorem dX7_halls_186 : decode cX7_halls 186 = .ok (.bipush (-9), 2) := by decide +kernel
theorem dX7_halls_188 : decode cX7_halls 188 = .ok (.ireturn, 1) := by decide +kernel
theorem dX7_halls_189 : decode cX7_halls 189 = .ok (.aload_n 0, 1) := by decide +kernel
theorem dX7_halls_190 : decode cX7_halls 190 = .ok (.getfield 11, 3) := by decide +kernel
theorem dX7_halls_193 : decode cX7_halls 193 = .ok (.iload_n 3, 1) := by decide +kernel
theorem dX7_halls_194 : decode cX7_halls 194 = .ok (.aaload, 1) := by decide +kernel
theorem dX7_halls_195 : decode cX7_halls 195 = .ok (.iconst 0, 1) := by decide +kernel
theorem dX7_halls_196 : decode cX7_halls 196 = .ok (.invokestatic 18, 3) := by decide +kernel
theorem dX7_halls_199 : decode cX7_halls 199 = .ok (.aload_n 0, 1) := by decide +kernel
theorem dX7_halls_200 : decode cX7_halls 200 = .ok (.getfield 14, 3) := by decide +kernel
theorem dX7_halls_203 : decode cX7_halls 203 = .ok (.iload_n 3, 1) := by decide +kernel
theorem dX7_halls_204 : decode cX7_halls 204 = .ok (.iconst 4, 1) := by decide +kernel
theorem dX7_halls_205 : decode cX7_halls 205 = .ok (.iastore, 1) := by decide +kernel
theorem dX7_halls_206 : decode cX7_halls 206 = .ok (.aload_n 0, 1) := by decide +kernel
theorem dX7_halls_207 : decode cX7_halls 207 = .ok (.getfield 84, 3) := by decide +kernel
theorem dX7_halls_210 : decode cX7_halls 210 = .ok (.iload_n 2, 1) := by decide +kernel
theorem dX7_halls_211 : decode cX7_halls 211 = .ok (.aload_n 0, 1) := by decide +kernel
theorem dX7_halls_212 : decode cX7_halls 212 = .ok (.getfield 11, 3) := by decide +kernel
theorem dX7_halls_215 : decode cX7_halls 215 = .ok (.iload_n 3, 1) := by decide +kernel
theorem dX7_halls_216 : decode cX7_halls 216 = .ok (.aaload, 1) := by decide +kernel
theorem dX7_halls_217 : decode cX7_halls 217 = .ok (.invokevirtual 289, 3) := by decide +kernel
theorem dX7_halls_220 : decode cX7_halls 220 = .ok (.iload 4, 2) := by decide +kernel
theorem dX7_halls_222 : decode cX7_halls 222 = .ok (.ireturn, 1) := by decide +kernel
theorem dX7_quarry_0 : decode cX7_quarry 0 = .ok (.iload_n 1, 1) := by decide +kernel
theorem dX7_quarry_1 : decode cX7_quarry 1 = .ok (.iconst 4, 1) := by decide +kernel
theorem dX7_quarry_2 : decode cX7_quarry 2 = .ok (.invokestatic 105, 3) := by decide +kernel
theorem dX7_quarry_5 : decode cX7_quarry 5 = .ok (.ifCond .ne 5, 3) := by decide +kernel
theorem dX7_quarry_8 : decode cX7_quarry 8 = .ok (.iconst (-1), 1) := by decide +kernel
theorem dX7_quarry_9 : decode cX7_quarry 9 = .ok (.ireturn, 1) := by decide +kernel
theorem dX7_quarry_10 : decode cX7_quarry 10 = .ok (.aload_n 0, 1) := by decide +kernel
theorem dX7_quarry_11 : decode cX7_quarry 11 = .ok (.getfield 41, 3) := by decide +kernel
theorem dX7_quarry_14 : decode cX7_quarry 14 = .ok (.iload_n 1, 1) := by decide +kernel
theorem dX7_quarry_15 : decode cX7_quarry 15 = .ok (.aaload, 1) := by decide +kernel
theorem dX7_quarry_16 : decode cX7_quarry 16 = .ok (.getfield 164, 3) := by decide +kernel
theorem dX7_quarry_19 : decode cX7_quarry 19 = .ok (.ifCond .ne 9, 3) := by decide +kernel
theorem dX7_quarry_22 : decode cX7_quarry 22 = .ok (.aload_n 0, 1) := by decide +kernel
theorem dX7_quarry_23 : decode cX7_quarry 23 = .ok (.iconst 1, 1) := by decide +kernel
theorem dX7_quarry_24 : decode cX7_quarry 24 = .ok (.invokevirtual 109, 3) := by decide +kernel
theorem dX7_quarry_27 : decode cX7_quarry 27 = .ok (.ireturn, 1) := by decide +kernel
theorem dX7_quarry_28 : decode cX7_quarry 28 = .ok (.aload_n 0, 1) := by decide +kernel
theorem dX7_quarry_29 : decode cX7_quarry 29 = .ok (.getfield 41, 3) := by decide +kernel
theorem dX7_quarry_32 : decode cX7_quarry 32 = .ok (.iload_n 1, 1) := by decide +kernel
theorem dX7_quarry_33 : decode cX7_quarry 33 = .ok (.aaload, 1) := by decide +kernel
theorem dX7_quarry_34 : decode cX7_quarry 34 = .ok (.getfield 217, 3) := by decide +kernel
theorem dX7_quarry_37 : decode cX7_quarry 37 = .ok (.iconst 0, 1) := by decide +kernel
theorem dX7_quarry_38 : decode cX7_quarry 38 = .ok (.iaload, 1) := by decide +kernel
theorem dX7_quarry_39 : decode cX7_quarry 39 = .ok (.aload_n 0, 1) := by decide +kernel
theorem dX7_quarry_40 : decode cX7_quarry 40 = .ok (.getfield 41, 3) := by decide +kernel
theorem dX7_quarry_43 : decode cX7_quarry 43 = .ok (.iload_n 1, 1) := by decide +kernel
theorem dX7_quarry_44 : decode cX7_quarry 44 = .ok (.aaload, 1) := by decide +kernel
theorem dX7_quarry_45 : decode cX7_quarry 45 = .ok (.getfield 217, 3) := by decide +kernel
theorem dX7_quarry_48 : decode cX7_quarry 48 = .ok (.iconst 0, 1) := by decide +kernel
theorem dX7_quarry_49 : decode cX7_quarry 49 = .ok (.iaload, 1) := by decide +kernel
theorem dX7_quarry_50 : decode cX7_quarry 50 = .ok (.imul, 1) := by decide +kernel
theorem dX7_quarry_51 : decode cX7_quarry 51 = .ok (.iconst 4, 1) := by decide +kernel
theorem dX7_quarry_52 : decode cX7_quarry 52 = .ok (.idiv, 1) := by decide +kernel
theorem dX7_quarry_53 : decode cX7_quarry 53 = .ok (.istore_n 2, 1) := by decide +kernel
theorem dX7_quarry_54 : decode cX7_quarry 54 = .ok (.aload_n 0, 1) := by decide +kernel
theorem dX7_quarry_55 : decode cX7_quarry 55 = .ok (.iconst 0, 1) := by decide +kernel
theorem dX7_quarry_56 : decode cX7_quarry 56 = .ok (.aload_n 0, 1) := by decide +kernel
theorem dX7_quarry_57 : decode cX7_quarry 57 = .ok (.getfield 41, 3) := by decide +kernel
theorem dX7_quarry_60 : decode cX7_quarry 60 = .ok (.iload_n 1, 1) := by decide +kernel
theorem dX7_quarry_61 : decode cX7_quarry 61 = .ok (.aaload, 1) := by decide +kernel
theorem dX7_quarry_62 : decode cX7_quarry 62 = .ok (.getfield 154, 3) := by decide +kernel
theorem dX7_quarry_65 : decode cX7_quarry 65 = .ok (.iload_n 2, 1) := by decide +kernel
theorem dX7_quarry_66 : decode cX7_quarry 66 = .ok (.isub, 1) := by decide +kernel
theorem dX7_quarry_67 : decode cX7_quarry 67 = .ok (.invokestatic 293, 3) := by decide +kernel
theorem dX7_quarry_70 : decode cX7_quarry 70 = .ok (.putfield 88, 3) := by decide +kernel
theorem dX7_quarry_73 : decode cX7_quarry 73 = .ok (.iload_n 2, 1) := by decide +kernel
theorem dX7_quarry_74 : decode cX7_quarry 74 = .ok (.ireturn, 1) := by decide +kernel
theorem dX7_air_0 : decode cX7_air 0 = .ok (.iload_n 1, 1) := by decide +kernel
theorem dX7_air_1 : decode cX7_air 1 = .ok (.iconst 4, 1) := by decide +kernel
theorem dX7_air_2 : decode cX7_air 2 = .ok (.invokestatic 105, 3) := by decide +kernel
theorem dX7_air_5 : decode cX7_air 5 = .ok (.ifCond .eq 21, 3) := by decide +kernel
theorem dX7_air_8 : decode cX7_air 8 = .ok (.iload_n 2, 1) := by decide +kernel
theorem dX7_air_9 : decode cX7_air 9 = .ok (.bipush 9, 2) := by decide +kernel
theorem dX7_air_11 : decode cX7_air 11 = .ok (.invokestatic 186, 3) := by decide +kernel
theorem dX7_air_14 : decode cX7_air 14 = .ok (.ifCond .eq 12, 3) := by decide +kernel
theorem dX7_air_17 : decode cX7_air 17 = .ok (.iload_n 3, 1) := by decide +kernel
theorem dX7_air_18 : decode cX7_air 18 = .ok (.bipush 9, 2) := by decide +kernel
theorem dX7_air_20 : decode cX7_air 20 = .ok (.invokestatic 186, 3) := by decide +kernel
theorem dX7_air_23 : decode cX7_air 23 = .ok (.ifCond .ne 5, 3) := by decide +kernel
theorem dX7_air_26 : decode cX7_air 26 = .ok (.iconst (-1), 1) := by decide +kernel
theorem dX7_air_27 : decode cX7_air 27 = .ok (.ireturn, 1) := by decide +kernel
theorem dX7_air_28 : decode cX7_air 28 = .ok (.iload 4, 2) := by decide +kernel
theorem dX7_air_30 : decode cX7_air 30 = .ok (.bipush 9, 2) := by decide +kernel
theorem dX7_air_32 : decode cX7_air 32 = .ok (.invokestatic 186, 3) := by decide +kernel
theorem dX7_air_35 : decode cX7_air 35 = .ok (.ifCond .eq 22, 3) := by decide +kernel
theorem dX7_air_38 : decode cX7_air 38 = .ok (.iload 5, 2) := by decide +kernel
theorem dX7_air_40 : decode cX7_air 40 = .ok (.iconst 1, 1) := by decide +kernel
theorem dX7_air_41 : decode cX7_air 41 = .ok (.invokestatic 186, 3) := by decide +kernel
theorem dX7_air_44 : decode cX7_air 44 = .ok (.ifCond .eq 13, 3) := by decide +kernel
theorem dX7_air_47 : decode cX7_air 47 = .ok (.iload 6, 2) := by decide +kernel
theorem dX7_air_49 : decode cX7_air 49 = .ok (.bipush 48, 2) := by decide +kernel
theorem dX7_air_51 : decode cX7_air 51 = .ok (.invokestatic 186, 3) := by decide +kernel
theorem dX7_air_54 : decode cX7_air 54 = .ok (.ifCond .ne 5, 3) := by decide +kernel
theorem dX7_air_57 : decode cX7_air 57 = .ok (.iconst (-1), 1) := by decide +kernel
theorem dX7_air_58 : decode cX7_air 58 = .ok (.ireturn, 1) := by decide +kernel
theorem dX7_air_59 : decode cX7_air 59 = .ok (.aload_n 0, 1) := by decide +kernel
theorem dX7_air_60 : decode cX7_air 60 = .ok (.getfield 34, 3) := by decide +kernel
theorem dX7_air_63 : decode cX7_air 63 = .ok (.iload_n 1, 1) := by decide +kernel
theorem dX7_air_64 : decode cX7_air 64 = .ok (.aaload, 1) := by decide +kernel
theorem dX7_air_65 : decode cX7_air 65 = .ok (.getfield 157, 3) := by decide +kernel
theorem dX7_air_68 : decode cX7_air 68 = .ok (.ifCond .ne 9, 3) := by decide +kernel
theorem dX7_air_71 : decode cX7_air 71 = .ok (.aload_n 0, 1) := by decide +kernel
theorem dX7_air_72 : decode cX7_air 72 = .ok (.iconst 1, 1) := by decide +kernel
theorem dX7_air_73 : decode cX7_air 73 = .ok (.invokevirtual 109, 3) := by decide +kernel
theorem dX7_air_76 : decode cX7_air 76 = .ok (.ireturn, 1) := by decide +kernel
theorem dX7_air_77 : decode cX7_air 77 = .ok (.aload_n 0, 1) := by decide +kernel
theorem dX7_air_78 : decode cX7_air 78 = .ok (.getfield 70, 3) := by decide +kernel
theorem dX7_air_81 : decode cX7_air 81 = .ok (.aload_n 0, 1) := by decide +kernel
theorem dX7_air_82 : decode cX7_air 82 = .ok (.getfield 34, 3) := by decide +kernel
theorem dX7_air_85 : decode cX7_air 85 = .ok (.iload_n 1, 1) := by decide +kernel
theorem dX7_air_86 : decode cX7_air 86 = .ok (.aaload, 1) := by decide +kernel
theorem dX7_air_87 : decode cX7_air 87 = .ok (.getfield 161, 3) := by decide +kernel
theorem dX7_air_90 : decode cX7_air 90 = .ok (.iconst 2, 1) := by decide +kernel
theorem dX7_air_91 : decode cX7_air 91 = .ok (.iaload, 1) := by decide +kernel
theorem dX7_air_92 : decode cX7_air 92 = .ok (.iload_n 2, 1) := by decide +kernel
theorem dX7_air_93 : decode cX7_air 93 = .ok (.iload_n 3, 1) := by decide +kernel
theorem dX7_air_94 : decode cX7_air 94 = .ok (.iload 4, 2) := by decide +kernel
theorem dX7_air_96 : decode cX7_air 96 = .ok (.iload 5, 2) := by decide +kernel
theorem dX7_air_98 : decode cX7_air 98 = .ok (.iconst 1, 1) := by decide +kernel
theorem dX7_air_99 : decode cX7_air 99 = .ok (.if_icmp .ne 7, 3) := by decide +kernel
theorem dX7_air_102 : decode cX7_air 102 = .ok (.iconst 1, 1) := by decide +kernel
theorem dX7_air_103 : decode cX7_air 103 = .ok (.goto 4, 3) := by decide +kernel
theorem dX7_air_106 : decode cX7_air 106 = .ok (.iconst 0, 1) := by decide +kernel
theorem dX7_air_107 : decode cX7_air 107 = .ok (.invokevirtual 298, 3) := by decide +kernel
theorem dX7_air_110 : decode cX7_air 110 = .ok (.iconst 0, 1) := by decide +kernel
theorem dX7_air_111 : decode cX7_air 111 = .ok (.istore 7, 2) := by decide +kernel
theorem dX7_air_113 : decode cX7_air 113 = .ok (.iload 7, 2) := by decide +kernel
theorem dX7_air_115 : decode cX7_air 115 = .ok (.iload 6, 2) := by decide +kernel
theorem dX7_air_117 : decode cX7_air 117 = .ok (.if_icmp .ge 16, 3) := by decide +kernel
theorem dX7_air_120 : decode cX7_air 120 = .ok (.aload_n 0, 1) := by decide +kernel
theorem dX7_air_121 : decode cX7_air 121 = .ok (.getfield 70, 3) := by decide +kernel
theorem dX7_air_124 : decode cX7_air 124 = .ok (.invokevirtual 302, 3) := by decide +kernel
theorem dX7_air_127 : decode cX7_air 127 = .ok (.iinc 7 1, 3) := by decide +kernel
theorem dX7_air_130 : decode cX7_air 130 = .ok (.goto (-17), 3) := by decide +kernel
theorem dX7_air_133 : decode cX7_air 133 = .ok (.aload_n 0, 1) := by decide +kernel
theorem dX7_air_134 : decode cX7_air 134 = .ok (.aload_n 0, 1) := by decide +kernel
theorem dX7_air_135 : decode cX7_air 135 = .ok (.getfield 70, 3) := by decide +kernel
theorem dX7_air_138 : decode cX7_air 138 = .ok (.getfield 305, 3) := by decide +kernel
theorem dX7_air_141 : decode cX7_air 141 = .ok (.iconst 5, 1) := by decide +kernel
theorem dX7_air_142 : decode cX7_air 142 = .ok (.iaload, 1) := by decide +kernel
theorem dX7_air_143 : decode cX7_air 143 = .ok (.putfield 88, 3) := by decide +kernel
theorem dX7_air_146 : decode cX7_air 146 = .ok (.aload_n 0, 1) := by decide +kernel
theorem dX7_air_147 : decode cX7_air 147 = .ok (.getfield 70, 3) := by decide +kernel
theorem dX7_air_150 : decode cX7_air 150 = .ok (.getfield 308, 3) := by decide +kernel
theorem dX7_air_153 : decode cX7_air 153 = .ok (.ireturn, 1) := by decide +kernel
theorem dX7_layer_0 : decode cX7_layer 0 = .ok (.iload_n 1, 1) := by decide +kernel
theorem dX7_layer_1 : decode cX7_layer 1 = .ok (.iconst 4, 1) := by decide +kernel
theorem dX7_layer_2 : decode cX7_layer 2 = .ok (.invokestatic 105, 3) := by decide +kernel
theorem dX7_layer_5 : decode cX7_layer 5 = .ok (.ifCond .eq 21, 3) := by decide +kernel
theorem dX7_layer_8 : decode cX7_layer 8 = .ok (.iload_n 2, 1) := by decide +kernel
theorem dX7_layer_9 : decode cX7_layer 9 = .ok (.bipush 9, 2) := by decide +kernel
theorem dX7_layer_11 : decode cX7_layer 11 = .ok (.invokestatic 186, 3) := by decide +kernel
theorem dX7_layer_14 : decode cX7_layer 14 = .ok (.ifCond .eq 12, 3) := by decide +kernel
theorem dX7_layer_17 : decode cX7_layer 17 = .ok (.iload_n 3, 1) := by decide +kernel
theorem dX7_layer_18 : decode cX7_layer 18 = .ok (.bipush 9, 2) := by decide +kernel
theorem dX7_layer_20 : decode cX7_layer 20 = .ok (.invokestatic 186, 3) := by decide +kernel
theorem dX7_layer_23 : decode cX7_layer 23 = .ok (.ifCond .ne 5, 3) := by decide +kernel
theorem dX7_layer_26 : decode cX7_layer 26 = .ok (.iconst (-1), 1) := by decide +kernel
theorem dX7_layer_27 : decode cX7_layer 27 = .ok (.ireturn, 1) := by decide +kernel
theorem dX7_layer_28 : decode cX7_layer 28 = .ok (.iload 4, 2) := by decide +kernel
theorem dX7_layer_30 : decode cX7_layer 30 = .ok (.bipush 9, 2) := by decide +kernel
theorem dX7_layer_32 : decode cX7_layer 32 = .ok (.invokestatic 186, 3) := by decide +kernel
theorem dX7_layer_35 : decode cX7_layer 35 = .ok (.ifCond .eq 23, 3) := by decide +kernel
theorem dX7_layer_38 : decode cX7_layer 38 = .ok (.iload 5, 2) := by decide +kernel
theorem dX7_layer_40 : decode cX7_layer 40 = .ok (.bipush 48, 2) := by decide +kernel
theorem dX7_layer_42 : decode cX7_layer 42 = .ok (.invokestatic 186, 3) := by decide +kernel
theorem dX7_layer_45 : decode cX7_layer 45 = .ok (.ifCond .eq 13, 3) := by decide +kernel
theorem dX7_layer_48 : decode cX7_layer 48 = .ok (.iload 6, 2) := by decide +kernel
theorem dX7_layer_50 : decode cX7_layer 50 = .ok (.bipush 6, 2) := by decide +kernel
theorem dX7_layer_52 : decode cX7_layer 52 = .ok (.invokestatic 105, 3) := by decide +kernel
theorem dX7_layer_55 : decode cX7_layer 55 = .ok (.ifCond .ne 5, 3) := by decide +kernel
theorem dX7_layer_58 : decode cX7_layer 58 = .ok (.iconst (-1), 1) := by decide +kernel
theorem dX7_layer_59 : decode cX7_layer 59 = .ok (.ireturn, 1) := by decide +kernel
theorem dX7_layer_60 : decode cX7_layer 60 = .ok (.aload_n 0, 1) := by decide +kernel
theorem dX7_layer_61 : decode cX7_layer 61 = .ok (.getfield 34, 3) := by decide +kernel
theorem dX7_layer_64 : decode cX7_layer 64 = .ok (.iload_n 1, 1) := by decide +kernel
theorem dX7_layer_65 : decode cX7_layer 65 = .ok (.aaload, 1) := by decide +kernel
theorem dX7_layer_66 : decode cX7_layer 66 = .ok (.getfield 157, 3) := by decide +kernel
theorem dX7_layer_69 : decode cX7_layer 69 = .ok (.ifCond .ne 9, 3) := by decide +kernel
theorem dX7_layer_72 : decode cX7_layer 72 = .ok (.aload_n 0, 1) := by decide +kernel
theorem dX7_layer_73 : decode cX7_layer 73 = .ok (.iconst 1, 1) := by decide +kernel
theorem dX7_layer_74 : decode cX7_layer 74 = .ok (.invokevirtual 109, 3) := by decide +kernel
theorem dX7_layer_77 : decode cX7_layer 77 = .ok (.ireturn, 1) := by decide +kernel
theorem dX7_layer_78 : decode cX7_layer 78 = .ok (.aload_n 0, 1) := by decide +kernel
theorem dX7_layer_79 : decode cX7_layer 79 = .ok (.getfield 70, 3) := by decide +kernel
theorem dX7_layer_82 : decode cX7_layer 82 = .ok (.aload_n 0, 1) := by decide +kernel
theorem dX7_layer_83 : decode cX7_layer 83 = .ok (.getfield 34, 3) := by decide +kernel
theorem dX7_layer_86 : decode cX7_layer 86 = .ok (.iload_n 1, 1) := by decide +kernel
theorem dX7_layer_87 : decode cX7_layer 87 = .ok (.aaload, 1) := by decide +kernel
theorem dX7_layer_88 : decode cX7_layer 88 = .ok (.getfield 161, 3) := by decide +kernel
theorem dX7_layer_91 : decode cX7_layer 91 = .ok (.iconst 2, 1) := by decide +kernel
theorem dX7_layer_92 : decode cX7_layer 92 = .ok (.iaload, 1) := by decide +kernel
theorem dX7_layer_93 : decode cX7_layer 93 = .ok (.iload_n 2, 1) := by decide +kernel
theorem dX7_layer_94 : decode cX7_layer 94 = .ok (.iload_n 3, 1) := by decide +kernel
theorem dX7_layer_95 : decode cX7_layer 95 = .ok (.iload 4, 2) := by decide +kernel
theorem dX7_layer_97 : decode cX7_layer 97 = .ok (.iconst 1, 1) := by decide +kernel
theorem dX7_layer_98 : decode cX7_layer 98 = .ok (.invokevirtual 298, 3) := by decide +kernel
theorem dX7_layer_101 : decode cX7_layer 101 = .ok (.iconst 0, 1) := by decide +kernel
theorem dX7_layer_102 : decode cX7_layer 102 = .ok (.istore 7, 2) := by decide +kernel
theorem dX7_layer_104 : decode cX7_layer 104 = .ok (.iload 7, 2) := by decide +kernel
theorem dX7_layer_106 : decode cX7_layer 106 = .ok (.iload 5, 2) := by decide +kernel
theorem dX7_layer_108 : decode cX7_layer 108 = .ok (.if_icmp .ge 16, 3) := by decide +kernel
theorem dX7_layer_111 : decode cX7_layer 111 = .ok (.aload_n 0, 1) := by decide +kernel
theorem dX7_layer_112 : decode cX7_layer 112 = .ok (.getfield 70, 3) := by decide +kernel
theorem dX7_layer_115 : decode cX7_layer 115 = .ok (.invokevirtual 302, 3) := by decide +kernel
theorem dX7_layer_118 : decode cX7_layer 118 = .ok (.iinc 7 1, 3) := by decide +kernel
theorem dX7_layer_121 : decode cX7_layer 121 = .ok (.goto (-17), 3) := by decide +kernel
theorem dX7_layer_124 : decode cX7_layer 124 = .ok (.aload_n 0, 1) := by decide +kernel
theorem dX7_layer_125 : decode cX7_layer 125 = .ok (.aload_n 0, 1) := by decide +kernel
theorem dX7_layer_126 : decode cX7_layer 126 = .ok (.getfield 70, 3) := by decide +kernel
theorem dX7_layer_129 : decode cX7_layer 129 = .ok (.getfield 305, 3) := by decide +kernel
theorem dX7_layer_132 : decode cX7_layer 132 = .ok (.iload 6, 2) := by decide +kernel
theorem dX7_layer_134 : decode cX7_layer 134 = .ok (.iaload, 1) := by decide +kernel
theorem dX7_layer_135 : decode cX7_layer 135 = .ok (.invokevirtual 113, 3) := by decide +kernel
theorem dX7_layer_138 : decode cX7_layer 138 = .ok (.ireturn, 1) := by decide +kernel
theorem dX7_hole_0 : decode cX7_hole 0 = .ok (.iload_n 1, 1) := by decide +kernel
theorem dX7_hole_1 : decode cX7_hole 1 = .ok (.iconst 4, 1) := by decide +kernel
theorem dX7_hole_2 : decode cX7_hole 2 = .ok (.invokestatic 105, 3) := by decide +kernel
theorem dX7_hole_5 : decode cX7_hole 5 = .ok (.ifCond .eq 21, 3) := by decide +kernel
theorem dX7_hole_8 : decode cX7_hole 8 = .ok (.iload_n 2, 1) := by decide +kernel
theorem dX7_hole_9 : decode cX7_hole 9 = .ok (.bipush 9, 2) := by decide +kernel
theorem dX7_hole_11 : decode cX7_hole 11 = .ok (.invokestatic 186, 3) := by decide +kernel
theorem dX7_hole_14 : decode cX7_hole 14 = .ok (.ifCond .eq 12, 3) := by decide +kernel
theorem dX7_hole_17 : decode cX7_hole 17 = .ok (.iload_n 3, 1) := by decide +kernel
theorem dX7_hole_18 : decode cX7_hole 18 = .ok (.bipush 9, 2) := by decide +kernel
theorem dX7_hole_20 : decode cX7_hole 20 = .ok (.invokestatic 186, 3) := by decide +kernel
theorem dX7_hole_23 : decode cX7_hole 23 = .ok (.ifCond .ne 5, 3) := by decide +kernel
theorem dX7_hole_26 : decode cX7_hole 26 = .ok (.iconst (-1), 1) := by decide +kernel
theorem dX7_hole_27 : decode cX7_hole 27 = .ok (.ireturn, 1) := by decide +kernel
theorem dX7_hole_28 : decode cX7_hole 28 = .ok (.aload_n 0, 1) := by decide +kernel
theorem dX7_hole_29 : decode cX7_hole 29 = .ok (.getfield 34, 3) := by decide +kernel
theorem dX7_hole_32 : decode cX7_hole 32 = .ok (.iload_n 1, 1) := by decide +kernel
theorem dX7_hole_33 : decode cX7_hole 33 = .ok (.aaload, 1) := by decide +kernel
theorem dX7_hole_34 : decode cX7_hole 34 = .ok (.getfield 157, 3) := by decide +kernel
theorem dX7_hole_37 : decode cX7_hole 37 = .ok (.ifCond .ne 9, 3) := by decide +kernel
theorem dX7_hole_40 : decode cX7_hole 40 = .ok (.aload_n 0, 1) := by decide +kernel
theorem dX7_hole_41 : decode cX7_hole 41 = .ok (.iconst 1, 1) := by decide +kernel
theorem dX7_hole_42 : decode cX7_hole 42 = .ok (.invokevirtual 109, 3) := by decide +kernel
theorem dX7_hole_45 : decode cX7_hole 45 = .ok (.ireturn, 1) := by decide +kernel
theorem dX7_hole_46 : decode cX7_hole 46 = .ok (.iconst 0, 1) := by decide +kernel
theorem dX7_hole_47 : decode cX7_hole 47 = .ok (.istore 4, 2) := by decide +kernel
theorem dX7_hole_49 : decode cX7_hole 49 = .ok (.iload 4, 2) := by decide +kernel
theorem dX7_hole_51 : decode cX7_hole 51 = .ok (.bipush 9, 2) := by decide +kernel
theorem dX7_hole_53 : decode cX7_hole 53 = .ok (.if_icmp .gt 61, 3) := by decide +kernel
theorem dX7_hole_56 : decode cX7_hole 56 = .ok (.aload_n 0, 1) := by decide +kernel
theorem dX7_hole_57 : decode cX7_hole 57 = .ok (.getfield 70, 3) := by decide +kernel
theorem dX7_hole_60 : decode cX7_hole 60 = .ok (.aload_n 0, 1) := by decide +kernel
theorem dX7_hole_61 : decode cX7_hole 61 = .ok (.getfield 34, 3) := by decide +kernel
theorem dX7_hole_64 : decode cX7_hole 64 = .ok (.iload_n 1, 1) := by decide +kernel
theorem dX7_hole_65 : decode cX7_hole 65 = .ok (.aaload, 1) := by decide +kernel
theorem dX7_hole_66 : decode cX7_hole 66 = .ok (.getfield 161, 3) := by decide +kernel
theorem dX7_hole_69 : decode cX7_hole 69 = .ok (.iconst 2, 1) := by decide +kernel
theorem dX7_hole_70 : decode cX7_hole 70 = .ok (.iaload, 1) := by decide +kernel
theorem dX7_hole_71 : decode cX7_hole 71 = .ok (.iload_n 2, 1) := by decide +kernel
theorem dX7_hole_72 : decode cX7_hole 72 = .ok (.iload_n 3, 1) := by decide +kernel
theorem dX7_hole_73 : decode cX7_hole 73 = .ok (.iload 4, 2) := by decide +kernel
theorem dX7_hole_75 : decode cX7_hole 75 = .ok (.iconst 1, 1) := by decide +kernel
theorem dX7_hole_76 : decode cX7_hole 76 = .ok (.invokevirtual 298, 3) := by decide +kernel
theorem dX7_hole_79 : decode cX7_hole 79 = .ok (.aload_n 0, 1) := by decide +kernel
theorem dX7_hole_80 : decode cX7_hole 80 = .ok (.getfield 70, 3) := by decide +kernel
theorem dX7_hole_83 : decode cX7_hole 83 = .ok (.invokevirtual 311, 3) := by decide +kernel
theorem dX7_hole_86 : decode cX7_hole 86 = .ok (.ifCond .ne 6, 3) := by decide +kernel
theorem dX7_hole_89 : decode cX7_hole 89 = .ok (.goto 19, 3) := by decide +kernel
theorem dX7_hole_92 : decode cX7_hole 92 = .ok (.aload_n 0, 1) := by decide +kernel
theorem dX7_hole_93 : decode cX7_hole 93 = .ok (.aload_n 0, 1) := by decide +kernel
theorem dX7_hole_94 : decode cX7_hole 94 = .ok (.getfield 70, 3) := by decide +kernel
theorem dX7_hole_97 : decode cX7_hole 97 = .ok (.getfield 305, 3) := by decide +kernel
theorem dX7_hole_100 : decode cX7_hole 100 = .ok (.iconst 5, 1) := by decide +kernel
theorem dX7_hole_101 : decode cX7_hole 101 = .ok (.iaload, 1) := by decide +kernel
theorem dX7_hole_102 : decode cX7_hole 102 = .ok (.putfield 88, 3) := by decide +kernel
theorem dX7_hole_105 : decode cX7_hole 105 = .ok (.iload 4, 2) := by decide +kernel
theorem dX7_hole_107 : decode cX7_hole 107 = .ok (.ireturn, 1) := by decide +kernel
theorem dX7_hole_108 : decode cX7_hole 108 = .ok (.iinc 4 1, 3) := by decide +kernel
theorem dX7_hole_111 : decode cX7_hole 111 = .ok (.goto (-62), 3) := by decide +kernel
theorem dX7_hole_114 : decode cX7_hole 114 = .ok (.bipush (-9), 2) := by decide +kernel
theorem dX7_hole_116 : decode cX7_hole 116 = .ok (.ireturn, 1) := by decide +kernel
theorem dX7_drips_0 : decode cX7_drips 0 = .ok (.iload_n 1, 1) := by decide +kernel
theorem dX7_drips_1 : decode cX7_drips 1 = .ok (.iconst 4, 1) := by decide +kernel
theorem dX7_drips_2 : decode cX7_drips 2 = .ok (.invokestatic 105, 3) := by decide +kernel
theorem dX7_drips_5 : decode cX7_drips 5 = .ok (.ifCond .eq 21, 3) := by decide +kernel
theorem dX7_drips_8 : decode cX7_drips 8 = .ok (.iload_n 2, 1) := by decide +kernel
theorem dX7_drips_9 : decode cX7_drips 9 = .ok (.bipush 9, 2) := by decide +kernel
theorem dX7_drips_11 : decode cX7_drips 11 = .ok (.invokestatic 186, 3) := by decide +kernel
theorem dX7_drips_14 : decode cX7_drips 14 = .ok (.ifCond .eq 12, 3) := by decide +kernel
theorem dX7_drips_17 : decode cX7_drips 17 = .ok (.iload_n 3, 1) := by decide +kernel
theorem dX7_drips_18 : decode cX7_drips 18 = .ok (.bipush 9, 2) := by decide +kernel
theorem dX7_drips_20 : decode cX7_drips 20 = .ok (.invokestatic 186, 3) := by decide +kernel
theorem dX7_drips_23 : decode cX7_drips 23 = .ok (.ifCond .ne 5, 3) := by decide +kernel
theorem dX7_drips_26 : decode cX7_drips 26 = .ok (.iconst (-1), 1) := by decide +kernel
theorem dX7_drips_27 : decode cX7_drips 27 = .ok (.ireturn, 1) := by decide +kernel
theorem dX7_drips_28 : decode cX7_drips 28 = .ok (.aload_n 0, 1) := by decide +kernel
theorem dX7_drips_29 : decode cX7_drips 29 = .ok (.getfield 34, 3) := by decide +kernel
theorem dX7_drips_32 : decode cX7_drips 32 = .ok (.iload_n 1, 1) := by decide +kernel
theorem dX7_drips_33 : decode cX7_drips 33 = .ok (.aaload, 1) := by decide +kernel
theorem dX7_drips_34 : decode cX7_drips 34 = .ok (.getfield 157, 3) := by decide +kernel
theorem dX7_drips_37 : decode cX7_drips 37 = .ok (.ifCond .ne 9, 3) := by decide +kernel
theorem dX7_drips_40 : decode cX7_drips 40 = .ok (.aload_n 0, 1) := by decide +kernel
theorem dX7_drips_41 : decode cX7_drips 41 = .ok (.iconst 1, 1) := by decide +kernel
theorem dX7_drips_42 : decode cX7_drips 42 = .ok (.invokevirtual 109, 3) := by decide +kernel
theorem dX7_drips_45 : decode cX7_drips 45 = .ok (.ireturn, 1) := by decide +kernel
theorem dX7_drips_46 : decode cX7_drips 46 = .ok (.bipush 9, 2) := by decide +kernel
theorem dX7_drips_48 : decode cX7_drips 48 = .ok (.istore 4, 2) := by decide +kernel
theorem dX7_drips_50 : decode cX7_drips 50 = .ok (.iload 4, 2) := by decide +kernel
theorem dX7_drips_52 : decode cX7_drips 52 = .ok (.ifCond .lt 60, 3) := by decide +kernel
theorem dX7_drips_55 : decode cX7_drips 55 = .ok (.aload_n 0, 1) := by decide +kernel
theorem dX7_drips_56 : decode cX7_drips 56 = .ok (.getfield 70, 3) := by decide +kernel
theorem dX7_drips_59 : decode cX7_drips 59 = .ok (.aload_n 0, 1) := by decide +kernel
theorem dX7_drips_60 : decode cX7_drips 60 = .ok (.getfield 34, 3) := by decide +kernel
theorem dX7_drips_63 : decode cX7_drips 63 = .ok (.iload_n 1, 1) := by decide +kernel
theorem dX7_drips_64 : decode cX7_drips 64 = .ok (.aaload, 1) := by decide +kernel
theorem dX7_drips_65 : decode cX7_drips 65 = .ok (.getfield 161, 3) := by decide +kernel
theorem dX7_drips_68 : decode cX7_drips 68 = .ok (.iconst 2, 1) := by decide +kernel
theorem dX7_drips_69 : decode cX7_drips 69 = .ok (.iaload, 1) := by decide +kernel
theorem dX7_drips_70 : decode cX7_drips 70 = .ok (.iload 4, 2) := by decide +kernel
theorem dX7_drips_72 : decode cX7_drips 72 = .ok (.iload_n 2, 1) := by decide +kernel
theorem dX7_drips_73 : decode cX7_drips 73 = .ok (.iload_n 3, 1) := by decide +kernel
theorem dX7_drips_74 : decode cX7_drips 74 = .ok (.iconst 1, 1) := by decide +kernel
theorem dX7_drips_75 : decode cX7_drips 75 = .ok (.invokevirtual 298, 3) := by decide +kernel
theorem dX7_drips_78 : decode cX7_drips 78 = .ok (.aload_n 0, 1) := by decide +kernel
theorem dX7_drips_79 : decode cX7_drips 79 = .ok (.getfield 70, 3) := by decide +kernel
theorem dX7_drips_82 : decode cX7_drips 82 = .ok (.invokevirtual 315, 3) := by decide +kernel
theorem dX7_drips_85 : decode cX7_drips 85 = .ok (.istore 5, 2) := by decide +kernel
theorem dX7_drips_87 : decode cX7_drips 87 = .ok (.iload 5, 2) := by decide +kernel
theorem dX7_drips_89 : decode cX7_drips 89 = .ok (.bipush (-9), 2) := by decide +kernel
theorem dX7_drips_91 : decode cX7_drips 91 = .ok (.if_icmp .ne 6, 3) := by decide +kernel
theorem dX7_drips_94 : decode cX7_drips 94 = .ok (.goto 12, 3) := by decide +kernel
theorem dX7_drips_97 : decode cX7_drips 97 = .ok (.aload_n 0, 1) := by decide +kernel
theorem dX7_drips_98 : decode cX7_drips 98 = .ok (.iload 5, 2) := by decide +kernel
theorem dX7_drips_100 : decode cX7_drips 100 = .ok (.putfield 88, 3) := by decide +kernel
theorem dX7_drips_103 : decode cX7_drips 103 = .ok (.iload 4, 2) := by decide +kernel
theorem dX7_drips_105 : decode cX7_drips 105 = .ok (.ireturn, 1) := by decide +kernel
theorem dX7_drips_106 : decode cX7_drips 106 = .ok (.iinc 4 (-1), 3) := by decide +kernel
theorem dX7_drips_109 : decode cX7_drips 109 = .ok (.goto (-59), 3) := by decide +kernel
theorem dX7_drips_112 : decode cX7_drips 112 = .ok (.bipush (-9), 2) := by decide +kernel
theorem dX7_drips_114 : decode cX7_drips 114 = .ok (.ireturn, 1) := by decide +kernel
theorem dX7_lasts_0 : decode cX7_lasts 0 = .ok (.iload_n 1, 1) := by decide +kernel
theorem dX7_lasts_1 : decode cX7_lasts 1 = .ok (.bipush 9, 2) := by decide +kernel
theorem dX7_lasts_3 : decode cX7_lasts 3 = .ok (.invokestatic 186, 3) := by decide +kernel
theorem dX7_lasts_6 : decode cX7_lasts 6 = .ok (.ifCond .eq 21, 3) := by decide +kernel
theorem dX7_lasts_9 : decode cX7_lasts 9 = .ok (.iload_n 2, 1) := by decide +kernel
theorem dX7_lasts_10 : decode cX7_lasts 10 = .ok (.bipush 9, 2) := by decide +kernel
theorem dX7_lasts_12 : decode cX7_lasts 12 = .ok (.invokestatic 186, 3) := by decide +kernel
theorem dX7_lasts_15 : decode cX7_lasts 15 = .ok (.ifCond .eq 12, 3) := by decide +kernel
theorem dX7_lasts_18 : decode cX7_lasts 18 = .ok (.iload_n 3, 1) := by decide +kernel
theorem dX7_lasts_19 : decode cX7_lasts 19 = .ok (.bipush 9, 2) := by decide +kernel
theorem dX7_lasts_21 : decode cX7_lasts 21 = .ok (.invokestatic 186, 3) := by decide +kernel
theorem dX7_lasts_24 : decode cX7_lasts 24 = .ok (.ifCond .ne 5, 3) := by decide +kernel
theorem dX7_lasts_27 : decode cX7_lasts 27 = .ok (.iconst (-1), 1) := by decide +kernel
theorem dX7_lasts_28 : decode cX7_lasts 28 = .ok (.ireturn, 1) := by decide +kernel
theorem dX7_lasts_29 : decode cX7_lasts 29 = .ok (.aload_n 0, 1) := by decide +kernel
theorem dX7_lasts_30 : decode cX7_lasts 30 = .ok (.getfield 77, 3) := by decide +kernel
theorem dX7_lasts_33 : decode cX7_lasts 33 = .ok (.iload_n 1, 1) := by decide +kernel
theorem dX7_lasts_34 : decode cX7_lasts 34 = .ok (.iload_n 2, 1) := by decide +kernel
theorem dX7_lasts_35 : decode cX7_lasts 35 = .ok (.iload_n 3, 1) := by decide +kernel
theorem dX7_lasts_36 : decode cX7_lasts 36 = .ok (.invokevirtual 318, 3) := by decide +kernel
theorem dX7_lasts_39 : decode cX7_lasts 39 = .ok (.istore 4, 2) := by decide +kernel
theorem dX7_lasts_41 : decode cX7_lasts 41 = .ok (.aload_n 0, 1) := by decide +kernel
theorem dX7_lasts_42 : decode cX7_lasts 42 = .ok (.aload_n 0, 1) := by decide +kernel
theorem dX7_lasts_43 : decode cX7_lasts 43 = .ok (.getfield 77, 3) := by decide +kernel
theorem dX7_lasts_46 : decode cX7_lasts 46 = .ok (.getfield 322, 3) := by decide +kernel
theorem dX7_lasts_49 : decode cX7_lasts 49 = .ok (.putfield 88, 3) := by decide +kernel
theorem dX7_lasts_52 : decode cX7_lasts 52 = .ok (.iload 4, 2) := by decide +kernel
theorem dX7_lasts_54 : decode cX7_lasts 54 = .ok (.ireturn, 1) := by decide +kernel
theorem dX7_scrape_0 : decode cX7_scrape 0 = .ok (.iload_n 1, 1) := by decide +kernel
theorem dX7_scrape_1 : decode cX7_scrape 1 = .ok (.bipush 9, 2) := by decide +kernel
theorem dX7_scrape_3 : decode cX7_scrape 3 = .ok (.invokestatic 186, 3) := by decide +kernel
theorem dX7_scrape_6 : decode cX7_scrape 6 = .ok (.ifCond .eq 12, 3) := by decide +kernel
theorem dX7_scrape_9 : decode cX7_scrape 9 = .ok (.iload_n 2, 1) := by decide +kernel
theorem dX7_scrape_10 : decode cX7_scrape 10 = .ok (.bipush 9, 2) := by decide +kernel
theorem dX7_scrape_12 : decode cX7_scrape 12 = .ok (.invokestatic 186, 3) := by decide +kernel
theorem dX7_scrape_15 : decode cX7_scrape 15 = .ok (.ifCond .ne 5, 3) := by decide +kernel
theorem dX7_scrape_18 : decode cX7_scrape 18 = .ok (.iconst (-1), 1) := by decide +kernel
theorem dX7_scrape_19 : decode cX7_scrape 19 = .ok (.ireturn, 1) := by decide +kernel
theorem dX7_scrape_20 : decode cX7_scrape 20 = .ok (.iconst 0, 1) := by decide +kernel
theorem dX7_scrape_21 : decode cX7_scrape 21 = .ok (.istore_n 3, 1) := by decide +kernel
theorem dX7_scrape_22 : decode cX7_scrape 22 = .ok (.iconst (-1), 1) := by decide +kernel
theorem dX7_scrape_23 : decode cX7_scrape 23 = .ok (.istore 4, 2) := by decide +kernel
theorem dX7_scrape_25 : decode cX7_scrape 25 = .ok (.iconst 0, 1) := by decide +kernel
theorem dX7_scrape_26 : decode cX7_scrape 26 = .ok (.istore 5, 2) := by decide +kernel
theorem dX7_scrape_28 : decode cX7_scrape 28 = .ok (.iload 5, 2) := by decide +kernel
theorem dX7_scrape_30 : decode cX7_scrape 30 = .ok (.bipush 9, 2) := by decide +kernel
theorem dX7_scrape_32 : decode cX7_scrape 32 = .ok (.if_icmp .gt 36, 3) := by decide +kernel
theorem dX7_scrape_35 : decode cX7_scrape 35 = .ok (.aload_n 0, 1) := by decide +kernel
theorem dX7_scrape_36 : decode cX7_scrape 36 = .ok (.getfield 77, 3) := by decide +kernel
theorem dX7_scrape_39 : decode cX7_scrape 39 = .ok (.iload_n 1, 1) := by decide +kernel
theorem dX7_scrape_40 : decode cX7_scrape 40 = .ok (.iload_n 2, 1) := by decide +kernel
theorem dX7_scrape_41 : decode cX7_scrape 41 = .ok (.iload 5, 2) := by decide +kernel
theorem dX7_scrape_43 : decode cX7_scrape 43 = .ok (.invokevirtual 318, 3) := by decide +kernel
theorem dX7_scrape_46 : decode cX7_scrape 46 = .ok (.istore 6, 2) := by decide +kernel
theorem dX7_scrape_48 : decode cX7_scrape 48 = .ok (.iload 6, 2) := by decide +kernel
theorem dX7_scrape_50 : decode cX7_scrape 50 = .ok (.iload 4, 2) := by decide +kernel
theorem dX7_scrape_52 : decode cX7_scrape 52 = .ok (.if_icmp .le 10, 3) := by decide +kernel
theorem dX7_scrape_55 : decode cX7_scrape 55 = .ok (.iload 6, 2) := by decide +kernel
theorem dX7_scrape_57 : decode cX7_scrape 57 = .ok (.istore 4, 2) := by decide +kernel
theorem dX7_scrape_59 : decode cX7_scrape 59 = .ok (.iload 5, 2) := by decide +kernel
theorem dX7_scrape_61 : decode cX7_scrape 61 = .ok (.istore_n 3, 1) := by decide +kernel
theorem dX7_scrape_62 : decode cX7_scrape 62 = .ok (.iinc 5 1, 3) := by decide +kernel
theorem dX7_scrape_65 : decode cX7_scrape 65 = .ok (.goto (-37), 3) := by decide +kernel
theorem dX7_scrape_68 : decode cX7_scrape 68 = .ok (.aload_n 0, 1) := by decide +kernel
theorem dX7_scrape_69 : decode cX7_scrape 69 = .ok (.iload 4, 2) := by decide +kernel
theorem dX7_scrape_71 : decode cX7_scrape 71 = .ok (.putfield 88, 3) := by decide +kernel
theorem dX7_scrape_74 : decode cX7_scrape 74 = .ok (.iload_n 3, 1) := by decide +kernel
theorem dX7_scrape_75 : decode cX7_scrape 75 = .ok (.ireturn, 1) := by decide +kernel
theorem dX7_asked_0 : decode cX7_asked 0 = .ok (.aload_n 0, 1) := by decide +kernel
theorem dX7_asked_1 : decode cX7_asked 1 = .ok (.getfield 88, 3) := by decide +kernel
theorem dX7_asked_4 : decode cX7_asked 4 = .ok (.ireturn, 1) := by decide +kernel
theorem dX7_upper_0 : decode cX7_upper 0 = .ok (.aload_n 0, 1) := by decide +kernel
theorem dX7_upper_1 : decode cX7_upper 1 = .ok (.getfield 92, 3) := by decide +kernel
theorem dX7_upper_4 : decode cX7_upper 4 = .ok (.lreturn, 1) := by decide +kernel
theorem dX7_lower_0 : decode cX7_lower 0 = .ok (.aload_n 0, 1) := by decide +kernel
theorem dX7_lower_1 : decode cX7_lower 1 = .ok (.getfield 96, 3) := by decide +kernel
theorem dX7_lower_4 : decode cX7_lower 4 = .ok (.lreturn, 1) := by decide +kernel
theorem dX7_count_0 : decode cX7_count 0 = .ok (.iload_n 1, 1) := by decide +kernel
theorem dX7_count_1 : decode cX7_count 1 = .ok (.bipush 8, 2) := by decide +kernel
theorem dX7_count_3 : decode cX7_count 3 = .ok (.invokestatic 105, 3) := by decide +kernel
theorem dX7_count_6 : decode cX7_count 6 = .ok (.ifCond .eq 11, 3) := by decide +kernel
theorem dX7_count_9 : decode cX7_count 9 = .ok (.aload_n 0, 1) := by decide +kernel
theorem dX7_count_10 : decode cX7_count 10 = .ok (.iload_n 1, 1) := by decide +kernel
theorem dX7_count_11 : decode cX7_count 11 = .ok (.invokevirtual 325, 3) := by decide +kernel
theorem dX7_count_14 : decode cX7_count 14 = .ok (.goto 4, 3) := by decide +kernel
theorem dX7_count_17 : decode cX7_count 17 = .ok (.iconst (-1), 1) := by decide +kernel
theorem dX7_count_18 : decode cX7_count 18 = .ok (.ireturn, 1) := by decide +kernel
theorem dX7_finding_0 : decode cX7_finding 0 = .ok (.aload_n 0, 1) := by decide +kernel
theorem dX7_finding_1 : decode cX7_finding 1 = .ok (.getfield 99, 3) := by decide +kernel
theorem dX7_finding_4 : decode cX7_finding 4 = .ok (.ireturn, 1) := by decide +kernel
theorem dX7_findings_0 : decode cX7_findings 0 = .ok (.iload_n 1, 1) := by decide +kernel
theorem dX7_findings_1 : decode cX7_findings 1 = .ok (.iconst 1, 1) := by decide +kernel
theorem dX7_findings_2 : decode cX7_findings 2 = .ok (.if_icmp .lt 8, 3) := by decide +kernel
theorem dX7_findings_5 : decode cX7_findings 5 = .ok (.iload_n 1, 1) := by decide +kernel
theorem dX7_findings_6 : decode cX7_findings 6 = .ok (.iconst 5, 1) := by decide +kernel
theorem dX7_findings_7 : decode cX7_findings 7 = .ok (.if_icmp .le 7, 3) := by decide +kernel
theorem dX7_findings_10 : decode cX7_findings 10 = .ok (.iconst (-1), 1) := by decide +kernel
theorem dX7_findings_11 : decode cX7_findings 11 = .ok (.goto 9, 3) := by decide +kernel
theorem dX7_findings_14 : decode cX7_findings 14 = .ok (.aload_n 0, 1) := by decide +kernel
theorem dX7_findings_15 : decode cX7_findings 15 = .ok (.getfield 102, 3) := by decide +kernel
theorem dX7_findings_18 : decode cX7_findings 18 = .ok (.iload_n 1, 1) := by decide +kernel
theorem dX7_findings_19 : decode cX7_findings 19 = .ok (.iaload, 1) := by decide +kernel
theorem dX7_findings_20 : decode cX7_findings 20 = .ok (.ireturn, 1) := by decide +kernel
theorem dX7_digest_0 : decode cX7_digest 0 = .ok (.ldc2_w 328, 3) := by decide +kernel
theorem dX7_digest_3 : decode cX7_digest 3 = .ok (.lstore_n 1, 1) := by decide +kernel
theorem dX7_digest_4 : decode cX7_digest 4 = .ok (.iconst 0, 1) := by decide +kernel
theorem dX7_digest_5 : decode cX7_digest 5 = .ok (.istore_n 3, 1) := by decide +kernel
theorem dX7_digest_6 : decode cX7_digest 6 = .ok (.iload_n 3, 1) := by decide +kernel
theorem dX7_digest_7 : decode cX7_digest 7 = .ok (.bipush 8, 2) := by decide +kernel
theorem dX7_digest_9 : decode cX7_digest 9 = .ok (.if_icmp .ge 22, 3) := by decide +kernel
theorem dX7_digest_12 : decode cX7_digest 12 = .ok (.ldc2_w 330, 3) := by decide +kernel
theorem dX7_digest_15 : decode cX7_digest 15 = .ok (.lload_n 1, 1) := by decide +kernel
theorem dX7_digest_16 : decode cX7_digest 16 = .ok (.lmul, 1) := by decide +kernel
theorem dX7_digest_17 : decode cX7_digest 17 = .ok (.aload_n 0, 1) := by decide +kernel
theorem dX7_digest_18 : decode cX7_digest 18 = .ok (.iload_n 3, 1) := by decide +kernel
theorem dX7_digest_19 : decode cX7_digest 19 = .ok (.invokevirtual 325, 3) := by decide +kernel
theorem dX7_digest_22 : decode cX7_digest 22 = .ok (.i2l, 1) := by decide +kernel
theorem dX7_digest_23 : decode cX7_digest 23 = .ok (.ladd, 1) := by decide +kernel
theorem dX7_digest_24 : decode cX7_digest 24 = .ok (.lstore_n 1, 1) := by decide +kernel
theorem dX7_digest_25 : decode cX7_digest 25 = .ok (.iinc 3 1, 3) := by decide +kernel
theorem dX7_digest_28 : decode cX7_digest 28 = .ok (.goto (-22), 3) := by decide +kernel
theorem dX7_digest_31 : decode cX7_digest 31 = .ok (.iconst 0, 1) := by decide +kernel
theorem dX7_digest_32 : decode cX7_digest 32 = .ok (.istore_n 3, 1) := by decide +kernel
theorem dX7_digest_33 : decode cX7_digest 33 = .ok (.iload_n 3, 1) := by decide +kernel
theorem dX7_digest_34 : decode cX7_digest 34 = .ok (.iconst 4, 1) := by decide +kernel
theorem dX7_digest_35 : decode cX7_digest 35 = .ok (.if_icmp .ge 20, 3) := by decide +kernel
theorem dX7_digest_38 : decode cX7_digest 38 = .ok (.aload_n 0, 1) := by decide +kernel
theorem dX7_digest_39 : decode cX7_digest 39 = .ok (.getfield 34, 3) := by decide +kernel
theorem dX7_digest_42 : decode cX7_digest 42 = .ok (.iload_n 3, 1) := by decide +kernel
theorem dX7_digest_43 : decode cX7_digest 43 = .ok (.aaload, 1) := by decide +kernel
theorem dX7_digest_44 : decode cX7_digest 44 = .ok (.lload_n 1, 1) := by decide +kernel
theorem dX7_digest_45 : decode cX7_digest 45 = .ok (.invokevirtual 332, 3) := by decide +kernel
theorem dX7_digest_48 : decode cX7_digest 48 = .ok (.lstore_n 1, 1) := by decide +kernel
theorem dX7_digest_49 : decode cX7_digest 49 = .ok (.iinc 3 1, 3) := by decide +kernel
theorem dX7_digest_52 : decode cX7_digest 52 = .ok (.goto (-19), 3) := by decide +kernel
theorem dX7_digest_55 : decode cX7_digest 55 = .ok (.iconst 0, 1) := by decide +kernel
theorem dX7_digest_56 : decode cX7_digest 56 = .ok (.istore_n 3, 1) := by decide +kernel
theorem dX7_digest_57 : decode cX7_digest 57 = .ok (.iload_n 3, 1) := by decide +kernel
theorem dX7_digest_58 : decode cX7_digest 58 = .ok (.iconst 4, 1) := by decide +kernel
theorem dX7_digest_59 : decode cX7_digest 59 = .ok (.if_icmp .ge 20, 3) := by decide +kernel
theorem dX7_digest_62 : decode cX7_digest 62 = .ok (.aload_n 0, 1) := by decide +kernel
theorem dX7_digest_63 : decode cX7_digest 63 = .ok (.getfield 41, 3) := by decide +kernel
theorem dX7_digest_66 : decode cX7_digest 66 = .ok (.iload_n 3, 1) := by decide +kernel
theorem dX7_digest_67 : decode cX7_digest 67 = .ok (.aaload, 1) := by decide +kernel
theorem dX7_digest_68 : decode cX7_digest 68 = .ok (.lload_n 1, 1) := by decide +kernel
theorem dX7_digest_69 : decode cX7_digest 69 = .ok (.invokevirtual 336, 3) := by decide +kernel
theorem dX7_digest_72 : decode cX7_digest 72 = .ok (.lstore_n 1, 1) := by decide +kernel
theorem dX7_digest_73 : decode cX7_digest 73 = .ok (.iinc 3 1, 3) := by decide +kernel
theorem dX7_digest_76 : decode cX7_digest 76 = .ok (.goto (-19), 3) := by decide +kernel
theorem dX7_digest_79 : decode cX7_digest 79 = .ok (.aload_n 0, 1) := by decide +kernel
theorem dX7_digest_80 : decode cX7_digest 80 = .ok (.getfield 49, 3) := by decide +kernel
theorem dX7_digest_83 : decode cX7_digest 83 = .ok (.lload_n 1, 1) := by decide +kernel
theorem dX7_digest_84 : decode cX7_digest 84 = .ok (.invokevirtual 337, 3) := by decide +kernel
theorem dX7_digest_87 : decode cX7_digest 87 = .ok (.lstore_n 1, 1) := by decide +kernel
theorem dX7_digest_88 : decode cX7_digest 88 = .ok (.iconst 0, 1) := by decide +kernel
theorem dX7_digest_89 : decode cX7_digest 89 = .ok (.istore_n 3, 1) := by decide +kernel
theorem dX7_digest_90 : decode cX7_digest 90 = .ok (.iload_n 3, 1) := by decide +kernel
theorem dX7_digest_91 : decode cX7_digest 91 = .ok (.bipush 6, 2) := by decide +kernel
theorem dX7_digest_93 : decode cX7_digest 93 = .ok (.if_icmp .ge 60, 3) := by decide +kernel
theorem dX7_digest_96 : decode cX7_digest 96 = .ok (.ldc2_w 330, 3) := by decide +kernel
theorem dX7_digest_99 : decode cX7_digest 99 = .ok (.lload_n 1, 1) := by decide +kernel
theorem dX7_digest_100 : decode cX7_digest 100 = .ok (.lmul, 1) := by decide +kernel
theorem dX7_digest_101 : decode cX7_digest 101 = .ok (.aload_n 0, 1) := by decide +kernel
theorem dX7_digest_102 : decode cX7_digest 102 = .ok (.getfield 14, 3) := by decide +kernel
theorem dX7_digest_105 : decode cX7_digest 105 = .ok (.iload_n 3, 1) := by decide +kernel
theorem dX7_digest_106 : decode cX7_digest 106 = .ok (.iaload, 1) := by decide +kernel
theorem dX7_digest_107 : decode cX7_digest 107 = .ok (.i2l, 1) := by decide +kernel
theorem dX7_digest_108 : decode cX7_digest 108 = .ok (.ladd, 1) := by decide +kernel
theorem dX7_digest_109 : decode cX7_digest 109 = .ok (.lstore_n 1, 1) := by decide +kernel
theorem dX7_digest_110 : decode cX7_digest 110 = .ok (.iconst 0, 1) := by decide +kernel
theorem dX7_digest_111 : decode cX7_digest 111 = .ok (.istore 4, 2) := by decide +kernel
theorem dX7_digest_113 : decode cX7_digest 113 = .ok (.iload 4, 2) := by decide +kernel
theorem dX7_digest_115 : decode cX7_digest 115 = .ok (.aload_n 0, 1) := by decide +kernel
theorem dX7_digest_116 : decode cX7_digest 116 = .ok (.getfield 14, 3) := by decide +kernel
theorem dX7_digest_119 : decode cX7_digest 119 = .ok (.iload_n 3, 1) := by decide +kernel
theorem dX7_digest_120 : decode cX7_digest 120 = .ok (.iaload, 1) := by decide +kernel
theorem dX7_digest_121 : decode cX7_digest 121 = .ok (.if_icmp .ge 26, 3) := by decide +kernel
theorem dX7_digest_124 : decode cX7_digest 124 = .ok (.ldc2_w 330, 3) := by decide +kernel
theorem dX7_digest_127 : decode cX7_digest 127 = .ok (.lload_n 1, 1) := by decide +kernel
theorem dX7_digest_128 : decode cX7_digest 128 = .ok (.lmul, 1) := by decide +kernel
theorem dX7_digest_129 : decode cX7_digest 129 = .ok (.aload_n 0, 1) := by decide +kernel
theorem dX7_digest_130 : decode cX7_digest 130 = .ok (.getfield 11, 3) := by decide +kernel
theorem dX7_digest_133 : decode cX7_digest 133 = .ok (.iload_n 3, 1) := by decide +kernel
theorem dX7_digest_134 : decode cX7_digest 134 = .ok (.aaload, 1) := by decide +kernel
theorem dX7_digest_135 : decode cX7_digest 135 = .ok (.iload 4, 2) := by decide +kernel
theorem dX7_digest_137 : decode cX7_digest 137 = .ok (.iaload, 1) := by decide +kernel
theorem dX7_digest_138 : decode cX7_digest 138 = .ok (.i2l, 1) := by decide +kernel
theorem dX7_digest_139 : decode cX7_digest 139 = .ok (.ladd, 1) := by decide +kernel
theorem dX7_digest_140 : decode cX7_digest 140 = .ok (.lstore_n 1, 1) := by decide +kernel
theorem dX7_digest_141 : decode cX7_digest 141 = .ok (.iinc 4 1, 3) := by decide +kernel
theorem dX7_digest_144 : decode cX7_digest 144 = .ok (.goto (-31), 3) := by decide +kernel
theorem dX7_digest_147 : decode cX7_digest 147 = .ok (.iinc 3 1, 3) := by decide +kernel
theorem dX7_digest_150 : decode cX7_digest 150 = .ok (.goto (-60), 3) := by decide +kernel
theorem dX7_digest_153 : decode cX7_digest 153 = .ok (.iconst 0, 1) := by decide +kernel
theorem dX7_digest_154 : decode cX7_digest 154 = .ok (.istore_n 3, 1) := by decide +kernel
theorem dX7_digest_155 : decode cX7_digest 155 = .ok (.iload_n 3, 1) := by decide +kernel
theorem dX7_digest_156 : decode cX7_digest 156 = .ok (.iconst 4, 1) := by decide +kernel
theorem dX7_digest_157 : decode cX7_digest 157 = .ok (.if_icmp .ge 60, 3) := by decide +kernel
theorem dX7_digest_160 : decode cX7_digest 160 = .ok (.ldc2_w 330, 3) := by decide +kernel
theorem dX7_digest_163 : decode cX7_digest 163 = .ok (.lload_n 1, 1) := by decide +kernel
theorem dX7_digest_164 : decode cX7_digest 164 = .ok (.lmul, 1) := by decide +kernel
theorem dX7_digest_165 : decode cX7_digest 165 = .ok (.aload_n 0, 1) := by decide +kernel
theorem dX7_digest_166 : decode cX7_digest 166 = .ok (.getfield 29, 3) := by decide +kernel
theorem dX7_digest_169 : decode cX7_digest 169 = .ok (.iload_n 3, 1) := by decide +kernel
theorem dX7_digest_170 : decode cX7_digest 170 = .ok (.iaload, 1) := by decide +kernel
theorem dX7_digest_171 : decode cX7_digest 171 = .ok (.i2l, 1) := by decide +kernel
theorem dX7_digest_172 : decode cX7_digest 172 = .ok (.ladd, 1) := by decide +kernel
theorem dX7_digest_173 : decode cX7_digest 173 = .ok (.lstore_n 1, 1) := by decide +kernel
theorem dX7_digest_174 : decode cX7_digest 174 = .ok (.iconst 0, 1) := by decide +kernel
theorem dX7_digest_175 : decode cX7_digest 175 = .ok (.istore 4, 2) := by decide +kernel
theorem dX7_digest_177 : decode cX7_digest 177 = .ok (.iload 4, 2) := by decide +kernel
theorem dX7_digest_179 : decode cX7_digest 179 = .ok (.aload_n 0, 1) := by decide +kernel
theorem dX7_digest_180 : decode cX7_digest 180 = .ok (.getfield 29, 3) := by decide +kernel
theorem dX7_digest_183 : decode cX7_digest 183 = .ok (.iload_n 3, 1) := by decide +kernel
theorem dX7_digest_184 : decode cX7_digest 184 = .ok (.iaload, 1) := by decide +kernel
theorem dX7_digest_185 : decode cX7_digest 185 = .ok (.if_icmp .ge 26, 3) := by decide +kernel
theorem dX7_digest_188 : decode cX7_digest 188 = .ok (.ldc2_w 330, 3) := by decide +kernel
theorem dX7_digest_191 : decode cX7_digest 191 = .ok (.lload_n 1, 1) := by decide +kernel
theorem dX7_digest_192 : decode cX7_digest 192 = .ok (.lmul, 1) := by decide +kernel
theorem dX7_digest_193 : decode cX7_digest 193 = .ok (.aload_n 0, 1) := by decide +kernel
theorem dX7_digest_194 : decode cX7_digest 194 = .ok (.getfield 26, 3) := by decide +kernel
theorem dX7_digest_197 : decode cX7_digest 197 = .ok (.iload_n 3, 1) := by decide +kernel
theorem dX7_digest_198 : decode cX7_digest 198 = .ok (.aaload, 1) := by decide +kernel
theorem dX7_digest_199 : decode cX7_digest 199 = .ok (.iload 4, 2) := by decide +kernel
theorem dX7_digest_201 : decode cX7_digest 201 = .ok (.baload, 1) := by decide +kernel
theorem dX7_digest_202 : decode cX7_digest 202 = .ok (.i2l, 1) := by decide +kernel
theorem dX7_digest_203 : decode cX7_digest 203 = .ok (.ladd, 1) := by decide +kernel
theorem dX7_digest_204 : decode cX7_digest 204 = .ok (.lstore_n 1, 1) := by decide +kernel
theorem dX7_digest_205 : decode cX7_digest 205 = .ok (.iinc 4 1, 3) := by decide +kernel
theorem dX7_digest_208 : decode cX7_digest 208 = .ok (.goto (-31), 3) := by decide +kernel
theorem dX7_digest_211 : decode cX7_digest 211 = .ok (.iinc 3 1, 3) := by decide +kernel
theorem dX7_digest_214 : decode cX7_digest 214 = .ok (.goto (-59), 3) := by decide +kernel
theorem dX7_digest_217 : decode cX7_digest 217 = .ok (.lload_n 1, 1) := by decide +kernel
theorem dX7_digest_218 : decode cX7_digest 218 = .ok (.lreturn, 1) := by decide +kernel
theorem dX7_isBelow_0 : decode cX7_isBelow 0 = .ok (.iload_n 0, 1) := by decide +kernel
theorem dX7_isBelow_1 : decode cX7_isBelow 1 = .ok (.ifCond .lt 12, 3) := by decide +kernel
theorem dX7_isBelow_4 : decode cX7_isBelow 4 = .ok (.iload_n 0, 1) := by decide +kernel
theorem dX7_isBelow_5 : decode cX7_isBelow 5 = .ok (.iload_n 1, 1) := by decide +kernel
theorem dX7_isBelow_6 : decode cX7_isBelow 6 = .ok (.if_icmp .ge 7, 3) := by decide +kernel
theorem dX7_isBelow_9 : decode cX7_isBelow 9 = .ok (.iconst 1, 1) := by decide +kernel
theorem dX7_isBelow_10 : decode cX7_isBelow 10 = .ok (.goto 4, 3) := by decide +kernel
theorem dX7_isBelow_13 : decode cX7_isBelow 13 = .ok (.iconst 0, 1) := by decide +kernel
theorem dX7_isBelow_14 : decode cX7_isBelow 14 = .ok (.ireturn, 1) := by decide +kernel
theorem dX7_isUpTo_0 : decode cX7_isUpTo 0 = .ok (.iload_n 0, 1) := by decide +kernel
theorem dX7_isUpTo_1 : decode cX7_isUpTo 1 = .ok (.ifCond .lt 12, 3) := by decide +kernel
theorem dX7_isUpTo_4 : decode cX7_isUpTo 4 = .ok (.iload_n 0, 1) := by decide +kernel
theorem dX7_isUpTo_5 : decode cX7_isUpTo 5 = .ok (.iload_n 1, 1) := by decide +kernel
theorem dX7_isUpTo_6 : decode cX7_isUpTo 6 = .ok (.if_icmp .gt 7, 3) := by decide +kernel
theorem dX7_isUpTo_9 : decode cX7_isUpTo 9 = .ok (.iconst 1, 1) := by decide +kernel
theorem dX7_isUpTo_10 : decode cX7_isUpTo 10 = .ok (.goto 4, 3) := by decide +kernel
theorem dX7_isUpTo_13 : decode cX7_isUpTo 13 = .ok (.iconst 0, 1) := by decide +kernel
theorem dX7_isUpTo_14 : decode cX7_isUpTo 14 = .ok (.ireturn, 1) := by decide +kernel
theorem dX7_areBuilders_0 : decode cX7_areBuilders 0 = .ok (.iload_n 0, 1) := by decide +kernel
theorem dX7_areBuilders_1 : decode cX7_areBuilders 1 = .ok (.iconst 1, 1) := by decide +kernel
theorem dX7_areBuilders_2 : decode cX7_areBuilders 2 = .ok (.if_icmp .eq 8, 3) := by decide +kernel
theorem dX7_areBuilders_5 : decode cX7_areBuilders 5 = .ok (.iload_n 0, 1) := by decide +kernel
theorem dX7_areBuilders_6 : decode cX7_areBuilders 6 = .ok (.iconst 2, 1) := by decide +kernel
theorem dX7_areBuilders_7 : decode cX7_areBuilders 7 = .ok (.if_icmp .ne 7, 3) := by decide +kernel
theorem dX7_areBuilders_10 : decode cX7_areBuilders 10 = .ok (.iconst 1, 1) := by decide +kernel
theorem dX7_areBuilders_11 : decode cX7_areBuilders 11 = .ok (.goto 4, 3) := by decide +kernel
theorem dX7_areBuilders_14 : decode cX7_areBuilders 14 = .ok (.iconst 0, 1) := by decide +kernel
theorem dX7_areBuilders_15 : decode cX7_areBuilders 15 = .ok (.ireturn, 1) := by decide +kernel
theorem dX7_hasPlaces_0 : decode cX7_hasPlaces 0 = .ok (.iload_n 1, 1) := by decide +kernel
theorem dX7_hasPlaces_1 : decode cX7_hasPlaces 1 = .ok (.ifCond .lt 19, 3) := by decide +kernel
theorem dX7_hasPlaces_4 : decode cX7_hasPlaces 4 = .ok (.iload_n 2, 1) := by decide +kernel
theorem dX7_hasPlaces_5 : decode cX7_hasPlaces 5 = .ok (.iload_n 0, 1) := by decide +kernel
theorem dX7_hasPlaces_6 : decode cX7_hasPlaces 6 = .ok (.if_icmp .gt 14, 3) := by decide +kernel
theorem dX7_hasPlaces_9 : decode cX7_hasPlaces 9 = .ok (.iload_n 1, 1) := by decide +kernel
theorem dX7_hasPlaces_10 : decode cX7_hasPlaces 10 = .ok (.iload_n 0, 1) := by decide +kernel
theorem dX7_hasPlaces_11 : decode cX7_hasPlaces 11 = .ok (.iload_n 2, 1) := by decide +kernel
theorem dX7_hasPlaces_12 : decode cX7_hasPlaces 12 = .ok (.isub, 1) := by decide +kernel
theorem dX7_hasPlaces_13 : decode cX7_hasPlaces 13 = .ok (.if_icmp .gt 7, 3) := by decide +kernel
theorem dX7_hasPlaces_16 : decode cX7_hasPlaces 16 = .ok (.iconst 1, 1) := by decide +kernel
theorem dX7_hasPlaces_17 : decode cX7_hasPlaces 17 = .ok (.goto 4, 3) := by decide +kernel
theorem dX7_hasPlaces_20 : decode cX7_hasPlaces 20 = .ok (.iconst 0, 1) := by decide +kernel
theorem dX7_hasPlaces_21 : decode cX7_hasPlaces 21 = .ok (.ireturn, 1) := by decide +kernel
theorem dX7_isLaid_0 : decode cX7_isLaid 0 = .ok (.aload_n 0, 1) := by decide +kernel
theorem dX7_isLaid_1 : decode cX7_isLaid 1 = .ok (.getfield 49, 3) := by decide +kernel
theorem dX7_isLaid_4 : decode cX7_isLaid 4 = .ok (.getfield 189, 3) := by decide +kernel
theorem dX7_isLaid_7 : decode cX7_isLaid 7 = .ok (.ifCond .eq 21, 3) := by decide +kernel
theorem dX7_isLaid_10 : decode cX7_isLaid 10 = .ok (.iload_n 1, 1) := by decide +kernel
theorem dX7_isLaid_11 : decode cX7_isLaid 11 = .ok (.aload_n 0, 1) := by decide +kernel
theorem dX7_isLaid_12 : decode cX7_isLaid 12 = .ok (.getfield 49, 3) := by decide +kernel
theorem dX7_isLaid_15 : decode cX7_isLaid 15 = .ok (.getfield 190, 3) := by decide +kernel
theorem dX7_isLaid_18 : decode cX7_isLaid 18 = .ok (.invokestatic 105, 3) := by decide +kernel
theorem dX7_isLaid_21 : decode cX7_isLaid 21 = .ok (.ifCond .eq 7, 3) := by decide +kernel
theorem dX7_isLaid_24 : decode cX7_isLaid 24 = .ok (.iconst 1, 1) := by decide +kernel
theorem dX7_isLaid_25 : decode cX7_isLaid 25 = .ok (.goto 4, 3) := by decide +kernel
theorem dX7_isLaid_28 : decode cX7_isLaid 28 = .ok (.iconst 0, 1) := by decide +kernel
theorem dX7_isLaid_29 : decode cX7_isLaid 29 = .ok (.ireturn, 1) := by decide +kernel
theorem dX7_found_0 : decode cX7_found 0 = .ok (.aload_n 0, 1) := by decide +kernel
theorem dX7_found_1 : decode cX7_found 1 = .ok (.iload_n 1, 1) := by decide +kernel
theorem dX7_found_2 : decode cX7_found 2 = .ok (.putfield 99, 3) := by decide +kernel
theorem dX7_found_5 : decode cX7_found 5 = .ok (.iload_n 1, 1) := by decide +kernel
theorem dX7_found_6 : decode cX7_found 6 = .ok (.iconst 5, 1) := by decide +kernel
theorem dX7_found_7 : decode cX7_found 7 = .ok (.invokestatic 186, 3) := by decide +kernel
theorem dX7_found_10 : decode cX7_found 10 = .ok (.ifCond .eq 13, 3) := by decide +kernel
theorem dX7_found_13 : decode cX7_found 13 = .ok (.aload_n 0, 1) := by decide +kernel
theorem dX7_found_14 : decode cX7_found 14 = .ok (.getfield 102, 3) := by decide +kernel
theorem dX7_found_17 : decode cX7_found 17 = .ok (.iload_n 1, 1) := by decide +kernel
theorem dX7_found_18 : decode cX7_found 18 = .ok (.dup2, 1) := by decide +kernel
theorem dX7_found_19 : decode cX7_found 19 = .ok (.iaload, 1) := by decide +kernel
theorem dX7_found_20 : decode cX7_found 20 = .ok (.iconst 1, 1) := by decide +kernel
theorem dX7_found_21 : decode cX7_found 21 = .ok (.iadd, 1) := by decide +kernel
theorem dX7_found_22 : decode cX7_found 22 = .ok (.iastore, 1) := by decide +kernel
theorem dX7_found_23 : decode cX7_found 23 = .ok (.bipush (-3), 2) := by decide +kernel
theorem dX7_found_25 : decode cX7_found 25 = .ok (.ireturn, 1) := by decide +kernel
theorem dX7_tell_0 : decode cX7_tell 0 = .ok (.aload_n 0, 1) := by decide +kernel
theorem dX7_tell_1 : decode cX7_tell 1 = .ok (.iload_n 1, 1) := by decide +kernel
theorem dX7_tell_2 : decode cX7_tell 2 = .ok (.putfield 88, 3) := by decide +kernel
theorem dX7_tell_5 : decode cX7_tell 5 = .ok (.iconst 1, 1) := by decide +kernel
theorem dX7_tell_6 : decode cX7_tell 6 = .ok (.ireturn, 1) := by decide +kernel
theorem dX7_tellPart_0 : decode cX7_tellPart 0 = .ok (.iload_n 1, 1) := by decide +kernel
theorem dX7_tellPart_1 : decode cX7_tellPart 1 = .ok (.i2l, 1) := by decide +kernel
theorem dX7_tellPart_2 : decode cX7_tellPart 2 = .ok (.lstore_n 3, 1) := by decide +kernel
theorem dX7_tellPart_3 : decode cX7_tellPart 3 = .ok (.iload_n 2, 1) := by decide +kernel
theorem dX7_tellPart_4 : decode cX7_tellPart 4 = .ok (.i2l, 1) := by decide +kernel
theorem dX7_tellPart_5 : decode cX7_tellPart 5 = .ok (.lstore 5, 2) := by decide +kernel
theorem dX7_tellPart_7 : decode cX7_tellPart 7 = .ok (.iconst 0, 1) := by decide +kernel
theorem dX7_tellPart_8 : decode cX7_tellPart 8 = .ok (.istore 7, 2) := by decide +kernel
theorem dX7_tellPart_10 : decode cX7_tellPart 10 = .ok (.iload 7, 2) := by decide +kernel
theorem dX7_tellPart_12 : decode cX7_tellPart 12 = .ok (.bipush 64, 2) := by decide +kernel
theorem dX7_tellPart_14 : decode cX7_tellPart 14 = .ok (.if_icmp .ge 29, 3) := by decide +kernel
theorem dX7_tellPart_17 : decode cX7_tellPart 17 = .ok (.lload 5, 2) := by decide +kernel
theorem dX7_tellPart_19 : decode cX7_tellPart 19 = .ok (.lconst 0, 1) := by decide +kernel
theorem dX7_tellPart_20 : decode cX7_tellPart 20 = .ok (.lcmp, 1) := by decide +kernel
theorem dX7_tellPart_21 : decode cX7_tellPart 21 = .ok (.ifCond .eq 22, 3) := by decide +kernel
theorem dX7_tellPart_24 : decode cX7_tellPart 24 = .ok (.lload_n 3, 1) := by decide +kernel
theorem dX7_tellPart_25 : decode cX7_tellPart 25 = .ok (.lload 5, 2) := by decide +kernel
theorem dX7_tellPart_27 : decode cX7_tellPart 27 = .ok (.lrem, 1) := by decide +kernel
theorem dX7_tellPart_28 : decode cX7_tellPart 28 = .ok (.lstore 8, 2) := by decide +kernel
theorem dX7_tellPart_30 : decode cX7_tellPart 30 = .ok (.lload 5, 2) := by decide +kernel
theorem dX7_tellPart_32 : decode cX7_tellPart 32 = .ok (.lstore_n 3, 1) := by decide +kernel
theorem dX7_tellPart_33 : decode cX7_tellPart 33 = .ok (.lload 8, 2) := by decide +kernel
theorem dX7_tellPart_35 : decode cX7_tellPart 35 = .ok (.lstore 5, 2) := by decide +kernel
theorem dX7_tellPart_37 : decode cX7_tellPart 37 = .ok (.iinc 7 1, 3) := by decide +kernel
theorem dX7_tellPart_40 : decode cX7_tellPart 40 = .ok (.goto (-30), 3) := by decide +kernel
theorem dX7_tellPart_43 : decode cX7_tellPart 43 = .ok (.lload_n 3, 1) := by decide +kernel
theorem dX7_tellPart_44 : decode cX7_tellPart 44 = .ok (.lconst 0, 1) := by decide +kernel
theorem dX7_tellPart_45 : decode cX7_tellPart 45 = .ok (.lcmp, 1) := by decide +kernel
theorem dX7_tellPart_46 : decode cX7_tellPart 46 = .ok (.ifCond .gt 5, 3) := by decide +kernel
theorem dX7_tellPart_49 : decode cX7_tellPart 49 = .ok (.lconst 1, 1) := by decide +kernel
theorem dX7_tellPart_50 : decode cX7_tellPart 50 = .ok (.lstore_n 3, 1) := by decide +kernel
theorem dX7_tellPart_51 : decode cX7_tellPart 51 = .ok (.aload_n 0, 1) := by decide +kernel
theorem dX7_tellPart_52 : decode cX7_tellPart 52 = .ok (.iload_n 1, 1) := by decide +kernel
theorem dX7_tellPart_53 : decode cX7_tellPart 53 = .ok (.i2l, 1) := by decide +kernel
theorem dX7_tellPart_54 : decode cX7_tellPart 54 = .ok (.lload_n 3, 1) := by decide +kernel
theorem dX7_tellPart_55 : decode cX7_tellPart 55 = .ok (.ldiv, 1) := by decide +kernel
theorem dX7_tellPart_56 : decode cX7_tellPart 56 = .ok (.putfield 92, 3) := by decide +kernel
theorem dX7_tellPart_59 : decode cX7_tellPart 59 = .ok (.aload_n 0, 1) := by decide +kernel
theorem dX7_tellPart_60 : decode cX7_tellPart 60 = .ok (.iload_n 2, 1) := by decide +kernel
theorem dX7_tellPart_61 : decode cX7_tellPart 61 = .ok (.i2l, 1) := by decide +kernel
theorem dX7_tellPart_62 : decode cX7_tellPart 62 = .ok (.lload_n 3, 1) := by decide +kernel
theorem dX7_tellPart_63 : decode cX7_tellPart 63 = .ok (.ldiv, 1) := by decide +kernel
theorem dX7_tellPart_64 : decode cX7_tellPart 64 = .ok (.putfield 96, 3) := by decide +kernel
theorem dX7_tellPart_67 : decode cX7_tellPart 67 = .ok (.return_, 1) := by decide +kernel
theorem dX7_onesOf_0 : decode cX7_onesOf 0 = .ok (.iconst 0, 1) := by decide +kernel
theorem dX7_onesOf_1 : decode cX7_onesOf 1 = .ok (.istore_n 2, 1) := by decide +kernel
theorem dX7_onesOf_2 : decode cX7_onesOf 2 = .ok (.iconst 0, 1) := by decide +kernel
theorem dX7_onesOf_3 : decode cX7_onesOf 3 = .ok (.istore_n 3, 1) := by decide +kernel
theorem dX7_onesOf_4 : decode cX7_onesOf 4 = .ok (.iload_n 3, 1) := by decide +kernel
theorem dX7_onesOf_5 : decode cX7_onesOf 5 = .ok (.aload_n 0, 1) := by decide +kernel
theorem dX7_onesOf_6 : decode cX7_onesOf 6 = .ok (.getfield 14, 3) := by decide +kernel
theorem dX7_onesOf_9 : decode cX7_onesOf 9 = .ok (.iload_n 1, 1) := by decide +kernel
theorem dX7_onesOf_10 : decode cX7_onesOf 10 = .ok (.iaload, 1) := by decide +kernel
theorem dX7_onesOf_11 : decode cX7_onesOf 11 = .ok (.if_icmp .ge 37, 3) := by decide +kernel
theorem dX7_onesOf_14 : decode cX7_onesOf 14 = .ok (.aload_n 0, 1) := by decide +kernel
theorem dX7_onesOf_15 : decode cX7_onesOf 15 = .ok (.getfield 11, 3) := by decide +kernel
theorem dX7_onesOf_18 : decode cX7_onesOf 18 = .ok (.iload_n 1, 1) := by decide +kernel
theorem dX7_onesOf_19 : decode cX7_onesOf 19 = .ok (.aaload, 1) := by decide +kernel
theorem dX7_onesOf_20 : decode cX7_onesOf 20 = .ok (.iload_n 3, 1) := by decide +kernel
theorem dX7_onesOf_21 : decode cX7_onesOf 21 = .ok (.iaload, 1) := by decide +kernel
theorem dX7_onesOf_22 : decode cX7_onesOf 22 = .ok (.iconst 1, 1) := by decide +kernel
theorem dX7_onesOf_23 : decode cX7_onesOf 23 = .ok (.invokestatic 186, 3) := by decide +kernel
theorem dX7_onesOf_26 : decode cX7_onesOf 26 = .ok (.ifCond .ne 5, 3) := by decide +kernel
theorem dX7_onesOf_29 : decode cX7_onesOf 29 = .ok (.iconst (-1), 1) := by decide +kernel
theorem dX7_onesOf_30 : decode cX7_onesOf 30 = .ok (.ireturn, 1) := by decide +kernel
theorem dX7_onesOf_31 : decode cX7_onesOf 31 = .ok (.iload_n 2, 1) := by decide +kernel
theorem dX7_onesOf_32 : decode cX7_onesOf 32 = .ok (.aload_n 0, 1) := by decide +kernel
theorem dX7_onesOf_33 : decode cX7_onesOf 33 = .ok (.getfield 11, 3) := by decide +kernel
theorem dX7_onesOf_36 : decode cX7_onesOf 36 = .ok (.iload_n 1, 1) := by decide +kernel
theorem dX7_onesOf_37 : decode cX7_onesOf 37 = .ok (.aaload, 1) := by decide +kernel
theorem dX7_onesOf_38 : decode cX7_onesOf 38 = .ok (.iload_n 3, 1) := by decide +kernel
theorem dX7_onesOf_39 : decode cX7_onesOf 39 = .ok (.iaload, 1) := by decide +kernel
theorem dX7_onesOf_40 : decode cX7_onesOf 40 = .ok (.iadd, 1) := by decide +kernel
theorem dX7_onesOf_41 : decode cX7_onesOf 41 = .ok (.istore_n 2, 1) := by decide +kernel
theorem dX7_onesOf_42 : decode cX7_onesOf 42 = .ok (.iinc 3 1, 3) := by decide +kernel
theorem dX7_onesOf_45 : decode cX7_onesOf 45 = .ok (.goto (-41), 3) := by decide +kernel
theorem dX7_onesOf_48 : decode cX7_onesOf 48 = .ok (.iload_n 2, 1) := by decide +kernel
theorem dX7_onesOf_49 : decode cX7_onesOf 49 = .ok (.ireturn, 1) := by decide +kernel
theorem dX7_leastMinutes_0 : decode cX7_leastMinutes 0 = .ok (.aload_n 0, 1) := by decide +kernel
theorem dX7_leastMinutes_1 : decode cX7_leastMinutes 1 = .ok (.getfield 57, 3) := by decide +kernel
theorem dX7_leastMinutes_4 : decode cX7_leastMinutes 4 = .ok (.aload_n 0, 1) := by decide +kernel
theorem dX7_leastMinutes_5 : decode cX7_leastMinutes 5 = .ok (.getfield 49, 3) := by decide +kernel
theorem dX7_leastMinutes_8 : decode cX7_leastMinutes 8 = .ok (.invokevirtual 230, 3) := by decide +kernel
theorem dX7_leastMinutes_11 : decode cX7_leastMinutes 11 = .ok (.iconst 1, 1) := by decide +kernel
theorem dX7_leastMinutes_12 : decode cX7_leastMinutes 12 = .ok (.istore_n 1, 1) := by decide +kernel
theorem dX7_leastMinutes_13 : decode cX7_leastMinutes 13 = .ok (.iload_n 1, 1) := by decide +kernel
theorem dX7_leastMinutes_14 : decode cX7_leastMinutes 14 = .ok (.bipush 9, 2) := by decide +kernel
theorem dX7_leastMinutes_16 : decode cX7_leastMinutes 16 = .ok (.if_icmp .gt 33, 3) := by decide +kernel
theorem dX7_leastMinutes_19 : decode cX7_leastMinutes 19 = .ok (.aload_n 0, 1) := by decide +kernel
theorem dX7_leastMinutes_20 : decode cX7_leastMinutes 20 = .ok (.getfield 57, 3) := by decide +kernel
theorem dX7_leastMinutes_23 : decode cX7_leastMinutes 23 = .ok (.getfield 185, 3) := by decide +kernel
theorem dX7_leastMinutes_26 : decode cX7_leastMinutes 26 = .ok (.iload_n 1, 1) := by decide +kernel
theorem dX7_leastMinutes_27 : decode cX7_leastMinutes 27 = .ok (.putfield 240, 3) := by decide +kernel
theorem dX7_leastMinutes_30 : decode cX7_leastMinutes 30 = .ok (.aload_n 0, 1) := by decide +kernel
theorem dX7_leastMinutes_31 : decode cX7_leastMinutes 31 = .ok (.getfield 57, 3) := by decide +kernel
theorem dX7_leastMinutes_34 : decode cX7_leastMinutes 34 = .ok (.iconst 0, 1) := by decide +kernel
theorem dX7_leastMinutes_35 : decode cX7_leastMinutes 35 = .ok (.invokevirtual 237, 3) := by decide +kernel
theorem dX7_leastMinutes_38 : decode cX7_leastMinutes 38 = .ok (.ifCond .ne 5, 3) := by decide +kernel
theorem dX7_leastMinutes_41 : decode cX7_leastMinutes 41 = .ok (.iload_n 1, 1) := by decide +kernel
theorem dX7_leastMinutes_42 : decode cX7_leastMinutes 42 = .ok (.ireturn, 1) := by decide +kernel
theorem dX7_leastMinutes_43 : decode cX7_leastMinutes 43 = .ok (.iinc 1 1, 3) := by decide +kernel
theorem dX7_leastMinutes_46 : decode cX7_leastMinutes 46 = .ok (.goto (-33), 3) := by decide +kernel
theorem dX7_leastMinutes_49 : decode cX7_leastMinutes 49 = .ok (.bipush (-9), 2) := by decide +kernel
theorem dX7_leastMinutes_51 : decode cX7_leastMinutes 51 = .ok (.ireturn, 1) := by decide +kernel
theorem dX7_leastCold_0 : decode cX7_leastCold 0 = .ok (.aload_n 0, 1) := by decide +kernel
theorem dX7_leastCold_1 : decode cX7_leastCold 1 = .ok (.getfield 57, 3) := by decide +kernel
theorem dX7_leastCold_4 : decode cX7_leastCold 4 = .ok (.aload_n 0, 1) := by decide +kernel
theorem dX7_leastCold_5 : decode cX7_leastCold 5 = .ok (.getfield 49, 3) := by decide +kernel
theorem dX7_leastCold_8 : decode cX7_leastCold 8 = .ok (.invokevirtual 230, 3) := by decide +kernel
theorem dX7_leastCold_11 : decode cX7_leastCold 11 = .ok (.iconst 0, 1) := by decide +kernel
theorem dX7_leastCold_12 : decode cX7_leastCold 12 = .ok (.istore_n 1, 1) := by decide +kernel
theorem dX7_leastCold_13 : decode cX7_leastCold 13 = .ok (.iload_n 1, 1) := by decide +kernel
theorem dX7_leastCold_14 : decode cX7_leastCold 14 = .ok (.bipush 40, 2) := by decide +kernel
theorem dX7_leastCold_16 : decode cX7_leastCold 16 = .ok (.if_icmp .gt 35, 3) := by decide +kernel
theorem dX7_leastCold_19 : decode cX7_leastCold 19 = .ok (.aload_n 0, 1) := by decide +kernel
theorem dX7_leastCold_20 : decode cX7_leastCold 20 = .ok (.getfield 57, 3) := by decide +kernel
theorem dX7_leastCold_23 : decode cX7_leastCold 23 = .ok (.getfield 338, 3) := by decide +kernel
theorem dX7_leastCold_26 : decode cX7_leastCold 26 = .ok (.getfield 161, 3) := by decide +kernel
theorem dX7_leastCold_29 : decode cX7_leastCold 29 = .ok (.iconst 2, 1) := by decide +kernel
theorem dX7_leastCold_30 : decode cX7_leastCold 30 = .ok (.iload_n 1, 1) := by decide +kernel
theorem dX7_leastCold_31 : decode cX7_leastCold 31 = .ok (.iastore, 1) := by decide +kernel
theorem dX7_leastCold_32 : decode cX7_leastCold 32 = .ok (.aload_n 0, 1) := by decide +kernel
theorem dX7_leastCold_33 : decode cX7_leastCold 33 = .ok (.getfield 57, 3) := by decide +kernel
theorem dX7_leastCold_36 : decode cX7_leastCold 36 = .ok (.iconst 0, 1) := by decide +kernel
theorem dX7_leastCold_37 : decode cX7_leastCold 37 = .ok (.invokevirtual 237, 3) := by decide +kernel
theorem dX7_leastCold_40 : decode cX7_leastCold 40 = .ok (.ifCond .ne 5, 3) := by decide +kernel
theorem dX7_leastCold_43 : decode cX7_leastCold 43 = .ok (.iload_n 1, 1) := by decide +kernel
theorem dX7_leastCold_44 : decode cX7_leastCold 44 = .ok (.ireturn, 1) := by decide +kernel
theorem dX7_leastCold_45 : decode cX7_leastCold 45 = .ok (.iinc 1 1, 3) := by decide +kernel
theorem dX7_leastCold_48 : decode cX7_leastCold 48 = .ok (.goto (-35), 3) := by decide +kernel
theorem dX7_leastCold_51 : decode cX7_leastCold 51 = .ok (.bipush (-9), 2) := by decide +kernel
theorem dX7_leastCold_53 : decode cX7_leastCold 53 = .ok (.ireturn, 1) := by decide +kernel
theorem dX7_plansThere_0 : decode cX7_plansThere 0 = .ok (.iconst 0, 1) := by decide +kernel
theorem dX7_plansThere_1 : decode cX7_plansThere 1 = .ok (.istore_n 1, 1) := by decide +kernel
theorem dX7_plansThere_2 : decode cX7_plansThere 2 = .ok (.iconst 0, 1) := by decide +kernel
theorem dX7_plansThere_3 : decode cX7_plansThere 3 = .ok (.istore_n 2, 1) := by decide +kernel
theorem dX7_plansThere_4 : decode cX7_plansThere 4 = .ok (.iload_n 2, 1) := by decide +kernel
theorem dX7_plansThere_5 : decode cX7_plansThere 5 = .ok (.iconst 4, 1) := by decide +kernel
theorem dX7_plansThere_6 : decode cX7_plansThere 6 = .ok (.if_icmp .ge 24, 3) := by decide +kernel
theorem dX7_plansThere_9 : decode cX7_plansThere 9 = .ok (.aload_n 0, 1) := by decide +kernel
theorem dX7_plansThere_10 : decode cX7_plansThere 10 = .ok (.getfield 41, 3) := by decide +kernel
theorem dX7_plansThere_13 : decode cX7_plansThere 13 = .ok (.iload_n 2, 1) := by decide +kernel
theorem dX7_plansThere_14 : decode cX7_plansThere 14 = .ok (.aaload, 1) := by decide +kernel
theorem dX7_plansThere_15 : decode cX7_plansThere 15 = .ok (.getfield 164, 3) := by decide +kernel
theorem dX7_plansThere_18 : decode cX7_plansThere 18 = .ok (.ifCond .eq 6, 3) := by decide +kernel
theorem dX7_plansThere_21 : decode cX7_plansThere 21 = .ok (.iinc 1 1, 3) := by decide +kernel
theorem dX7_plansThere_24 : decode cX7_plansThere 24 = .ok (.iinc 2 1, 3) := by decide +kernel
theorem dX7_plansThere_27 : decode cX7_plansThere 27 = .ok (.goto (-23), 3) := by decide +kernel
theorem dX7_plansThere_30 : decode cX7_plansThere 30 = .ok (.iload_n 1, 1) := by decide +kernel
theorem dX7_plansThere_31 : decode cX7_plansThere 31 = .ok (.ireturn, 1) := by decide +kernel
theorem dX7_snowsThere_0 : decode cX7_snowsThere 0 = .ok (.iconst 0, 1) := by decide +kernel
theorem dX7_snowsThere_1 : decode cX7_snowsThere 1 = .ok (.istore_n 1, 1) := by decide +kernel
theorem dX7_snowsThere_2 : decode cX7_snowsThere 2 = .ok (.iconst 0, 1) := by decide +kernel
theorem dX7_snowsThere_3 : decode cX7_snowsThere 3 = .ok (.istore_n 2, 1) := by decide +kernel
theorem dX7_snowsThere_4 : decode cX7_snowsThere 4 = .ok (.iload_n 2, 1) := by decide +kernel
theorem dX7_snowsThere_5 : decode cX7_snowsThere 5 = .ok (.iconst 4, 1) := by decide +kernel
theorem dX7_snowsThere_6 : decode cX7_snowsThere 6 = .ok (.if_icmp .ge 24, 3) := by decide +kernel
theorem dX7_snowsThere_9 : decode cX7_snowsThere 9 = .ok (.aload_n 0, 1) := by decide +kernel
theorem dX7_snowsThere_10 : decode cX7_snowsThere 10 = .ok (.getfield 34, 3) := by decide +kernel
theorem dX7_snowsThere_13 : decode cX7_snowsThere 13 = .ok (.iload_n 2, 1) := by decide +kernel
theorem dX7_snowsThere_14 : decode cX7_snowsThere 14 = .ok (.aaload, 1) := by decide +kernel
theorem dX7_snowsThere_15 : decode cX7_snowsThere 15 = .ok (.getfield 157, 3) := by decide +kernel
theorem dX7_snowsThere_18 : decode cX7_snowsThere 18 = .ok (.ifCond .eq 6, 3) := by decide +kernel
theorem dX7_snowsThere_21 : decode cX7_snowsThere 21 = .ok (.iinc 1 1, 3) := by decide +kernel
theorem dX7_snowsThere_24 : decode cX7_snowsThere 24 = .ok (.iinc 2 1, 3) := by decide +kernel
theorem dX7_snowsThere_27 : decode cX7_snowsThere 27 = .ok (.goto (-23), 3) := by decide +kernel
theorem dX7_snowsThere_30 : decode cX7_snowsThere 30 = .ok (.iload_n 1, 1) := by decide +kernel
theorem dX7_snowsThere_31 : decode cX7_snowsThere 31 = .ok (.ireturn, 1) := by decide +kernel
theorem dX7_kept_0 : decode cX7_kept 0 = .ok (.iconst 0, 1) := by decide +kernel
theorem dX7_kept_1 : decode cX7_kept 1 = .ok (.istore_n 1, 1) := by decide +kernel
theorem dX7_kept_2 : decode cX7_kept 2 = .ok (.iconst 0, 1) := by decide +kernel
theorem dX7_kept_3 : decode cX7_kept 3 = .ok (.istore_n 2, 1) := by decide +kernel
theorem dX7_kept_4 : decode cX7_kept 4 = .ok (.iload_n 2, 1) := by decide +kernel
theorem dX7_kept_5 : decode cX7_kept 5 = .ok (.iconst 3, 1) := by decide +kernel
theorem dX7_kept_6 : decode cX7_kept 6 = .ok (.if_icmp .ge 24, 3) := by decide +kernel
theorem dX7_kept_9 : decode cX7_kept 9 = .ok (.aload_n 0, 1) := by decide +kernel
theorem dX7_kept_10 : decode cX7_kept 10 = .ok (.getfield 53, 3) := by decide +kernel
theorem dX7_kept_13 : decode cX7_kept 13 = .ok (.iload_n 2, 1) := by decide +kernel
theorem dX7_kept_14 : decode cX7_kept 14 = .ok (.aaload, 1) := by decide +kernel
theorem dX7_kept_15 : decode cX7_kept 15 = .ok (.getfield 189, 3) := by decide +kernel
theorem dX7_kept_18 : decode cX7_kept 18 = .ok (.ifCond .eq 6, 3) := by decide +kernel
theorem dX7_kept_21 : decode cX7_kept 21 = .ok (.iinc 1 1, 3) := by decide +kernel
theorem dX7_kept_24 : decode cX7_kept 24 = .ok (.iinc 2 1, 3) := by decide +kernel
theorem dX7_kept_27 : decode cX7_kept 27 = .ok (.goto (-23), 3) := by decide +kernel
theorem dX7_kept_30 : decode cX7_kept 30 = .ok (.iload_n 1, 1) := by decide +kernel
theorem dX7_kept_31 : decode cX7_kept 31 = .ok (.ireturn, 1) := by decide +kernel
theorem dX7_sizesThere_0 : decode cX7_sizesThere 0 = .ok (.iconst 0, 1) := by decide +kernel
theorem dX7_sizesThere_1 : decode cX7_sizesThere 1 = .ok (.istore_n 1, 1) := by decide +kernel
theorem dX7_sizesThere_2 : decode cX7_sizesThere 2 = .ok (.iconst 0, 1) := by decide +kernel
theorem dX7_sizesThere_3 : decode cX7_sizesThere 3 = .ok (.istore_n 2, 1) := by decide +kernel
theorem dX7_sizesThere_4 : decode cX7_sizesThere 4 = .ok (.iload_n 2, 1) := by decide +kernel
theorem dX7_sizesThere_5 : decode cX7_sizesThere 5 = .ok (.aload_n 0, 1) := by decide +kernel
theorem dX7_sizesThere_6 : decode cX7_sizesThere 6 = .ok (.arraylength, 1) := by decide +kernel
theorem dX7_sizesThere_7 : decode cX7_sizesThere 7 = .ok (.if_icmp .ge 18, 3) := by decide +kernel
theorem dX7_sizesThere_10 : decode cX7_sizesThere 10 = .ok (.aload_n 0, 1) := by decide +kernel
theorem dX7_sizesThere_11 : decode cX7_sizesThere 11 = .ok (.iload_n 2, 1) := by decide +kernel
theorem dX7_sizesThere_12 : decode cX7_sizesThere 12 = .ok (.iaload, 1) := by decide +kernel
theorem dX7_sizesThere_13 : decode cX7_sizesThere 13 = .ok (.ifCond .lt 6, 3) := by decide +kernel
theorem dX7_sizesThere_16 : decode cX7_sizesThere 16 = .ok (.iinc 1 1, 3) := by decide +kernel
theorem dX7_sizesThere_19 : decode cX7_sizesThere 19 = .ok (.iinc 2 1, 3) := by decide +kernel
theorem dX7_sizesThere_22 : decode cX7_sizesThere 22 = .ok (.goto (-18), 3) := by decide +kernel
theorem dX7_sizesThere_25 : decode cX7_sizesThere 25 = .ok (.iload_n 1, 1) := by decide +kernel
theorem dX7_sizesThere_26 : decode cX7_sizesThere 26 = .ok (.ireturn, 1) := by decide +kernel
theorem dX7_counted_0 : decode cX7_counted 0 = .ok (.iload_n 1, 1) := by decide +kernel
theorem dX7_counted_1 : decode cX7_counted 1 = .ok (.tableswitch 90 0 6 #[43, 48, 53, 61, 69, 77, 82], 43) := by decide +kernel
theorem dX7_counted_44 : decode cX7_counted 44 = .ok (.aload_n 0, 1) := by decide +kernel
theorem dX7_counted_45 : decode cX7_counted 45 = .ok (.invokevirtual 339, 3) := by decide +kernel
theorem dX7_counted_48 : decode cX7_counted 48 = .ok (.ireturn, 1) := by decide +kernel
theorem dX7_counted_49 : decode cX7_counted 49 = .ok (.aload_n 0, 1) := by decide +kernel
theorem dX7_counted_50 : decode cX7_counted 50 = .ok (.invokevirtual 270, 3) := by decide +kernel
theorem dX7_counted_53 : decode cX7_counted 53 = .ok (.ireturn, 1) := by decide +kernel
theorem dX7_counted_54 : decode cX7_counted 54 = .ok (.aload_n 0, 1) := by decide +kernel
theorem dX7_counted_55 : decode cX7_counted 55 = .ok (.getfield 49, 3) := by decide +kernel
theorem dX7_counted_58 : decode cX7_counted 58 = .ok (.getfield 190, 3) := by decide +kernel
theorem dX7_counted_61 : decode cX7_counted 61 = .ok (.ireturn, 1) := by decide +kernel
theorem dX7_counted_62 : decode cX7_counted 62 = .ok (.aload_n 0, 1) := by decide +kernel
theorem dX7_counted_63 : decode cX7_counted 63 = .ok (.getfield 49, 3) := by decide +kernel
theorem dX7_counted_66 : decode cX7_counted 66 = .ok (.getfield 227, 3) := by decide +kernel
theorem dX7_counted_69 : decode cX7_counted 69 = .ok (.ireturn, 1) := by decide +kernel
theorem dX7_counted_70 : decode cX7_counted 70 = .ok (.aload_n 0, 1) := by decide +kernel
theorem dX7_counted_71 : decode cX7_counted 71 = .ok (.getfield 49, 3) := by decide +kernel
theorem dX7_counted_74 : decode cX7_counted 74 = .ok (.invokevirtual 342, 3) := by decide +kernel
theorem dX7_counted_77 : decode cX7_counted 77 = .ok (.ireturn, 1) := by decide +kernel
theorem dX7_counted_78 : decode cX7_counted 78 = .ok (.aload_n 0, 1) := by decide +kernel
theorem dX7_counted_79 : decode cX7_counted 79 = .ok (.invokevirtual 345, 3) := by decide +kernel
theorem dX7_counted_82 : decode cX7_counted 82 = .ok (.ireturn, 1) := by decide +kernel
theorem dX7_counted_83 : decode cX7_counted 83 = .ok (.aload_n 0, 1) := by decide +kernel
theorem dX7_counted_84 : decode cX7_counted 84 = .ok (.getfield 14, 3) := by decide +kernel
theorem dX7_counted_87 : decode cX7_counted 87 = .ok (.invokestatic 348, 3) := by decide +kernel
theorem dX7_counted_90 : decode cX7_counted 90 = .ok (.ireturn, 1) := by decide +kernel
theorem dX7_counted_91 : decode cX7_counted 91 = .ok (.aload_n 0, 1) := by decide +kernel
theorem dX7_counted_92 : decode cX7_counted 92 = .ok (.getfield 29, 3) := by decide +kernel
theorem dX7_counted_95 : decode cX7_counted 95 = .ok (.invokestatic 348, 3) := by decide +kernel
theorem dX7_counted_98 : decode cX7_counted 98 = .ok (.ireturn, 1) := by decide +kernel
theorem dX8_init_0 : decode cX8_init 0 = .ok (.aload_n 0, 1) := by decide +kernel
theorem dX8_init_1 : decode cX8_init 1 = .ok (.invokespecial 1, 3) := by decide +kernel
theorem dX8_init_4 : decode cX8_init 4 = .ok (.aload_n 0, 1) := by decide +kernel
theorem dX8_init_5 : decode cX8_init 5 = .ok (.bipush 6, 2) := by decide +kernel
theorem dX8_init_7 : decode cX8_init 7 = .ok (.newarray .int, 2) := by decide +kernel
theorem dX8_init_9 : decode cX8_init 9 = .ok (.putfield 7, 3) := by decide +kernel
theorem dX8_init_12 : decode cX8_init 12 = .ok (.aload_n 0, 1) := by decide +kernel
theorem dX8_init_13 : decode cX8_init 13 = .ok (.bipush 6, 2) := by decide +kernel
theorem dX8_init_15 : decode cX8_init 15 = .ok (.newarray .int, 2) := by decide +kernel
theorem dX8_init_17 : decode cX8_init 17 = .ok (.putfield 13, 3) := by decide +kernel
theorem dX8_init_20 : decode cX8_init 20 = .ok (.aload_n 0, 1) := by decide +kernel
theorem dX8_init_21 : decode cX8_init 21 = .ok (.sipush 360, 3) := by decide +kernel
theorem dX8_init_24 : decode cX8_init 24 = .ok (.newarray .int, 2) := by decide +kernel
theorem dX8_init_26 : decode cX8_init 26 = .ok (.putfield 16, 3) := by decide +kernel
theorem dX8_init_29 : decode cX8_init 29 = .ok (.aload_n 0, 1) := by decide +kernel
theorem dX8_init_30 : decode cX8_init 30 = .ok (.bipush 60, 2) := by decide +kernel
theorem dX8_init_32 : decode cX8_init 32 = .ok (.newarray .int, 2) := by decide +kernel
theorem dX8_init_34 : decode cX8_init 34 = .ok (.putfield 19, 3) := by decide +kernel
theorem dX8_init_37 : decode cX8_init 37 = .ok (.aload_n 0, 1) := by decide +kernel
theorem dX8_init_38 : decode cX8_init 38 = .ok (.iconst 4, 1) := by decide +kernel
theorem dX8_init_39 : decode cX8_init 39 = .ok (.newarray .int, 2) := by decide +kernel
theorem dX8_init_41 : decode cX8_init 41 = .ok (.putfield 22, 3) := by decide +kernel
theorem dX8_init_44 : decode cX8_init 44 = .ok (.aload_n 0, 1) := by decide +kernel
theorem dX8_init_45 : decode cX8_init 45 = .ok (.sipush 320, 3) := by decide +kernel
theorem dX8_init_48 : decode cX8_init 48 = .ok (.newarray .byte, 2) := by decide +kernel
theorem dX8_init_50 : decode cX8_init 50 = .ok (.putfield 25, 3) := by decide +kernel
theorem dX8_init_53 : decode cX8_init 53 = .ok (.aload_n 0, 1) := by decide +kernel
theorem dX8_init_54 : decode cX8_init 54 = .ok (.iconst 4, 1) := by decide +kernel
theorem dX8_init_55 : decode cX8_init 55 = .ok (.newarray .boolean, 2) := by decide +kernel
theorem dX8_init_57 : decode cX8_init 57 = .ok (.putfield 29, 3) := by decide +kernel
theorem dX8_init_60 : decode cX8_init 60 = .ok (.aload_n 0, 1) := by decide +kernel
theorem dX8_init_61 : decode cX8_init 61 = .ok (.bipush 16, 2) := by decide +kernel
theorem dX8_init_63 : decode cX8_init 63 = .ok (.newarray .int, 2) := by decide +kernel
theorem dX8_init_65 : decode cX8_init 65 = .ok (.putfield 33, 3) := by decide +kernel
theorem dX8_init_68 : decode cX8_init 68 = .ok (.aload_n 0, 1) := by decide +kernel
theorem dX8_init_69 : decode cX8_init 69 = .ok (.iconst 4, 1) := by decide +kernel
theorem dX8_init_70 : decode cX8_init 70 = .ok (.newarray .boolean, 2) := by decide +kernel
theorem dX8_init_72 : decode cX8_init 72 = .ok (.putfield 36, 3) := by decide +kernel
theorem dX8_init_75 : decode cX8_init 75 = .ok (.aload_n 0, 1) := by decide +kernel
theorem dX8_init_76 : decode cX8_init 76 = .ok (.bipush 104, 2) := by decide +kernel
theorem dX8_init_78 : decode cX8_init 78 = .ok (.newarray .int, 2) := by decide +kernel
theorem dX8_init_80 : decode cX8_init 80 = .ok (.putfield 39, 3) := by decide +kernel
theorem dX8_init_83 : decode cX8_init 83 = .ok (.aload_n 0, 1) := by decide +kernel
theorem dX8_init_84 : decode cX8_init 84 = .ok (.iconst 4, 1) := by decide +kernel
theorem dX8_init_85 : decode cX8_init 85 = .ok (.newarray .int, 2) := by decide +kernel
theorem dX8_init_87 : decode cX8_init 87 = .ok (.putfield 42, 3) := by decide +kernel
theorem dX8_init_90 : decode cX8_init 90 = .ok (.aload_n 0, 1) := by decide +kernel
theorem dX8_init_91 : decode cX8_init 91 = .ok (.bipush 26, 2) := by decide +kernel
theorem dX8_init_93 : decode cX8_init 93 = .ok (.newarray .int, 2) := by decide +kernel
theorem dX8_init_95 : decode cX8_init 95 = .ok (.putfield 45, 3) := by decide +kernel
theorem dX8_init_98 : decode cX8_init 98 = .ok (.aload_n 0, 1) := by decide +kernel
theorem dX8_init_99 : decode cX8_init 99 = .ok (.iconst 4, 1) := by decide +kernel
theorem dX8_init_100 : decode cX8_init 100 = .ok (.newarray .boolean, 2) := by decide +kernel
theorem dX8_init_102 : decode cX8_init 102 = .ok (.putfield 48, 3) := by decide +kernel
theorem dX8_init_105 : decode cX8_init 105 = .ok (.aload_n 0, 1) := by decide +kernel
theorem dX8_init_106 : decode cX8_init 106 = .ok (.sipush 760, 3) := by decide +kernel
theorem dX8_init_109 : decode cX8_init 109 = .ok (.newarray .int, 2) := by decide +kernel
theorem dX8_init_111 : decode cX8_init 111 = .ok (.putfield 51, 3) := by decide +kernel
theorem dX8_init_114 : decode cX8_init 114 = .ok (.aload_n 0, 1) := by decide +kernel
theorem dX8_init_115 : decode cX8_init 115 = .ok (.sipush 205, 3) := by decide +kernel
theorem dX8_init_118 : decode cX8_init 118 = .ok (.newarray .int, 2) := by decide +kernel
theorem dX8_init_120 : decode cX8_init 120 = .ok (.putfield 54, 3) := by decide +kernel
theorem dX8_init_123 : decode cX8_init 123 = .ok (.aload_n 0, 1) := by decide +kernel
theorem dX8_init_124 : decode cX8_init 124 = .ok (.iconst 4, 1) := by decide +kernel
theorem dX8_init_125 : decode cX8_init 125 = .ok (.newarray .boolean, 2) := by decide +kernel
theorem dX8_init_127 : decode cX8_init 127 = .ok (.putfield 57, 3) := by decide +kernel
theorem dX8_init_130 : decode cX8_init 130 = .ok (.aload_n 0, 1) := by decide +kernel
theorem dX8_init_131 : decode cX8_init 131 = .ok (.bipush 6, 2) := by decide +kernel
theorem dX8_init_133 : decode cX8_init 133 = .ok (.newarray .int, 2) := by decide +kernel
theorem dX8_init_135 : decode cX8_init 135 = .ok (.putfield 60, 3) := by decide +kernel
theorem dX8_init_138 : decode cX8_init 138 = .ok (.aload_n 0, 1) := by decide +kernel
theorem dX8_init_139 : decode cX8_init 139 = .ok (.lconst 1, 1) := by decide +kernel
theorem dX8_init_140 : decode cX8_init 140 = .ok (.putfield 63, 3) := by decide +kernel
theorem dX8_init_143 : decode cX8_init 143 = .ok (.iconst 0, 1) := by decide +kernel
theorem dX8_init_144 : decode cX8_init 144 = .ok (.istore_n 1, 1) := by decide +kernel
theorem dX8_init_145 : decode cX8_init 145 = .ok (.iload_n 1, 1) := by decide +kernel
theorem dX8_init_146 : decode cX8_init 146 = .ok (.bipush 6, 2) := by decide +kernel
theorem dX8_init_148 : decode cX8_init 148 = .ok (.if_icmp .ge 16, 3) := by decide +kernel
theorem dX8_init_151 : decode cX8_init 151 = .ok (.aload_n 0, 1) := by decide +kernel
theorem dX8_init_152 : decode cX8_init 152 = .ok (.getfield 13, 3) := by decide +kernel
theorem dX8_init_155 : decode cX8_init 155 = .ok (.iload_n 1, 1) := by decide +kernel
theorem dX8_init_156 : decode cX8_init 156 = .ok (.iconst (-1), 1) := by decide +kernel
theorem dX8_init_157 : decode cX8_init 157 = .ok (.iastore, 1) := by decide +kernel
theorem dX8_init_158 : decode cX8_init 158 = .ok (.iinc 1 1, 3) := by decide +kernel
theorem dX8_init_161 : decode cX8_init 161 = .ok (.goto (-16), 3) := by decide +kernel
theorem dX8_init_164 : decode cX8_init 164 = .ok (.iconst 0, 1) := by decide +kernel
theorem dX8_init_165 : decode cX8_init 165 = .ok (.istore_n 1, 1) := by decide +kernel
theorem dX8_init_166 : decode cX8_init 166 = .ok (.iload_n 1, 1) := by decide +kernel
theorem dX8_init_167 : decode cX8_init 167 = .ok (.iconst 4, 1) := by decide +kernel
theorem dX8_init_168 : decode cX8_init 168 = .ok (.if_icmp .ge 16, 3) := by decide +kernel
theorem dX8_init_171 : decode cX8_init 171 = .ok (.aload_n 0, 1) := by decide +kernel
theorem dX8_init_172 : decode cX8_init 172 = .ok (.getfield 22, 3) := by decide +kernel
theorem dX8_init_175 : decode cX8_init 175 = .ok (.iload_n 1, 1) := by decide +kernel
theorem dX8_init_176 : decode cX8_init 176 = .ok (.iconst (-1), 1) := by decide +kernel
theorem dX8_init_177 : decode cX8_init 177 = .ok (.iastore, 1) := by decide +kernel
theorem dX8_init_178 : decode cX8_init 178 = .ok (.iinc 1 1, 3) := by decide +kernel
theorem dX8_init_181 : decode cX8_init 181 = .ok (.goto (-15), 3) := by decide +kernel
theorem dX8_init_184 : decode cX8_init 184 = .ok (.return_, 1) := by decide +kernel
theorem dX8_in_0 : decode cX8_in 0 = .ok (.iload_n 0, 1) := by decide +kernel
theorem dX8_in_1 : decode cX8_in 1 = .ok (.iload_n 1, 1) := by decide +kernel
theorem dX8_in_2 : decode cX8_in 2 = .ok (.if_icmp .lt 12, 3) := by decide +kernel
theorem dX8_in_5 : decode cX8_in 5 = .ok (.iload_n 0, 1) := by decide +kernel
theorem dX8_in_6 : decode cX8_in 6 = .ok (.iload_n 2, 1) := by decide +kernel
theorem dX8_in_7 : decode cX8_in 7 = .ok (.if_icmp .gt 7, 3) := by decide +kernel
theorem dX8_in_10 : decode cX8_in 10 = .ok (.iconst 1, 1) := by decide +kernel
theorem dX8_in_11 : decode cX8_in 11 = .ok (.goto 4, 3) := by decide +kernel
theorem dX8_in_14 : decode cX8_in 14 = .ok (.iconst 0, 1) := by decide +kernel
theorem dX8_in_15 : decode cX8_in 15 = .ok (.ireturn, 1) := by decide +kernel
theorem dX8_lesser_0 : decode cX8_lesser 0 = .ok (.iload_n 0, 1) := by decide +kernel
theorem dX8_lesser_1 : decode cX8_lesser 1 = .ok (.iload_n 1, 1) := by decide +kernel
theorem dX8_lesser_2 : decode cX8_lesser 2 = .ok (.if_icmp .ge 7, 3) := by decide +kernel
theorem dX8_lesser_5 : decode cX8_lesser 5 = .ok (.iload_n 0, 1) := by decide +kernel
theorem dX8_lesser_6 : decode cX8_lesser 6 = .ok (.goto 4, 3) := by decide +kernel
theorem dX8_lesser_9 : decode cX8_lesser 9 = .ok (.iload_n 1, 1) := by decide +kernel
theorem dX8_lesser_10 : decode cX8_lesser 10 = .ok (.ireturn, 1) := by decide +kernel
theorem dX8_greater_0 : decode cX8_greater 0 = .ok (.iload_n 0, 1) := by decide +kernel
theorem dX8_greater_1 : decode cX8_greater 1 = .ok (.iload_n 1, 1) := by decide +kernel
theorem dX8_greater_2 : decode cX8_greater 2 = .ok (.if_icmp .le 7, 3) := by decide +kernel
theorem dX8_greater_5 : decode cX8_greater 5 = .ok (.iload_n 0, 1) := by decide +kernel
theorem dX8_greater_6 : decode cX8_greater 6 = .ok (.goto 4, 3) := by decide +kernel
theorem dX8_greater_9 : decode cX8_greater 9 = .ok (.iload_n 1, 1) := by decide +kernel
theorem dX8_greater_10 : decode cX8_greater 10 = .ok (.ireturn, 1) := by decide +kernel
theorem dX8_meets_0 : decode cX8_meets 0 = .ok (.aload_n 0, 1) := by decide +kernel
theorem dX8_meets_1 : decode cX8_meets 1 = .ok (.iload_n 1, 1) := by decide +kernel
theorem dX8_meets_2 : decode cX8_meets 2 = .ok (.putfield 67, 3) := by decide +kernel
theorem dX8_meets_5 : decode cX8_meets 5 = .ok (.aload_n 0, 1) := by decide +kernel
theorem dX8_meets_6 : decode cX8_meets 6 = .ok (.getfield 7, 3) := by decide +kernel
theorem dX8_meets_9 : decode cX8_meets 9 = .ok (.iload_n 1, 1) := by decide +kernel
theorem dX8_meets_10 : decode cX8_meets 10 = .ok (.dup2, 1) := by decide +kernel
theorem dX8_meets_11 : decode cX8_meets 11 = .ok (.iaload, 1) := by decide +kernel
theorem dX8_meets_12 : decode cX8_meets 12 = .ok (.iconst 1, 1) := by decide +kernel
theorem dX8_meets_13 : decode cX8_meets 13 = .ok (.iadd, 1) := by decide +kernel
theorem dX8_meets_14 : decode cX8_meets 14 = .ok (.iastore, 1) := by decide +kernel
theorem dX8_meets_15 : decode cX8_meets 15 = .ok (.bipush (-3), 2) := by decide +kernel
theorem dX8_meets_17 : decode cX8_meets 17 = .ok (.ireturn, 1) := by decide +kernel
theorem dX8_finding_0 : decode cX8_finding 0 = .ok (.aload_n 0, 1) := by decide +kernel
theorem dX8_finding_1 : decode cX8_finding 1 = .ok (.getfield 67, 3) := by decide +kernel
theorem dX8_finding_4 : decode cX8_finding 4 = .ok (.ireturn, 1) := by decide +kernel
theorem dX8_findings_0 : decode cX8_findings 0 = .ok (.iload_n 1, 1) := by decide +kernel
theorem dX8_findings_1 : decode cX8_findings 1 = .ok (.iconst 1, 1) := by decide +kernel
theorem dX8_findings_2 : decode cX8_findings 2 = .ok (.iconst 5, 1) := by decide +kernel
theorem dX8_findings_3 : decode cX8_findings 3 = .ok (.invokestatic 71, 3) := by decide +kernel
theorem dX8_findings_6 : decode cX8_findings 6 = .ok (.ifCond .eq 12, 3) := by decide +kernel
theorem dX8_findings_9 : decode cX8_findings 9 = .ok (.aload_n 0, 1) := by decide +kernel
theorem dX8_findings_10 : decode cX8_findings 10 = .ok (.getfield 7, 3) := by decide +kernel
theorem dX8_findings_13 : decode cX8_findings 13 = .ok (.iload_n 1, 1) := by decide +kernel
theorem dX8_findings_14 : decode cX8_findings 14 = .ok (.iaload, 1) := by decide +kernel
theorem dX8_findings_15 : decode cX8_findings 15 = .ok (.goto 4, 3) := by decide +kernel
theorem dX8_findings_18 : decode cX8_findings 18 = .ok (.iconst (-1), 1) := by decide +kernel
theorem dX8_findings_19 : decode cX8_findings 19 = .ok (.ireturn, 1) := by decide +kernel
theorem dX8_tellsBy_0 : decode cX8_tellsBy 0 = .ok (.aload_n 0, 1) := by decide +kernel
theorem dX8_tellsBy_1 : decode cX8_tellsBy 1 = .ok (.iload_n 1, 1) := by decide +kernel
theorem dX8_tellsBy_2 : decode cX8_tellsBy 2 = .ok (.putfield 75, 3) := by decide +kernel
theorem dX8_tellsBy_5 : decode cX8_tellsBy 5 = .ok (.iload_n 2, 1) := by decide +kernel
theorem dX8_tellsBy_6 : decode cX8_tellsBy 6 = .ok (.ireturn, 1) := by decide +kernel
theorem dX8_asked_0 : decode cX8_asked 0 = .ok (.aload_n 0, 1) := by decide +kernel
theorem dX8_asked_1 : decode cX8_asked 1 = .ok (.getfield 75, 3) := by decide +kernel
theorem dX8_asked_4 : decode cX8_asked 4 = .ok (.ireturn, 1) := by decide +kernel
theorem dX8_fraction_0 : decode cX8_fraction 0 = .ok (.lload_n 1, 1) := by decide +kernel
theorem dX8_fraction_1 : decode cX8_fraction 1 = .ok (.lstore 6, 2) := by decide +kernel
theorem dX8_fraction_3 : decode cX8_fraction 3 = .ok (.lload_n 3, 1) := by decide +kernel
theorem dX8_fraction_4 : decode cX8_fraction 4 = .ok (.lstore 8, 2) := by decide +kernel
theorem dX8_fraction_6 : decode cX8_fraction 6 = .ok (.lload 8, 2) := by decide +kernel
theorem dX8_fraction_8 : decode cX8_fraction 8 = .ok (.lconst 0, 1) := by decide +kernel
theorem dX8_fraction_9 : decode cX8_fraction 9 = .ok (.lcmp, 1) := by decide +kernel
theorem dX8_fraction_10 : decode cX8_fraction 10 = .ok (.ifCond .eq 21, 3) := by decide +kernel
theorem dX8_fraction_13 : decode cX8_fraction 13 = .ok (.lload 6, 2) := by decide +kernel
theorem dX8_fraction_15 : decode cX8_fraction 15 = .ok (.lload 8, 2) := by decide +kernel
theorem dX8_fraction_17 : decode cX8_fraction 17 = .ok (.lrem, 1) := by decide +kernel
theorem dX8_fraction_18 : decode cX8_fraction 18 = .ok (.lstore 10, 2) := by decide +kernel
theorem dX8_fraction_20 : decode cX8_fraction 20 = .ok (.lload 8, 2) := by decide +kernel
theorem dX8_fraction_22 : decode cX8_fraction 22 = .ok (.lstore 6, 2) := by decide +kernel
theorem dX8_fraction_24 : decode cX8_fraction 24 = .ok (.lload 10, 2) := by decide +kernel
theorem dX8_fraction_26 : decode cX8_fraction 26 = .ok (.lstore 8, 2) := by decide +kernel
theorem dX8_fraction_28 : decode cX8_fraction 28 = .ok (.goto (-22), 3) := by decide +kernel
theorem dX8_fraction_31 : decode cX8_fraction 31 = .ok (.aload_n 0, 1) := by decide +kernel
theorem dX8_fraction_32 : decode cX8_fraction 32 = .ok (.lload_n 1, 1) := by decide +kernel
theorem dX8_fraction_33 : decode cX8_fraction 33 = .ok (.lload 6, 2) := by decide +kernel
theorem dX8_fraction_35 : decode cX8_fraction 35 = .ok (.ldiv, 1) := by decide +kernel
theorem dX8_fraction_36 : decode cX8_fraction 36 = .ok (.putfield 78, 3) := by decide +kernel
theorem dX8_fraction_39 : decode cX8_fraction 39 = .ok (.aload_n 0, 1) := by decide +kernel
theorem dX8_fraction_40 : decode cX8_fraction 40 = .ok (.lload_n 3, 1) := by decide +kernel
theorem dX8_fraction_41 : decode cX8_fraction 41 = .ok (.lload 6, 2) := by decide +kernel
theorem dX8_fraction_43 : decode cX8_fraction 43 = .ok (.ldiv, 1) := by decide +kernel
theorem dX8_fraction_44 : decode cX8_fraction 44 = .ok (.putfield 63, 3) := by decide +kernel
theorem dX8_fraction_47 : decode cX8_fraction 47 = .ok (.iload 5, 2) := by decide +kernel
theorem dX8_fraction_49 : decode cX8_fraction 49 = .ok (.ireturn, 1) := by decide +kernel
theorem dX8_upper_0 : decode cX8_upper 0 = .ok (.aload_n 0, 1) := by decide +kernel
theorem dX8_upper_1 : decode cX8_upper 1 = .ok (.getfield 78, 3) := by decide +kernel
theorem dX8_upper_4 : decode cX8_upper 4 = .ok (.lreturn, 1) := by decide +kernel
theorem dX8_lower_0 : decode cX8_lower 0 = .ok (.aload_n 0, 1) := by decide +kernel
theorem dX8_lower_1 : decode cX8_lower 1 = .ok (.getfield 63, 3) := by decide +kernel
theorem dX8_lower_4 : decode cX8_lower 4 = .ok (.lreturn, 1) := by decide +kernel
theorem dX8_isRow_0 : decode cX8_isRow 0 = .ok (.iload_n 0, 1) := by decide +kernel
theorem dX8_isRow_1 : decode cX8_isRow 1 = .ok (.iconst 0, 1) := by decide +kernel
theorem dX8_isRow_2 : decode cX8_isRow 2 = .ok (.iconst 5, 1) := by decide +kernel
theorem dX8_isRow_3 : decode cX8_isRow 3 = .ok (.invokestatic 71, 3) := by decide +kernel
theorem dX8_isRow_6 : decode cX8_isRow 6 = .ok (.ireturn, 1) := by decide +kernel
theorem dX8_rowAt_0 : decode cX8_rowAt 0 = .ok (.aload_n 0, 1) := by decide +kernel
theorem dX8_rowAt_1 : decode cX8_rowAt 1 = .ok (.getfield 16, 3) := by decide +kernel
theorem dX8_rowAt_4 : decode cX8_rowAt 4 = .ok (.bipush 60, 2) := by decide +kernel
theorem dX8_rowAt_6 : decode cX8_rowAt 6 = .ok (.iload_n 1, 1) := by decide +kernel
theorem dX8_rowAt_7 : decode cX8_rowAt 7 = .ok (.imul, 1) := by decide +kernel
theorem dX8_rowAt_8 : decode cX8_rowAt 8 = .ok (.iload_n 2, 1) := by decide +kernel
theorem dX8_rowAt_9 : decode cX8_rowAt 9 = .ok (.iadd, 1) := by decide +kernel
theorem dX8_rowAt_10 : decode cX8_rowAt 10 = .ok (.iaload, 1) := by decide +kernel
theorem dX8_rowAt_11 : decode cX8_rowAt 11 = .ok (.ireturn, 1) := by decide +kernel
theorem dX8_row_0 : decode cX8_row 0 = .ok (.iload_n 1, 1) := by decide +kernel
theorem dX8_row_1 : decode cX8_row 1 = .ok (.invokestatic 81, 3) := by decide +kernel
theorem dX8_row_4 : decode cX8_row 4 = .ok (.ifCond .eq 9, 3) := by decide +kernel
theorem dX8_row_7 : decode cX8_row 7 = .ok (.iload_n 2, 1) := by decide +kernel
theorem dX8_row_8 : decode cX8_row 8 = .ok (.bipush 60, 2) := by decide +kernel
theorem dX8_row_10 : decode cX8_row 10 = .ok (.if_icmp .le 5, 3) := by decide +kernel
theorem dX8_row_13 : decode cX8_row 13 = .ok (.iconst (-1), 1) := by decide +kernel
theorem dX8_row_14 : decode cX8_row 14 = .ok (.ireturn, 1) := by decide +kernel
theorem dX8_row_15 : decode cX8_row 15 = .ok (.iload_n 2, 1) := by decide +kernel
theorem dX8_row_16 : decode cX8_row 16 = .ok (.ifCond .ge 9, 3) := by decide +kernel
theorem dX8_row_19 : decode cX8_row 19 = .ok (.aload_n 0, 1) := by decide +kernel
theorem dX8_row_20 : decode cX8_row 20 = .ok (.iconst 5, 1) := by decide +kernel
theorem dX8_row_21 : decode cX8_row 21 = .ok (.invokevirtual 85, 3) := by decide +kernel
theorem dX8_row_24 : decode cX8_row 24 = .ok (.ireturn, 1) := by decide +kernel
theorem dX8_row_25 : decode cX8_row 25 = .ok (.aload_n 0, 1) := by decide +kernel
theorem dX8_row_26 : decode cX8_row 26 = .ok (.getfield 13, 3) := by decide +kernel
theorem dX8_row_29 : decode cX8_row 29 = .ok (.iload_n 1, 1) := by decide +kernel
theorem dX8_row_30 : decode cX8_row 30 = .ok (.iload_n 2, 1) := by decide +kernel
theorem dX8_row_31 : decode cX8_row 31 = .ok (.iastore, 1) := by decide +kernel
theorem dX8_row_32 : decode cX8_row 32 = .ok (.iconst 0, 1) := by decide +kernel
theorem dX8_row_33 : decode cX8_row 33 = .ok (.istore_n 3, 1) := by decide +kernel
theorem dX8_row_34 : decode cX8_row 34 = .ok (.iload_n 3, 1) := by decide +kernel
theorem dX8_row_35 : decode cX8_row 35 = .ok (.bipush 60, 2) := by decide +kernel
theorem dX8_row_37 : decode cX8_row 37 = .ok (.if_icmp .ge 21, 3) := by decide +kernel
theorem dX8_row_40 : decode cX8_row 40 = .ok (.aload_n 0, 1) := by decide +kernel
theorem dX8_row_41 : decode cX8_row 41 = .ok (.getfield 16, 3) := by decide +kernel
theorem dX8_row_44 : decode cX8_row 44 = .ok (.bipush 60, 2) := by decide +kernel
theorem dX8_row_46 : decode cX8_row 46 = .ok (.iload_n 1, 1) := by decide +kernel
theorem dX8_row_47 : decode cX8_row 47 = .ok (.imul, 1) := by decide +kernel
theorem dX8_row_48 : decode cX8_row 48 = .ok (.iload_n 3, 1) := by decide +kernel
theorem dX8_row_49 : decode cX8_row 49 = .ok (.iadd, 1) := by decide +kernel
theorem dX8_row_50 : decode cX8_row 50 = .ok (.iconst 0, 1) := by decide +kernel
theorem dX8_row_51 : decode cX8_row 51 = .ok (.iastore, 1) := by decide +kernel
theorem dX8_row_52 : decode cX8_row 52 = .ok (.iinc 3 1, 3) := by decide +kernel
theorem dX8_row_55 : decode cX8_row 55 = .ok (.goto (-21), 3) := by decide +kernel
theorem dX8_row_58 : decode cX8_row 58 = .ok (.iload_n 2, 1) := by decide +kernel
theorem dX8_row_59 : decode cX8_row 59 = .ok (.ireturn, 1) := by decide +kernel
theorem dX8_lay_0 : decode cX8_lay 0 = .ok (.iload_n 1, 1) := by decide +kernel
theorem dX8_lay_1 : decode cX8_lay 1 = .ok (.invokestatic 81, 3) := by decide +kernel
theorem dX8_lay_4 : decode cX8_lay 4 = .ok (.ifCond .ne 5, 3) := by decide +kernel
theorem dX8_lay_7 : decode cX8_lay 7 = .ok (.iconst (-1), 1) := by decide +kernel
theorem dX8_lay_8 : decode cX8_lay 8 = .ok (.ireturn, 1) := by decide +kernel
theorem dX8_lay_9 : decode cX8_lay 9 = .ok (.aload_n 0, 1) := by decide +kernel
theorem dX8_lay_10 : decode cX8_lay 10 = .ok (.getfield 13, 3) := by decide +kernel
theorem dX8_lay_13 : decode cX8_lay 13 = .ok (.iload_n 1, 1) := by decide +kernel
theorem dX8_lay_14 : decode cX8_lay 14 = .ok (.iaload, 1) := by decide +kernel
theorem dX8_lay_15 : decode cX8_lay 15 = .ok (.ifCond .ge 9, 3) := by decide +kernel
theorem dX8_lay_18 : decode cX8_lay 18 = .ok (.aload_n 0, 1) := by decide +kernel
theorem dX8_lay_19 : decode cX8_lay 19 = .ok (.iconst 1, 1) := by decide +kernel
theorem dX8_lay_20 : decode cX8_lay 20 = .ok (.invokevirtual 85, 3) := by decide +kernel
theorem dX8_lay_23 : decode cX8_lay 23 = .ok (.ireturn, 1) := by decide +kernel
theorem dX8_lay_24 : decode cX8_lay 24 = .ok (.iload_n 2, 1) := by decide +kernel
theorem dX8_lay_25 : decode cX8_lay 25 = .ok (.iconst 0, 1) := by decide +kernel
theorem dX8_lay_26 : decode cX8_lay 26 = .ok (.aload_n 0, 1) := by decide +kernel
theorem dX8_lay_27 : decode cX8_lay 27 = .ok (.getfield 13, 3) := by decide +kernel
theorem dX8_lay_30 : decode cX8_lay 30 = .ok (.iload_n 1, 1) := by decide +kernel
theorem dX8_lay_31 : decode cX8_lay 31 = .ok (.iaload, 1) := by decide +kernel
theorem dX8_lay_32 : decode cX8_lay 32 = .ok (.iconst 1, 1) := by decide +kernel
theorem dX8_lay_33 : decode cX8_lay 33 = .ok (.isub, 1) := by decide +kernel
theorem dX8_lay_34 : decode cX8_lay 34 = .ok (.invokestatic 71, 3) := by decide +kernel
theorem dX8_lay_37 : decode cX8_lay 37 = .ok (.ifCond .ne 9, 3) := by decide +kernel
theorem dX8_lay_40 : decode cX8_lay 40 = .ok (.aload_n 0, 1) := by decide +kernel
theorem dX8_lay_41 : decode cX8_lay 41 = .ok (.iconst 2, 1) := by decide +kernel
theorem dX8_lay_42 : decode cX8_lay 42 = .ok (.invokevirtual 85, 3) := by decide +kernel
theorem dX8_lay_45 : decode cX8_lay 45 = .ok (.ireturn, 1) := by decide +kernel
theorem dX8_lay_46 : decode cX8_lay 46 = .ok (.aload_n 0, 1) := by decide +kernel
theorem dX8_lay_47 : decode cX8_lay 47 = .ok (.iload_n 1, 1) := by decide +kernel
theorem dX8_lay_48 : decode cX8_lay 48 = .ok (.iload_n 2, 1) := by decide +kernel
theorem dX8_lay_49 : decode cX8_lay 49 = .ok (.invokevirtual 89, 3) := by decide +kernel
theorem dX8_lay_52 : decode cX8_lay 52 = .ok (.istore 4, 2) := by decide +kernel
theorem dX8_lay_54 : decode cX8_lay 54 = .ok (.aload_n 0, 1) := by decide +kernel
theorem dX8_lay_55 : decode cX8_lay 55 = .ok (.getfield 16, 3) := by decide +kernel
theorem dX8_lay_58 : decode cX8_lay 58 = .ok (.bipush 60, 2) := by decide +kernel
theorem dX8_lay_60 : decode cX8_lay 60 = .ok (.iload_n 1, 1) := by decide +kernel
theorem dX8_lay_61 : decode cX8_lay 61 = .ok (.imul, 1) := by decide +kernel
theorem dX8_lay_62 : decode cX8_lay 62 = .ok (.iload_n 2, 1) := by decide +kernel
theorem dX8_lay_63 : decode cX8_lay 63 = .ok (.iadd, 1) := by decide +kernel
theorem dX8_lay_64 : decode cX8_lay 64 = .ok (.iload_n 3, 1) := by decide +kernel
theorem dX8_lay_65 : decode cX8_lay 65 = .ok (.iastore, 1) := by decide +kernel
theorem dX8_lay_66 : decode cX8_lay 66 = .ok (.aload_n 0, 1) := by decide +kernel
theorem dX8_lay_67 : decode cX8_lay 67 = .ok (.iload 4, 2) := by decide +kernel
theorem dX8_lay_69 : decode cX8_lay 69 = .ok (.iconst 1, 1) := by decide +kernel
theorem dX8_lay_70 : decode cX8_lay 70 = .ok (.invokevirtual 93, 3) := by decide +kernel
theorem dX8_lay_73 : decode cX8_lay 73 = .ok (.ireturn, 1) := by decide +kernel
theorem dX8_at_0 : decode cX8_at 0 = .ok (.iload_n 1, 1) := by decide +kernel
theorem dX8_at_1 : decode cX8_at 1 = .ok (.invokestatic 81, 3) := by decide +kernel
theorem dX8_at_4 : decode cX8_at 4 = .ok (.ifCond .ne 5, 3) := by decide +kernel
theorem dX8_at_7 : decode cX8_at 7 = .ok (.iconst (-1), 1) := by decide +kernel
theorem dX8_at_8 : decode cX8_at 8 = .ok (.ireturn, 1) := by decide +kernel
theorem dX8_at_9 : decode cX8_at 9 = .ok (.aload_n 0, 1) := by decide +kernel
theorem dX8_at_10 : decode cX8_at 10 = .ok (.getfield 13, 3) := by decide +kernel
theorem dX8_at_13 : decode cX8_at 13 = .ok (.iload_n 1, 1) := by decide +kernel
theorem dX8_at_14 : decode cX8_at 14 = .ok (.iaload, 1) := by decide +kernel
theorem dX8_at_15 : decode cX8_at 15 = .ok (.ifCond .ge 9, 3) := by decide +kernel
theorem dX8_at_18 : decode cX8_at 18 = .ok (.aload_n 0, 1) := by decide +kernel
theorem dX8_at_19 : decode cX8_at 19 = .ok (.iconst 1, 1) := by decide +kernel
theorem dX8_at_20 : decode cX8_at 20 = .ok (.invokevirtual 85, 3) := by decide +kernel
theorem dX8_at_23 : decode cX8_at 23 = .ok (.ireturn, 1) := by decide +kernel
theorem dX8_at_24 : decode cX8_at 24 = .ok (.iload_n 2, 1) := by decide +kernel
theorem dX8_at_25 : decode cX8_at 25 = .ok (.iconst 0, 1) := by decide +kernel
theorem dX8_at_26 : decode cX8_at 26 = .ok (.aload_n 0, 1) := by decide +kernel
theorem dX8_at_27 : decode cX8_at 27 = .ok (.getfield 13, 3) := by decide +kernel
theorem dX8_at_30 : decode cX8_at 30 = .ok (.iload_n 1, 1) := by decide +kernel
theorem dX8_at_31 : decode cX8_at 31 = .ok (.iaload, 1) := by decide +kernel
theorem dX8_at_32 : decode cX8_at 32 = .ok (.iconst 1, 1) := by decide +kernel
theorem dX8_at_33 : decode cX8_at 33 = .ok (.isub, 1) := by decide +kernel
theorem dX8_at_34 : decode cX8_at 34 = .ok (.invokestatic 71, 3) := by decide +kernel
theorem dX8_at_37 : decode cX8_at 37 = .ok (.ifCond .eq 17, 3) := by decide +kernel
theorem dX8_at_40 : decode cX8_at 40 = .ok (.aload_n 0, 1) := by decide +kernel
theorem dX8_at_41 : decode cX8_at 41 = .ok (.aload_n 0, 1) := by decide +kernel
theorem dX8_at_42 : decode cX8_at 42 = .ok (.iload_n 1, 1) := by decide +kernel
theorem dX8_at_43 : decode cX8_at 43 = .ok (.iload_n 2, 1) := by decide +kernel
theorem dX8_at_44 : decode cX8_at 44 = .ok (.invokevirtual 89, 3) := by decide +kernel
theorem dX8_at_47 : decode cX8_at 47 = .ok (.iconst 1, 1) := by decide +kernel
theorem dX8_at_48 : decode cX8_at 48 = .ok (.invokevirtual 93, 3) := by decide +kernel
theorem dX8_at_51 : decode cX8_at 51 = .ok (.goto 8, 3) := by decide +kernel
theorem dX8_at_54 : decode cX8_at 54 = .ok (.aload_n 0, 1) := by decide +kernel
theorem dX8_at_55 : decode cX8_at 55 = .ok (.iconst 2, 1) := by decide +kernel
theorem dX8_at_56 : decode cX8_at 56 = .ok (.invokevirtual 85, 3) := by decide +kernel
theorem dX8_at_59 : decode cX8_at 59 = .ok (.ireturn, 1) := by decide +kernel
theorem dX8_tear_0 : decode cX8_tear 0 = .ok (.iload_n 1, 1) := by decide +kernel
theorem dX8_tear_1 : decode cX8_tear 1 = .ok (.invokestatic 81, 3) := by decide +kernel
theorem dX8_tear_4 : decode cX8_tear 4 = .ok (.ifCond .ne 5, 3) := by decide +kernel
theorem dX8_tear_7 : decode cX8_tear 7 = .ok (.iconst (-1), 1) := by decide +kernel
theorem dX8_tear_8 : decode cX8_tear 8 = .ok (.ireturn, 1) := by decide +kernel
theorem dX8_tear_9 : decode cX8_tear 9 = .ok (.aload_n 0, 1) := by decide +kernel
theorem dX8_tear_10 : decode cX8_tear 10 = .ok (.getfield 13, 3) := by decide +kernel
theorem dX8_tear_13 : decode cX8_tear 13 = .ok (.iload_n 1, 1) := by decide +kernel
theorem dX8_tear_14 : decode cX8_tear 14 = .ok (.iaload, 1) := by decide +kernel
theorem dX8_tear_15 : decode cX8_tear 15 = .ok (.ifCond .ge 9, 3) := by decide +kernel
theorem dX8_tear_18 : decode cX8_tear 18 = .ok (.aload_n 0, 1) := by decide +kernel
theorem dX8_tear_19 : decode cX8_tear 19 = .ok (.iconst 1, 1) := by decide +kernel
theorem dX8_tear_20 : decode cX8_tear 20 = .ok (.invokevirtual 85, 3) := by decide +kernel
theorem dX8_tear_23 : decode cX8_tear 23 = .ok (.ireturn, 1) := by decide +kernel
theorem dX8_tear_24 : decode cX8_tear 24 = .ok (.aload_n 0, 1) := by decide +kernel
theorem dX8_tear_25 : decode cX8_tear 25 = .ok (.getfield 13, 3) := by decide +kernel
theorem dX8_tear_28 : decode cX8_tear 28 = .ok (.iload_n 1, 1) := by decide +kernel
theorem dX8_tear_29 : decode cX8_tear 29 = .ok (.iconst (-1), 1) := by decide +kernel
theorem dX8_tear_30 : decode cX8_tear 30 = .ok (.iastore, 1) := by decide +kernel
theorem dX8_tear_31 : decode cX8_tear 31 = .ok (.iconst 1, 1) := by decide +kernel
theorem dX8_tear_32 : decode cX8_tear 32 = .ok (.ireturn, 1) := by decide +kernel
theorem dX8_copy_0 : decode cX8_copy 0 = .ok (.iload_n 1, 1) := by decide +kernel
theorem dX8_copy_1 : decode cX8_copy 1 = .ok (.invokestatic 81, 3) := by decide +kernel
theorem dX8_copy_4 : decode cX8_copy 4 = .ok (.ifCond .eq 10, 3) := by decide +kernel
theorem dX8_copy_7 : decode cX8_copy 7 = .ok (.iload_n 3, 1) := by decide +kernel
theorem dX8_copy_8 : decode cX8_copy 8 = .ok (.invokestatic 81, 3) := by decide +kernel
theorem dX8_copy_11 : decode cX8_copy 11 = .ok (.ifCond .ne 5, 3) := by decide +kernel
theorem dX8_copy_14 : decode cX8_copy 14 = .ok (.iconst (-1), 1) := by decide +kernel
theorem dX8_copy_15 : decode cX8_copy 15 = .ok (.ireturn, 1) := by decide +kernel
theorem dX8_copy_16 : decode cX8_copy 16 = .ok (.iload 5, 2) := by decide +kernel
theorem dX8_copy_18 : decode cX8_copy 18 = .ok (.ifCond .ge 9, 3) := by decide +kernel
theorem dX8_copy_21 : decode cX8_copy 21 = .ok (.aload_n 0, 1) := by decide +kernel
theorem dX8_copy_22 : decode cX8_copy 22 = .ok (.iconst 5, 1) := by decide +kernel
theorem dX8_copy_23 : decode cX8_copy 23 = .ok (.invokevirtual 85, 3) := by decide +kernel
theorem dX8_copy_26 : decode cX8_copy 26 = .ok (.ireturn, 1) := by decide +kernel
theorem dX8_copy_27 : decode cX8_copy 27 = .ok (.aload_n 0, 1) := by decide +kernel
theorem dX8_copy_28 : decode cX8_copy 28 = .ok (.getfield 13, 3) := by decide +kernel
theorem dX8_copy_31 : decode cX8_copy 31 = .ok (.iload_n 1, 1) := by decide +kernel
theorem dX8_copy_32 : decode cX8_copy 32 = .ok (.iaload, 1) := by decide +kernel
theorem dX8_copy_33 : decode cX8_copy 33 = .ok (.ifCond .lt 12, 3) := by decide +kernel
theorem dX8_copy_36 : decode cX8_copy 36 = .ok (.aload_n 0, 1) := by decide +kernel
theorem dX8_copy_37 : decode cX8_copy 37 = .ok (.getfield 13, 3) := by decide +kernel
theorem dX8_copy_40 : decode cX8_copy 40 = .ok (.iload_n 3, 1) := by decide +kernel
theorem dX8_copy_41 : decode cX8_copy 41 = .ok (.iaload, 1) := by decide +kernel
theorem dX8_copy_42 : decode cX8_copy 42 = .ok (.ifCond .ge 9, 3) := by decide +kernel
theorem dX8_copy_45 : decode cX8_copy 45 = .ok (.aload_n 0, 1) := by decide +kernel
theorem dX8_copy_46 : decode cX8_copy 46 = .ok (.iconst 1, 1) := by decide +kernel
theorem dX8_copy_47 : decode cX8_copy 47 = .ok (.invokevirtual 85, 3) := by decide +kernel
theorem dX8_copy_50 : decode cX8_copy 50 = .ok (.ireturn, 1) := by decide +kernel
theorem dX8_copy_51 : decode cX8_copy 51 = .ok (.iload_n 2, 1) := by decide +kernel
theorem dX8_copy_52 : decode cX8_copy 52 = .ok (.ifCond .lt 43, 3) := by decide +kernel
theorem dX8_copy_55 : decode cX8_copy 55 = .ok (.iload 4, 2) := by decide +kernel
theorem dX8_copy_57 : decode cX8_copy 57 = .ok (.ifCond .lt 38, 3) := by decide +kernel
theorem dX8_copy_60 : decode cX8_copy 60 = .ok (.iload_n 2, 1) := by decide +kernel
theorem dX8_copy_61 : decode cX8_copy 61 = .ok (.i2l, 1) := by decide +kernel
theorem dX8_copy_62 : decode cX8_copy 62 = .ok (.iload 5, 2) := by decide +kernel
theorem dX8_copy_64 : decode cX8_copy 64 = .ok (.i2l, 1) := by decide +kernel
theorem dX8_copy_65 : decode cX8_copy 65 = .ok (.ladd, 1) := by decide +kernel
theorem dX8_copy_66 : decode cX8_copy 66 = .ok (.aload_n 0, 1) := by decide +kernel
theorem dX8_copy_67 : decode cX8_copy 67 = .ok (.getfield 13, 3) := by decide +kernel
theorem dX8_copy_70 : decode cX8_copy 70 = .ok (.iload_n 1, 1) := by decide +kernel
theorem dX8_copy_71 : decode cX8_copy 71 = .ok (.iaload, 1) := by decide +kernel
theorem dX8_copy_72 : decode cX8_copy 72 = .ok (.i2l, 1) := by decide +kernel
theorem dX8_copy_73 : decode cX8_copy 73 = .ok (.lcmp, 1) := by decide +kernel
theorem dX8_copy_74 : decode cX8_copy 74 = .ok (.ifCond .gt 21, 3) := by decide +kernel
theorem dX8_copy_77 : decode cX8_copy 77 = .ok (.iload 4, 2) := by decide +kernel
theorem dX8_copy_79 : decode cX8_copy 79 = .ok (.i2l, 1) := by decide +kernel
theorem dX8_copy_80 : decode cX8_copy 80 = .ok (.iload 5, 2) := by decide +kernel
theorem dX8_copy_82 : decode cX8_copy 82 = .ok (.i2l, 1) := by decide +kernel
theorem dX8_copy_83 : decode cX8_copy 83 = .ok (.ladd, 1) := by decide +kernel
theorem dX8_copy_84 : decode cX8_copy 84 = .ok (.aload_n 0, 1) := by decide +kernel
theorem dX8_copy_85 : decode cX8_copy 85 = .ok (.getfield 13, 3) := by decide +kernel
theorem dX8_copy_88 : decode cX8_copy 88 = .ok (.iload_n 3, 1) := by decide +kernel
theorem dX8_copy_89 : decode cX8_copy 89 = .ok (.iaload, 1) := by decide +kernel
theorem dX8_copy_90 : decode cX8_copy 90 = .ok (.i2l, 1) := by decide +kernel
theorem dX8_copy_91 : decode cX8_copy 91 = .ok (.lcmp, 1) := by decide +kernel
theorem dX8_copy_92 : decode cX8_copy 92 = .ok (.ifCond .le 9, 3) := by decide +kernel
theorem dX8_copy_95 : decode cX8_copy 95 = .ok (.aload_n 0, 1) := by decide +kernel
theorem dX8_copy_96 : decode cX8_copy 96 = .ok (.iconst 2, 1) := by decide +kernel
theorem dX8_copy_97 : decode cX8_copy 97 = .ok (.invokevirtual 85, 3) := by decide +kernel
theorem dX8_copy_100 : decode cX8_copy 100 = .ok (.ireturn, 1) := by decide +kernel
theorem dX8_copy_101 : decode cX8_copy 101 = .ok (.iconst 0, 1) := by decide +kernel
theorem dX8_copy_102 : decode cX8_copy 102 = .ok (.istore 6, 2) := by decide +kernel
theorem dX8_copy_104 : decode cX8_copy 104 = .ok (.iload 6, 2) := by decide +kernel
theorem dX8_copy_106 : decode cX8_copy 106 = .ok (.iload 5, 2) := by decide +kernel
theorem dX8_copy_108 : decode cX8_copy 108 = .ok (.if_icmp .ge 25, 3) := by decide +kernel
theorem dX8_copy_111 : decode cX8_copy 111 = .ok (.aload_n 0, 1) := by decide +kernel
theorem dX8_copy_112 : decode cX8_copy 112 = .ok (.getfield 19, 3) := by decide +kernel
theorem dX8_copy_115 : decode cX8_copy 115 = .ok (.iload 6, 2) := by decide +kernel
theorem dX8_copy_117 : decode cX8_copy 117 = .ok (.aload_n 0, 1) := by decide +kernel
theorem dX8_copy_118 : decode cX8_copy 118 = .ok (.iload_n 1, 1) := by decide +kernel
theorem dX8_copy_119 : decode cX8_copy 119 = .ok (.iload_n 2, 1) := by decide +kernel
theorem dX8_copy_120 : decode cX8_copy 120 = .ok (.iload 6, 2) := by decide +kernel
theorem dX8_copy_122 : decode cX8_copy 122 = .ok (.iadd, 1) := by decide +kernel
theorem dX8_copy_123 : decode cX8_copy 123 = .ok (.invokevirtual 89, 3) := by decide +kernel
theorem dX8_copy_126 : decode cX8_copy 126 = .ok (.iastore, 1) := by decide +kernel
theorem dX8_copy_127 : decode cX8_copy 127 = .ok (.iinc 6 1, 3) := by decide +kernel
theorem dX8_copy_130 : decode cX8_copy 130 = .ok (.goto (-26), 3) := by decide +kernel
theorem dX8_copy_133 : decode cX8_copy 133 = .ok (.iconst 0, 1) := by decide +kernel
theorem dX8_copy_134 : decode cX8_copy 134 = .ok (.istore 6, 2) := by decide +kernel
theorem dX8_copy_136 : decode cX8_copy 136 = .ok (.iload 6, 2) := by decide +kernel
theorem dX8_copy_138 : decode cX8_copy 138 = .ok (.iload 5, 2) := by decide +kernel
theorem dX8_copy_140 : decode cX8_copy 140 = .ok (.if_icmp .ge 31, 3) := by decide +kernel
theorem dX8_copy_143 : decode cX8_copy 143 = .ok (.aload_n 0, 1) := by decide +kernel
theorem dX8_copy_144 : decode cX8_copy 144 = .ok (.getfield 16, 3) := by decide +kernel
theorem dX8_copy_147 : decode cX8_copy 147 = .ok (.bipush 60, 2) := by decide +kernel
theorem dX8_copy_149 : decode cX8_copy 149 = .ok (.iload_n 3, 1) := by decide +kernel
theorem dX8_copy_150 : decode cX8_copy 150 = .ok (.imul, 1) := by decide +kernel
theorem dX8_copy_151 : decode cX8_copy 151 = .ok (.iload 4, 2) := by decide +kernel
theorem dX8_copy_153 : decode cX8_copy 153 = .ok (.iadd, 1) := by decide +kernel
theorem dX8_copy_154 : decode cX8_copy 154 = .ok (.iload 6, 2) := by decide +kernel
theorem dX8_copy_156 : decode cX8_copy 156 = .ok (.iadd, 1) := by decide +kernel
theorem dX8_copy_157 : decode cX8_copy 157 = .ok (.aload_n 0, 1) := by decide +kernel
theorem dX8_copy_158 : decode cX8_copy 158 = .ok (.getfield 19, 3) := by decide +kernel
theorem dX8_copy_161 : decode cX8_copy 161 = .ok (.iload 6, 2) := by decide +kernel
theorem dX8_copy_163 : decode cX8_copy 163 = .ok (.iaload, 1) := by decide +kernel
theorem dX8_copy_164 : decode cX8_copy 164 = .ok (.iastore, 1) := by decide +kernel
theorem dX8_copy_165 : decode cX8_copy 165 = .ok (.iinc 6 1, 3) := by decide +kernel
theorem dX8_copy_168 : decode cX8_copy 168 = .ok (.goto (-32), 3) := by decide +kernel
theorem dX8_copy_171 : decode cX8_copy 171 = .ok (.iconst 1, 1) := by decide +kernel
theorem dX8_copy_172 : decode cX8_copy 172 = .ok (.ireturn, 1) := by decide +kernel
theorem dX8_mean_0 : decode cX8_mean 0 = .ok (.iload_n 1, 1) := by decide +kernel
theorem dX8_mean_1 : decode cX8_mean 1 = .ok (.invokestatic 81, 3) := by decide +kernel
theorem dX8_mean_4 : decode cX8_mean 4 = .ok (.ifCond .ne 5, 3) := by decide +kernel
theorem dX8_mean_7 : decode cX8_mean 7 = .ok (.iconst (-1), 1) := by decide +kernel
theorem dX8_mean_8 : decode cX8_mean 8 = .ok (.ireturn, 1) := by decide +kernel
theorem dX8_mean_9 : decode cX8_mean 9 = .ok (.aload_n 0, 1) := by decide +kernel
theorem dX8_mean_10 : decode cX8_mean 10 = .ok (.getfield 13, 3) := by decide +kernel
theorem dX8_mean_13 : decode cX8_mean 13 = .ok (.iload_n 1, 1) := by decide +kernel
theorem dX8_mean_14 : decode cX8_mean 14 = .ok (.iaload, 1) := by decide +kernel
theorem dX8_mean_15 : decode cX8_mean 15 = .ok (.ifCond .ge 9, 3) := by decide +kernel
theorem dX8_mean_18 : decode cX8_mean 18 = .ok (.aload_n 0, 1) := by decide +kernel
theorem dX8_mean_19 : decode cX8_mean 19 = .ok (.iconst 1, 1) := by decide +kernel
theorem dX8_mean_20 : decode cX8_mean 20 = .ok (.invokevirtual 85, 3) := by decide +kernel
theorem dX8_mean_23 : decode cX8_mean 23 = .ok (.ireturn, 1) := by decide +kernel
theorem dX8_mean_24 : decode cX8_mean 24 = .ok (.aload_n 0, 1) := by decide +kernel
theorem dX8_mean_25 : decode cX8_mean 25 = .ok (.getfield 13, 3) := by decide +kernel
theorem dX8_mean_28 : decode cX8_mean 28 = .ok (.iload_n 1, 1) := by decide +kernel
theorem dX8_mean_29 : decode cX8_mean 29 = .ok (.iaload, 1) := by decide +kernel
theorem dX8_mean_30 : decode cX8_mean 30 = .ok (.ifCond .ne 9, 3) := by decide +kernel
theorem dX8_mean_33 : decode cX8_mean 33 = .ok (.aload_n 0, 1) := by decide +kernel
theorem dX8_mean_34 : decode cX8_mean 34 = .ok (.iconst 4, 1) := by decide +kernel
theorem dX8_mean_35 : decode cX8_mean 35 = .ok (.invokevirtual 85, 3) := by decide +kernel
theorem dX8_mean_38 : decode cX8_mean 38 = .ok (.ireturn, 1) := by decide +kernel
theorem dX8_mean_39 : decode cX8_mean 39 = .ok (.lconst 0, 1) := by decide +kernel
theorem dX8_mean_40 : decode cX8_mean 40 = .ok (.lstore_n 2, 1) := by decide +kernel
theorem dX8_mean_41 : decode cX8_mean 41 = .ok (.iconst 0, 1) := by decide +kernel
theorem dX8_mean_42 : decode cX8_mean 42 = .ok (.istore 4, 2) := by decide +kernel
theorem dX8_mean_44 : decode cX8_mean 44 = .ok (.iload 4, 2) := by decide +kernel
theorem dX8_mean_46 : decode cX8_mean 46 = .ok (.aload_n 0, 1) := by decide +kernel
theorem dX8_mean_47 : decode cX8_mean 47 = .ok (.getfield 13, 3) := by decide +kernel
theorem dX8_mean_50 : decode cX8_mean 50 = .ok (.iload_n 1, 1) := by decide +kernel
theorem dX8_mean_51 : decode cX8_mean 51 = .ok (.iaload, 1) := by decide +kernel
theorem dX8_mean_52 : decode cX8_mean 52 = .ok (.if_icmp .ge 20, 3) := by decide +kernel
theorem dX8_mean_55 : decode cX8_mean 55 = .ok (.lload_n 2, 1) := by decide +kernel
theorem dX8_mean_56 : decode cX8_mean 56 = .ok (.aload_n 0, 1) := by decide +kernel
theorem dX8_mean_57 : decode cX8_mean 57 = .ok (.iload_n 1, 1) := by decide +kernel
theorem dX8_mean_58 : decode cX8_mean 58 = .ok (.iload 4, 2) := by decide +kernel
theorem dX8_mean_60 : decode cX8_mean 60 = .ok (.invokevirtual 89, 3) := by decide +kernel
theorem dX8_mean_63 : decode cX8_mean 63 = .ok (.i2l, 1) := by decide +kernel
theorem dX8_mean_64 : decode cX8_mean 64 = .ok (.ladd, 1) := by decide +kernel
theorem dX8_mean_65 : decode cX8_mean 65 = .ok (.lstore_n 2, 1) := by decide +kernel
theorem dX8_mean_66 : decode cX8_mean 66 = .ok (.iinc 4 1, 3) := by decide +kernel
theorem dX8_mean_69 : decode cX8_mean 69 = .ok (.goto (-25), 3) := by decide +kernel
theorem dX8_mean_72 : decode cX8_mean 72 = .ok (.aload_n 0, 1) := by decide +kernel
theorem dX8_mean_73 : decode cX8_mean 73 = .ok (.lload_n 2, 1) := by decide +kernel
theorem dX8_mean_74 : decode cX8_mean 74 = .ok (.aload_n 0, 1) := by decide +kernel
theorem dX8_mean_75 : decode cX8_mean 75 = .ok (.getfield 13, 3) := by decide +kernel
theorem dX8_mean_78 : decode cX8_mean 78 = .ok (.iload_n 1, 1) := by decide +kernel
theorem dX8_mean_79 : decode cX8_mean 79 = .ok (.iaload, 1) := by decide +kernel
theorem dX8_mean_80 : decode cX8_mean 80 = .ok (.i2l, 1) := by decide +kernel
theorem dX8_mean_81 : decode cX8_mean 81 = .ok (.ldiv, 1) := by decide +kernel
theorem dX8_mean_82 : decode cX8_mean 82 = .ok (.l2i, 1) := by decide +kernel
theorem dX8_mean_83 : decode cX8_mean 83 = .ok (.iconst 1, 1) := by decide +kernel
theorem dX8_mean_84 : decode cX8_mean 84 = .ok (.invokevirtual 93, 3) := by decide +kernel
theorem dX8_mean_87 : decode cX8_mean 87 = .ok (.ireturn, 1) := by decide +kernel
theorem dX8_isText_0 : decode cX8_isText 0 = .ok (.iload_n 0, 1) := by decide +kernel
theorem dX8_isText_1 : decode cX8_isText 1 = .ok (.iconst 0, 1) := by decide +kernel
theorem dX8_isText_2 : decode cX8_isText 2 = .ok (.iconst 3, 1) := by decide +kernel
theorem dX8_isText_3 : decode cX8_isText 3 = .ok (.invokestatic 71, 3) := by decide +kernel
theorem dX8_isText_6 : decode cX8_isText 6 = .ok (.ireturn, 1) := by decide +kernel
theorem dX8_text_0 : decode cX8_text 0 = .ok (.iload_n 1, 1) := by decide +kernel
theorem dX8_text_1 : decode cX8_text 1 = .ok (.invokestatic 96, 3) := by decide +kernel
theorem dX8_text_4 : decode cX8_text 4 = .ok (.ifCond .eq 9, 3) := by decide +kernel
theorem dX8_text_7 : decode cX8_text 7 = .ok (.iload_n 2, 1) := by decide +kernel
theorem dX8_text_8 : decode cX8_text 8 = .ok (.bipush 80, 2) := by decide +kernel
theorem dX8_text_10 : decode cX8_text 10 = .ok (.if_icmp .le 5, 3) := by decide +kernel
theorem dX8_text_13 : decode cX8_text 13 = .ok (.iconst (-1), 1) := by decide +kernel
theorem dX8_text_14 : decode cX8_text 14 = .ok (.ireturn, 1) := by decide +kernel
theorem dX8_text_15 : decode cX8_text 15 = .ok (.iload_n 2, 1) := by decide +kernel
theorem dX8_text_16 : decode cX8_text 16 = .ok (.ifCond .ge 9, 3) := by decide +kernel
theorem dX8_text_19 : decode cX8_text 19 = .ok (.aload_n 0, 1) := by decide +kernel
theorem dX8_text_20 : decode cX8_text 20 = .ok (.iconst 5, 1) := by decide +kernel
theorem dX8_text_21 : decode cX8_text 21 = .ok (.invokevirtual 85, 3) := by decide +kernel
theorem dX8_text_24 : decode cX8_text 24 = .ok (.ireturn, 1) := by decide +kernel
theorem dX8_text_25 : decode cX8_text 25 = .ok (.aload_n 0, 1) := by decide +kernel
theorem dX8_text_26 : decode cX8_text 26 = .ok (.getfield 22, 3) := by decide +kernel
theorem dX8_text_29 : decode cX8_text 29 = .ok (.iload_n 1, 1) := by decide +kernel
theorem dX8_text_30 : decode cX8_text 30 = .ok (.iload_n 2, 1) := by decide +kernel
theorem dX8_text_31 : decode cX8_text 31 = .ok (.iastore, 1) := by decide +kernel
theorem dX8_text_32 : decode cX8_text 32 = .ok (.iconst 0, 1) := by decide +kernel
theorem dX8_text_33 : decode cX8_text 33 = .ok (.istore_n 3, 1) := by decide +kernel
theorem dX8_text_34 : decode cX8_text 34 = .ok (.iload_n 3, 1) := by decide +kernel
theorem dX8_text_35 : decode cX8_text 35 = .ok (.bipush 80, 2) := by decide +kernel
theorem dX8_text_37 : decode cX8_text 37 = .ok (.if_icmp .ge 22, 3) := by decide +kernel
theorem dX8_text_40 : decode cX8_text 40 = .ok (.aload_n 0, 1) := by decide +kernel
theorem dX8_text_41 : decode cX8_text 41 = .ok (.getfield 25, 3) := by decide +kernel
theorem dX8_text_44 : decode cX8_text 44 = .ok (.bipush 80, 2) := by decide +kernel
theorem dX8_text_46 : decode cX8_text 46 = .ok (.iload_n 1, 1) := by decide +kernel
theorem dX8_text_47 : decode cX8_text 47 = .ok (.imul, 1) := by decide +kernel
theorem dX8_text_48 : decode cX8_text 48 = .ok (.iload_n 3, 1) := by decide +kernel
theorem dX8_text_49 : decode cX8_text 49 = .ok (.iadd, 1) := by decide +kernel
theorem dX8_text_50 : decode cX8_text 50 = .ok (.bipush 32, 2) := by decide +kernel
theorem dX8_text_52 : decode cX8_text 52 = .ok (.bastore, 1) := by decide +kernel
theorem dX8_text_53 : decode cX8_text 53 = .ok (.iinc 3 1, 3) := by decide +kernel
theorem dX8_text_56 : decode cX8_text 56 = .ok (.goto (-22), 3) := by decide +kernel
theorem dX8_text_59 : decode cX8_text 59 = .ok (.iload_n 2, 1) := by decide +kernel
theorem dX8_text_60 : decode cX8_text 60 = .ok (.ireturn, 1) := by decide +kernel
theorem dX8_put_0 : decode cX8_put 0 = .ok (.iload_n 1, 1) := by decide +kernel
theorem dX8_put_1 : decode cX8_put 1 = .ok (.invokestatic 96, 3) := by decide +kernel
theorem dX8_put_4 : decode cX8_put 4 = .ok (.ifCond .ne 5, 3) := by decide +kernel
theorem dX8_put_7 : decode cX8_put 7 = .ok (.iconst (-1), 1) := by decide +kernel
theorem dX8_put_8 : decode cX8_put 8 = .ok (.ireturn, 1) := by decide +kernel
theorem dX8_put_9 : decode cX8_put 9 = .ok (.aload_n 0, 1) := by decide +kernel
theorem dX8_put_10 : decode cX8_put 10 = .ok (.getfield 22, 3) := by decide +kernel
theorem dX8_put_13 : decode cX8_put 13 = .ok (.iload_n 1, 1) := by decide +kernel
theorem dX8_put_14 : decode cX8_put 14 = .ok (.iaload, 1) := by decide +kernel
theorem dX8_put_15 : decode cX8_put 15 = .ok (.ifCond .ge 9, 3) := by decide +kernel
theorem dX8_put_18 : decode cX8_put 18 = .ok (.aload_n 0, 1) := by decide +kernel
theorem dX8_put_19 : decode cX8_put 19 = .ok (.iconst 1, 1) := by decide +kernel
theorem dX8_put_20 : decode cX8_put 20 = .ok (.invokevirtual 85, 3) := by decide +kernel
theorem dX8_put_23 : decode cX8_put 23 = .ok (.ireturn, 1) := by decide +kernel
theorem dX8_put_24 : decode cX8_put 24 = .ok (.iload_n 2, 1) := by decide +kernel
theorem dX8_put_25 : decode cX8_put 25 = .ok (.iconst 0, 1) := by decide +kernel
theorem dX8_put_26 : decode cX8_put 26 = .ok (.aload_n 0, 1) := by decide +kernel
theorem dX8_put_27 : decode cX8_put 27 = .ok (.getfield 22, 3) := by decide +kernel
theorem dX8_put_30 : decode cX8_put 30 = .ok (.iload_n 1, 1) := by decide +kernel
theorem dX8_put_31 : decode cX8_put 31 = .ok (.iaload, 1) := by decide +kernel
theorem dX8_put_32 : decode cX8_put 32 = .ok (.iconst 1, 1) := by decide +kernel
theorem dX8_put_33 : decode cX8_put 33 = .ok (.isub, 1) := by decide +kernel
theorem dX8_put_34 : decode cX8_put 34 = .ok (.invokestatic 71, 3) := by decide +kernel
theorem dX8_put_37 : decode cX8_put 37 = .ok (.ifCond .ne 9, 3) := by decide +kernel
theorem dX8_put_40 : decode cX8_put 40 = .ok (.aload_n 0, 1) := by decide +kernel
theorem dX8_put_41 : decode cX8_put 41 = .ok (.iconst 2, 1) := by decide +kernel
theorem dX8_put_42 : decode cX8_put 42 = .ok (.invokevirtual 85, 3) := by decide +kernel
theorem dX8_put_45 : decode cX8_put 45 = .ok (.ireturn, 1) := by decide +kernel
theorem dX8_put_46 : decode cX8_put 46 = .ok (.aload_n 0, 1) := by decide +kernel
theorem dX8_put_47 : decode cX8_put 47 = .ok (.getfield 25, 3) := by decide +kernel
theorem dX8_put_50 : decode cX8_put 50 = .ok (.bipush 80, 2) := by decide +kernel
theorem dX8_put_52 : decode cX8_put 52 = .ok (.iload_n 1, 1) := by decide +kernel
theorem dX8_put_53 : decode cX8_put 53 = .ok (.imul, 1) := by decide +kernel
theorem dX8_put_54 : decode cX8_put 54 = .ok (.iload_n 2, 1) := by decide +kernel
theorem dX8_put_55 : decode cX8_put 55 = .ok (.iadd, 1) := by decide +kernel
theorem dX8_put_56 : decode cX8_put 56 = .ok (.baload, 1) := by decide +kernel
theorem dX8_put_57 : decode cX8_put 57 = .ok (.istore 4, 2) := by decide +kernel
theorem dX8_put_59 : decode cX8_put 59 = .ok (.aload_n 0, 1) := by decide +kernel
theorem dX8_put_60 : decode cX8_put 60 = .ok (.getfield 25, 3) := by decide +kernel
theorem dX8_put_63 : decode cX8_put 63 = .ok (.bipush 80, 2) := by decide +kernel
theorem dX8_put_65 : decode cX8_put 65 = .ok (.iload_n 1, 1) := by decide +kernel
theorem dX8_put_66 : decode cX8_put 66 = .ok (.imul, 1) := by decide +kernel
theorem dX8_put_67 : decode cX8_put 67 = .ok (.iload_n 2, 1) := by decide +kernel
theorem dX8_put_68 : decode cX8_put 68 = .ok (.iadd, 1) := by decide +kernel
theorem dX8_put_69 : decode cX8_put 69 = .ok (.iload_n 3, 1) := by decide +kernel
theorem dX8_put_70 : decode cX8_put 70 = .ok (.i2b, 1) := by decide +kernel
theorem dX8_put_71 : decode cX8_put 71 = .ok (.bastore, 1) := by decide +kernel
theorem dX8_put_72 : decode cX8_put 72 = .ok (.sipush 1000, 3) := by decide +kernel
theorem dX8_put_75 : decode cX8_put 75 = .ok (.iload 4, 2) := by decide +kernel
theorem dX8_put_77 : decode cX8_put 77 = .ok (.iadd, 1) := by decide +kernel
theorem dX8_put_78 : decode cX8_put 78 = .ok (.ireturn, 1) := by decide +kernel
theorem dX8_byteAt_0 : decode cX8_byteAt 0 = .ok (.iload_n 2, 1) := by decide +kernel
theorem dX8_byteAt_1 : decode cX8_byteAt 1 = .ok (.aload_n 0, 1) := by decide +kernel
theorem dX8_byteAt_2 : decode cX8_byteAt 2 = .ok (.getfield 22, 3) := by decide +kernel
theorem dX8_byteAt_5 : decode cX8_byteAt 5 = .ok (.iload_n 1, 1) := by decide +kernel
theorem dX8_byteAt_6 : decode cX8_byteAt 6 = .ok (.iaload, 1) := by decide +kernel
theorem dX8_byteAt_7 : decode cX8_byteAt 7 = .ok (.if_icmp .ge 17, 3) := by decide +kernel
theorem dX8_byteAt_10 : decode cX8_byteAt 10 = .ok (.aload_n 0, 1) := by decide +kernel
theorem dX8_byteAt_11 : decode cX8_byteAt 11 = .ok (.getfield 25, 3) := by decide +kernel
theorem dX8_byteAt_14 : decode cX8_byteAt 14 = .ok (.bipush 80, 2) := by decide +kernel
theorem dX8_byteAt_16 : decode cX8_byteAt 16 = .ok (.iload_n 1, 1) := by decide +kernel
theorem dX8_byteAt_17 : decode cX8_byteAt 17 = .ok (.imul, 1) := by decide +kernel
theorem dX8_byteAt_18 : decode cX8_byteAt 18 = .ok (.iload_n 2, 1) := by decide +kernel
theorem dX8_byteAt_19 : decode cX8_byteAt 19 = .ok (.iadd, 1) := by decide +kernel
theorem dX8_byteAt_20 : decode cX8_byteAt 20 = .ok (.baload, 1) := by decide +kernel
theorem dX8_byteAt_21 : decode cX8_byteAt 21 = .ok (.goto 4, 3) := by decide +kernel
theorem dX8_byteAt_24 : decode cX8_byteAt 24 = .ok (.iconst 0, 1) := by decide +kernel
theorem dX8_byteAt_25 : decode cX8_byteAt 25 = .ok (.ireturn, 1) := by decide +kernel
theorem dX8_sign_0 : decode cX8_sign 0 = .ok (.aload_n 0, 1) := by decide +kernel
theorem dX8_sign_1 : decode cX8_sign 1 = .ok (.iload_n 1, 1) := by decide +kernel
theorem dX8_sign_2 : decode cX8_sign 2 = .ok (.aload_n 0, 1) := by decide +kernel
theorem dX8_sign_3 : decode cX8_sign 3 = .ok (.getfield 99, 3) := by decide +kernel
theorem dX8_sign_6 : decode cX8_sign 6 = .ok (.invokevirtual 102, 3) := by decide +kernel
theorem dX8_sign_9 : decode cX8_sign 9 = .ok (.iload_n 2, 1) := by decide +kernel
theorem dX8_sign_10 : decode cX8_sign 10 = .ok (.if_icmp .ne 7, 3) := by decide +kernel
theorem dX8_sign_13 : decode cX8_sign 13 = .ok (.iconst 1, 1) := by decide +kernel
theorem dX8_sign_14 : decode cX8_sign 14 = .ok (.goto 4, 3) := by decide +kernel
theorem dX8_sign_17 : decode cX8_sign 17 = .ok (.iconst 0, 1) := by decide +kernel
theorem dX8_sign_18 : decode cX8_sign 18 = .ok (.istore_n 3, 1) := by decide +kernel
theorem dX8_sign_19 : decode cX8_sign 19 = .ok (.aload_n 0, 1) := by decide +kernel
theorem dX8_sign_20 : decode cX8_sign 20 = .ok (.dup, 1) := by decide +kernel
theorem dX8_sign_21 : decode cX8_sign 21 = .ok (.getfield 99, 3) := by decide +kernel
theorem dX8_sign_24 : decode cX8_sign 24 = .ok (.iload_n 3, 1) := by decide +kernel
theorem dX8_sign_25 : decode cX8_sign 25 = .ok (.ifCond .eq 7, 3) := by decide +kernel
theorem dX8_sign_28 : decode cX8_sign 28 = .ok (.iconst 1, 1) := by decide +kernel
theorem dX8_sign_29 : decode cX8_sign 29 = .ok (.goto 4, 3) := by decide +kernel
theorem dX8_sign_32 : decode cX8_sign 32 = .ok (.iconst 0, 1) := by decide +kernel
theorem dX8_sign_33 : decode cX8_sign 33 = .ok (.iadd, 1) := by decide +kernel
theorem dX8_sign_34 : decode cX8_sign 34 = .ok (.putfield 99, 3) := by decide +kernel
theorem dX8_sign_37 : decode cX8_sign 37 = .ok (.iload_n 3, 1) := by decide +kernel
theorem dX8_sign_38 : decode cX8_sign 38 = .ok (.ireturn, 1) := by decide +kernel
theorem dX8_number_0 : decode cX8_number 0 = .ok (.iconst 0, 1) := by decide +kernel
theorem dX8_number_1 : decode cX8_number 1 = .ok (.istore 4, 2) := by decide +kernel
theorem dX8_number_3 : decode cX8_number 3 = .ok (.iconst 0, 1) := by decide +kernel
theorem dX8_number_4 : decode cX8_number 4 = .ok (.istore 5, 2) := by decide +kernel
theorem dX8_number_6 : decode cX8_number 6 = .ok (.iload 4, 2) := by decide +kernel
theorem dX8_number_8 : decode cX8_number 8 = .ok (.iconst 2, 1) := by decide +kernel
theorem dX8_number_9 : decode cX8_number 9 = .ok (.if_icmp .ge 58, 3) := by decide +kernel
theorem dX8_number_12 : decode cX8_number 12 = .ok (.aload_n 0, 1) := by decide +kernel
theorem dX8_number_13 : decode cX8_number 13 = .ok (.iload_n 1, 1) := by decide +kernel
theorem dX8_number_14 : decode cX8_number 14 = .ok (.aload_n 0, 1) := by decide +kernel
theorem dX8_number_15 : decode cX8_number 15 = .ok (.getfield 99, 3) := by decide +kernel
theorem dX8_number_18 : decode cX8_number 18 = .ok (.invokevirtual 102, 3) := by decide +kernel
theorem dX8_number_21 : decode cX8_number 21 = .ok (.bipush 48, 2) := by decide +kernel
theorem dX8_number_23 : decode cX8_number 23 = .ok (.bipush 57, 2) := by decide +kernel
theorem dX8_number_25 : decode cX8_number 25 = .ok (.invokestatic 71, 3) := by decide +kernel
theorem dX8_number_28 : decode cX8_number 28 = .ok (.ifCond .eq 39, 3) := by decide +kernel
theorem dX8_number_31 : decode cX8_number 31 = .ok (.bipush 10, 2) := by decide +kernel
theorem dX8_number_33 : decode cX8_number 33 = .ok (.iload 5, 2) := by decide +kernel
theorem dX8_number_35 : decode cX8_number 35 = .ok (.imul, 1) := by decide +kernel
theorem dX8_number_36 : decode cX8_number 36 = .ok (.aload_n 0, 1) := by decide +kernel
theorem dX8_number_37 : decode cX8_number 37 = .ok (.iload_n 1, 1) := by decide +kernel
theorem dX8_number_38 : decode cX8_number 38 = .ok (.aload_n 0, 1) := by decide +kernel
theorem dX8_number_39 : decode cX8_number 39 = .ok (.getfield 99, 3) := by decide +kernel
theorem dX8_number_42 : decode cX8_number 42 = .ok (.invokevirtual 102, 3) := by decide +kernel
theorem dX8_number_45 : decode cX8_number 45 = .ok (.iadd, 1) := by decide +kernel
theorem dX8_number_46 : decode cX8_number 46 = .ok (.bipush 48, 2) := by decide +kernel
theorem dX8_number_48 : decode cX8_number 48 = .ok (.isub, 1) := by decide +kernel
theorem dX8_number_49 : decode cX8_number 49 = .ok (.istore 5, 2) := by decide +kernel
theorem dX8_number_51 : decode cX8_number 51 = .ok (.aload_n 0, 1) := by decide +kernel
theorem dX8_number_52 : decode cX8_number 52 = .ok (.dup, 1) := by decide +kernel
theorem dX8_number_53 : decode cX8_number 53 = .ok (.getfield 99, 3) := by decide +kernel
theorem dX8_number_56 : decode cX8_number 56 = .ok (.iconst 1, 1) := by decide +kernel
theorem dX8_number_57 : decode cX8_number 57 = .ok (.iadd, 1) := by decide +kernel
theorem dX8_number_58 : decode cX8_number 58 = .ok (.putfield 99, 3) := by decide +kernel
