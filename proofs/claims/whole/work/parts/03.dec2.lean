theorem dX8_number_61 : decode cX8_number 61 = .ok (.iinc 4 1, 3) := by decide +kernel
theorem dX8_number_64 : decode cX8_number 64 = .ok (.goto (-58), 3) := by decide +kernel
theorem dX8_number_67 : decode cX8_number 67 = .ok (.aload_n 0, 1) := by decide +kernel
theorem dX8_number_68 : decode cX8_number 68 = .ok (.iload 5, 2) := by decide +kernel
theorem dX8_number_70 : decode cX8_number 70 = .ok (.putfield 105, 3) := by decide +kernel
theorem dX8_number_73 : decode cX8_number 73 = .ok (.iload 4, 2) := by decide +kernel
theorem dX8_number_75 : decode cX8_number 75 = .ok (.ifCond .le 17, 3) := by decide +kernel
theorem dX8_number_78 : decode cX8_number 78 = .ok (.iload 5, 2) := by decide +kernel
theorem dX8_number_80 : decode cX8_number 80 = .ok (.iload_n 2, 1) := by decide +kernel
theorem dX8_number_81 : decode cX8_number 81 = .ok (.iload_n 3, 1) := by decide +kernel
theorem dX8_number_82 : decode cX8_number 82 = .ok (.invokestatic 71, 3) := by decide +kernel
theorem dX8_number_85 : decode cX8_number 85 = .ok (.ifCond .eq 7, 3) := by decide +kernel
theorem dX8_number_88 : decode cX8_number 88 = .ok (.iconst 1, 1) := by decide +kernel
theorem dX8_number_89 : decode cX8_number 89 = .ok (.goto 4, 3) := by decide +kernel
theorem dX8_number_92 : decode cX8_number 92 = .ok (.iconst 0, 1) := by decide +kernel
theorem dX8_number_93 : decode cX8_number 93 = .ok (.ireturn, 1) := by decide +kernel
theorem dX8_figure_0 : decode cX8_figure 0 = .ok (.aload_n 0, 1) := by decide +kernel
theorem dX8_figure_1 : decode cX8_figure 1 = .ok (.aload_n 0, 1) := by decide +kernel
theorem dX8_figure_2 : decode cX8_figure 2 = .ok (.iload_n 1, 1) := by decide +kernel
theorem dX8_figure_3 : decode cX8_figure 3 = .ok (.aload_n 0, 1) := by decide +kernel
theorem dX8_figure_4 : decode cX8_figure 4 = .ok (.getfield 99, 3) := by decide +kernel
theorem dX8_figure_7 : decode cX8_figure 7 = .ok (.invokevirtual 102, 3) := by decide +kernel
theorem dX8_figure_10 : decode cX8_figure 10 = .ok (.bipush 48, 2) := by decide +kernel
theorem dX8_figure_12 : decode cX8_figure 12 = .ok (.isub, 1) := by decide +kernel
theorem dX8_figure_13 : decode cX8_figure 13 = .ok (.putfield 105, 3) := by decide +kernel
theorem dX8_figure_16 : decode cX8_figure 16 = .ok (.aload_n 0, 1) := by decide +kernel
theorem dX8_figure_17 : decode cX8_figure 17 = .ok (.getfield 105, 3) := by decide +kernel
theorem dX8_figure_20 : decode cX8_figure 20 = .ok (.iload_n 2, 1) := by decide +kernel
theorem dX8_figure_21 : decode cX8_figure 21 = .ok (.bipush 9, 2) := by decide +kernel
theorem dX8_figure_23 : decode cX8_figure 23 = .ok (.invokestatic 71, 3) := by decide +kernel
theorem dX8_figure_26 : decode cX8_figure 26 = .ok (.istore_n 3, 1) := by decide +kernel
theorem dX8_figure_27 : decode cX8_figure 27 = .ok (.aload_n 0, 1) := by decide +kernel
theorem dX8_figure_28 : decode cX8_figure 28 = .ok (.dup, 1) := by decide +kernel
theorem dX8_figure_29 : decode cX8_figure 29 = .ok (.getfield 99, 3) := by decide +kernel
theorem dX8_figure_32 : decode cX8_figure 32 = .ok (.iload_n 3, 1) := by decide +kernel
theorem dX8_figure_33 : decode cX8_figure 33 = .ok (.ifCond .eq 7, 3) := by decide +kernel
theorem dX8_figure_36 : decode cX8_figure 36 = .ok (.iconst 1, 1) := by decide +kernel
theorem dX8_figure_37 : decode cX8_figure 37 = .ok (.goto 4, 3) := by decide +kernel
theorem dX8_figure_40 : decode cX8_figure 40 = .ok (.iconst 0, 1) := by decide +kernel
theorem dX8_figure_41 : decode cX8_figure 41 = .ok (.iadd, 1) := by decide +kernel
theorem dX8_figure_42 : decode cX8_figure 42 = .ok (.putfield 99, 3) := by decide +kernel
theorem dX8_figure_45 : decode cX8_figure 45 = .ok (.iload_n 3, 1) := by decide +kernel
theorem dX8_figure_46 : decode cX8_figure 46 = .ok (.ireturn, 1) := by decide +kernel
theorem dX8_itemOf_0 : decode cX8_itemOf 0 = .ok (.iload_n 0, 1) := by decide +kernel
theorem dX8_itemOf_1 : decode cX8_itemOf 1 = .ok (.bipush 103, 2) := by decide +kernel
theorem dX8_itemOf_3 : decode cX8_itemOf 3 = .ok (.if_icmp .ne 7, 3) := by decide +kernel
theorem dX8_itemOf_6 : decode cX8_itemOf 6 = .ok (.iconst 0, 1) := by decide +kernel
theorem dX8_itemOf_7 : decode cX8_itemOf 7 = .ok (.goto 35, 3) := by decide +kernel
theorem dX8_itemOf_10 : decode cX8_itemOf 10 = .ok (.iload_n 0, 1) := by decide +kernel
theorem dX8_itemOf_11 : decode cX8_itemOf 11 = .ok (.bipush 114, 2) := by decide +kernel
theorem dX8_itemOf_13 : decode cX8_itemOf 13 = .ok (.if_icmp .ne 7, 3) := by decide +kernel
theorem dX8_itemOf_16 : decode cX8_itemOf 16 = .ok (.iconst 1, 1) := by decide +kernel
theorem dX8_itemOf_17 : decode cX8_itemOf 17 = .ok (.goto 25, 3) := by decide +kernel
theorem dX8_itemOf_20 : decode cX8_itemOf 20 = .ok (.iload_n 0, 1) := by decide +kernel
theorem dX8_itemOf_21 : decode cX8_itemOf 21 = .ok (.bipush 99, 2) := by decide +kernel
theorem dX8_itemOf_23 : decode cX8_itemOf 23 = .ok (.if_icmp .ne 7, 3) := by decide +kernel
theorem dX8_itemOf_26 : decode cX8_itemOf 26 = .ok (.iconst 2, 1) := by decide +kernel
theorem dX8_itemOf_27 : decode cX8_itemOf 27 = .ok (.goto 15, 3) := by decide +kernel
theorem dX8_itemOf_30 : decode cX8_itemOf 30 = .ok (.iload_n 0, 1) := by decide +kernel
theorem dX8_itemOf_31 : decode cX8_itemOf 31 = .ok (.bipush 119, 2) := by decide +kernel
theorem dX8_itemOf_33 : decode cX8_itemOf 33 = .ok (.if_icmp .ne 7, 3) := by decide +kernel
theorem dX8_itemOf_36 : decode cX8_itemOf 36 = .ok (.iconst 3, 1) := by decide +kernel
theorem dX8_itemOf_37 : decode cX8_itemOf 37 = .ok (.goto 5, 3) := by decide +kernel
theorem dX8_itemOf_40 : decode cX8_itemOf 40 = .ok (.bipush (-9), 2) := by decide +kernel
theorem dX8_itemOf_42 : decode cX8_itemOf 42 = .ok (.ireturn, 1) := by decide +kernel
theorem dX8_snowFault_0 : decode cX8_snowFault 0 = .ok (.aload_n 0, 1) := by decide +kernel
theorem dX8_snowFault_1 : decode cX8_snowFault 1 = .ok (.iconst 0, 1) := by decide +kernel
theorem dX8_snowFault_2 : decode cX8_snowFault 2 = .ok (.putfield 99, 3) := by decide +kernel
theorem dX8_snowFault_5 : decode cX8_snowFault 5 = .ok (.aload_n 0, 1) := by decide +kernel
theorem dX8_snowFault_6 : decode cX8_snowFault 6 = .ok (.iconst 0, 1) := by decide +kernel
theorem dX8_snowFault_7 : decode cX8_snowFault 7 = .ok (.putfield 108, 3) := by decide +kernel
theorem dX8_snowFault_10 : decode cX8_snowFault 10 = .ok (.aload_n 0, 1) := by decide +kernel
theorem dX8_snowFault_11 : decode cX8_snowFault 11 = .ok (.getfield 42, 3) := by decide +kernel
theorem dX8_snowFault_14 : decode cX8_snowFault 14 = .ok (.iconst 0, 1) := by decide +kernel
theorem dX8_snowFault_15 : decode cX8_snowFault 15 = .ok (.bipush 12, 2) := by decide +kernel
theorem dX8_snowFault_17 : decode cX8_snowFault 17 = .ok (.iastore, 1) := by decide +kernel
theorem dX8_snowFault_18 : decode cX8_snowFault 18 = .ok (.aload_n 0, 1) := by decide +kernel
theorem dX8_snowFault_19 : decode cX8_snowFault 19 = .ok (.getfield 42, 3) := by decide +kernel
theorem dX8_snowFault_22 : decode cX8_snowFault 22 = .ok (.iconst 1, 1) := by decide +kernel
theorem dX8_snowFault_23 : decode cX8_snowFault 23 = .ok (.iconst 4, 1) := by decide +kernel
theorem dX8_snowFault_24 : decode cX8_snowFault 24 = .ok (.iastore, 1) := by decide +kernel
theorem dX8_snowFault_25 : decode cX8_snowFault 25 = .ok (.aload_n 0, 1) := by decide +kernel
theorem dX8_snowFault_26 : decode cX8_snowFault 26 = .ok (.getfield 42, 3) := by decide +kernel
theorem dX8_snowFault_29 : decode cX8_snowFault 29 = .ok (.iconst 2, 1) := by decide +kernel
theorem dX8_snowFault_30 : decode cX8_snowFault 30 = .ok (.bipush 20, 2) := by decide +kernel
theorem dX8_snowFault_32 : decode cX8_snowFault 32 = .ok (.iastore, 1) := by decide +kernel
theorem dX8_snowFault_33 : decode cX8_snowFault 33 = .ok (.aload_n 0, 1) := by decide +kernel
theorem dX8_snowFault_34 : decode cX8_snowFault 34 = .ok (.getfield 42, 3) := by decide +kernel
theorem dX8_snowFault_37 : decode cX8_snowFault 37 = .ok (.iconst 3, 1) := by decide +kernel
theorem dX8_snowFault_38 : decode cX8_snowFault 38 = .ok (.iconst 3, 1) := by decide +kernel
theorem dX8_snowFault_39 : decode cX8_snowFault 39 = .ok (.iastore, 1) := by decide +kernel
theorem dX8_snowFault_40 : decode cX8_snowFault 40 = .ok (.aload_n 0, 1) := by decide +kernel
theorem dX8_snowFault_41 : decode cX8_snowFault 41 = .ok (.getfield 99, 3) := by decide +kernel
theorem dX8_snowFault_44 : decode cX8_snowFault 44 = .ok (.aload_n 0, 1) := by decide +kernel
theorem dX8_snowFault_45 : decode cX8_snowFault 45 = .ok (.getfield 22, 3) := by decide +kernel
theorem dX8_snowFault_48 : decode cX8_snowFault 48 = .ok (.iload_n 1, 1) := by decide +kernel
theorem dX8_snowFault_49 : decode cX8_snowFault 49 = .ok (.iaload, 1) := by decide +kernel
theorem dX8_snowFault_50 : decode cX8_snowFault 50 = .ok (.if_icmp .ge 135, 3) := by decide +kernel
theorem dX8_snowFault_53 : decode cX8_snowFault 53 = .ok (.aload_n 0, 1) := by decide +kernel
theorem dX8_snowFault_54 : decode cX8_snowFault 54 = .ok (.iload_n 1, 1) := by decide +kernel
theorem dX8_snowFault_55 : decode cX8_snowFault 55 = .ok (.aload_n 0, 1) := by decide +kernel
theorem dX8_snowFault_56 : decode cX8_snowFault 56 = .ok (.getfield 99, 3) := by decide +kernel
theorem dX8_snowFault_59 : decode cX8_snowFault 59 = .ok (.invokevirtual 102, 3) := by decide +kernel
theorem dX8_snowFault_62 : decode cX8_snowFault 62 = .ok (.invokestatic 111, 3) := by decide +kernel
theorem dX8_snowFault_65 : decode cX8_snowFault 65 = .ok (.istore_n 2, 1) := by decide +kernel
theorem dX8_snowFault_66 : decode cX8_snowFault 66 = .ok (.aload_n 0, 1) := by decide +kernel
theorem dX8_snowFault_67 : decode cX8_snowFault 67 = .ok (.iload_n 1, 1) := by decide +kernel
theorem dX8_snowFault_68 : decode cX8_snowFault 68 = .ok (.aload_n 0, 1) := by decide +kernel
theorem dX8_snowFault_69 : decode cX8_snowFault 69 = .ok (.getfield 99, 3) := by decide +kernel
theorem dX8_snowFault_72 : decode cX8_snowFault 72 = .ok (.invokevirtual 102, 3) := by decide +kernel
theorem dX8_snowFault_75 : decode cX8_snowFault 75 = .ok (.bipush 32, 2) := by decide +kernel
theorem dX8_snowFault_77 : decode cX8_snowFault 77 = .ok (.if_icmp .ne 16, 3) := by decide +kernel
theorem dX8_snowFault_80 : decode cX8_snowFault 80 = .ok (.aload_n 0, 1) := by decide +kernel
theorem dX8_snowFault_81 : decode cX8_snowFault 81 = .ok (.dup, 1) := by decide +kernel
theorem dX8_snowFault_82 : decode cX8_snowFault 82 = .ok (.getfield 99, 3) := by decide +kernel
theorem dX8_snowFault_85 : decode cX8_snowFault 85 = .ok (.iconst 1, 1) := by decide +kernel
theorem dX8_snowFault_86 : decode cX8_snowFault 86 = .ok (.iadd, 1) := by decide +kernel
theorem dX8_snowFault_87 : decode cX8_snowFault 87 = .ok (.putfield 99, 3) := by decide +kernel
theorem dX8_snowFault_90 : decode cX8_snowFault 90 = .ok (.goto 92, 3) := by decide +kernel
theorem dX8_snowFault_93 : decode cX8_snowFault 93 = .ok (.iload_n 2, 1) := by decide +kernel
theorem dX8_snowFault_94 : decode cX8_snowFault 94 = .ok (.bipush (-9), 2) := by decide +kernel
theorem dX8_snowFault_96 : decode cX8_snowFault 96 = .ok (.if_icmp .ne 8, 3) := by decide +kernel
theorem dX8_snowFault_99 : decode cX8_snowFault 99 = .ok (.aload_n 0, 1) := by decide +kernel
theorem dX8_snowFault_100 : decode cX8_snowFault 100 = .ok (.getfield 99, 3) := by decide +kernel
theorem dX8_snowFault_103 : decode cX8_snowFault 103 = .ok (.ireturn, 1) := by decide +kernel
theorem dX8_snowFault_104 : decode cX8_snowFault 104 = .ok (.aload_n 0, 1) := by decide +kernel
theorem dX8_snowFault_105 : decode cX8_snowFault 105 = .ok (.dup, 1) := by decide +kernel
theorem dX8_snowFault_106 : decode cX8_snowFault 106 = .ok (.getfield 99, 3) := by decide +kernel
theorem dX8_snowFault_109 : decode cX8_snowFault 109 = .ok (.iconst 1, 1) := by decide +kernel
theorem dX8_snowFault_110 : decode cX8_snowFault 110 = .ok (.iadd, 1) := by decide +kernel
theorem dX8_snowFault_111 : decode cX8_snowFault 111 = .ok (.putfield 99, 3) := by decide +kernel
theorem dX8_snowFault_114 : decode cX8_snowFault 114 = .ok (.aload_n 0, 1) := by decide +kernel
theorem dX8_snowFault_115 : decode cX8_snowFault 115 = .ok (.iload_n 1, 1) := by decide +kernel
theorem dX8_snowFault_116 : decode cX8_snowFault 116 = .ok (.iload_n 2, 1) := by decide +kernel
theorem dX8_snowFault_117 : decode cX8_snowFault 117 = .ok (.ifCond .eq 8, 3) := by decide +kernel
theorem dX8_snowFault_120 : decode cX8_snowFault 120 = .ok (.iload_n 2, 1) := by decide +kernel
theorem dX8_snowFault_121 : decode cX8_snowFault 121 = .ok (.iconst 3, 1) := by decide +kernel
theorem dX8_snowFault_122 : decode cX8_snowFault 122 = .ok (.if_icmp .ne 7, 3) := by decide +kernel
theorem dX8_snowFault_125 : decode cX8_snowFault 125 = .ok (.iconst 1, 1) := by decide +kernel
theorem dX8_snowFault_126 : decode cX8_snowFault 126 = .ok (.goto 4, 3) := by decide +kernel
theorem dX8_snowFault_129 : decode cX8_snowFault 129 = .ok (.iconst 0, 1) := by decide +kernel
theorem dX8_snowFault_130 : decode cX8_snowFault 130 = .ok (.iload_n 2, 1) := by decide +kernel
theorem dX8_snowFault_131 : decode cX8_snowFault 131 = .ok (.ifCond .ne 8, 3) := by decide +kernel
theorem dX8_snowFault_134 : decode cX8_snowFault 134 = .ok (.bipush 30, 2) := by decide +kernel
theorem dX8_snowFault_136 : decode cX8_snowFault 136 = .ok (.goto 15, 3) := by decide +kernel
theorem dX8_snowFault_139 : decode cX8_snowFault 139 = .ok (.iload_n 2, 1) := by decide +kernel
theorem dX8_snowFault_140 : decode cX8_snowFault 140 = .ok (.iconst 2, 1) := by decide +kernel
theorem dX8_snowFault_141 : decode cX8_snowFault 141 = .ok (.if_icmp .ne 8, 3) := by decide +kernel
theorem dX8_snowFault_144 : decode cX8_snowFault 144 = .ok (.bipush 40, 2) := by decide +kernel
theorem dX8_snowFault_146 : decode cX8_snowFault 146 = .ok (.goto 5, 3) := by decide +kernel
theorem dX8_snowFault_149 : decode cX8_snowFault 149 = .ok (.bipush 9, 2) := by decide +kernel
theorem dX8_snowFault_151 : decode cX8_snowFault 151 = .ok (.invokevirtual 114, 3) := by decide +kernel
theorem dX8_snowFault_154 : decode cX8_snowFault 154 = .ok (.ifCond .ne 8, 3) := by decide +kernel
theorem dX8_snowFault_157 : decode cX8_snowFault 157 = .ok (.aload_n 0, 1) := by decide +kernel
theorem dX8_snowFault_158 : decode cX8_snowFault 158 = .ok (.getfield 99, 3) := by decide +kernel
theorem dX8_snowFault_161 : decode cX8_snowFault 161 = .ok (.ireturn, 1) := by decide +kernel
theorem dX8_snowFault_162 : decode cX8_snowFault 162 = .ok (.aload_n 0, 1) := by decide +kernel
theorem dX8_snowFault_163 : decode cX8_snowFault 163 = .ok (.getfield 42, 3) := by decide +kernel
theorem dX8_snowFault_166 : decode cX8_snowFault 166 = .ok (.iload_n 2, 1) := by decide +kernel
theorem dX8_snowFault_167 : decode cX8_snowFault 167 = .ok (.aload_n 0, 1) := by decide +kernel
theorem dX8_snowFault_168 : decode cX8_snowFault 168 = .ok (.getfield 105, 3) := by decide +kernel
theorem dX8_snowFault_171 : decode cX8_snowFault 171 = .ok (.iastore, 1) := by decide +kernel
theorem dX8_snowFault_172 : decode cX8_snowFault 172 = .ok (.aload_n 0, 1) := by decide +kernel
theorem dX8_snowFault_173 : decode cX8_snowFault 173 = .ok (.dup, 1) := by decide +kernel
theorem dX8_snowFault_174 : decode cX8_snowFault 174 = .ok (.getfield 108, 3) := by decide +kernel
theorem dX8_snowFault_177 : decode cX8_snowFault 177 = .ok (.iconst 1, 1) := by decide +kernel
theorem dX8_snowFault_178 : decode cX8_snowFault 178 = .ok (.iadd, 1) := by decide +kernel
theorem dX8_snowFault_179 : decode cX8_snowFault 179 = .ok (.putfield 108, 3) := by decide +kernel
theorem dX8_snowFault_182 : decode cX8_snowFault 182 = .ok (.goto (-142), 3) := by decide +kernel
theorem dX8_snowFault_185 : decode cX8_snowFault 185 = .ok (.bipush (-9), 2) := by decide +kernel
theorem dX8_snowFault_187 : decode cX8_snowFault 187 = .ok (.ireturn, 1) := by decide +kernel
theorem dX8_readsCourse_0 : decode cX8_readsCourse 0 = .ok (.aload_n 0, 1) := by decide +kernel
theorem dX8_readsCourse_1 : decode cX8_readsCourse 1 = .ok (.iload_n 1, 1) := by decide +kernel
theorem dX8_readsCourse_2 : decode cX8_readsCourse 2 = .ok (.aload_n 0, 1) := by decide +kernel
theorem dX8_readsCourse_3 : decode cX8_readsCourse 3 = .ok (.getfield 99, 3) := by decide +kernel
theorem dX8_readsCourse_6 : decode cX8_readsCourse 6 = .ok (.invokevirtual 102, 3) := by decide +kernel
theorem dX8_readsCourse_9 : decode cX8_readsCourse 9 = .ok (.istore_n 2, 1) := by decide +kernel
theorem dX8_readsCourse_10 : decode cX8_readsCourse 10 = .ok (.iload_n 2, 1) := by decide +kernel
theorem dX8_readsCourse_11 : decode cX8_readsCourse 11 = .ok (.bipush 109, 2) := by decide +kernel
theorem dX8_readsCourse_13 : decode cX8_readsCourse 13 = .ok (.if_icmp .ne 63, 3) := by decide +kernel
theorem dX8_readsCourse_16 : decode cX8_readsCourse 16 = .ok (.aload_n 0, 1) := by decide +kernel
theorem dX8_readsCourse_17 : decode cX8_readsCourse 17 = .ok (.dup, 1) := by decide +kernel
theorem dX8_readsCourse_18 : decode cX8_readsCourse 18 = .ok (.getfield 99, 3) := by decide +kernel
theorem dX8_readsCourse_21 : decode cX8_readsCourse 21 = .ok (.iconst 1, 1) := by decide +kernel
theorem dX8_readsCourse_22 : decode cX8_readsCourse 22 = .ok (.iadd, 1) := by decide +kernel
theorem dX8_readsCourse_23 : decode cX8_readsCourse 23 = .ok (.putfield 99, 3) := by decide +kernel
theorem dX8_readsCourse_26 : decode cX8_readsCourse 26 = .ok (.aload_n 0, 1) := by decide +kernel
theorem dX8_readsCourse_27 : decode cX8_readsCourse 27 = .ok (.iload_n 1, 1) := by decide +kernel
theorem dX8_readsCourse_28 : decode cX8_readsCourse 28 = .ok (.bipush 58, 2) := by decide +kernel
theorem dX8_readsCourse_30 : decode cX8_readsCourse 30 = .ok (.invokevirtual 117, 3) := by decide +kernel
theorem dX8_readsCourse_33 : decode cX8_readsCourse 33 = .ok (.ifCond .eq 16, 3) := by decide +kernel
theorem dX8_readsCourse_36 : decode cX8_readsCourse 36 = .ok (.aload_n 0, 1) := by decide +kernel
theorem dX8_readsCourse_37 : decode cX8_readsCourse 37 = .ok (.iload_n 1, 1) := by decide +kernel
theorem dX8_readsCourse_38 : decode cX8_readsCourse 38 = .ok (.iconst 1, 1) := by decide +kernel
theorem dX8_readsCourse_39 : decode cX8_readsCourse 39 = .ok (.invokevirtual 121, 3) := by decide +kernel
theorem dX8_readsCourse_42 : decode cX8_readsCourse 42 = .ok (.ifCond .eq 7, 3) := by decide +kernel
theorem dX8_readsCourse_45 : decode cX8_readsCourse 45 = .ok (.iconst 1, 1) := by decide +kernel
theorem dX8_readsCourse_46 : decode cX8_readsCourse 46 = .ok (.goto 4, 3) := by decide +kernel
theorem dX8_readsCourse_49 : decode cX8_readsCourse 49 = .ok (.iconst 0, 1) := by decide +kernel
theorem dX8_readsCourse_50 : decode cX8_readsCourse 50 = .ok (.istore_n 3, 1) := by decide +kernel
theorem dX8_readsCourse_51 : decode cX8_readsCourse 51 = .ok (.aload_n 0, 1) := by decide +kernel
theorem dX8_readsCourse_52 : decode cX8_readsCourse 52 = .ok (.getfield 45, 3) := by decide +kernel
theorem dX8_readsCourse_55 : decode cX8_readsCourse 55 = .ok (.iconst 1, 1) := by decide +kernel
theorem dX8_readsCourse_56 : decode cX8_readsCourse 56 = .ok (.iload_n 3, 1) := by decide +kernel
theorem dX8_readsCourse_57 : decode cX8_readsCourse 57 = .ok (.ifCond .eq 10, 3) := by decide +kernel
theorem dX8_readsCourse_60 : decode cX8_readsCourse 60 = .ok (.aload_n 0, 1) := by decide +kernel
theorem dX8_readsCourse_61 : decode cX8_readsCourse 61 = .ok (.getfield 105, 3) := by decide +kernel
theorem dX8_readsCourse_64 : decode cX8_readsCourse 64 = .ok (.goto 9, 3) := by decide +kernel
theorem dX8_readsCourse_67 : decode cX8_readsCourse 67 = .ok (.aload_n 0, 1) := by decide +kernel
theorem dX8_readsCourse_68 : decode cX8_readsCourse 68 = .ok (.getfield 45, 3) := by decide +kernel
theorem dX8_readsCourse_71 : decode cX8_readsCourse 71 = .ok (.iconst 1, 1) := by decide +kernel
theorem dX8_readsCourse_72 : decode cX8_readsCourse 72 = .ok (.iaload, 1) := by decide +kernel
theorem dX8_readsCourse_73 : decode cX8_readsCourse 73 = .ok (.iastore, 1) := by decide +kernel
theorem dX8_readsCourse_74 : decode cX8_readsCourse 74 = .ok (.iload_n 3, 1) := by decide +kernel
theorem dX8_readsCourse_75 : decode cX8_readsCourse 75 = .ok (.ireturn, 1) := by decide +kernel
theorem dX8_readsCourse_76 : decode cX8_readsCourse 76 = .ok (.iload_n 2, 1) := by decide +kernel
theorem dX8_readsCourse_77 : decode cX8_readsCourse 77 = .ok (.bipush 114, 2) := by decide +kernel
theorem dX8_readsCourse_79 : decode cX8_readsCourse 79 = .ok (.if_icmp .eq 9, 3) := by decide +kernel
theorem dX8_readsCourse_82 : decode cX8_readsCourse 82 = .ok (.iload_n 2, 1) := by decide +kernel
theorem dX8_readsCourse_83 : decode cX8_readsCourse 83 = .ok (.bipush 115, 2) := by decide +kernel
theorem dX8_readsCourse_85 : decode cX8_readsCourse 85 = .ok (.if_icmp .ne 14, 3) := by decide +kernel
theorem dX8_readsCourse_88 : decode cX8_readsCourse 88 = .ok (.aload_n 0, 1) := by decide +kernel
theorem dX8_readsCourse_89 : decode cX8_readsCourse 89 = .ok (.getfield 45, 3) := by decide +kernel
theorem dX8_readsCourse_92 : decode cX8_readsCourse 92 = .ok (.iconst 0, 1) := by decide +kernel
theorem dX8_readsCourse_93 : decode cX8_readsCourse 93 = .ok (.iaload, 1) := by decide +kernel
theorem dX8_readsCourse_94 : decode cX8_readsCourse 94 = .ok (.bipush 8, 2) := by decide +kernel
theorem dX8_readsCourse_96 : decode cX8_readsCourse 96 = .ok (.if_icmp .ne 5, 3) := by decide +kernel
theorem dX8_readsCourse_99 : decode cX8_readsCourse 99 = .ok (.iconst 0, 1) := by decide +kernel
theorem dX8_readsCourse_100 : decode cX8_readsCourse 100 = .ok (.ireturn, 1) := by decide +kernel
theorem dX8_readsCourse_101 : decode cX8_readsCourse 101 = .ok (.aload_n 0, 1) := by decide +kernel
theorem dX8_readsCourse_102 : decode cX8_readsCourse 102 = .ok (.dup, 1) := by decide +kernel
theorem dX8_readsCourse_103 : decode cX8_readsCourse 103 = .ok (.getfield 99, 3) := by decide +kernel
theorem dX8_readsCourse_106 : decode cX8_readsCourse 106 = .ok (.iconst 1, 1) := by decide +kernel
theorem dX8_readsCourse_107 : decode cX8_readsCourse 107 = .ok (.iadd, 1) := by decide +kernel
theorem dX8_readsCourse_108 : decode cX8_readsCourse 108 = .ok (.putfield 99, 3) := by decide +kernel
theorem dX8_readsCourse_111 : decode cX8_readsCourse 111 = .ok (.aload_n 0, 1) := by decide +kernel
theorem dX8_readsCourse_112 : decode cX8_readsCourse 112 = .ok (.iload_n 1, 1) := by decide +kernel
theorem dX8_readsCourse_113 : decode cX8_readsCourse 113 = .ok (.iconst 1, 1) := by decide +kernel
theorem dX8_readsCourse_114 : decode cX8_readsCourse 114 = .ok (.bipush 12, 2) := by decide +kernel
theorem dX8_readsCourse_116 : decode cX8_readsCourse 116 = .ok (.invokevirtual 114, 3) := by decide +kernel
theorem dX8_readsCourse_119 : decode cX8_readsCourse 119 = .ok (.ifCond .eq 17, 3) := by decide +kernel
theorem dX8_readsCourse_122 : decode cX8_readsCourse 122 = .ok (.aload_n 0, 1) := by decide +kernel
theorem dX8_readsCourse_123 : decode cX8_readsCourse 123 = .ok (.getfield 124, 3) := by decide +kernel
theorem dX8_readsCourse_126 : decode cX8_readsCourse 126 = .ok (.aload_n 0, 1) := by decide +kernel
theorem dX8_readsCourse_127 : decode cX8_readsCourse 127 = .ok (.getfield 105, 3) := by decide +kernel
theorem dX8_readsCourse_130 : decode cX8_readsCourse 130 = .ok (.iadd, 1) := by decide +kernel
theorem dX8_readsCourse_131 : decode cX8_readsCourse 131 = .ok (.bipush 60, 2) := by decide +kernel
theorem dX8_readsCourse_133 : decode cX8_readsCourse 133 = .ok (.if_icmp .le 5, 3) := by decide +kernel
theorem dX8_readsCourse_136 : decode cX8_readsCourse 136 = .ok (.iconst 0, 1) := by decide +kernel
theorem dX8_readsCourse_137 : decode cX8_readsCourse 137 = .ok (.ireturn, 1) := by decide +kernel
theorem dX8_readsCourse_138 : decode cX8_readsCourse 138 = .ok (.aload_n 0, 1) := by decide +kernel
theorem dX8_readsCourse_139 : decode cX8_readsCourse 139 = .ok (.getfield 105, 3) := by decide +kernel
theorem dX8_readsCourse_142 : decode cX8_readsCourse 142 = .ok (.istore_n 3, 1) := by decide +kernel
theorem dX8_readsCourse_143 : decode cX8_readsCourse 143 = .ok (.aload_n 0, 1) := by decide +kernel
theorem dX8_readsCourse_144 : decode cX8_readsCourse 144 = .ok (.iload_n 1, 1) := by decide +kernel
theorem dX8_readsCourse_145 : decode cX8_readsCourse 145 = .ok (.bipush 58, 2) := by decide +kernel
theorem dX8_readsCourse_147 : decode cX8_readsCourse 147 = .ok (.invokevirtual 117, 3) := by decide +kernel
theorem dX8_readsCourse_150 : decode cX8_readsCourse 150 = .ok (.ifCond .eq 12, 3) := by decide +kernel
theorem dX8_readsCourse_153 : decode cX8_readsCourse 153 = .ok (.aload_n 0, 1) := by decide +kernel
theorem dX8_readsCourse_154 : decode cX8_readsCourse 154 = .ok (.iload_n 1, 1) := by decide +kernel
theorem dX8_readsCourse_155 : decode cX8_readsCourse 155 = .ok (.iconst 0, 1) := by decide +kernel
theorem dX8_readsCourse_156 : decode cX8_readsCourse 156 = .ok (.invokevirtual 121, 3) := by decide +kernel
theorem dX8_readsCourse_159 : decode cX8_readsCourse 159 = .ok (.ifCond .ne 5, 3) := by decide +kernel
theorem dX8_readsCourse_162 : decode cX8_readsCourse 162 = .ok (.iconst 0, 1) := by decide +kernel
theorem dX8_readsCourse_163 : decode cX8_readsCourse 163 = .ok (.ireturn, 1) := by decide +kernel
theorem dX8_readsCourse_164 : decode cX8_readsCourse 164 = .ok (.iconst 2, 1) := by decide +kernel
theorem dX8_readsCourse_165 : decode cX8_readsCourse 165 = .ok (.iconst 3, 1) := by decide +kernel
theorem dX8_readsCourse_166 : decode cX8_readsCourse 166 = .ok (.aload_n 0, 1) := by decide +kernel
theorem dX8_readsCourse_167 : decode cX8_readsCourse 167 = .ok (.getfield 45, 3) := by decide +kernel
theorem dX8_readsCourse_170 : decode cX8_readsCourse 170 = .ok (.iconst 0, 1) := by decide +kernel
theorem dX8_readsCourse_171 : decode cX8_readsCourse 171 = .ok (.iaload, 1) := by decide +kernel
theorem dX8_readsCourse_172 : decode cX8_readsCourse 172 = .ok (.imul, 1) := by decide +kernel
theorem dX8_readsCourse_173 : decode cX8_readsCourse 173 = .ok (.iadd, 1) := by decide +kernel
theorem dX8_readsCourse_174 : decode cX8_readsCourse 174 = .ok (.istore 4, 2) := by decide +kernel
theorem dX8_readsCourse_176 : decode cX8_readsCourse 176 = .ok (.aload_n 0, 1) := by decide +kernel
theorem dX8_readsCourse_177 : decode cX8_readsCourse 177 = .ok (.getfield 45, 3) := by decide +kernel
theorem dX8_readsCourse_180 : decode cX8_readsCourse 180 = .ok (.iload 4, 2) := by decide +kernel
theorem dX8_readsCourse_182 : decode cX8_readsCourse 182 = .ok (.iload_n 2, 1) := by decide +kernel
theorem dX8_readsCourse_183 : decode cX8_readsCourse 183 = .ok (.bipush 114, 2) := by decide +kernel
theorem dX8_readsCourse_185 : decode cX8_readsCourse 185 = .ok (.if_icmp .ne 7, 3) := by decide +kernel
theorem dX8_readsCourse_188 : decode cX8_readsCourse 188 = .ok (.iconst 1, 1) := by decide +kernel
theorem dX8_readsCourse_189 : decode cX8_readsCourse 189 = .ok (.goto 4, 3) := by decide +kernel
theorem dX8_readsCourse_192 : decode cX8_readsCourse 192 = .ok (.iconst 2, 1) := by decide +kernel
theorem dX8_readsCourse_193 : decode cX8_readsCourse 193 = .ok (.iastore, 1) := by decide +kernel
theorem dX8_readsCourse_194 : decode cX8_readsCourse 194 = .ok (.aload_n 0, 1) := by decide +kernel
theorem dX8_readsCourse_195 : decode cX8_readsCourse 195 = .ok (.getfield 45, 3) := by decide +kernel
theorem dX8_readsCourse_198 : decode cX8_readsCourse 198 = .ok (.iload 4, 2) := by decide +kernel
theorem dX8_readsCourse_200 : decode cX8_readsCourse 200 = .ok (.iconst 1, 1) := by decide +kernel
theorem dX8_readsCourse_201 : decode cX8_readsCourse 201 = .ok (.iadd, 1) := by decide +kernel
theorem dX8_readsCourse_202 : decode cX8_readsCourse 202 = .ok (.iload_n 3, 1) := by decide +kernel
theorem dX8_readsCourse_203 : decode cX8_readsCourse 203 = .ok (.iastore, 1) := by decide +kernel
theorem dX8_readsCourse_204 : decode cX8_readsCourse 204 = .ok (.aload_n 0, 1) := by decide +kernel
theorem dX8_readsCourse_205 : decode cX8_readsCourse 205 = .ok (.getfield 45, 3) := by decide +kernel
theorem dX8_readsCourse_208 : decode cX8_readsCourse 208 = .ok (.iload 4, 2) := by decide +kernel
theorem dX8_readsCourse_210 : decode cX8_readsCourse 210 = .ok (.iconst 2, 1) := by decide +kernel
theorem dX8_readsCourse_211 : decode cX8_readsCourse 211 = .ok (.iadd, 1) := by decide +kernel
theorem dX8_readsCourse_212 : decode cX8_readsCourse 212 = .ok (.aload_n 0, 1) := by decide +kernel
theorem dX8_readsCourse_213 : decode cX8_readsCourse 213 = .ok (.getfield 105, 3) := by decide +kernel
theorem dX8_readsCourse_216 : decode cX8_readsCourse 216 = .ok (.iastore, 1) := by decide +kernel
theorem dX8_readsCourse_217 : decode cX8_readsCourse 217 = .ok (.aload_n 0, 1) := by decide +kernel
theorem dX8_readsCourse_218 : decode cX8_readsCourse 218 = .ok (.getfield 45, 3) := by decide +kernel
theorem dX8_readsCourse_221 : decode cX8_readsCourse 221 = .ok (.iconst 0, 1) := by decide +kernel
theorem dX8_readsCourse_222 : decode cX8_readsCourse 222 = .ok (.dup2, 1) := by decide +kernel
theorem dX8_readsCourse_223 : decode cX8_readsCourse 223 = .ok (.iaload, 1) := by decide +kernel
theorem dX8_readsCourse_224 : decode cX8_readsCourse 224 = .ok (.iconst 1, 1) := by decide +kernel
theorem dX8_readsCourse_225 : decode cX8_readsCourse 225 = .ok (.iadd, 1) := by decide +kernel
theorem dX8_readsCourse_226 : decode cX8_readsCourse 226 = .ok (.iastore, 1) := by decide +kernel
theorem dX8_readsCourse_227 : decode cX8_readsCourse 227 = .ok (.aload_n 0, 1) := by decide +kernel
theorem dX8_readsCourse_228 : decode cX8_readsCourse 228 = .ok (.dup, 1) := by decide +kernel
theorem dX8_readsCourse_229 : decode cX8_readsCourse 229 = .ok (.getfield 124, 3) := by decide +kernel
theorem dX8_readsCourse_232 : decode cX8_readsCourse 232 = .ok (.iload_n 3, 1) := by decide +kernel
theorem dX8_readsCourse_233 : decode cX8_readsCourse 233 = .ok (.iadd, 1) := by decide +kernel
theorem dX8_readsCourse_234 : decode cX8_readsCourse 234 = .ok (.putfield 124, 3) := by decide +kernel
theorem dX8_readsCourse_237 : decode cX8_readsCourse 237 = .ok (.iconst 1, 1) := by decide +kernel
theorem dX8_readsCourse_238 : decode cX8_readsCourse 238 = .ok (.ireturn, 1) := by decide +kernel
theorem dX8_planFault_0 : decode cX8_planFault 0 = .ok (.aload_n 0, 1) := by decide +kernel
theorem dX8_planFault_1 : decode cX8_planFault 1 = .ok (.iconst 0, 1) := by decide +kernel
theorem dX8_planFault_2 : decode cX8_planFault 2 = .ok (.putfield 99, 3) := by decide +kernel
theorem dX8_planFault_5 : decode cX8_planFault 5 = .ok (.aload_n 0, 1) := by decide +kernel
theorem dX8_planFault_6 : decode cX8_planFault 6 = .ok (.iconst 0, 1) := by decide +kernel
theorem dX8_planFault_7 : decode cX8_planFault 7 = .ok (.putfield 124, 3) := by decide +kernel
theorem dX8_planFault_10 : decode cX8_planFault 10 = .ok (.aload_n 0, 1) := by decide +kernel
theorem dX8_planFault_11 : decode cX8_planFault 11 = .ok (.getfield 45, 3) := by decide +kernel
theorem dX8_planFault_14 : decode cX8_planFault 14 = .ok (.iconst 0, 1) := by decide +kernel
theorem dX8_planFault_15 : decode cX8_planFault 15 = .ok (.iconst 0, 1) := by decide +kernel
theorem dX8_planFault_16 : decode cX8_planFault 16 = .ok (.iastore, 1) := by decide +kernel
theorem dX8_planFault_17 : decode cX8_planFault 17 = .ok (.aload_n 0, 1) := by decide +kernel
theorem dX8_planFault_18 : decode cX8_planFault 18 = .ok (.getfield 45, 3) := by decide +kernel
theorem dX8_planFault_21 : decode cX8_planFault 21 = .ok (.iconst 1, 1) := by decide +kernel
theorem dX8_planFault_22 : decode cX8_planFault 22 = .ok (.iconst 2, 1) := by decide +kernel
theorem dX8_planFault_23 : decode cX8_planFault 23 = .ok (.iastore, 1) := by decide +kernel
theorem dX8_planFault_24 : decode cX8_planFault 24 = .ok (.aload_n 0, 1) := by decide +kernel
theorem dX8_planFault_25 : decode cX8_planFault 25 = .ok (.getfield 99, 3) := by decide +kernel
theorem dX8_planFault_28 : decode cX8_planFault 28 = .ok (.aload_n 0, 1) := by decide +kernel
theorem dX8_planFault_29 : decode cX8_planFault 29 = .ok (.getfield 22, 3) := by decide +kernel
theorem dX8_planFault_32 : decode cX8_planFault 32 = .ok (.iload_n 1, 1) := by decide +kernel
theorem dX8_planFault_33 : decode cX8_planFault 33 = .ok (.iaload, 1) := by decide +kernel
theorem dX8_planFault_34 : decode cX8_planFault 34 = .ok (.if_icmp .ge 43, 3) := by decide +kernel
theorem dX8_planFault_37 : decode cX8_planFault 37 = .ok (.aload_n 0, 1) := by decide +kernel
theorem dX8_planFault_38 : decode cX8_planFault 38 = .ok (.iload_n 1, 1) := by decide +kernel
theorem dX8_planFault_39 : decode cX8_planFault 39 = .ok (.aload_n 0, 1) := by decide +kernel
theorem dX8_planFault_40 : decode cX8_planFault 40 = .ok (.getfield 99, 3) := by decide +kernel
theorem dX8_planFault_43 : decode cX8_planFault 43 = .ok (.invokevirtual 102, 3) := by decide +kernel
theorem dX8_planFault_46 : decode cX8_planFault 46 = .ok (.bipush 32, 2) := by decide +kernel
theorem dX8_planFault_48 : decode cX8_planFault 48 = .ok (.if_icmp .ne 16, 3) := by decide +kernel
theorem dX8_planFault_51 : decode cX8_planFault 51 = .ok (.aload_n 0, 1) := by decide +kernel
theorem dX8_planFault_52 : decode cX8_planFault 52 = .ok (.dup, 1) := by decide +kernel
theorem dX8_planFault_53 : decode cX8_planFault 53 = .ok (.getfield 99, 3) := by decide +kernel
theorem dX8_planFault_56 : decode cX8_planFault 56 = .ok (.iconst 1, 1) := by decide +kernel
theorem dX8_planFault_57 : decode cX8_planFault 57 = .ok (.iadd, 1) := by decide +kernel
theorem dX8_planFault_58 : decode cX8_planFault 58 = .ok (.putfield 99, 3) := by decide +kernel
theorem dX8_planFault_61 : decode cX8_planFault 61 = .ok (.goto (-37), 3) := by decide +kernel
theorem dX8_planFault_64 : decode cX8_planFault 64 = .ok (.aload_n 0, 1) := by decide +kernel
theorem dX8_planFault_65 : decode cX8_planFault 65 = .ok (.iload_n 1, 1) := by decide +kernel
theorem dX8_planFault_66 : decode cX8_planFault 66 = .ok (.invokevirtual 127, 3) := by decide +kernel
theorem dX8_planFault_69 : decode cX8_planFault 69 = .ok (.ifCond .ne (-45), 3) := by decide +kernel
theorem dX8_planFault_72 : decode cX8_planFault 72 = .ok (.aload_n 0, 1) := by decide +kernel
theorem dX8_planFault_73 : decode cX8_planFault 73 = .ok (.getfield 99, 3) := by decide +kernel
theorem dX8_planFault_76 : decode cX8_planFault 76 = .ok (.ireturn, 1) := by decide +kernel
theorem dX8_planFault_77 : decode cX8_planFault 77 = .ok (.aload_n 0, 1) := by decide +kernel
theorem dX8_planFault_78 : decode cX8_planFault 78 = .ok (.getfield 45, 3) := by decide +kernel
theorem dX8_planFault_81 : decode cX8_planFault 81 = .ok (.iconst 0, 1) := by decide +kernel
theorem dX8_planFault_82 : decode cX8_planFault 82 = .ok (.iaload, 1) := by decide +kernel
theorem dX8_planFault_83 : decode cX8_planFault 83 = .ok (.ifCond .ne 12, 3) := by decide +kernel
theorem dX8_planFault_86 : decode cX8_planFault 86 = .ok (.aload_n 0, 1) := by decide +kernel
theorem dX8_planFault_87 : decode cX8_planFault 87 = .ok (.getfield 22, 3) := by decide +kernel
theorem dX8_planFault_90 : decode cX8_planFault 90 = .ok (.iload_n 1, 1) := by decide +kernel
theorem dX8_planFault_91 : decode cX8_planFault 91 = .ok (.iaload, 1) := by decide +kernel
theorem dX8_planFault_92 : decode cX8_planFault 92 = .ok (.goto 5, 3) := by decide +kernel
theorem dX8_planFault_95 : decode cX8_planFault 95 = .ok (.bipush (-9), 2) := by decide +kernel
theorem dX8_planFault_97 : decode cX8_planFault 97 = .ok (.ireturn, 1) := by decide +kernel
theorem dX8_fault_0 : decode cX8_fault 0 = .ok (.iload_n 1, 1) := by decide +kernel
theorem dX8_fault_1 : decode cX8_fault 1 = .ok (.invokestatic 96, 3) := by decide +kernel
theorem dX8_fault_4 : decode cX8_fault 4 = .ok (.ifCond .ne 5, 3) := by decide +kernel
theorem dX8_fault_7 : decode cX8_fault 7 = .ok (.iconst (-1), 1) := by decide +kernel
theorem dX8_fault_8 : decode cX8_fault 8 = .ok (.ireturn, 1) := by decide +kernel
theorem dX8_fault_9 : decode cX8_fault 9 = .ok (.aload_n 0, 1) := by decide +kernel
theorem dX8_fault_10 : decode cX8_fault 10 = .ok (.getfield 22, 3) := by decide +kernel
theorem dX8_fault_13 : decode cX8_fault 13 = .ok (.iload_n 1, 1) := by decide +kernel
theorem dX8_fault_14 : decode cX8_fault 14 = .ok (.iaload, 1) := by decide +kernel
theorem dX8_fault_15 : decode cX8_fault 15 = .ok (.ifCond .ge 11, 3) := by decide +kernel
theorem dX8_fault_18 : decode cX8_fault 18 = .ok (.aload_n 0, 1) := by decide +kernel
theorem dX8_fault_19 : decode cX8_fault 19 = .ok (.iconst 1, 1) := by decide +kernel
theorem dX8_fault_20 : decode cX8_fault 20 = .ok (.invokevirtual 85, 3) := by decide +kernel
theorem dX8_fault_23 : decode cX8_fault 23 = .ok (.goto 20, 3) := by decide +kernel
theorem dX8_fault_26 : decode cX8_fault 26 = .ok (.iload_n 2, 1) := by decide +kernel
theorem dX8_fault_27 : decode cX8_fault 27 = .ok (.ifCond .eq 11, 3) := by decide +kernel
theorem dX8_fault_30 : decode cX8_fault 30 = .ok (.aload_n 0, 1) := by decide +kernel
theorem dX8_fault_31 : decode cX8_fault 31 = .ok (.iload_n 1, 1) := by decide +kernel
theorem dX8_fault_32 : decode cX8_fault 32 = .ok (.invokevirtual 130, 3) := by decide +kernel
theorem dX8_fault_35 : decode cX8_fault 35 = .ok (.goto 8, 3) := by decide +kernel
theorem dX8_fault_38 : decode cX8_fault 38 = .ok (.aload_n 0, 1) := by decide +kernel
theorem dX8_fault_39 : decode cX8_fault 39 = .ok (.iload_n 1, 1) := by decide +kernel
theorem dX8_fault_40 : decode cX8_fault 40 = .ok (.invokevirtual 133, 3) := by decide +kernel
theorem dX8_fault_43 : decode cX8_fault 43 = .ok (.ireturn, 1) := by decide +kernel
theorem dX8_isPlace_0 : decode cX8_isPlace 0 = .ok (.iload_n 0, 1) := by decide +kernel
theorem dX8_isPlace_1 : decode cX8_isPlace 1 = .ok (.iconst 0, 1) := by decide +kernel
theorem dX8_isPlace_2 : decode cX8_isPlace 2 = .ok (.iconst 3, 1) := by decide +kernel
theorem dX8_isPlace_3 : decode cX8_isPlace 3 = .ok (.invokestatic 71, 3) := by decide +kernel
theorem dX8_isPlace_6 : decode cX8_isPlace 6 = .ok (.ireturn, 1) := by decide +kernel
theorem dX8_snow_0 : decode cX8_snow 0 = .ok (.iload_n 1, 1) := by decide +kernel
theorem dX8_snow_1 : decode cX8_snow 1 = .ok (.invokestatic 136, 3) := by decide +kernel
theorem dX8_snow_4 : decode cX8_snow 4 = .ok (.ifCond .eq 10, 3) := by decide +kernel
theorem dX8_snow_7 : decode cX8_snow 7 = .ok (.iload_n 2, 1) := by decide +kernel
theorem dX8_snow_8 : decode cX8_snow 8 = .ok (.invokestatic 96, 3) := by decide +kernel
theorem dX8_snow_11 : decode cX8_snow 11 = .ok (.ifCond .ne 5, 3) := by decide +kernel
theorem dX8_snow_14 : decode cX8_snow 14 = .ok (.iconst (-1), 1) := by decide +kernel
theorem dX8_snow_15 : decode cX8_snow 15 = .ok (.ireturn, 1) := by decide +kernel
theorem dX8_snow_16 : decode cX8_snow 16 = .ok (.aload_n 0, 1) := by decide +kernel
theorem dX8_snow_17 : decode cX8_snow 17 = .ok (.getfield 22, 3) := by decide +kernel
theorem dX8_snow_20 : decode cX8_snow 20 = .ok (.iload_n 2, 1) := by decide +kernel
theorem dX8_snow_21 : decode cX8_snow 21 = .ok (.iaload, 1) := by decide +kernel
theorem dX8_snow_22 : decode cX8_snow 22 = .ok (.ifCond .ge 9, 3) := by decide +kernel
theorem dX8_snow_25 : decode cX8_snow 25 = .ok (.aload_n 0, 1) := by decide +kernel
theorem dX8_snow_26 : decode cX8_snow 26 = .ok (.iconst 1, 1) := by decide +kernel
theorem dX8_snow_27 : decode cX8_snow 27 = .ok (.invokevirtual 85, 3) := by decide +kernel
theorem dX8_snow_30 : decode cX8_snow 30 = .ok (.ireturn, 1) := by decide +kernel
theorem dX8_snow_31 : decode cX8_snow 31 = .ok (.aload_n 0, 1) := by decide +kernel
theorem dX8_snow_32 : decode cX8_snow 32 = .ok (.iload_n 2, 1) := by decide +kernel
theorem dX8_snow_33 : decode cX8_snow 33 = .ok (.invokevirtual 133, 3) := by decide +kernel
theorem dX8_snow_36 : decode cX8_snow 36 = .ok (.bipush (-9), 2) := by decide +kernel
theorem dX8_snow_38 : decode cX8_snow 38 = .ok (.if_icmp .eq 6, 3) := by decide +kernel
theorem dX8_snow_41 : decode cX8_snow 41 = .ok (.bipush (-4), 2) := by decide +kernel
theorem dX8_snow_43 : decode cX8_snow 43 = .ok (.ireturn, 1) := by decide +kernel
theorem dX8_snow_44 : decode cX8_snow 44 = .ok (.iconst 0, 1) := by decide +kernel
theorem dX8_snow_45 : decode cX8_snow 45 = .ok (.istore_n 3, 1) := by decide +kernel
theorem dX8_snow_46 : decode cX8_snow 46 = .ok (.iload_n 3, 1) := by decide +kernel
theorem dX8_snow_47 : decode cX8_snow 47 = .ok (.iconst 4, 1) := by decide +kernel
theorem dX8_snow_48 : decode cX8_snow 48 = .ok (.if_icmp .ge 25, 3) := by decide +kernel
theorem dX8_snow_51 : decode cX8_snow 51 = .ok (.aload_n 0, 1) := by decide +kernel
theorem dX8_snow_52 : decode cX8_snow 52 = .ok (.getfield 33, 3) := by decide +kernel
theorem dX8_snow_55 : decode cX8_snow 55 = .ok (.iconst 4, 1) := by decide +kernel
theorem dX8_snow_56 : decode cX8_snow 56 = .ok (.iload_n 1, 1) := by decide +kernel
theorem dX8_snow_57 : decode cX8_snow 57 = .ok (.imul, 1) := by decide +kernel
theorem dX8_snow_58 : decode cX8_snow 58 = .ok (.iload_n 3, 1) := by decide +kernel
theorem dX8_snow_59 : decode cX8_snow 59 = .ok (.iadd, 1) := by decide +kernel
theorem dX8_snow_60 : decode cX8_snow 60 = .ok (.aload_n 0, 1) := by decide +kernel
theorem dX8_snow_61 : decode cX8_snow 61 = .ok (.getfield 42, 3) := by decide +kernel
theorem dX8_snow_64 : decode cX8_snow 64 = .ok (.iload_n 3, 1) := by decide +kernel
theorem dX8_snow_65 : decode cX8_snow 65 = .ok (.iaload, 1) := by decide +kernel
theorem dX8_snow_66 : decode cX8_snow 66 = .ok (.iastore, 1) := by decide +kernel
theorem dX8_snow_67 : decode cX8_snow 67 = .ok (.iinc 3 1, 3) := by decide +kernel
theorem dX8_snow_70 : decode cX8_snow 70 = .ok (.goto (-24), 3) := by decide +kernel
theorem dX8_snow_73 : decode cX8_snow 73 = .ok (.aload_n 0, 1) := by decide +kernel
theorem dX8_snow_74 : decode cX8_snow 74 = .ok (.getfield 29, 3) := by decide +kernel
theorem dX8_snow_77 : decode cX8_snow 77 = .ok (.iload_n 1, 1) := by decide +kernel
theorem dX8_snow_78 : decode cX8_snow 78 = .ok (.iconst 1, 1) := by decide +kernel
theorem dX8_snow_79 : decode cX8_snow 79 = .ok (.bastore, 1) := by decide +kernel
theorem dX8_snow_80 : decode cX8_snow 80 = .ok (.aload_n 0, 1) := by decide +kernel
theorem dX8_snow_81 : decode cX8_snow 81 = .ok (.getfield 108, 3) := by decide +kernel
theorem dX8_snow_84 : decode cX8_snow 84 = .ok (.ireturn, 1) := by decide +kernel
theorem dX8_plan_0 : decode cX8_plan 0 = .ok (.iload_n 1, 1) := by decide +kernel
theorem dX8_plan_1 : decode cX8_plan 1 = .ok (.invokestatic 136, 3) := by decide +kernel
theorem dX8_plan_4 : decode cX8_plan 4 = .ok (.ifCond .eq 10, 3) := by decide +kernel
theorem dX8_plan_7 : decode cX8_plan 7 = .ok (.iload_n 2, 1) := by decide +kernel
theorem dX8_plan_8 : decode cX8_plan 8 = .ok (.invokestatic 96, 3) := by decide +kernel
theorem dX8_plan_11 : decode cX8_plan 11 = .ok (.ifCond .ne 5, 3) := by decide +kernel
theorem dX8_plan_14 : decode cX8_plan 14 = .ok (.iconst (-1), 1) := by decide +kernel
theorem dX8_plan_15 : decode cX8_plan 15 = .ok (.ireturn, 1) := by decide +kernel
theorem dX8_plan_16 : decode cX8_plan 16 = .ok (.aload_n 0, 1) := by decide +kernel
theorem dX8_plan_17 : decode cX8_plan 17 = .ok (.getfield 22, 3) := by decide +kernel
theorem dX8_plan_20 : decode cX8_plan 20 = .ok (.iload_n 2, 1) := by decide +kernel
theorem dX8_plan_21 : decode cX8_plan 21 = .ok (.iaload, 1) := by decide +kernel
theorem dX8_plan_22 : decode cX8_plan 22 = .ok (.ifCond .ge 9, 3) := by decide +kernel
theorem dX8_plan_25 : decode cX8_plan 25 = .ok (.aload_n 0, 1) := by decide +kernel
theorem dX8_plan_26 : decode cX8_plan 26 = .ok (.iconst 1, 1) := by decide +kernel
theorem dX8_plan_27 : decode cX8_plan 27 = .ok (.invokevirtual 85, 3) := by decide +kernel
theorem dX8_plan_30 : decode cX8_plan 30 = .ok (.ireturn, 1) := by decide +kernel
theorem dX8_plan_31 : decode cX8_plan 31 = .ok (.aload_n 0, 1) := by decide +kernel
theorem dX8_plan_32 : decode cX8_plan 32 = .ok (.iload_n 2, 1) := by decide +kernel
theorem dX8_plan_33 : decode cX8_plan 33 = .ok (.invokevirtual 130, 3) := by decide +kernel
theorem dX8_plan_36 : decode cX8_plan 36 = .ok (.bipush (-9), 2) := by decide +kernel
theorem dX8_plan_38 : decode cX8_plan 38 = .ok (.if_icmp .eq 6, 3) := by decide +kernel
theorem dX8_plan_41 : decode cX8_plan 41 = .ok (.bipush (-4), 2) := by decide +kernel
theorem dX8_plan_43 : decode cX8_plan 43 = .ok (.ireturn, 1) := by decide +kernel
theorem dX8_plan_44 : decode cX8_plan 44 = .ok (.iconst 0, 1) := by decide +kernel
theorem dX8_plan_45 : decode cX8_plan 45 = .ok (.istore_n 3, 1) := by decide +kernel
theorem dX8_plan_46 : decode cX8_plan 46 = .ok (.iload_n 3, 1) := by decide +kernel
theorem dX8_plan_47 : decode cX8_plan 47 = .ok (.bipush 26, 2) := by decide +kernel
theorem dX8_plan_49 : decode cX8_plan 49 = .ok (.if_icmp .ge 26, 3) := by decide +kernel
theorem dX8_plan_52 : decode cX8_plan 52 = .ok (.aload_n 0, 1) := by decide +kernel
theorem dX8_plan_53 : decode cX8_plan 53 = .ok (.getfield 39, 3) := by decide +kernel
theorem dX8_plan_56 : decode cX8_plan 56 = .ok (.bipush 26, 2) := by decide +kernel
theorem dX8_plan_58 : decode cX8_plan 58 = .ok (.iload_n 1, 1) := by decide +kernel
theorem dX8_plan_59 : decode cX8_plan 59 = .ok (.imul, 1) := by decide +kernel
theorem dX8_plan_60 : decode cX8_plan 60 = .ok (.iload_n 3, 1) := by decide +kernel
theorem dX8_plan_61 : decode cX8_plan 61 = .ok (.iadd, 1) := by decide +kernel
theorem dX8_plan_62 : decode cX8_plan 62 = .ok (.aload_n 0, 1) := by decide +kernel
theorem dX8_plan_63 : decode cX8_plan 63 = .ok (.getfield 45, 3) := by decide +kernel
theorem dX8_plan_66 : decode cX8_plan 66 = .ok (.iload_n 3, 1) := by decide +kernel
theorem dX8_plan_67 : decode cX8_plan 67 = .ok (.iaload, 1) := by decide +kernel
theorem dX8_plan_68 : decode cX8_plan 68 = .ok (.iastore, 1) := by decide +kernel
theorem dX8_plan_69 : decode cX8_plan 69 = .ok (.iinc 3 1, 3) := by decide +kernel
theorem dX8_plan_72 : decode cX8_plan 72 = .ok (.goto (-26), 3) := by decide +kernel
theorem dX8_plan_75 : decode cX8_plan 75 = .ok (.aload_n 0, 1) := by decide +kernel
theorem dX8_plan_76 : decode cX8_plan 76 = .ok (.getfield 36, 3) := by decide +kernel
theorem dX8_plan_79 : decode cX8_plan 79 = .ok (.iload_n 1, 1) := by decide +kernel
theorem dX8_plan_80 : decode cX8_plan 80 = .ok (.iconst 1, 1) := by decide +kernel
theorem dX8_plan_81 : decode cX8_plan 81 = .ok (.bastore, 1) := by decide +kernel
theorem dX8_plan_82 : decode cX8_plan 82 = .ok (.aload_n 0, 1) := by decide +kernel
theorem dX8_plan_83 : decode cX8_plan 83 = .ok (.getfield 124, 3) := by decide +kernel
theorem dX8_plan_86 : decode cX8_plan 86 = .ok (.ireturn, 1) := by decide +kernel
theorem dX8_about_0 : decode cX8_about 0 = .ok (.iload_n 1, 1) := by decide +kernel
theorem dX8_about_1 : decode cX8_about 1 = .ok (.invokestatic 136, 3) := by decide +kernel
theorem dX8_about_4 : decode cX8_about 4 = .ok (.ifCond .eq 12, 3) := by decide +kernel
theorem dX8_about_7 : decode cX8_about 7 = .ok (.iload_n 2, 1) := by decide +kernel
theorem dX8_about_8 : decode cX8_about 8 = .ok (.iconst 0, 1) := by decide +kernel
theorem dX8_about_9 : decode cX8_about 9 = .ok (.iconst 3, 1) := by decide +kernel
theorem dX8_about_10 : decode cX8_about 10 = .ok (.invokestatic 71, 3) := by decide +kernel
theorem dX8_about_13 : decode cX8_about 13 = .ok (.ifCond .ne 5, 3) := by decide +kernel
theorem dX8_about_16 : decode cX8_about 16 = .ok (.iconst (-1), 1) := by decide +kernel
theorem dX8_about_17 : decode cX8_about 17 = .ok (.ireturn, 1) := by decide +kernel
theorem dX8_about_18 : decode cX8_about 18 = .ok (.aload_n 0, 1) := by decide +kernel
theorem dX8_about_19 : decode cX8_about 19 = .ok (.getfield 29, 3) := by decide +kernel
theorem dX8_about_22 : decode cX8_about 22 = .ok (.iload_n 1, 1) := by decide +kernel
theorem dX8_about_23 : decode cX8_about 23 = .ok (.baload, 1) := by decide +kernel
theorem dX8_about_24 : decode cX8_about 24 = .ok (.ifCond .eq 21, 3) := by decide +kernel
theorem dX8_about_27 : decode cX8_about 27 = .ok (.aload_n 0, 1) := by decide +kernel
theorem dX8_about_28 : decode cX8_about 28 = .ok (.aload_n 0, 1) := by decide +kernel
theorem dX8_about_29 : decode cX8_about 29 = .ok (.getfield 33, 3) := by decide +kernel
theorem dX8_about_32 : decode cX8_about 32 = .ok (.iconst 4, 1) := by decide +kernel
theorem dX8_about_33 : decode cX8_about 33 = .ok (.iload_n 1, 1) := by decide +kernel
theorem dX8_about_34 : decode cX8_about 34 = .ok (.imul, 1) := by decide +kernel
theorem dX8_about_35 : decode cX8_about 35 = .ok (.iload_n 2, 1) := by decide +kernel
theorem dX8_about_36 : decode cX8_about 36 = .ok (.iadd, 1) := by decide +kernel
theorem dX8_about_37 : decode cX8_about 37 = .ok (.iaload, 1) := by decide +kernel
theorem dX8_about_38 : decode cX8_about 38 = .ok (.iconst 1, 1) := by decide +kernel
theorem dX8_about_39 : decode cX8_about 39 = .ok (.invokevirtual 93, 3) := by decide +kernel
theorem dX8_about_42 : decode cX8_about 42 = .ok (.goto 8, 3) := by decide +kernel
theorem dX8_about_45 : decode cX8_about 45 = .ok (.aload_n 0, 1) := by decide +kernel
theorem dX8_about_46 : decode cX8_about 46 = .ok (.iconst 1, 1) := by decide +kernel
theorem dX8_about_47 : decode cX8_about 47 = .ok (.invokevirtual 85, 3) := by decide +kernel
theorem dX8_about_50 : decode cX8_about 50 = .ok (.ireturn, 1) := by decide +kernel
theorem dX8_planBlocks_0 : decode cX8_planBlocks 0 = .ok (.iconst 0, 1) := by decide +kernel
theorem dX8_planBlocks_1 : decode cX8_planBlocks 1 = .ok (.istore_n 2, 1) := by decide +kernel
theorem dX8_planBlocks_2 : decode cX8_planBlocks 2 = .ok (.iconst 0, 1) := by decide +kernel
theorem dX8_planBlocks_3 : decode cX8_planBlocks 3 = .ok (.istore_n 3, 1) := by decide +kernel
theorem dX8_planBlocks_4 : decode cX8_planBlocks 4 = .ok (.iload_n 3, 1) := by decide +kernel
theorem dX8_planBlocks_5 : decode cX8_planBlocks 5 = .ok (.aload_n 0, 1) := by decide +kernel
theorem dX8_planBlocks_6 : decode cX8_planBlocks 6 = .ok (.getfield 39, 3) := by decide +kernel
theorem dX8_planBlocks_9 : decode cX8_planBlocks 9 = .ok (.bipush 26, 2) := by decide +kernel
theorem dX8_planBlocks_11 : decode cX8_planBlocks 11 = .ok (.iload_n 1, 1) := by decide +kernel
theorem dX8_planBlocks_12 : decode cX8_planBlocks 12 = .ok (.imul, 1) := by decide +kernel
theorem dX8_planBlocks_13 : decode cX8_planBlocks 13 = .ok (.iaload, 1) := by decide +kernel
theorem dX8_planBlocks_14 : decode cX8_planBlocks 14 = .ok (.if_icmp .ge 27, 3) := by decide +kernel
theorem dX8_planBlocks_17 : decode cX8_planBlocks 17 = .ok (.iload_n 2, 1) := by decide +kernel
theorem dX8_planBlocks_18 : decode cX8_planBlocks 18 = .ok (.aload_n 0, 1) := by decide +kernel
theorem dX8_planBlocks_19 : decode cX8_planBlocks 19 = .ok (.getfield 39, 3) := by decide +kernel
theorem dX8_planBlocks_22 : decode cX8_planBlocks 22 = .ok (.bipush 26, 2) := by decide +kernel
theorem dX8_planBlocks_24 : decode cX8_planBlocks 24 = .ok (.iload_n 1, 1) := by decide +kernel
theorem dX8_planBlocks_25 : decode cX8_planBlocks 25 = .ok (.imul, 1) := by decide +kernel
theorem dX8_planBlocks_26 : decode cX8_planBlocks 26 = .ok (.iconst 3, 1) := by decide +kernel
theorem dX8_planBlocks_27 : decode cX8_planBlocks 27 = .ok (.iadd, 1) := by decide +kernel
theorem dX8_planBlocks_28 : decode cX8_planBlocks 28 = .ok (.iconst 3, 1) := by decide +kernel
theorem dX8_planBlocks_29 : decode cX8_planBlocks 29 = .ok (.iload_n 3, 1) := by decide +kernel
theorem dX8_planBlocks_30 : decode cX8_planBlocks 30 = .ok (.imul, 1) := by decide +kernel
theorem dX8_planBlocks_31 : decode cX8_planBlocks 31 = .ok (.iadd, 1) := by decide +kernel
theorem dX8_planBlocks_32 : decode cX8_planBlocks 32 = .ok (.iaload, 1) := by decide +kernel
theorem dX8_planBlocks_33 : decode cX8_planBlocks 33 = .ok (.iadd, 1) := by decide +kernel
theorem dX8_planBlocks_34 : decode cX8_planBlocks 34 = .ok (.istore_n 2, 1) := by decide +kernel
theorem dX8_planBlocks_35 : decode cX8_planBlocks 35 = .ok (.iinc 3 1, 3) := by decide +kernel
theorem dX8_planBlocks_38 : decode cX8_planBlocks 38 = .ok (.goto (-34), 3) := by decide +kernel
theorem dX8_planBlocks_41 : decode cX8_planBlocks 41 = .ok (.iload_n 2, 1) := by decide +kernel
theorem dX8_planBlocks_42 : decode cX8_planBlocks 42 = .ok (.ireturn, 1) := by decide +kernel
theorem dX8_planPlaces_0 : decode cX8_planPlaces 0 = .ok (.aload_n 0, 1) := by decide +kernel
theorem dX8_planPlaces_1 : decode cX8_planPlaces 1 = .ok (.getfield 39, 3) := by decide +kernel
theorem dX8_planPlaces_4 : decode cX8_planPlaces 4 = .ok (.bipush 26, 2) := by decide +kernel
theorem dX8_planPlaces_6 : decode cX8_planPlaces 6 = .ok (.iload_n 1, 1) := by decide +kernel
theorem dX8_planPlaces_7 : decode cX8_planPlaces 7 = .ok (.imul, 1) := by decide +kernel
theorem dX8_planPlaces_8 : decode cX8_planPlaces 8 = .ok (.iconst 3, 1) := by decide +kernel
theorem dX8_planPlaces_9 : decode cX8_planPlaces 9 = .ok (.iadd, 1) := by decide +kernel
theorem dX8_planPlaces_10 : decode cX8_planPlaces 10 = .ok (.iaload, 1) := by decide +kernel
theorem dX8_planPlaces_11 : decode cX8_planPlaces 11 = .ok (.iconst 2, 1) := by decide +kernel
theorem dX8_planPlaces_12 : decode cX8_planPlaces 12 = .ok (.idiv, 1) := by decide +kernel
theorem dX8_planPlaces_13 : decode cX8_planPlaces 13 = .ok (.ireturn, 1) := by decide +kernel
theorem dX8_planTells_0 : decode cX8_planTells 0 = .ok (.iload_n 2, 1) := by decide +kernel
theorem dX8_planTells_1 : decode cX8_planTells 1 = .ok (.iconst 2, 1) := by decide +kernel
theorem dX8_planTells_2 : decode cX8_planTells 2 = .ok (.if_icmp .ge 17, 3) := by decide +kernel
theorem dX8_planTells_5 : decode cX8_planTells 5 = .ok (.aload_n 0, 1) := by decide +kernel
theorem dX8_planTells_6 : decode cX8_planTells 6 = .ok (.getfield 39, 3) := by decide +kernel
theorem dX8_planTells_9 : decode cX8_planTells 9 = .ok (.bipush 26, 2) := by decide +kernel
theorem dX8_planTells_11 : decode cX8_planTells 11 = .ok (.iload_n 1, 1) := by decide +kernel
theorem dX8_planTells_12 : decode cX8_planTells 12 = .ok (.imul, 1) := by decide +kernel
theorem dX8_planTells_13 : decode cX8_planTells 13 = .ok (.iload_n 2, 1) := by decide +kernel
theorem dX8_planTells_14 : decode cX8_planTells 14 = .ok (.iadd, 1) := by decide +kernel
theorem dX8_planTells_15 : decode cX8_planTells 15 = .ok (.iaload, 1) := by decide +kernel
theorem dX8_planTells_16 : decode cX8_planTells 16 = .ok (.goto 21, 3) := by decide +kernel
theorem dX8_planTells_19 : decode cX8_planTells 19 = .ok (.iload_n 2, 1) := by decide +kernel
theorem dX8_planTells_20 : decode cX8_planTells 20 = .ok (.iconst 2, 1) := by decide +kernel
theorem dX8_planTells_21 : decode cX8_planTells 21 = .ok (.if_icmp .ne 11, 3) := by decide +kernel
theorem dX8_planTells_24 : decode cX8_planTells 24 = .ok (.aload_n 0, 1) := by decide +kernel
theorem dX8_planTells_25 : decode cX8_planTells 25 = .ok (.iload_n 1, 1) := by decide +kernel
theorem dX8_planTells_26 : decode cX8_planTells 26 = .ok (.invokevirtual 139, 3) := by decide +kernel
theorem dX8_planTells_29 : decode cX8_planTells 29 = .ok (.goto 8, 3) := by decide +kernel
theorem dX8_planTells_32 : decode cX8_planTells 32 = .ok (.aload_n 0, 1) := by decide +kernel
theorem dX8_planTells_33 : decode cX8_planTells 33 = .ok (.iload_n 1, 1) := by decide +kernel
theorem dX8_planTells_34 : decode cX8_planTells 34 = .ok (.invokevirtual 142, 3) := by decide +kernel
theorem dX8_planTells_37 : decode cX8_planTells 37 = .ok (.ireturn, 1) := by decide +kernel
theorem dX8_tells_0 : decode cX8_tells 0 = .ok (.iload_n 1, 1) := by decide +kernel
theorem dX8_tells_1 : decode cX8_tells 1 = .ok (.invokestatic 136, 3) := by decide +kernel
theorem dX8_tells_4 : decode cX8_tells 4 = .ok (.ifCond .eq 12, 3) := by decide +kernel
theorem dX8_tells_7 : decode cX8_tells 7 = .ok (.iload_n 2, 1) := by decide +kernel
theorem dX8_tells_8 : decode cX8_tells 8 = .ok (.iconst 0, 1) := by decide +kernel
theorem dX8_tells_9 : decode cX8_tells 9 = .ok (.iconst 3, 1) := by decide +kernel
theorem dX8_tells_10 : decode cX8_tells 10 = .ok (.invokestatic 71, 3) := by decide +kernel
theorem dX8_tells_13 : decode cX8_tells 13 = .ok (.ifCond .ne 5, 3) := by decide +kernel
theorem dX8_tells_16 : decode cX8_tells 16 = .ok (.iconst (-1), 1) := by decide +kernel
theorem dX8_tells_17 : decode cX8_tells 17 = .ok (.ireturn, 1) := by decide +kernel
theorem dX8_tells_18 : decode cX8_tells 18 = .ok (.aload_n 0, 1) := by decide +kernel
theorem dX8_tells_19 : decode cX8_tells 19 = .ok (.getfield 36, 3) := by decide +kernel
theorem dX8_tells_22 : decode cX8_tells 22 = .ok (.iload_n 1, 1) := by decide +kernel
theorem dX8_tells_23 : decode cX8_tells 23 = .ok (.baload, 1) := by decide +kernel
theorem dX8_tells_24 : decode cX8_tells 24 = .ok (.ifCond .eq 17, 3) := by decide +kernel
theorem dX8_tells_27 : decode cX8_tells 27 = .ok (.aload_n 0, 1) := by decide +kernel
theorem dX8_tells_28 : decode cX8_tells 28 = .ok (.aload_n 0, 1) := by decide +kernel
theorem dX8_tells_29 : decode cX8_tells 29 = .ok (.iload_n 1, 1) := by decide +kernel
theorem dX8_tells_30 : decode cX8_tells 30 = .ok (.iload_n 2, 1) := by decide +kernel
theorem dX8_tells_31 : decode cX8_tells 31 = .ok (.invokevirtual 145, 3) := by decide +kernel
theorem dX8_tells_34 : decode cX8_tells 34 = .ok (.iconst 1, 1) := by decide +kernel
theorem dX8_tells_35 : decode cX8_tells 35 = .ok (.invokevirtual 93, 3) := by decide +kernel
theorem dX8_tells_38 : decode cX8_tells 38 = .ok (.goto 8, 3) := by decide +kernel
theorem dX8_tells_41 : decode cX8_tells 41 = .ok (.aload_n 0, 1) := by decide +kernel
theorem dX8_tells_42 : decode cX8_tells 42 = .ok (.iconst 1, 1) := by decide +kernel
theorem dX8_tells_43 : decode cX8_tells 43 = .ok (.invokevirtual 85, 3) := by decide +kernel
theorem dX8_tells_46 : decode cX8_tells 46 = .ok (.ireturn, 1) := by decide +kernel
theorem dX8_courseTells_0 : decode cX8_courseTells 0 = .ok (.bipush 10, 2) := by decide +kernel
theorem dX8_courseTells_2 : decode cX8_courseTells 2 = .ok (.aload_n 0, 1) := by decide +kernel
theorem dX8_courseTells_3 : decode cX8_courseTells 3 = .ok (.getfield 39, 3) := by decide +kernel
theorem dX8_courseTells_6 : decode cX8_courseTells 6 = .ok (.bipush 26, 2) := by decide +kernel
theorem dX8_courseTells_8 : decode cX8_courseTells 8 = .ok (.iload_n 1, 1) := by decide +kernel
theorem dX8_courseTells_9 : decode cX8_courseTells 9 = .ok (.imul, 1) := by decide +kernel
theorem dX8_courseTells_10 : decode cX8_courseTells 10 = .ok (.iconst 3, 1) := by decide +kernel
theorem dX8_courseTells_11 : decode cX8_courseTells 11 = .ok (.iadd, 1) := by decide +kernel
theorem dX8_courseTells_12 : decode cX8_courseTells 12 = .ok (.iconst 3, 1) := by decide +kernel
theorem dX8_courseTells_13 : decode cX8_courseTells 13 = .ok (.iload_n 2, 1) := by decide +kernel
theorem dX8_courseTells_14 : decode cX8_courseTells 14 = .ok (.imul, 1) := by decide +kernel
theorem dX8_courseTells_15 : decode cX8_courseTells 15 = .ok (.iadd, 1) := by decide +kernel
theorem dX8_courseTells_16 : decode cX8_courseTells 16 = .ok (.iaload, 1) := by decide +kernel
theorem dX8_courseTells_17 : decode cX8_courseTells 17 = .ok (.imul, 1) := by decide +kernel
theorem dX8_courseTells_18 : decode cX8_courseTells 18 = .ok (.aload_n 0, 1) := by decide +kernel
theorem dX8_courseTells_19 : decode cX8_courseTells 19 = .ok (.getfield 39, 3) := by decide +kernel
theorem dX8_courseTells_22 : decode cX8_courseTells 22 = .ok (.bipush 26, 2) := by decide +kernel
theorem dX8_courseTells_24 : decode cX8_courseTells 24 = .ok (.iload_n 1, 1) := by decide +kernel
theorem dX8_courseTells_25 : decode cX8_courseTells 25 = .ok (.imul, 1) := by decide +kernel
theorem dX8_courseTells_26 : decode cX8_courseTells 26 = .ok (.iconst 4, 1) := by decide +kernel
theorem dX8_courseTells_27 : decode cX8_courseTells 27 = .ok (.iadd, 1) := by decide +kernel
theorem dX8_courseTells_28 : decode cX8_courseTells 28 = .ok (.iconst 3, 1) := by decide +kernel
theorem dX8_courseTells_29 : decode cX8_courseTells 29 = .ok (.iload_n 2, 1) := by decide +kernel
theorem dX8_courseTells_30 : decode cX8_courseTells 30 = .ok (.imul, 1) := by decide +kernel
theorem dX8_courseTells_31 : decode cX8_courseTells 31 = .ok (.iadd, 1) := by decide +kernel
theorem dX8_courseTells_32 : decode cX8_courseTells 32 = .ok (.iaload, 1) := by decide +kernel
theorem dX8_courseTells_33 : decode cX8_courseTells 33 = .ok (.iadd, 1) := by decide +kernel
theorem dX8_courseTells_34 : decode cX8_courseTells 34 = .ok (.ireturn, 1) := by decide +kernel
theorem dX8_course_0 : decode cX8_course 0 = .ok (.iload_n 1, 1) := by decide +kernel
theorem dX8_course_1 : decode cX8_course 1 = .ok (.invokestatic 136, 3) := by decide +kernel
theorem dX8_course_4 : decode cX8_course 4 = .ok (.ifCond .ne 5, 3) := by decide +kernel
theorem dX8_course_7 : decode cX8_course 7 = .ok (.iconst (-1), 1) := by decide +kernel
theorem dX8_course_8 : decode cX8_course 8 = .ok (.ireturn, 1) := by decide +kernel
theorem dX8_course_9 : decode cX8_course 9 = .ok (.aload_n 0, 1) := by decide +kernel
theorem dX8_course_10 : decode cX8_course 10 = .ok (.getfield 36, 3) := by decide +kernel
theorem dX8_course_13 : decode cX8_course 13 = .ok (.iload_n 1, 1) := by decide +kernel
theorem dX8_course_14 : decode cX8_course 14 = .ok (.baload, 1) := by decide +kernel
theorem dX8_course_15 : decode cX8_course 15 = .ok (.ifCond .ne 9, 3) := by decide +kernel
theorem dX8_course_18 : decode cX8_course 18 = .ok (.aload_n 0, 1) := by decide +kernel
theorem dX8_course_19 : decode cX8_course 19 = .ok (.iconst 1, 1) := by decide +kernel
theorem dX8_course_20 : decode cX8_course 20 = .ok (.invokevirtual 85, 3) := by decide +kernel
theorem dX8_course_23 : decode cX8_course 23 = .ok (.ireturn, 1) := by decide +kernel
theorem dX8_course_24 : decode cX8_course 24 = .ok (.iload_n 2, 1) := by decide +kernel
theorem dX8_course_25 : decode cX8_course 25 = .ok (.iconst 0, 1) := by decide +kernel
theorem dX8_course_26 : decode cX8_course 26 = .ok (.aload_n 0, 1) := by decide +kernel
theorem dX8_course_27 : decode cX8_course 27 = .ok (.getfield 39, 3) := by decide +kernel
theorem dX8_course_30 : decode cX8_course 30 = .ok (.bipush 26, 2) := by decide +kernel
theorem dX8_course_32 : decode cX8_course 32 = .ok (.iload_n 1, 1) := by decide +kernel
theorem dX8_course_33 : decode cX8_course 33 = .ok (.imul, 1) := by decide +kernel
theorem dX8_course_34 : decode cX8_course 34 = .ok (.iaload, 1) := by decide +kernel
theorem dX8_course_35 : decode cX8_course 35 = .ok (.iconst 1, 1) := by decide +kernel
theorem dX8_course_36 : decode cX8_course 36 = .ok (.isub, 1) := by decide +kernel
theorem dX8_course_37 : decode cX8_course 37 = .ok (.invokestatic 71, 3) := by decide +kernel
theorem dX8_course_40 : decode cX8_course 40 = .ok (.ifCond .eq 31, 3) := by decide +kernel
theorem dX8_course_43 : decode cX8_course 43 = .ok (.aload_n 0, 1) := by decide +kernel
theorem dX8_course_44 : decode cX8_course 44 = .ok (.aload_n 0, 1) := by decide +kernel
theorem dX8_course_45 : decode cX8_course 45 = .ok (.iload_n 1, 1) := by decide +kernel
theorem dX8_course_46 : decode cX8_course 46 = .ok (.iload_n 2, 1) := by decide +kernel
theorem dX8_course_47 : decode cX8_course 47 = .ok (.invokevirtual 148, 3) := by decide +kernel
theorem dX8_course_50 : decode cX8_course 50 = .ok (.aload_n 0, 1) := by decide +kernel
theorem dX8_course_51 : decode cX8_course 51 = .ok (.getfield 39, 3) := by decide +kernel
theorem dX8_course_54 : decode cX8_course 54 = .ok (.bipush 26, 2) := by decide +kernel
theorem dX8_course_56 : decode cX8_course 56 = .ok (.iload_n 1, 1) := by decide +kernel
theorem dX8_course_57 : decode cX8_course 57 = .ok (.imul, 1) := by decide +kernel
theorem dX8_course_58 : decode cX8_course 58 = .ok (.iconst 2, 1) := by decide +kernel
theorem dX8_course_59 : decode cX8_course 59 = .ok (.iadd, 1) := by decide +kernel
theorem dX8_course_60 : decode cX8_course 60 = .ok (.iconst 3, 1) := by decide +kernel
theorem dX8_course_61 : decode cX8_course 61 = .ok (.iload_n 2, 1) := by decide +kernel
theorem dX8_course_62 : decode cX8_course 62 = .ok (.imul, 1) := by decide +kernel
theorem dX8_course_63 : decode cX8_course 63 = .ok (.iadd, 1) := by decide +kernel
theorem dX8_course_64 : decode cX8_course 64 = .ok (.iaload, 1) := by decide +kernel
theorem dX8_course_65 : decode cX8_course 65 = .ok (.invokevirtual 93, 3) := by decide +kernel
theorem dX8_course_68 : decode cX8_course 68 = .ok (.goto 8, 3) := by decide +kernel
theorem dX8_course_71 : decode cX8_course 71 = .ok (.aload_n 0, 1) := by decide +kernel
theorem dX8_course_72 : decode cX8_course 72 = .ok (.iconst 2, 1) := by decide +kernel
theorem dX8_course_73 : decode cX8_course 73 = .ok (.invokevirtual 85, 3) := by decide +kernel
theorem dX8_course_76 : decode cX8_course 76 = .ok (.ireturn, 1) := by decide +kernel
theorem dX8_v_0 : decode cX8_v 0 = .ok (.aload_n 0, 1) := by decide +kernel
theorem dX8_v_1 : decode cX8_v 1 = .ok (.getfield 51, 3) := by decide +kernel
theorem dX8_v_4 : decode cX8_v 4 = .ok (.aload_n 0, 1) := by decide +kernel
theorem dX8_v_5 : decode cX8_v 5 = .ok (.getfield 151, 3) := by decide +kernel
theorem dX8_v_8 : decode cX8_v 8 = .ok (.iload_n 1, 1) := by decide +kernel
theorem dX8_v_9 : decode cX8_v 9 = .ok (.iadd, 1) := by decide +kernel
theorem dX8_v_10 : decode cX8_v 10 = .ok (.iaload, 1) := by decide +kernel
theorem dX8_v_11 : decode cX8_v 11 = .ok (.ireturn, 1) := by decide +kernel
theorem dX8_put__0 : decode cX8_put_ 0 = .ok (.aload_n 0, 1) := by decide +kernel
theorem dX8_put__1 : decode cX8_put_ 1 = .ok (.getfield 51, 3) := by decide +kernel
theorem dX8_put__4 : decode cX8_put_ 4 = .ok (.aload_n 0, 1) := by decide +kernel
theorem dX8_put__5 : decode cX8_put_ 5 = .ok (.getfield 151, 3) := by decide +kernel
theorem dX8_put__8 : decode cX8_put_ 8 = .ok (.iload_n 1, 1) := by decide +kernel
theorem dX8_put__9 : decode cX8_put_ 9 = .ok (.iadd, 1) := by decide +kernel
theorem dX8_put__10 : decode cX8_put_ 10 = .ok (.iload_n 2, 1) := by decide +kernel
theorem dX8_put__11 : decode cX8_put_ 11 = .ok (.iastore, 1) := by decide +kernel
theorem dX8_put__12 : decode cX8_put_ 12 = .ok (.return_, 1) := by decide +kernel
theorem dX8_look_0 : decode cX8_look 0 = .ok (.aload_n 0, 1) := by decide +kernel
theorem dX8_look_1 : decode cX8_look 1 = .ok (.sipush 152, 3) := by decide +kernel
theorem dX8_look_4 : decode cX8_look 4 = .ok (.iload_n 1, 1) := by decide +kernel
theorem dX8_look_5 : decode cX8_look 5 = .ok (.imul, 1) := by decide +kernel
theorem dX8_look_6 : decode cX8_look 6 = .ok (.putfield 151, 3) := by decide +kernel
theorem dX8_look_9 : decode cX8_look 9 = .ok (.return_, 1) := by decide +kernel
theorem dX8_copyHouse_0 : decode cX8_copyHouse 0 = .ok (.iconst 0, 1) := by decide +kernel
theorem dX8_copyHouse_1 : decode cX8_copyHouse 1 = .ok (.istore_n 3, 1) := by decide +kernel
theorem dX8_copyHouse_2 : decode cX8_copyHouse 2 = .ok (.iload_n 3, 1) := by decide +kernel
theorem dX8_copyHouse_3 : decode cX8_copyHouse 3 = .ok (.sipush 152, 3) := by decide +kernel
theorem dX8_copyHouse_6 : decode cX8_copyHouse 6 = .ok (.if_icmp .ge 33, 3) := by decide +kernel
theorem dX8_copyHouse_9 : decode cX8_copyHouse 9 = .ok (.aload_n 0, 1) := by decide +kernel
theorem dX8_copyHouse_10 : decode cX8_copyHouse 10 = .ok (.getfield 51, 3) := by decide +kernel
theorem dX8_copyHouse_13 : decode cX8_copyHouse 13 = .ok (.sipush 152, 3) := by decide +kernel
theorem dX8_copyHouse_16 : decode cX8_copyHouse 16 = .ok (.iload_n 2, 1) := by decide +kernel
theorem dX8_copyHouse_17 : decode cX8_copyHouse 17 = .ok (.imul, 1) := by decide +kernel
theorem dX8_copyHouse_18 : decode cX8_copyHouse 18 = .ok (.iload_n 3, 1) := by decide +kernel
theorem dX8_copyHouse_19 : decode cX8_copyHouse 19 = .ok (.iadd, 1) := by decide +kernel
theorem dX8_copyHouse_20 : decode cX8_copyHouse 20 = .ok (.aload_n 0, 1) := by decide +kernel
theorem dX8_copyHouse_21 : decode cX8_copyHouse 21 = .ok (.getfield 51, 3) := by decide +kernel
theorem dX8_copyHouse_24 : decode cX8_copyHouse 24 = .ok (.sipush 152, 3) := by decide +kernel
theorem dX8_copyHouse_27 : decode cX8_copyHouse 27 = .ok (.iload_n 1, 1) := by decide +kernel
theorem dX8_copyHouse_28 : decode cX8_copyHouse 28 = .ok (.imul, 1) := by decide +kernel
theorem dX8_copyHouse_29 : decode cX8_copyHouse 29 = .ok (.iload_n 3, 1) := by decide +kernel
theorem dX8_copyHouse_30 : decode cX8_copyHouse 30 = .ok (.iadd, 1) := by decide +kernel
theorem dX8_copyHouse_31 : decode cX8_copyHouse 31 = .ok (.iaload, 1) := by decide +kernel
theorem dX8_copyHouse_32 : decode cX8_copyHouse 32 = .ok (.iastore, 1) := by decide +kernel
theorem dX8_copyHouse_33 : decode cX8_copyHouse 33 = .ok (.iinc 3 1, 3) := by decide +kernel
theorem dX8_copyHouse_36 : decode cX8_copyHouse 36 = .ok (.goto (-34), 3) := by decide +kernel
theorem dX8_copyHouse_39 : decode cX8_copyHouse 39 = .ok (.return_, 1) := by decide +kernel
theorem dX8_kindOf_0 : decode cX8_kindOf 0 = .ok (.aload_n 0, 1) := by decide +kernel
theorem dX8_kindOf_1 : decode cX8_kindOf 1 = .ok (.bipush 7, 2) := by decide +kernel
theorem dX8_kindOf_3 : decode cX8_kindOf 3 = .ok (.iconst 3, 1) := by decide +kernel
theorem dX8_kindOf_4 : decode cX8_kindOf 4 = .ok (.iload_n 1, 1) := by decide +kernel
theorem dX8_kindOf_5 : decode cX8_kindOf 5 = .ok (.imul, 1) := by decide +kernel
theorem dX8_kindOf_6 : decode cX8_kindOf 6 = .ok (.iadd, 1) := by decide +kernel
theorem dX8_kindOf_7 : decode cX8_kindOf 7 = .ok (.invokevirtual 154, 3) := by decide +kernel
theorem dX8_kindOf_10 : decode cX8_kindOf 10 = .ok (.ireturn, 1) := by decide +kernel
theorem dX8_size_0 : decode cX8_size 0 = .ok (.aload_n 0, 1) := by decide +kernel
theorem dX8_size_1 : decode cX8_size 1 = .ok (.bipush 7, 2) := by decide +kernel
theorem dX8_size_3 : decode cX8_size 3 = .ok (.iconst 3, 1) := by decide +kernel
theorem dX8_size_4 : decode cX8_size 4 = .ok (.iload_n 1, 1) := by decide +kernel
theorem dX8_size_5 : decode cX8_size 5 = .ok (.imul, 1) := by decide +kernel
theorem dX8_size_6 : decode cX8_size 6 = .ok (.iadd, 1) := by decide +kernel
theorem dX8_size_7 : decode cX8_size 7 = .ok (.iconst 1, 1) := by decide +kernel
theorem dX8_size_8 : decode cX8_size 8 = .ok (.iadd, 1) := by decide +kernel
theorem dX8_size_9 : decode cX8_size 9 = .ok (.invokevirtual 154, 3) := by decide +kernel
theorem dX8_size_12 : decode cX8_size 12 = .ok (.ireturn, 1) := by decide +kernel
theorem dX8_lean0_0 : decode cX8_lean0 0 = .ok (.aload_n 0, 1) := by decide +kernel
theorem dX8_lean0_1 : decode cX8_lean0 1 = .ok (.bipush 7, 2) := by decide +kernel
theorem dX8_lean0_3 : decode cX8_lean0 3 = .ok (.iconst 3, 1) := by decide +kernel
theorem dX8_lean0_4 : decode cX8_lean0 4 = .ok (.iload_n 1, 1) := by decide +kernel
theorem dX8_lean0_5 : decode cX8_lean0 5 = .ok (.imul, 1) := by decide +kernel
theorem dX8_lean0_6 : decode cX8_lean0 6 = .ok (.iadd, 1) := by decide +kernel
theorem dX8_lean0_7 : decode cX8_lean0 7 = .ok (.iconst 2, 1) := by decide +kernel
theorem dX8_lean0_8 : decode cX8_lean0 8 = .ok (.iadd, 1) := by decide +kernel
theorem dX8_lean0_9 : decode cX8_lean0 9 = .ok (.invokevirtual 154, 3) := by decide +kernel
theorem dX8_lean0_12 : decode cX8_lean0 12 = .ok (.ireturn, 1) := by decide +kernel
theorem dX8_start_0 : decode cX8_start 0 = .ok (.iconst 0, 1) := by decide +kernel
theorem dX8_start_1 : decode cX8_start 1 = .ok (.istore_n 2, 1) := by decide +kernel
theorem dX8_start_2 : decode cX8_start 2 = .ok (.iconst 0, 1) := by decide +kernel
theorem dX8_start_3 : decode cX8_start 3 = .ok (.istore_n 3, 1) := by decide +kernel
theorem dX8_start_4 : decode cX8_start 4 = .ok (.iload_n 3, 1) := by decide +kernel
theorem dX8_start_5 : decode cX8_start 5 = .ok (.iload_n 1, 1) := by decide +kernel
theorem dX8_start_6 : decode cX8_start 6 = .ok (.if_icmp .ge 17, 3) := by decide +kernel
theorem dX8_start_9 : decode cX8_start 9 = .ok (.iload_n 2, 1) := by decide +kernel
theorem dX8_start_10 : decode cX8_start 10 = .ok (.aload_n 0, 1) := by decide +kernel
theorem dX8_start_11 : decode cX8_start 11 = .ok (.iload_n 3, 1) := by decide +kernel
theorem dX8_start_12 : decode cX8_start 12 = .ok (.invokevirtual 157, 3) := by decide +kernel
theorem dX8_start_15 : decode cX8_start 15 = .ok (.iadd, 1) := by decide +kernel
theorem dX8_start_16 : decode cX8_start 16 = .ok (.istore_n 2, 1) := by decide +kernel
theorem dX8_start_17 : decode cX8_start 17 = .ok (.iinc 3 1, 3) := by decide +kernel
theorem dX8_start_20 : decode cX8_start 20 = .ok (.goto (-16), 3) := by decide +kernel
theorem dX8_start_23 : decode cX8_start 23 = .ok (.iload_n 2, 1) := by decide +kernel
theorem dX8_start_24 : decode cX8_start 24 = .ok (.ireturn, 1) := by decide +kernel
theorem dX8_all_0 : decode cX8_all 0 = .ok (.aload_n 0, 1) := by decide +kernel
theorem dX8_all_1 : decode cX8_all 1 = .ok (.aload_n 0, 1) := by decide +kernel
theorem dX8_all_2 : decode cX8_all 2 = .ok (.bipush 6, 2) := by decide +kernel
theorem dX8_all_4 : decode cX8_all 4 = .ok (.invokevirtual 154, 3) := by decide +kernel
theorem dX8_all_7 : decode cX8_all 7 = .ok (.invokevirtual 160, 3) := by decide +kernel
theorem dX8_all_10 : decode cX8_all 10 = .ok (.ireturn, 1) := by decide +kernel
theorem dX8_courseOf_0 : decode cX8_courseOf 0 = .ok (.iconst 0, 1) := by decide +kernel
theorem dX8_courseOf_1 : decode cX8_courseOf 1 = .ok (.istore_n 2, 1) := by decide +kernel
theorem dX8_courseOf_2 : decode cX8_courseOf 2 = .ok (.iload_n 1, 1) := by decide +kernel
theorem dX8_courseOf_3 : decode cX8_courseOf 3 = .ok (.istore_n 3, 1) := by decide +kernel
theorem dX8_courseOf_4 : decode cX8_courseOf 4 = .ok (.iload_n 3, 1) := by decide +kernel
theorem dX8_courseOf_5 : decode cX8_courseOf 5 = .ok (.aload_n 0, 1) := by decide +kernel
theorem dX8_courseOf_6 : decode cX8_courseOf 6 = .ok (.iload_n 2, 1) := by decide +kernel
theorem dX8_courseOf_7 : decode cX8_courseOf 7 = .ok (.invokevirtual 157, 3) := by decide +kernel
theorem dX8_courseOf_10 : decode cX8_courseOf 10 = .ok (.if_icmp .lt 17, 3) := by decide +kernel
theorem dX8_courseOf_13 : decode cX8_courseOf 13 = .ok (.iload_n 3, 1) := by decide +kernel
theorem dX8_courseOf_14 : decode cX8_courseOf 14 = .ok (.aload_n 0, 1) := by decide +kernel
theorem dX8_courseOf_15 : decode cX8_courseOf 15 = .ok (.iload_n 2, 1) := by decide +kernel
theorem dX8_courseOf_16 : decode cX8_courseOf 16 = .ok (.invokevirtual 157, 3) := by decide +kernel
theorem dX8_courseOf_19 : decode cX8_courseOf 19 = .ok (.isub, 1) := by decide +kernel
theorem dX8_courseOf_20 : decode cX8_courseOf 20 = .ok (.istore_n 3, 1) := by decide +kernel
theorem dX8_courseOf_21 : decode cX8_courseOf 21 = .ok (.iinc 2 1, 3) := by decide +kernel
theorem dX8_courseOf_24 : decode cX8_courseOf 24 = .ok (.goto (-20), 3) := by decide +kernel
theorem dX8_courseOf_27 : decode cX8_courseOf 27 = .ok (.iload_n 2, 1) := by decide +kernel
theorem dX8_courseOf_28 : decode cX8_courseOf 28 = .ok (.ireturn, 1) := by decide +kernel
theorem dX8_layHouse_0 : decode cX8_layHouse 0 = .ok (.iconst 0, 1) := by decide +kernel
theorem dX8_layHouse_1 : decode cX8_layHouse 1 = .ok (.istore 4, 2) := by decide +kernel
theorem dX8_layHouse_3 : decode cX8_layHouse 3 = .ok (.iload 4, 2) := by decide +kernel
theorem dX8_layHouse_5 : decode cX8_layHouse 5 = .ok (.iconst 4, 1) := by decide +kernel
theorem dX8_layHouse_6 : decode cX8_layHouse 6 = .ok (.if_icmp .ge 26, 3) := by decide +kernel
theorem dX8_layHouse_9 : decode cX8_layHouse 9 = .ok (.aload_n 0, 1) := by decide +kernel
theorem dX8_layHouse_10 : decode cX8_layHouse 10 = .ok (.iload 4, 2) := by decide +kernel
theorem dX8_layHouse_12 : decode cX8_layHouse 12 = .ok (.aload_n 0, 1) := by decide +kernel
theorem dX8_layHouse_13 : decode cX8_layHouse 13 = .ok (.getfield 33, 3) := by decide +kernel
theorem dX8_layHouse_16 : decode cX8_layHouse 16 = .ok (.iconst 4, 1) := by decide +kernel
theorem dX8_layHouse_17 : decode cX8_layHouse 17 = .ok (.iload_n 1, 1) := by decide +kernel
theorem dX8_layHouse_18 : decode cX8_layHouse 18 = .ok (.imul, 1) := by decide +kernel
theorem dX8_layHouse_19 : decode cX8_layHouse 19 = .ok (.iload 4, 2) := by decide +kernel
theorem dX8_layHouse_21 : decode cX8_layHouse 21 = .ok (.iadd, 1) := by decide +kernel
theorem dX8_layHouse_22 : decode cX8_layHouse 22 = .ok (.iaload, 1) := by decide +kernel
theorem dX8_layHouse_23 : decode cX8_layHouse 23 = .ok (.invokevirtual 163, 3) := by decide +kernel
theorem dX8_layHouse_26 : decode cX8_layHouse 26 = .ok (.iinc 4 1, 3) := by decide +kernel
theorem dX8_layHouse_29 : decode cX8_layHouse 29 = .ok (.goto (-26), 3) := by decide +kernel
theorem dX8_layHouse_32 : decode cX8_layHouse 32 = .ok (.aload_n 0, 1) := by decide +kernel
theorem dX8_layHouse_33 : decode cX8_layHouse 33 = .ok (.iconst 4, 1) := by decide +kernel
theorem dX8_layHouse_34 : decode cX8_layHouse 34 = .ok (.aload_n 0, 1) := by decide +kernel
theorem dX8_layHouse_35 : decode cX8_layHouse 35 = .ok (.getfield 39, 3) := by decide +kernel
theorem dX8_layHouse_38 : decode cX8_layHouse 38 = .ok (.bipush 26, 2) := by decide +kernel
theorem dX8_layHouse_40 : decode cX8_layHouse 40 = .ok (.iload_n 2, 1) := by decide +kernel
theorem dX8_layHouse_41 : decode cX8_layHouse 41 = .ok (.imul, 1) := by decide +kernel
theorem dX8_layHouse_42 : decode cX8_layHouse 42 = .ok (.iconst 1, 1) := by decide +kernel
theorem dX8_layHouse_43 : decode cX8_layHouse 43 = .ok (.iadd, 1) := by decide +kernel
theorem dX8_layHouse_44 : decode cX8_layHouse 44 = .ok (.iaload, 1) := by decide +kernel
theorem dX8_layHouse_45 : decode cX8_layHouse 45 = .ok (.invokevirtual 163, 3) := by decide +kernel
theorem dX8_layHouse_48 : decode cX8_layHouse 48 = .ok (.aload_n 0, 1) := by decide +kernel
theorem dX8_layHouse_49 : decode cX8_layHouse 49 = .ok (.iconst 5, 1) := by decide +kernel
theorem dX8_layHouse_50 : decode cX8_layHouse 50 = .ok (.iload_n 3, 1) := by decide +kernel
theorem dX8_layHouse_51 : decode cX8_layHouse 51 = .ok (.invokevirtual 163, 3) := by decide +kernel
theorem dX8_layHouse_54 : decode cX8_layHouse 54 = .ok (.aload_n 0, 1) := by decide +kernel
theorem dX8_layHouse_55 : decode cX8_layHouse 55 = .ok (.bipush 6, 2) := by decide +kernel
theorem dX8_layHouse_57 : decode cX8_layHouse 57 = .ok (.aload_n 0, 1) := by decide +kernel
theorem dX8_layHouse_58 : decode cX8_layHouse 58 = .ok (.getfield 39, 3) := by decide +kernel
theorem dX8_layHouse_61 : decode cX8_layHouse 61 = .ok (.bipush 26, 2) := by decide +kernel
theorem dX8_layHouse_63 : decode cX8_layHouse 63 = .ok (.iload_n 2, 1) := by decide +kernel
theorem dX8_layHouse_64 : decode cX8_layHouse 64 = .ok (.imul, 1) := by decide +kernel
theorem dX8_layHouse_65 : decode cX8_layHouse 65 = .ok (.iaload, 1) := by decide +kernel
theorem dX8_layHouse_66 : decode cX8_layHouse 66 = .ok (.invokevirtual 163, 3) := by decide +kernel
theorem dX8_layHouse_69 : decode cX8_layHouse 69 = .ok (.iconst 0, 1) := by decide +kernel
theorem dX8_layHouse_70 : decode cX8_layHouse 70 = .ok (.istore 4, 2) := by decide +kernel
theorem dX8_layHouse_72 : decode cX8_layHouse 72 = .ok (.iload 4, 2) := by decide +kernel
theorem dX8_layHouse_74 : decode cX8_layHouse 74 = .ok (.bipush 24, 2) := by decide +kernel
theorem dX8_layHouse_76 : decode cX8_layHouse 76 = .ok (.if_icmp .ge 32, 3) := by decide +kernel
theorem dX8_layHouse_79 : decode cX8_layHouse 79 = .ok (.aload_n 0, 1) := by decide +kernel
theorem dX8_layHouse_80 : decode cX8_layHouse 80 = .ok (.bipush 7, 2) := by decide +kernel
theorem dX8_layHouse_82 : decode cX8_layHouse 82 = .ok (.iload 4, 2) := by decide +kernel
theorem dX8_layHouse_84 : decode cX8_layHouse 84 = .ok (.iadd, 1) := by decide +kernel
theorem dX8_layHouse_85 : decode cX8_layHouse 85 = .ok (.aload_n 0, 1) := by decide +kernel
theorem dX8_layHouse_86 : decode cX8_layHouse 86 = .ok (.getfield 39, 3) := by decide +kernel
theorem dX8_layHouse_89 : decode cX8_layHouse 89 = .ok (.bipush 26, 2) := by decide +kernel
theorem dX8_layHouse_91 : decode cX8_layHouse 91 = .ok (.iload_n 2, 1) := by decide +kernel
theorem dX8_layHouse_92 : decode cX8_layHouse 92 = .ok (.imul, 1) := by decide +kernel
theorem dX8_layHouse_93 : decode cX8_layHouse 93 = .ok (.iconst 2, 1) := by decide +kernel
theorem dX8_layHouse_94 : decode cX8_layHouse 94 = .ok (.iadd, 1) := by decide +kernel
theorem dX8_layHouse_95 : decode cX8_layHouse 95 = .ok (.iload 4, 2) := by decide +kernel
theorem dX8_layHouse_97 : decode cX8_layHouse 97 = .ok (.iadd, 1) := by decide +kernel
theorem dX8_layHouse_98 : decode cX8_layHouse 98 = .ok (.iaload, 1) := by decide +kernel
theorem dX8_layHouse_99 : decode cX8_layHouse 99 = .ok (.invokevirtual 163, 3) := by decide +kernel
theorem dX8_layHouse_102 : decode cX8_layHouse 102 = .ok (.iinc 4 1, 3) := by decide +kernel
theorem dX8_layHouse_105 : decode cX8_layHouse 105 = .ok (.goto (-33), 3) := by decide +kernel
theorem dX8_layHouse_108 : decode cX8_layHouse 108 = .ok (.return_, 1) := by decide +kernel
theorem dX8_begins_0 : decode cX8_begins 0 = .ok (.aload_n 0, 1) := by decide +kernel
theorem dX8_begins_1 : decode cX8_begins 1 = .ok (.bipush 31, 2) := by decide +kernel
theorem dX8_begins_3 : decode cX8_begins 3 = .ok (.iconst 0, 1) := by decide +kernel
theorem dX8_begins_4 : decode cX8_begins 4 = .ok (.invokevirtual 163, 3) := by decide +kernel
theorem dX8_begins_7 : decode cX8_begins 7 = .ok (.iconst 0, 1) := by decide +kernel
theorem dX8_begins_8 : decode cX8_begins 8 = .ok (.istore_n 1, 1) := by decide +kernel
theorem dX8_begins_9 : decode cX8_begins 9 = .ok (.iload_n 1, 1) := by decide +kernel
theorem dX8_begins_10 : decode cX8_begins 10 = .ok (.bipush 60, 2) := by decide +kernel
theorem dX8_begins_12 : decode cX8_begins 12 = .ok (.if_icmp .ge 28, 3) := by decide +kernel
theorem dX8_begins_15 : decode cX8_begins 15 = .ok (.aload_n 0, 1) := by decide +kernel
theorem dX8_begins_16 : decode cX8_begins 16 = .ok (.bipush 32, 2) := by decide +kernel
theorem dX8_begins_18 : decode cX8_begins 18 = .ok (.iload_n 1, 1) := by decide +kernel
theorem dX8_begins_19 : decode cX8_begins 19 = .ok (.iadd, 1) := by decide +kernel
theorem dX8_begins_20 : decode cX8_begins 20 = .ok (.bipush (-9), 2) := by decide +kernel
theorem dX8_begins_22 : decode cX8_begins 22 = .ok (.invokevirtual 163, 3) := by decide +kernel
theorem dX8_begins_25 : decode cX8_begins 25 = .ok (.aload_n 0, 1) := by decide +kernel
theorem dX8_begins_26 : decode cX8_begins 26 = .ok (.bipush 92, 2) := by decide +kernel
theorem dX8_begins_28 : decode cX8_begins 28 = .ok (.iload_n 1, 1) := by decide +kernel
theorem dX8_begins_29 : decode cX8_begins 29 = .ok (.iadd, 1) := by decide +kernel
theorem dX8_begins_30 : decode cX8_begins 30 = .ok (.iconst 0, 1) := by decide +kernel
theorem dX8_begins_31 : decode cX8_begins 31 = .ok (.invokevirtual 163, 3) := by decide +kernel
theorem dX8_begins_34 : decode cX8_begins 34 = .ok (.iinc 1 1, 3) := by decide +kernel
theorem dX8_begins_37 : decode cX8_begins 37 = .ok (.goto (-28), 3) := by decide +kernel
theorem dX8_begins_40 : decode cX8_begins 40 = .ok (.return_, 1) := by decide +kernel
theorem dX8_house_0 : decode cX8_house 0 = .ok (.iload_n 1, 1) := by decide +kernel
theorem dX8_house_1 : decode cX8_house 1 = .ok (.invokestatic 136, 3) := by decide +kernel
theorem dX8_house_4 : decode cX8_house 4 = .ok (.ifCond .eq 19, 3) := by decide +kernel
theorem dX8_house_7 : decode cX8_house 7 = .ok (.iload_n 2, 1) := by decide +kernel
theorem dX8_house_8 : decode cX8_house 8 = .ok (.invokestatic 136, 3) := by decide +kernel
theorem dX8_house_11 : decode cX8_house 11 = .ok (.ifCond .eq 12, 3) := by decide +kernel
theorem dX8_house_14 : decode cX8_house 14 = .ok (.iload_n 3, 1) := by decide +kernel
theorem dX8_house_15 : decode cX8_house 15 = .ok (.iconst 1, 1) := by decide +kernel
theorem dX8_house_16 : decode cX8_house 16 = .ok (.iconst 2, 1) := by decide +kernel
theorem dX8_house_17 : decode cX8_house 17 = .ok (.invokestatic 71, 3) := by decide +kernel
theorem dX8_house_20 : decode cX8_house 20 = .ok (.ifCond .ne 5, 3) := by decide +kernel
theorem dX8_house_23 : decode cX8_house 23 = .ok (.iconst (-1), 1) := by decide +kernel
theorem dX8_house_24 : decode cX8_house 24 = .ok (.ireturn, 1) := by decide +kernel
theorem dX8_house_25 : decode cX8_house 25 = .ok (.aload_n 0, 1) := by decide +kernel
theorem dX8_house_26 : decode cX8_house 26 = .ok (.getfield 29, 3) := by decide +kernel
theorem dX8_house_29 : decode cX8_house 29 = .ok (.iload_n 1, 1) := by decide +kernel
theorem dX8_house_30 : decode cX8_house 30 = .ok (.baload, 1) := by decide +kernel
theorem dX8_house_31 : decode cX8_house 31 = .ok (.ifCond .eq 12, 3) := by decide +kernel
theorem dX8_house_34 : decode cX8_house 34 = .ok (.aload_n 0, 1) := by decide +kernel
theorem dX8_house_35 : decode cX8_house 35 = .ok (.getfield 36, 3) := by decide +kernel
theorem dX8_house_38 : decode cX8_house 38 = .ok (.iload_n 2, 1) := by decide +kernel
theorem dX8_house_39 : decode cX8_house 39 = .ok (.baload, 1) := by decide +kernel
theorem dX8_house_40 : decode cX8_house 40 = .ok (.ifCond .ne 9, 3) := by decide +kernel
theorem dX8_house_43 : decode cX8_house 43 = .ok (.aload_n 0, 1) := by decide +kernel
theorem dX8_house_44 : decode cX8_house 44 = .ok (.iconst 1, 1) := by decide +kernel
theorem dX8_house_45 : decode cX8_house 45 = .ok (.invokevirtual 85, 3) := by decide +kernel
theorem dX8_house_48 : decode cX8_house 48 = .ok (.ireturn, 1) := by decide +kernel
theorem dX8_house_49 : decode cX8_house 49 = .ok (.aload_n 0, 1) := by decide +kernel
theorem dX8_house_50 : decode cX8_house 50 = .ok (.iconst 0, 1) := by decide +kernel
theorem dX8_house_51 : decode cX8_house 51 = .ok (.invokevirtual 167, 3) := by decide +kernel
theorem dX8_house_54 : decode cX8_house 54 = .ok (.aload_n 0, 1) := by decide +kernel
theorem dX8_house_55 : decode cX8_house 55 = .ok (.iload_n 1, 1) := by decide +kernel
theorem dX8_house_56 : decode cX8_house 56 = .ok (.iload_n 2, 1) := by decide +kernel
theorem dX8_house_57 : decode cX8_house 57 = .ok (.iload_n 3, 1) := by decide +kernel
theorem dX8_house_58 : decode cX8_house 58 = .ok (.invokevirtual 171, 3) := by decide +kernel
theorem dX8_house_61 : decode cX8_house 61 = .ok (.aload_n 0, 1) := by decide +kernel
theorem dX8_house_62 : decode cX8_house 62 = .ok (.invokevirtual 175, 3) := by decide +kernel
theorem dX8_house_65 : decode cX8_house 65 = .ok (.aload_n 0, 1) := by decide +kernel
theorem dX8_house_66 : decode cX8_house 66 = .ok (.getfield 48, 3) := by decide +kernel
theorem dX8_house_69 : decode cX8_house 69 = .ok (.iconst 0, 1) := by decide +kernel
theorem dX8_house_70 : decode cX8_house 70 = .ok (.iconst 1, 1) := by decide +kernel
theorem dX8_house_71 : decode cX8_house 71 = .ok (.bastore, 1) := by decide +kernel
theorem dX8_house_72 : decode cX8_house 72 = .ok (.aload_n 0, 1) := by decide +kernel
theorem dX8_house_73 : decode cX8_house 73 = .ok (.invokevirtual 178, 3) := by decide +kernel
theorem dX8_house_76 : decode cX8_house 76 = .ok (.ireturn, 1) := by decide +kernel
theorem dX8_hasSlumped_0 : decode cX8_hasSlumped 0 = .ok (.aload_n 0, 1) := by decide +kernel
theorem dX8_hasSlumped_1 : decode cX8_hasSlumped 1 = .ok (.bipush 32, 2) := by decide +kernel
theorem dX8_hasSlumped_3 : decode cX8_hasSlumped 3 = .ok (.iload_n 1, 1) := by decide +kernel
theorem dX8_hasSlumped_4 : decode cX8_hasSlumped 4 = .ok (.iadd, 1) := by decide +kernel
theorem dX8_hasSlumped_5 : decode cX8_hasSlumped 5 = .ok (.invokevirtual 154, 3) := by decide +kernel
theorem dX8_hasSlumped_8 : decode cX8_hasSlumped 8 = .ok (.bipush (-9), 2) := by decide +kernel
theorem dX8_hasSlumped_10 : decode cX8_hasSlumped 10 = .ok (.if_icmp .eq 7, 3) := by decide +kernel
theorem dX8_hasSlumped_13 : decode cX8_hasSlumped 13 = .ok (.iconst 1, 1) := by decide +kernel
theorem dX8_hasSlumped_14 : decode cX8_hasSlumped 14 = .ok (.goto 4, 3) := by decide +kernel
theorem dX8_hasSlumped_17 : decode cX8_hasSlumped 17 = .ok (.iconst 0, 1) := by decide +kernel
theorem dX8_hasSlumped_18 : decode cX8_hasSlumped 18 = .ok (.ireturn, 1) := by decide +kernel
theorem dX8_isCut_0 : decode cX8_isCut 0 = .ok (.aload_n 0, 1) := by decide +kernel
theorem dX8_isCut_1 : decode cX8_isCut 1 = .ok (.bipush 92, 2) := by decide +kernel
theorem dX8_isCut_3 : decode cX8_isCut 3 = .ok (.iload_n 1, 1) := by decide +kernel
theorem dX8_isCut_4 : decode cX8_isCut 4 = .ok (.iadd, 1) := by decide +kernel
theorem dX8_isCut_5 : decode cX8_isCut 5 = .ok (.invokevirtual 154, 3) := by decide +kernel
theorem dX8_isCut_8 : decode cX8_isCut 8 = .ok (.iconst 1, 1) := by decide +kernel
theorem dX8_isCut_9 : decode cX8_isCut 9 = .ok (.if_icmp .ne 7, 3) := by decide +kernel
theorem dX8_isCut_12 : decode cX8_isCut 12 = .ok (.iconst 1, 1) := by decide +kernel
theorem dX8_isCut_13 : decode cX8_isCut 13 = .ok (.goto 4, 3) := by decide +kernel
theorem dX8_isCut_16 : decode cX8_isCut 16 = .ok (.iconst 0, 1) := by decide +kernel
theorem dX8_isCut_17 : decode cX8_isCut 17 = .ok (.ireturn, 1) := by decide +kernel
theorem dX8_isLaid_0 : decode cX8_isLaid 0 = .ok (.iload_n 1, 1) := by decide +kernel
theorem dX8_isLaid_1 : decode cX8_isLaid 1 = .ok (.aload_n 0, 1) := by decide +kernel
theorem dX8_isLaid_2 : decode cX8_isLaid 2 = .ok (.bipush 31, 2) := by decide +kernel
theorem dX8_isLaid_4 : decode cX8_isLaid 4 = .ok (.invokevirtual 154, 3) := by decide +kernel
theorem dX8_isLaid_7 : decode cX8_isLaid 7 = .ok (.if_icmp .ge 7, 3) := by decide +kernel
theorem dX8_isLaid_10 : decode cX8_isLaid 10 = .ok (.iconst 1, 1) := by decide +kernel
theorem dX8_isLaid_11 : decode cX8_isLaid 11 = .ok (.goto 4, 3) := by decide +kernel
theorem dX8_isLaid_14 : decode cX8_isLaid 14 = .ok (.iconst 0, 1) := by decide +kernel
theorem dX8_isLaid_15 : decode cX8_isLaid 15 = .ok (.ireturn, 1) := by decide +kernel
theorem dX8_isSound_0 : decode cX8_isSound 0 = .ok (.aload_n 0, 1) := by decide +kernel
theorem dX8_isSound_1 : decode cX8_isSound 1 = .ok (.iload_n 1, 1) := by decide +kernel
theorem dX8_isSound_2 : decode cX8_isSound 2 = .ok (.invokevirtual 182, 3) := by decide +kernel
theorem dX8_isSound_5 : decode cX8_isSound 5 = .ok (.ifCond .eq 23, 3) := by decide +kernel
theorem dX8_isSound_8 : decode cX8_isSound 8 = .ok (.aload_n 0, 1) := by decide +kernel
theorem dX8_isSound_9 : decode cX8_isSound 9 = .ok (.iload_n 1, 1) := by decide +kernel
theorem dX8_isSound_10 : decode cX8_isSound 10 = .ok (.invokevirtual 185, 3) := by decide +kernel
theorem dX8_isSound_13 : decode cX8_isSound 13 = .ok (.ifCond .ne 15, 3) := by decide +kernel
theorem dX8_isSound_16 : decode cX8_isSound 16 = .ok (.aload_n 0, 1) := by decide +kernel
theorem dX8_isSound_17 : decode cX8_isSound 17 = .ok (.iload_n 1, 1) := by decide +kernel
theorem dX8_isSound_18 : decode cX8_isSound 18 = .ok (.invokevirtual 188, 3) := by decide +kernel
theorem dX8_isSound_21 : decode cX8_isSound 21 = .ok (.ifCond .ne 7, 3) := by decide +kernel
theorem dX8_isSound_24 : decode cX8_isSound 24 = .ok (.iconst 1, 1) := by decide +kernel
theorem dX8_isSound_25 : decode cX8_isSound 25 = .ok (.goto 4, 3) := by decide +kernel
theorem dX8_isSound_28 : decode cX8_isSound 28 = .ok (.iconst 0, 1) := by decide +kernel
theorem dX8_isSound_29 : decode cX8_isSound 29 = .ok (.ireturn, 1) := by decide +kernel
theorem dX8_restsOn_0 : decode cX8_restsOn 0 = .ok (.aload_n 0, 1) := by decide +kernel
theorem dX8_restsOn_1 : decode cX8_restsOn 1 = .ok (.iload_n 1, 1) := by decide +kernel
theorem dX8_restsOn_2 : decode cX8_restsOn 2 = .ok (.invokevirtual 191, 3) := by decide +kernel
theorem dX8_restsOn_5 : decode cX8_restsOn 5 = .ok (.istore_n 2, 1) := by decide +kernel
theorem dX8_restsOn_6 : decode cX8_restsOn 6 = .ok (.iload_n 2, 1) := by decide +kernel
theorem dX8_restsOn_7 : decode cX8_restsOn 7 = .ok (.ifCond .ne 8, 3) := by decide +kernel
theorem dX8_restsOn_10 : decode cX8_restsOn 10 = .ok (.bipush (-9), 2) := by decide +kernel
theorem dX8_restsOn_12 : decode cX8_restsOn 12 = .ok (.goto 32, 3) := by decide +kernel
theorem dX8_restsOn_15 : decode cX8_restsOn 15 = .ok (.aload_n 0, 1) := by decide +kernel
theorem dX8_restsOn_16 : decode cX8_restsOn 16 = .ok (.iload_n 2, 1) := by decide +kernel
theorem dX8_restsOn_17 : decode cX8_restsOn 17 = .ok (.iconst 1, 1) := by decide +kernel
theorem dX8_restsOn_18 : decode cX8_restsOn 18 = .ok (.isub, 1) := by decide +kernel
theorem dX8_restsOn_19 : decode cX8_restsOn 19 = .ok (.invokevirtual 160, 3) := by decide +kernel
theorem dX8_restsOn_22 : decode cX8_restsOn 22 = .ok (.iload_n 1, 1) := by decide +kernel
theorem dX8_restsOn_23 : decode cX8_restsOn 23 = .ok (.aload_n 0, 1) := by decide +kernel
theorem dX8_restsOn_24 : decode cX8_restsOn 24 = .ok (.iload_n 2, 1) := by decide +kernel
theorem dX8_restsOn_25 : decode cX8_restsOn 25 = .ok (.invokevirtual 160, 3) := by decide +kernel
theorem dX8_restsOn_28 : decode cX8_restsOn 28 = .ok (.isub, 1) := by decide +kernel
theorem dX8_restsOn_29 : decode cX8_restsOn 29 = .ok (.aload_n 0, 1) := by decide +kernel
theorem dX8_restsOn_30 : decode cX8_restsOn 30 = .ok (.iload_n 2, 1) := by decide +kernel
theorem dX8_restsOn_31 : decode cX8_restsOn 31 = .ok (.iconst 1, 1) := by decide +kernel
theorem dX8_restsOn_32 : decode cX8_restsOn 32 = .ok (.isub, 1) := by decide +kernel
theorem dX8_restsOn_33 : decode cX8_restsOn 33 = .ok (.invokevirtual 157, 3) := by decide +kernel
theorem dX8_restsOn_36 : decode cX8_restsOn 36 = .ok (.imul, 1) := by decide +kernel
theorem dX8_restsOn_37 : decode cX8_restsOn 37 = .ok (.aload_n 0, 1) := by decide +kernel
theorem dX8_restsOn_38 : decode cX8_restsOn 38 = .ok (.iload_n 2, 1) := by decide +kernel
theorem dX8_restsOn_39 : decode cX8_restsOn 39 = .ok (.invokevirtual 157, 3) := by decide +kernel
theorem dX8_restsOn_42 : decode cX8_restsOn 42 = .ok (.idiv, 1) := by decide +kernel
theorem dX8_restsOn_43 : decode cX8_restsOn 43 = .ok (.iadd, 1) := by decide +kernel
theorem dX8_restsOn_44 : decode cX8_restsOn 44 = .ok (.ireturn, 1) := by decide +kernel
theorem dX8_restsToo_0 : decode cX8_restsToo 0 = .ok (.aload_n 0, 1) := by decide +kernel
theorem dX8_restsToo_1 : decode cX8_restsToo 1 = .ok (.iload_n 1, 1) := by decide +kernel
theorem dX8_restsToo_2 : decode cX8_restsToo 2 = .ok (.invokevirtual 191, 3) := by decide +kernel
theorem dX8_restsToo_5 : decode cX8_restsToo 5 = .ok (.istore_n 2, 1) := by decide +kernel
theorem dX8_restsToo_6 : decode cX8_restsToo 6 = .ok (.aload_n 0, 1) := by decide +kernel
theorem dX8_restsToo_7 : decode cX8_restsToo 7 = .ok (.iload_n 2, 1) := by decide +kernel
theorem dX8_restsToo_8 : decode cX8_restsToo 8 = .ok (.iconst 1, 1) := by decide +kernel
theorem dX8_restsToo_9 : decode cX8_restsToo 9 = .ok (.isub, 1) := by decide +kernel
theorem dX8_restsToo_10 : decode cX8_restsToo 10 = .ok (.invokevirtual 160, 3) := by decide +kernel
theorem dX8_restsToo_13 : decode cX8_restsToo 13 = .ok (.istore_n 3, 1) := by decide +kernel
theorem dX8_restsToo_14 : decode cX8_restsToo 14 = .ok (.iload_n 3, 1) := by decide +kernel
theorem dX8_restsToo_15 : decode cX8_restsToo 15 = .ok (.aload_n 0, 1) := by decide +kernel
theorem dX8_restsToo_16 : decode cX8_restsToo 16 = .ok (.iload_n 1, 1) := by decide +kernel
theorem dX8_restsToo_17 : decode cX8_restsToo 17 = .ok (.invokevirtual 194, 3) := by decide +kernel
theorem dX8_restsToo_20 : decode cX8_restsToo 20 = .ok (.iload_n 3, 1) := by decide +kernel
theorem dX8_restsToo_21 : decode cX8_restsToo 21 = .ok (.isub, 1) := by decide +kernel
theorem dX8_restsToo_22 : decode cX8_restsToo 22 = .ok (.iconst 1, 1) := by decide +kernel
theorem dX8_restsToo_23 : decode cX8_restsToo 23 = .ok (.iadd, 1) := by decide +kernel
theorem dX8_restsToo_24 : decode cX8_restsToo 24 = .ok (.aload_n 0, 1) := by decide +kernel
theorem dX8_restsToo_25 : decode cX8_restsToo 25 = .ok (.iload_n 2, 1) := by decide +kernel
theorem dX8_restsToo_26 : decode cX8_restsToo 26 = .ok (.iconst 1, 1) := by decide +kernel
theorem dX8_restsToo_27 : decode cX8_restsToo 27 = .ok (.isub, 1) := by decide +kernel
theorem dX8_restsToo_28 : decode cX8_restsToo 28 = .ok (.invokevirtual 157, 3) := by decide +kernel
theorem dX8_restsToo_31 : decode cX8_restsToo 31 = .ok (.irem, 1) := by decide +kernel
theorem dX8_restsToo_32 : decode cX8_restsToo 32 = .ok (.iadd, 1) := by decide +kernel
theorem dX8_restsToo_33 : decode cX8_restsToo 33 = .ok (.ireturn, 1) := by decide +kernel
theorem dX8_soundNeighbours_0 : decode cX8_soundNeighbours 0 = .ok (.aload_n 0, 1) := by decide +kernel
theorem dX8_soundNeighbours_1 : decode cX8_soundNeighbours 1 = .ok (.iload_n 1, 1) := by decide +kernel
theorem dX8_soundNeighbours_2 : decode cX8_soundNeighbours 2 = .ok (.invokevirtual 191, 3) := by decide +kernel
theorem dX8_soundNeighbours_5 : decode cX8_soundNeighbours 5 = .ok (.istore_n 2, 1) := by decide +kernel
theorem dX8_soundNeighbours_6 : decode cX8_soundNeighbours 6 = .ok (.aload_n 0, 1) := by decide +kernel
theorem dX8_soundNeighbours_7 : decode cX8_soundNeighbours 7 = .ok (.iload_n 2, 1) := by decide +kernel
theorem dX8_soundNeighbours_8 : decode cX8_soundNeighbours 8 = .ok (.invokevirtual 197, 3) := by decide +kernel
theorem dX8_soundNeighbours_11 : decode cX8_soundNeighbours 11 = .ok (.iconst 2, 1) := by decide +kernel
theorem dX8_soundNeighbours_12 : decode cX8_soundNeighbours 12 = .ok (.if_icmp .ne 49, 3) := by decide +kernel
theorem dX8_soundNeighbours_15 : decode cX8_soundNeighbours 15 = .ok (.iload_n 1, 1) := by decide +kernel
theorem dX8_soundNeighbours_16 : decode cX8_soundNeighbours 16 = .ok (.ifCond .le 17, 3) := by decide +kernel
theorem dX8_soundNeighbours_19 : decode cX8_soundNeighbours 19 = .ok (.aload_n 0, 1) := by decide +kernel
theorem dX8_soundNeighbours_20 : decode cX8_soundNeighbours 20 = .ok (.iload_n 1, 1) := by decide +kernel
theorem dX8_soundNeighbours_21 : decode cX8_soundNeighbours 21 = .ok (.iconst 1, 1) := by decide +kernel
theorem dX8_soundNeighbours_22 : decode cX8_soundNeighbours 22 = .ok (.isub, 1) := by decide +kernel
theorem dX8_soundNeighbours_23 : decode cX8_soundNeighbours 23 = .ok (.invokevirtual 200, 3) := by decide +kernel
theorem dX8_soundNeighbours_26 : decode cX8_soundNeighbours 26 = .ok (.ifCond .eq 7, 3) := by decide +kernel
theorem dX8_soundNeighbours_29 : decode cX8_soundNeighbours 29 = .ok (.iconst 1, 1) := by decide +kernel
theorem dX8_soundNeighbours_30 : decode cX8_soundNeighbours 30 = .ok (.goto 4, 3) := by decide +kernel
theorem dX8_soundNeighbours_33 : decode cX8_soundNeighbours 33 = .ok (.iconst 0, 1) := by decide +kernel
theorem dX8_soundNeighbours_34 : decode cX8_soundNeighbours 34 = .ok (.iload_n 1, 1) := by decide +kernel
theorem dX8_soundNeighbours_35 : decode cX8_soundNeighbours 35 = .ok (.iconst 1, 1) := by decide +kernel
theorem dX8_soundNeighbours_36 : decode cX8_soundNeighbours 36 = .ok (.iadd, 1) := by decide +kernel
theorem dX8_soundNeighbours_37 : decode cX8_soundNeighbours 37 = .ok (.aload_n 0, 1) := by decide +kernel
theorem dX8_soundNeighbours_38 : decode cX8_soundNeighbours 38 = .ok (.invokevirtual 178, 3) := by decide +kernel
theorem dX8_soundNeighbours_41 : decode cX8_soundNeighbours 41 = .ok (.if_icmp .ge 17, 3) := by decide +kernel
theorem dX8_soundNeighbours_44 : decode cX8_soundNeighbours 44 = .ok (.aload_n 0, 1) := by decide +kernel
theorem dX8_soundNeighbours_45 : decode cX8_soundNeighbours 45 = .ok (.iload_n 1, 1) := by decide +kernel
theorem dX8_soundNeighbours_46 : decode cX8_soundNeighbours 46 = .ok (.iconst 1, 1) := by decide +kernel
theorem dX8_soundNeighbours_47 : decode cX8_soundNeighbours 47 = .ok (.iadd, 1) := by decide +kernel
theorem dX8_soundNeighbours_48 : decode cX8_soundNeighbours 48 = .ok (.invokevirtual 200, 3) := by decide +kernel
theorem dX8_soundNeighbours_51 : decode cX8_soundNeighbours 51 = .ok (.ifCond .eq 7, 3) := by decide +kernel
theorem dX8_soundNeighbours_54 : decode cX8_soundNeighbours 54 = .ok (.iconst 1, 1) := by decide +kernel
theorem dX8_soundNeighbours_55 : decode cX8_soundNeighbours 55 = .ok (.goto 4, 3) := by decide +kernel
theorem dX8_soundNeighbours_58 : decode cX8_soundNeighbours 58 = .ok (.iconst 0, 1) := by decide +kernel
theorem dX8_soundNeighbours_59 : decode cX8_soundNeighbours 59 = .ok (.iadd, 1) := by decide +kernel
theorem dX8_soundNeighbours_60 : decode cX8_soundNeighbours 60 = .ok (.ireturn, 1) := by decide +kernel
theorem dX8_soundNeighbours_61 : decode cX8_soundNeighbours 61 = .ok (.aload_n 0, 1) := by decide +kernel
theorem dX8_soundNeighbours_62 : decode cX8_soundNeighbours 62 = .ok (.iload_n 2, 1) := by decide +kernel
theorem dX8_soundNeighbours_63 : decode cX8_soundNeighbours 63 = .ok (.invokevirtual 160, 3) := by decide +kernel
theorem dX8_soundNeighbours_66 : decode cX8_soundNeighbours 66 = .ok (.istore_n 3, 1) := by decide +kernel
theorem dX8_soundNeighbours_67 : decode cX8_soundNeighbours 67 = .ok (.aload_n 0, 1) := by decide +kernel
theorem dX8_soundNeighbours_68 : decode cX8_soundNeighbours 68 = .ok (.iload_n 2, 1) := by decide +kernel
theorem dX8_soundNeighbours_69 : decode cX8_soundNeighbours 69 = .ok (.invokevirtual 157, 3) := by decide +kernel
theorem dX8_soundNeighbours_72 : decode cX8_soundNeighbours 72 = .ok (.istore 4, 2) := by decide +kernel
theorem dX8_soundNeighbours_74 : decode cX8_soundNeighbours 74 = .ok (.iload_n 3, 1) := by decide +kernel
theorem dX8_soundNeighbours_75 : decode cX8_soundNeighbours 75 = .ok (.iload_n 1, 1) := by decide +kernel
theorem dX8_soundNeighbours_76 : decode cX8_soundNeighbours 76 = .ok (.iload_n 3, 1) := by decide +kernel
theorem dX8_soundNeighbours_77 : decode cX8_soundNeighbours 77 = .ok (.isub, 1) := by decide +kernel
theorem dX8_soundNeighbours_78 : decode cX8_soundNeighbours 78 = .ok (.iconst 1, 1) := by decide +kernel
theorem dX8_soundNeighbours_79 : decode cX8_soundNeighbours 79 = .ok (.iadd, 1) := by decide +kernel
theorem dX8_soundNeighbours_80 : decode cX8_soundNeighbours 80 = .ok (.iload 4, 2) := by decide +kernel
theorem dX8_soundNeighbours_82 : decode cX8_soundNeighbours 82 = .ok (.irem, 1) := by decide +kernel
theorem dX8_soundNeighbours_83 : decode cX8_soundNeighbours 83 = .ok (.iadd, 1) := by decide +kernel
theorem dX8_soundNeighbours_84 : decode cX8_soundNeighbours 84 = .ok (.istore 5, 2) := by decide +kernel
theorem dX8_soundNeighbours_86 : decode cX8_soundNeighbours 86 = .ok (.iload_n 3, 1) := by decide +kernel
theorem dX8_soundNeighbours_87 : decode cX8_soundNeighbours 87 = .ok (.iload_n 1, 1) := by decide +kernel
theorem dX8_soundNeighbours_88 : decode cX8_soundNeighbours 88 = .ok (.iload_n 3, 1) := by decide +kernel
theorem dX8_soundNeighbours_89 : decode cX8_soundNeighbours 89 = .ok (.isub, 1) := by decide +kernel
theorem dX8_soundNeighbours_90 : decode cX8_soundNeighbours 90 = .ok (.iload 4, 2) := by decide +kernel
theorem dX8_soundNeighbours_92 : decode cX8_soundNeighbours 92 = .ok (.iadd, 1) := by decide +kernel
theorem dX8_soundNeighbours_93 : decode cX8_soundNeighbours 93 = .ok (.iconst 1, 1) := by decide +kernel
theorem dX8_soundNeighbours_94 : decode cX8_soundNeighbours 94 = .ok (.isub, 1) := by decide +kernel
theorem dX8_soundNeighbours_95 : decode cX8_soundNeighbours 95 = .ok (.iload 4, 2) := by decide +kernel
theorem dX8_soundNeighbours_97 : decode cX8_soundNeighbours 97 = .ok (.irem, 1) := by decide +kernel
theorem dX8_soundNeighbours_98 : decode cX8_soundNeighbours 98 = .ok (.iadd, 1) := by decide +kernel
theorem dX8_soundNeighbours_99 : decode cX8_soundNeighbours 99 = .ok (.istore 6, 2) := by decide +kernel
theorem dX8_soundNeighbours_101 : decode cX8_soundNeighbours 101 = .ok (.iload 5, 2) := by decide +kernel
theorem dX8_soundNeighbours_103 : decode cX8_soundNeighbours 103 = .ok (.iload_n 1, 1) := by decide +kernel
theorem dX8_soundNeighbours_104 : decode cX8_soundNeighbours 104 = .ok (.if_icmp .eq 16, 3) := by decide +kernel
theorem dX8_soundNeighbours_107 : decode cX8_soundNeighbours 107 = .ok (.aload_n 0, 1) := by decide +kernel
theorem dX8_soundNeighbours_108 : decode cX8_soundNeighbours 108 = .ok (.iload 5, 2) := by decide +kernel
theorem dX8_soundNeighbours_110 : decode cX8_soundNeighbours 110 = .ok (.invokevirtual 200, 3) := by decide +kernel
theorem dX8_soundNeighbours_113 : decode cX8_soundNeighbours 113 = .ok (.ifCond .eq 7, 3) := by decide +kernel
theorem dX8_soundNeighbours_116 : decode cX8_soundNeighbours 116 = .ok (.iconst 1, 1) := by decide +kernel
theorem dX8_soundNeighbours_117 : decode cX8_soundNeighbours 117 = .ok (.goto 4, 3) := by decide +kernel
theorem dX8_soundNeighbours_120 : decode cX8_soundNeighbours 120 = .ok (.iconst 0, 1) := by decide +kernel
theorem dX8_soundNeighbours_121 : decode cX8_soundNeighbours 121 = .ok (.iload 6, 2) := by decide +kernel
theorem dX8_soundNeighbours_123 : decode cX8_soundNeighbours 123 = .ok (.iload_n 1, 1) := by decide +kernel
theorem dX8_soundNeighbours_124 : decode cX8_soundNeighbours 124 = .ok (.if_icmp .eq 23, 3) := by decide +kernel
theorem dX8_soundNeighbours_127 : decode cX8_soundNeighbours 127 = .ok (.iload 6, 2) := by decide +kernel
theorem dX8_soundNeighbours_129 : decode cX8_soundNeighbours 129 = .ok (.iload 5, 2) := by decide +kernel
theorem dX8_soundNeighbours_131 : decode cX8_soundNeighbours 131 = .ok (.if_icmp .eq 16, 3) := by decide +kernel
theorem dX8_soundNeighbours_134 : decode cX8_soundNeighbours 134 = .ok (.aload_n 0, 1) := by decide +kernel
theorem dX8_soundNeighbours_135 : decode cX8_soundNeighbours 135 = .ok (.iload 6, 2) := by decide +kernel
theorem dX8_soundNeighbours_137 : decode cX8_soundNeighbours 137 = .ok (.invokevirtual 200, 3) := by decide +kernel
theorem dX8_soundNeighbours_140 : decode cX8_soundNeighbours 140 = .ok (.ifCond .eq 7, 3) := by decide +kernel
theorem dX8_soundNeighbours_143 : decode cX8_soundNeighbours 143 = .ok (.iconst 1, 1) := by decide +kernel
theorem dX8_soundNeighbours_144 : decode cX8_soundNeighbours 144 = .ok (.goto 4, 3) := by decide +kernel
theorem dX8_soundNeighbours_147 : decode cX8_soundNeighbours 147 = .ok (.iconst 0, 1) := by decide +kernel
theorem dX8_soundNeighbours_148 : decode cX8_soundNeighbours 148 = .ok (.iadd, 1) := by decide +kernel
theorem dX8_soundNeighbours_149 : decode cX8_soundNeighbours 149 = .ok (.ireturn, 1) := by decide +kernel
theorem dX8_isClosed_0 : decode cX8_isClosed 0 = .ok (.aload_n 0, 1) := by decide +kernel
theorem dX8_isClosed_1 : decode cX8_isClosed 1 = .ok (.iload_n 1, 1) := by decide +kernel
theorem dX8_isClosed_2 : decode cX8_isClosed 2 = .ok (.invokevirtual 191, 3) := by decide +kernel
theorem dX8_isClosed_5 : decode cX8_isClosed 5 = .ok (.istore_n 2, 1) := by decide +kernel
theorem dX8_isClosed_6 : decode cX8_isClosed 6 = .ok (.iconst 1, 1) := by decide +kernel
theorem dX8_isClosed_7 : decode cX8_isClosed 7 = .ok (.istore_n 3, 1) := by decide +kernel
theorem dX8_isClosed_8 : decode cX8_isClosed 8 = .ok (.aload_n 0, 1) := by decide +kernel
theorem dX8_isClosed_9 : decode cX8_isClosed 9 = .ok (.iload_n 2, 1) := by decide +kernel
theorem dX8_isClosed_10 : decode cX8_isClosed 10 = .ok (.invokevirtual 160, 3) := by decide +kernel
theorem dX8_isClosed_13 : decode cX8_isClosed 13 = .ok (.istore 4, 2) := by decide +kernel
theorem dX8_isClosed_15 : decode cX8_isClosed 15 = .ok (.iload 4, 2) := by decide +kernel
theorem dX8_isClosed_17 : decode cX8_isClosed 17 = .ok (.aload_n 0, 1) := by decide +kernel
theorem dX8_isClosed_18 : decode cX8_isClosed 18 = .ok (.iload_n 2, 1) := by decide +kernel
theorem dX8_isClosed_19 : decode cX8_isClosed 19 = .ok (.invokevirtual 160, 3) := by decide +kernel
theorem dX8_isClosed_22 : decode cX8_isClosed 22 = .ok (.aload_n 0, 1) := by decide +kernel
theorem dX8_isClosed_23 : decode cX8_isClosed 23 = .ok (.iload_n 2, 1) := by decide +kernel
theorem dX8_isClosed_24 : decode cX8_isClosed 24 = .ok (.invokevirtual 157, 3) := by decide +kernel
theorem dX8_isClosed_27 : decode cX8_isClosed 27 = .ok (.iadd, 1) := by decide +kernel
theorem dX8_isClosed_28 : decode cX8_isClosed 28 = .ok (.if_icmp .ge 46, 3) := by decide +kernel
theorem dX8_isClosed_31 : decode cX8_isClosed 31 = .ok (.iload_n 3, 1) := by decide +kernel
theorem dX8_isClosed_32 : decode cX8_isClosed 32 = .ok (.ifCond .eq 34, 3) := by decide +kernel
theorem dX8_isClosed_35 : decode cX8_isClosed 35 = .ok (.iload 4, 2) := by decide +kernel
theorem dX8_isClosed_37 : decode cX8_isClosed 37 = .ok (.iload_n 1, 1) := by decide +kernel
theorem dX8_isClosed_38 : decode cX8_isClosed 38 = .ok (.if_icmp .ne 15, 3) := by decide +kernel
theorem dX8_isClosed_41 : decode cX8_isClosed 41 = .ok (.aload_n 0, 1) := by decide +kernel
theorem dX8_isClosed_42 : decode cX8_isClosed 42 = .ok (.iload 4, 2) := by decide +kernel
theorem dX8_isClosed_44 : decode cX8_isClosed 44 = .ok (.invokevirtual 182, 3) := by decide +kernel
theorem dX8_isClosed_47 : decode cX8_isClosed 47 = .ok (.ifCond .eq 19, 3) := by decide +kernel
theorem dX8_isClosed_50 : decode cX8_isClosed 50 = .ok (.goto 12, 3) := by decide +kernel
theorem dX8_isClosed_53 : decode cX8_isClosed 53 = .ok (.aload_n 0, 1) := by decide +kernel
theorem dX8_isClosed_54 : decode cX8_isClosed 54 = .ok (.iload 4, 2) := by decide +kernel
theorem dX8_isClosed_56 : decode cX8_isClosed 56 = .ok (.invokevirtual 200, 3) := by decide +kernel
theorem dX8_isClosed_59 : decode cX8_isClosed 59 = .ok (.ifCond .eq 7, 3) := by decide +kernel
theorem dX8_isClosed_62 : decode cX8_isClosed 62 = .ok (.iconst 1, 1) := by decide +kernel
theorem dX8_isClosed_63 : decode cX8_isClosed 63 = .ok (.goto 4, 3) := by decide +kernel
theorem dX8_isClosed_66 : decode cX8_isClosed 66 = .ok (.iconst 0, 1) := by decide +kernel
theorem dX8_isClosed_67 : decode cX8_isClosed 67 = .ok (.istore_n 3, 1) := by decide +kernel
theorem dX8_isClosed_68 : decode cX8_isClosed 68 = .ok (.iinc 4 1, 3) := by decide +kernel
theorem dX8_isClosed_71 : decode cX8_isClosed 71 = .ok (.goto (-56), 3) := by decide +kernel
theorem dX8_isClosed_74 : decode cX8_isClosed 74 = .ok (.iload_n 3, 1) := by decide +kernel
theorem dX8_isClosed_75 : decode cX8_isClosed 75 = .ok (.ireturn, 1) := by decide +kernel
theorem dX8_holdOf_0 : decode cX8_holdOf 0 = .ok (.aload_n 0, 1) := by decide +kernel
theorem dX8_holdOf_1 : decode cX8_holdOf 1 = .ok (.iconst 4, 1) := by decide +kernel
theorem dX8_holdOf_2 : decode cX8_holdOf 2 = .ok (.invokevirtual 154, 3) := by decide +kernel
theorem dX8_holdOf_5 : decode cX8_holdOf 5 = .ok (.aload_n 0, 1) := by decide +kernel
theorem dX8_holdOf_6 : decode cX8_holdOf 6 = .ok (.bipush 31, 2) := by decide +kernel
theorem dX8_holdOf_8 : decode cX8_holdOf 8 = .ok (.invokevirtual 154, 3) := by decide +kernel
theorem dX8_holdOf_11 : decode cX8_holdOf 11 = .ok (.iconst 1, 1) := by decide +kernel
theorem dX8_holdOf_12 : decode cX8_holdOf 12 = .ok (.isub, 1) := by decide +kernel
theorem dX8_holdOf_13 : decode cX8_holdOf 13 = .ok (.iload_n 1, 1) := by decide +kernel
theorem dX8_holdOf_14 : decode cX8_holdOf 14 = .ok (.isub, 1) := by decide +kernel
theorem dX8_holdOf_15 : decode cX8_holdOf 15 = .ok (.imul, 1) := by decide +kernel
theorem dX8_holdOf_16 : decode cX8_holdOf 16 = .ok (.istore_n 2, 1) := by decide +kernel
theorem dX8_holdOf_17 : decode cX8_holdOf 17 = .ok (.aload_n 0, 1) := by decide +kernel
theorem dX8_holdOf_18 : decode cX8_holdOf 18 = .ok (.iconst 0, 1) := by decide +kernel
theorem dX8_holdOf_19 : decode cX8_holdOf 19 = .ok (.invokevirtual 154, 3) := by decide +kernel
theorem dX8_holdOf_22 : decode cX8_holdOf 22 = .ok (.iload_n 2, 1) := by decide +kernel
theorem dX8_holdOf_23 : decode cX8_holdOf 23 = .ok (.aload_n 0, 1) := by decide +kernel
theorem dX8_holdOf_24 : decode cX8_holdOf 24 = .ok (.iconst 2, 1) := by decide +kernel
theorem dX8_holdOf_25 : decode cX8_holdOf 25 = .ok (.invokevirtual 154, 3) := by decide +kernel
theorem dX8_holdOf_28 : decode cX8_holdOf 28 = .ok (.imul, 1) := by decide +kernel
theorem dX8_holdOf_29 : decode cX8_holdOf 29 = .ok (.bipush 20, 2) := by decide +kernel
theorem dX8_holdOf_31 : decode cX8_holdOf 31 = .ok (.idiv, 1) := by decide +kernel
theorem dX8_holdOf_32 : decode cX8_holdOf 32 = .ok (.invokestatic 203, 3) := by decide +kernel
theorem dX8_holdOf_35 : decode cX8_holdOf 35 = .ok (.istore_n 3, 1) := by decide +kernel
theorem dX8_holdOf_36 : decode cX8_holdOf 36 = .ok (.aload_n 0, 1) := by decide +kernel
theorem dX8_holdOf_37 : decode cX8_holdOf 37 = .ok (.iconst 1, 1) := by decide +kernel
theorem dX8_holdOf_38 : decode cX8_holdOf 38 = .ok (.invokevirtual 154, 3) := by decide +kernel
theorem dX8_holdOf_41 : decode cX8_holdOf 41 = .ok (.iload_n 3, 1) := by decide +kernel
theorem dX8_holdOf_42 : decode cX8_holdOf 42 = .ok (.iadd, 1) := by decide +kernel
theorem dX8_holdOf_43 : decode cX8_holdOf 43 = .ok (.iconst 2, 1) := by decide +kernel
theorem dX8_holdOf_44 : decode cX8_holdOf 44 = .ok (.aload_n 0, 1) := by decide +kernel
theorem dX8_holdOf_45 : decode cX8_holdOf 45 = .ok (.iload_n 1, 1) := by decide +kernel
theorem dX8_holdOf_46 : decode cX8_holdOf 46 = .ok (.invokevirtual 206, 3) := by decide +kernel
theorem dX8_holdOf_49 : decode cX8_holdOf 49 = .ok (.imul, 1) := by decide +kernel
theorem dX8_holdOf_50 : decode cX8_holdOf 50 = .ok (.iadd, 1) := by decide +kernel
theorem dX8_holdOf_51 : decode cX8_holdOf 51 = .ok (.aload_n 0, 1) := by decide +kernel
theorem dX8_holdOf_52 : decode cX8_holdOf 52 = .ok (.iload_n 1, 1) := by decide +kernel
theorem dX8_holdOf_53 : decode cX8_holdOf 53 = .ok (.invokevirtual 209, 3) := by decide +kernel
theorem dX8_holdOf_56 : decode cX8_holdOf 56 = .ok (.ifCond .eq 7, 3) := by decide +kernel
theorem dX8_holdOf_59 : decode cX8_holdOf 59 = .ok (.iconst 3, 1) := by decide +kernel
theorem dX8_holdOf_60 : decode cX8_holdOf 60 = .ok (.goto 4, 3) := by decide +kernel
theorem dX8_holdOf_63 : decode cX8_holdOf 63 = .ok (.iconst 0, 1) := by decide +kernel
theorem dX8_holdOf_64 : decode cX8_holdOf 64 = .ok (.iadd, 1) := by decide +kernel
theorem dX8_holdOf_65 : decode cX8_holdOf 65 = .ok (.aload_n 0, 1) := by decide +kernel
theorem dX8_holdOf_66 : decode cX8_holdOf 66 = .ok (.iconst 5, 1) := by decide +kernel
theorem dX8_holdOf_67 : decode cX8_holdOf 67 = .ok (.invokevirtual 154, 3) := by decide +kernel
theorem dX8_holdOf_70 : decode cX8_holdOf 70 = .ok (.iconst 2, 1) := by decide +kernel
theorem dX8_holdOf_71 : decode cX8_holdOf 71 = .ok (.if_icmp .ne 19, 3) := by decide +kernel
theorem dX8_holdOf_74 : decode cX8_holdOf 74 = .ok (.iload_n 1, 1) := by decide +kernel
theorem dX8_holdOf_75 : decode cX8_holdOf 75 = .ok (.aload_n 0, 1) := by decide +kernel
theorem dX8_holdOf_76 : decode cX8_holdOf 76 = .ok (.bipush 31, 2) := by decide +kernel
theorem dX8_holdOf_78 : decode cX8_holdOf 78 = .ok (.invokevirtual 154, 3) := by decide +kernel
theorem dX8_holdOf_81 : decode cX8_holdOf 81 = .ok (.iconst 1, 1) := by decide +kernel
theorem dX8_holdOf_82 : decode cX8_holdOf 82 = .ok (.isub, 1) := by decide +kernel
theorem dX8_holdOf_83 : decode cX8_holdOf 83 = .ok (.if_icmp .eq 7, 3) := by decide +kernel
theorem dX8_holdOf_86 : decode cX8_holdOf 86 = .ok (.iconst 1, 1) := by decide +kernel
theorem dX8_holdOf_87 : decode cX8_holdOf 87 = .ok (.goto 4, 3) := by decide +kernel
theorem dX8_holdOf_90 : decode cX8_holdOf 90 = .ok (.iconst 0, 1) := by decide +kernel
theorem dX8_holdOf_91 : decode cX8_holdOf 91 = .ok (.iadd, 1) := by decide +kernel
theorem dX8_holdOf_92 : decode cX8_holdOf 92 = .ok (.ireturn, 1) := by decide +kernel
theorem dX8_above_0 : decode cX8_above 0 = .ok (.aload_n 0, 1) := by decide +kernel
theorem dX8_above_1 : decode cX8_above 1 = .ok (.iload_n 1, 1) := by decide +kernel
theorem dX8_above_2 : decode cX8_above 2 = .ok (.invokevirtual 191, 3) := by decide +kernel
theorem dX8_above_5 : decode cX8_above 5 = .ok (.iconst 1, 1) := by decide +kernel
theorem dX8_above_6 : decode cX8_above 6 = .ok (.iadd, 1) := by decide +kernel
theorem dX8_above_7 : decode cX8_above 7 = .ok (.istore_n 2, 1) := by decide +kernel
theorem dX8_above_8 : decode cX8_above 8 = .ok (.iconst 0, 1) := by decide +kernel
theorem dX8_above_9 : decode cX8_above 9 = .ok (.istore_n 3, 1) := by decide +kernel
theorem dX8_above_10 : decode cX8_above 10 = .ok (.iload_n 2, 1) := by decide +kernel
theorem dX8_above_11 : decode cX8_above 11 = .ok (.aload_n 0, 1) := by decide +kernel
theorem dX8_above_12 : decode cX8_above 12 = .ok (.bipush 6, 2) := by decide +kernel
theorem dX8_above_14 : decode cX8_above 14 = .ok (.invokevirtual 154, 3) := by decide +kernel
theorem dX8_above_17 : decode cX8_above 17 = .ok (.if_icmp .ge 78, 3) := by decide +kernel
theorem dX8_above_20 : decode cX8_above 20 = .ok (.aload_n 0, 1) := by decide +kernel
theorem dX8_above_21 : decode cX8_above 21 = .ok (.iload_n 2, 1) := by decide +kernel
theorem dX8_above_22 : decode cX8_above 22 = .ok (.invokevirtual 160, 3) := by decide +kernel
theorem dX8_above_25 : decode cX8_above 25 = .ok (.istore 4, 2) := by decide +kernel
theorem dX8_above_27 : decode cX8_above 27 = .ok (.iload 4, 2) := by decide +kernel
theorem dX8_above_29 : decode cX8_above 29 = .ok (.aload_n 0, 1) := by decide +kernel
theorem dX8_above_30 : decode cX8_above 30 = .ok (.iload_n 2, 1) := by decide +kernel
theorem dX8_above_31 : decode cX8_above 31 = .ok (.invokevirtual 160, 3) := by decide +kernel
theorem dX8_above_34 : decode cX8_above 34 = .ok (.aload_n 0, 1) := by decide +kernel
theorem dX8_above_35 : decode cX8_above 35 = .ok (.iload_n 2, 1) := by decide +kernel
theorem dX8_above_36 : decode cX8_above 36 = .ok (.invokevirtual 157, 3) := by decide +kernel
theorem dX8_above_39 : decode cX8_above 39 = .ok (.iadd, 1) := by decide +kernel
theorem dX8_above_40 : decode cX8_above 40 = .ok (.if_icmp .ge 55, 3) := by decide +kernel
theorem dX8_above_43 : decode cX8_above 43 = .ok (.iload_n 3, 1) := by decide +kernel
theorem dX8_above_44 : decode cX8_above 44 = .ok (.aload_n 0, 1) := by decide +kernel
theorem dX8_above_45 : decode cX8_above 45 = .ok (.iload 4, 2) := by decide +kernel
theorem dX8_above_47 : decode cX8_above 47 = .ok (.invokevirtual 182, 3) := by decide +kernel
theorem dX8_above_50 : decode cX8_above 50 = .ok (.ifCond .eq 36, 3) := by decide +kernel
theorem dX8_above_53 : decode cX8_above 53 = .ok (.aload_n 0, 1) := by decide +kernel
theorem dX8_above_54 : decode cX8_above 54 = .ok (.iload 4, 2) := by decide +kernel
theorem dX8_above_56 : decode cX8_above 56 = .ok (.invokevirtual 185, 3) := by decide +kernel
theorem dX8_above_59 : decode cX8_above 59 = .ok (.ifCond .ne 27, 3) := by decide +kernel
theorem dX8_above_62 : decode cX8_above 62 = .ok (.aload_n 0, 1) := by decide +kernel
theorem dX8_above_63 : decode cX8_above 63 = .ok (.iload 4, 2) := by decide +kernel
theorem dX8_above_65 : decode cX8_above 65 = .ok (.invokevirtual 194, 3) := by decide +kernel
theorem dX8_above_68 : decode cX8_above 68 = .ok (.iload_n 1, 1) := by decide +kernel
theorem dX8_above_69 : decode cX8_above 69 = .ok (.if_icmp .eq 13, 3) := by decide +kernel
theorem dX8_above_72 : decode cX8_above 72 = .ok (.aload_n 0, 1) := by decide +kernel
theorem dX8_above_73 : decode cX8_above 73 = .ok (.iload 4, 2) := by decide +kernel
theorem dX8_above_75 : decode cX8_above 75 = .ok (.invokevirtual 212, 3) := by decide +kernel
theorem dX8_above_78 : decode cX8_above 78 = .ok (.iload_n 1, 1) := by decide +kernel
theorem dX8_above_79 : decode cX8_above 79 = .ok (.if_icmp .ne 7, 3) := by decide +kernel
theorem dX8_above_82 : decode cX8_above 82 = .ok (.iconst 1, 1) := by decide +kernel
theorem dX8_above_83 : decode cX8_above 83 = .ok (.goto 4, 3) := by decide +kernel
theorem dX8_above_86 : decode cX8_above 86 = .ok (.iconst 0, 1) := by decide +kernel
theorem dX8_above_87 : decode cX8_above 87 = .ok (.iadd, 1) := by decide +kernel
theorem dX8_above_88 : decode cX8_above 88 = .ok (.istore_n 3, 1) := by decide +kernel
theorem dX8_above_89 : decode cX8_above 89 = .ok (.iinc 4 1, 3) := by decide +kernel
theorem dX8_above_92 : decode cX8_above 92 = .ok (.goto (-65), 3) := by decide +kernel
theorem dX8_above_95 : decode cX8_above 95 = .ok (.iload_n 3, 1) := by decide +kernel
theorem dX8_above_96 : decode cX8_above 96 = .ok (.ireturn, 1) := by decide +kernel
theorem dX8_pullOf_0 : decode cX8_pullOf 0 = .ok (.aload_n 0, 1) := by decide +kernel
theorem dX8_pullOf_1 : decode cX8_pullOf 1 = .ok (.aload_n 0, 1) := by decide +kernel
theorem dX8_pullOf_2 : decode cX8_pullOf 2 = .ok (.iload_n 1, 1) := by decide +kernel
theorem dX8_pullOf_3 : decode cX8_pullOf 3 = .ok (.invokevirtual 191, 3) := by decide +kernel
theorem dX8_pullOf_6 : decode cX8_pullOf 6 = .ok (.invokevirtual 215, 3) := by decide +kernel
theorem dX8_pullOf_9 : decode cX8_pullOf 9 = .ok (.aload_n 0, 1) := by decide +kernel
theorem dX8_pullOf_10 : decode cX8_pullOf 10 = .ok (.iconst 3, 1) := by decide +kernel
theorem dX8_pullOf_11 : decode cX8_pullOf 11 = .ok (.invokevirtual 154, 3) := by decide +kernel
theorem dX8_pullOf_14 : decode cX8_pullOf 14 = .ok (.imul, 1) := by decide +kernel
theorem dX8_pullOf_15 : decode cX8_pullOf 15 = .ok (.iconst 2, 1) := by decide +kernel
theorem dX8_pullOf_16 : decode cX8_pullOf 16 = .ok (.idiv, 1) := by decide +kernel
theorem dX8_pullOf_17 : decode cX8_pullOf 17 = .ok (.aload_n 0, 1) := by decide +kernel
theorem dX8_pullOf_18 : decode cX8_pullOf 18 = .ok (.iload_n 1, 1) := by decide +kernel
theorem dX8_pullOf_19 : decode cX8_pullOf 19 = .ok (.invokevirtual 218, 3) := by decide +kernel
theorem dX8_pullOf_22 : decode cX8_pullOf 22 = .ok (.iadd, 1) := by decide +kernel
theorem dX8_pullOf_23 : decode cX8_pullOf 23 = .ok (.istore_n 2, 1) := by decide +kernel
theorem dX8_pullOf_24 : decode cX8_pullOf 24 = .ok (.aload_n 0, 1) := by decide +kernel
theorem dX8_pullOf_25 : decode cX8_pullOf 25 = .ok (.iload_n 1, 1) := by decide +kernel
theorem dX8_pullOf_26 : decode cX8_pullOf 26 = .ok (.invokevirtual 194, 3) := by decide +kernel
theorem dX8_pullOf_29 : decode cX8_pullOf 29 = .ok (.bipush (-9), 2) := by decide +kernel
theorem dX8_pullOf_31 : decode cX8_pullOf 31 = .ok (.if_icmp .eq 56, 3) := by decide +kernel
theorem dX8_pullOf_34 : decode cX8_pullOf 34 = .ok (.iload_n 2, 1) := by decide +kernel
theorem dX8_pullOf_35 : decode cX8_pullOf 35 = .ok (.aload_n 0, 1) := by decide +kernel
theorem dX8_pullOf_36 : decode cX8_pullOf 36 = .ok (.aload_n 0, 1) := by decide +kernel
theorem dX8_pullOf_37 : decode cX8_pullOf 37 = .ok (.iload_n 1, 1) := by decide +kernel
theorem dX8_pullOf_38 : decode cX8_pullOf 38 = .ok (.invokevirtual 194, 3) := by decide +kernel
theorem dX8_pullOf_41 : decode cX8_pullOf 41 = .ok (.invokevirtual 188, 3) := by decide +kernel
theorem dX8_pullOf_44 : decode cX8_pullOf 44 = .ok (.ifCond .eq 7, 3) := by decide +kernel
theorem dX8_pullOf_47 : decode cX8_pullOf 47 = .ok (.iconst 2, 1) := by decide +kernel
theorem dX8_pullOf_48 : decode cX8_pullOf 48 = .ok (.goto 4, 3) := by decide +kernel
theorem dX8_pullOf_51 : decode cX8_pullOf 51 = .ok (.iconst 0, 1) := by decide +kernel
theorem dX8_pullOf_52 : decode cX8_pullOf 52 = .ok (.iadd, 1) := by decide +kernel
theorem dX8_pullOf_53 : decode cX8_pullOf 53 = .ok (.istore_n 2, 1) := by decide +kernel
theorem dX8_pullOf_54 : decode cX8_pullOf 54 = .ok (.iload_n 2, 1) := by decide +kernel
theorem dX8_pullOf_55 : decode cX8_pullOf 55 = .ok (.aload_n 0, 1) := by decide +kernel
theorem dX8_pullOf_56 : decode cX8_pullOf 56 = .ok (.iload_n 1, 1) := by decide +kernel
theorem dX8_pullOf_57 : decode cX8_pullOf 57 = .ok (.invokevirtual 212, 3) := by decide +kernel
theorem dX8_pullOf_60 : decode cX8_pullOf 60 = .ok (.aload_n 0, 1) := by decide +kernel
theorem dX8_pullOf_61 : decode cX8_pullOf 61 = .ok (.iload_n 1, 1) := by decide +kernel
theorem dX8_pullOf_62 : decode cX8_pullOf 62 = .ok (.invokevirtual 194, 3) := by decide +kernel
theorem dX8_pullOf_65 : decode cX8_pullOf 65 = .ok (.if_icmp .eq 19, 3) := by decide +kernel
theorem dX8_pullOf_68 : decode cX8_pullOf 68 = .ok (.aload_n 0, 1) := by decide +kernel
theorem dX8_pullOf_69 : decode cX8_pullOf 69 = .ok (.aload_n 0, 1) := by decide +kernel
theorem dX8_pullOf_70 : decode cX8_pullOf 70 = .ok (.iload_n 1, 1) := by decide +kernel
theorem dX8_pullOf_71 : decode cX8_pullOf 71 = .ok (.invokevirtual 212, 3) := by decide +kernel
theorem dX8_pullOf_74 : decode cX8_pullOf 74 = .ok (.invokevirtual 188, 3) := by decide +kernel
theorem dX8_pullOf_77 : decode cX8_pullOf 77 = .ok (.ifCond .eq 7, 3) := by decide +kernel
theorem dX8_pullOf_80 : decode cX8_pullOf 80 = .ok (.iconst 2, 1) := by decide +kernel
theorem dX8_pullOf_81 : decode cX8_pullOf 81 = .ok (.goto 4, 3) := by decide +kernel
theorem dX8_pullOf_84 : decode cX8_pullOf 84 = .ok (.iconst 0, 1) := by decide +kernel
theorem dX8_pullOf_85 : decode cX8_pullOf 85 = .ok (.iadd, 1) := by decide +kernel
theorem dX8_pullOf_86 : decode cX8_pullOf 86 = .ok (.istore_n 2, 1) := by decide +kernel
theorem dX8_pullOf_87 : decode cX8_pullOf 87 = .ok (.iload_n 2, 1) := by decide +kernel
theorem dX8_pullOf_88 : decode cX8_pullOf 88 = .ok (.ireturn, 1) := by decide +kernel
theorem dX8_slumpsNow_0 : decode cX8_slumpsNow 0 = .ok (.aload_n 0, 1) := by decide +kernel
theorem dX8_slumpsNow_1 : decode cX8_slumpsNow 1 = .ok (.iload_n 1, 1) := by decide +kernel
theorem dX8_slumpsNow_2 : decode cX8_slumpsNow 2 = .ok (.invokevirtual 221, 3) := by decide +kernel
theorem dX8_slumpsNow_5 : decode cX8_slumpsNow 5 = .ok (.aload_n 0, 1) := by decide +kernel
theorem dX8_slumpsNow_6 : decode cX8_slumpsNow 6 = .ok (.iload_n 1, 1) := by decide +kernel
theorem dX8_slumpsNow_7 : decode cX8_slumpsNow 7 = .ok (.invokevirtual 224, 3) := by decide +kernel
theorem dX8_slumpsNow_10 : decode cX8_slumpsNow 10 = .ok (.if_icmp .gt 37, 3) := by decide +kernel
theorem dX8_slumpsNow_13 : decode cX8_slumpsNow 13 = .ok (.aload_n 0, 1) := by decide +kernel
theorem dX8_slumpsNow_14 : decode cX8_slumpsNow 14 = .ok (.iload_n 1, 1) := by decide +kernel
theorem dX8_slumpsNow_15 : decode cX8_slumpsNow 15 = .ok (.invokevirtual 194, 3) := by decide +kernel
theorem dX8_slumpsNow_18 : decode cX8_slumpsNow 18 = .ok (.bipush (-9), 2) := by decide +kernel
theorem dX8_slumpsNow_20 : decode cX8_slumpsNow 20 = .ok (.if_icmp .eq 31, 3) := by decide +kernel
theorem dX8_slumpsNow_23 : decode cX8_slumpsNow 23 = .ok (.aload_n 0, 1) := by decide +kernel
theorem dX8_slumpsNow_24 : decode cX8_slumpsNow 24 = .ok (.aload_n 0, 1) := by decide +kernel
theorem dX8_slumpsNow_25 : decode cX8_slumpsNow 25 = .ok (.iload_n 1, 1) := by decide +kernel
theorem dX8_slumpsNow_26 : decode cX8_slumpsNow 26 = .ok (.invokevirtual 194, 3) := by decide +kernel
theorem dX8_slumpsNow_29 : decode cX8_slumpsNow 29 = .ok (.invokevirtual 185, 3) := by decide +kernel
theorem dX8_slumpsNow_32 : decode cX8_slumpsNow 32 = .ok (.ifCond .ne 15, 3) := by decide +kernel
theorem dX8_slumpsNow_35 : decode cX8_slumpsNow 35 = .ok (.aload_n 0, 1) := by decide +kernel
theorem dX8_slumpsNow_36 : decode cX8_slumpsNow 36 = .ok (.aload_n 0, 1) := by decide +kernel
theorem dX8_slumpsNow_37 : decode cX8_slumpsNow 37 = .ok (.iload_n 1, 1) := by decide +kernel
theorem dX8_slumpsNow_38 : decode cX8_slumpsNow 38 = .ok (.invokevirtual 212, 3) := by decide +kernel
theorem dX8_slumpsNow_41 : decode cX8_slumpsNow 41 = .ok (.invokevirtual 185, 3) := by decide +kernel
theorem dX8_slumpsNow_44 : decode cX8_slumpsNow 44 = .ok (.ifCond .eq 7, 3) := by decide +kernel
theorem dX8_slumpsNow_47 : decode cX8_slumpsNow 47 = .ok (.iconst 1, 1) := by decide +kernel
theorem dX8_slumpsNow_48 : decode cX8_slumpsNow 48 = .ok (.goto 4, 3) := by decide +kernel
theorem dX8_slumpsNow_51 : decode cX8_slumpsNow 51 = .ok (.iconst 0, 1) := by decide +kernel
theorem dX8_slumpsNow_52 : decode cX8_slumpsNow 52 = .ok (.ireturn, 1) := by decide +kernel
theorem dX8_settles_0 : decode cX8_settles 0 = .ok (.iconst 1, 1) := by decide +kernel
theorem dX8_settles_1 : decode cX8_settles 1 = .ok (.istore_n 1, 1) := by decide +kernel
theorem dX8_settles_2 : decode cX8_settles 2 = .ok (.iload_n 1, 1) := by decide +kernel
theorem dX8_settles_3 : decode cX8_settles 3 = .ok (.ifCond .eq 60, 3) := by decide +kernel
theorem dX8_settles_6 : decode cX8_settles 6 = .ok (.iconst 0, 1) := by decide +kernel
theorem dX8_settles_7 : decode cX8_settles 7 = .ok (.istore_n 1, 1) := by decide +kernel
theorem dX8_settles_8 : decode cX8_settles 8 = .ok (.iconst 0, 1) := by decide +kernel
theorem dX8_settles_9 : decode cX8_settles 9 = .ok (.istore_n 2, 1) := by decide +kernel
theorem dX8_settles_10 : decode cX8_settles 10 = .ok (.iload_n 2, 1) := by decide +kernel
theorem dX8_settles_11 : decode cX8_settles 11 = .ok (.aload_n 0, 1) := by decide +kernel
theorem dX8_settles_12 : decode cX8_settles 12 = .ok (.bipush 31, 2) := by decide +kernel
theorem dX8_settles_14 : decode cX8_settles 14 = .ok (.invokevirtual 154, 3) := by decide +kernel
theorem dX8_settles_17 : decode cX8_settles 17 = .ok (.if_icmp .ge 43, 3) := by decide +kernel
theorem dX8_settles_20 : decode cX8_settles 20 = .ok (.aload_n 0, 1) := by decide +kernel
theorem dX8_settles_21 : decode cX8_settles 21 = .ok (.iload_n 2, 1) := by decide +kernel
theorem dX8_settles_22 : decode cX8_settles 22 = .ok (.invokevirtual 200, 3) := by decide +kernel
theorem dX8_settles_25 : decode cX8_settles 25 = .ok (.ifCond .eq 29, 3) := by decide +kernel
theorem dX8_settles_28 : decode cX8_settles 28 = .ok (.aload_n 0, 1) := by decide +kernel
theorem dX8_settles_29 : decode cX8_settles 29 = .ok (.iload_n 2, 1) := by decide +kernel
theorem dX8_settles_30 : decode cX8_settles 30 = .ok (.invokevirtual 227, 3) := by decide +kernel
theorem dX8_settles_33 : decode cX8_settles 33 = .ok (.ifCond .eq 21, 3) := by decide +kernel
theorem dX8_settles_36 : decode cX8_settles 36 = .ok (.aload_n 0, 1) := by decide +kernel
theorem dX8_settles_37 : decode cX8_settles 37 = .ok (.bipush 32, 2) := by decide +kernel
theorem dX8_settles_39 : decode cX8_settles 39 = .ok (.iload_n 2, 1) := by decide +kernel
theorem dX8_settles_40 : decode cX8_settles 40 = .ok (.iadd, 1) := by decide +kernel
theorem dX8_settles_41 : decode cX8_settles 41 = .ok (.aload_n 0, 1) := by decide +kernel
theorem dX8_settles_42 : decode cX8_settles 42 = .ok (.bipush 31, 2) := by decide +kernel
theorem dX8_settles_44 : decode cX8_settles 44 = .ok (.invokevirtual 154, 3) := by decide +kernel
theorem dX8_settles_47 : decode cX8_settles 47 = .ok (.iconst 1, 1) := by decide +kernel
theorem dX8_settles_48 : decode cX8_settles 48 = .ok (.isub, 1) := by decide +kernel
theorem dX8_settles_49 : decode cX8_settles 49 = .ok (.invokevirtual 163, 3) := by decide +kernel
theorem dX8_settles_52 : decode cX8_settles 52 = .ok (.iconst 1, 1) := by decide +kernel
theorem dX8_settles_53 : decode cX8_settles 53 = .ok (.istore_n 1, 1) := by decide +kernel
theorem dX8_settles_54 : decode cX8_settles 54 = .ok (.iinc 2 1, 3) := by decide +kernel
theorem dX8_settles_57 : decode cX8_settles 57 = .ok (.goto (-47), 3) := by decide +kernel
theorem dX8_settles_60 : decode cX8_settles 60 = .ok (.goto (-58), 3) := by decide +kernel
theorem dX8_settles_63 : decode cX8_settles 63 = .ok (.return_, 1) := by decide +kernel
theorem dX8_lays_0 : decode cX8_lays 0 = .ok (.iconst 0, 1) := by decide +kernel
theorem dX8_lays_1 : decode cX8_lays 1 = .ok (.istore_n 2, 1) := by decide +kernel
theorem dX8_lays_2 : decode cX8_lays 2 = .ok (.iload_n 2, 1) := by decide +kernel
theorem dX8_lays_3 : decode cX8_lays 3 = .ok (.iload_n 1, 1) := by decide +kernel
theorem dX8_lays_4 : decode cX8_lays 4 = .ok (.if_icmp .ge 27, 3) := by decide +kernel
theorem dX8_lays_7 : decode cX8_lays 7 = .ok (.aload_n 0, 1) := by decide +kernel
theorem dX8_lays_8 : decode cX8_lays 8 = .ok (.bipush 31, 2) := by decide +kernel
theorem dX8_lays_10 : decode cX8_lays 10 = .ok (.aload_n 0, 1) := by decide +kernel
theorem dX8_lays_11 : decode cX8_lays 11 = .ok (.bipush 31, 2) := by decide +kernel
theorem dX8_lays_13 : decode cX8_lays 13 = .ok (.invokevirtual 154, 3) := by decide +kernel
theorem dX8_lays_16 : decode cX8_lays 16 = .ok (.iconst 1, 1) := by decide +kernel
theorem dX8_lays_17 : decode cX8_lays 17 = .ok (.iadd, 1) := by decide +kernel
theorem dX8_lays_18 : decode cX8_lays 18 = .ok (.invokevirtual 163, 3) := by decide +kernel
theorem dX8_lays_21 : decode cX8_lays 21 = .ok (.aload_n 0, 1) := by decide +kernel
theorem dX8_lays_22 : decode cX8_lays 22 = .ok (.invokevirtual 230, 3) := by decide +kernel
theorem dX8_lays_25 : decode cX8_lays 25 = .ok (.iinc 2 1, 3) := by decide +kernel
theorem dX8_lays_28 : decode cX8_lays 28 = .ok (.goto (-26), 3) := by decide +kernel
theorem dX8_lays_31 : decode cX8_lays 31 = .ok (.return_, 1) := by decide +kernel
theorem dX8_go_0 : decode cX8_go 0 = .ok (.iload_n 1, 1) := by decide +kernel
theorem dX8_go_1 : decode cX8_go 1 = .ok (.iconst 0, 1) := by decide +kernel
theorem dX8_go_2 : decode cX8_go 2 = .ok (.bipush 60, 2) := by decide +kernel
theorem dX8_go_4 : decode cX8_go 4 = .ok (.invokestatic 71, 3) := by decide +kernel
theorem dX8_go_7 : decode cX8_go 7 = .ok (.ifCond .ne 5, 3) := by decide +kernel
theorem dX8_go_10 : decode cX8_go 10 = .ok (.iconst (-1), 1) := by decide +kernel
theorem dX8_go_11 : decode cX8_go 11 = .ok (.ireturn, 1) := by decide +kernel
theorem dX8_go_12 : decode cX8_go 12 = .ok (.aload_n 0, 1) := by decide +kernel
theorem dX8_go_13 : decode cX8_go 13 = .ok (.getfield 48, 3) := by decide +kernel
theorem dX8_go_16 : decode cX8_go 16 = .ok (.iconst 0, 1) := by decide +kernel
theorem dX8_go_17 : decode cX8_go 17 = .ok (.baload, 1) := by decide +kernel
theorem dX8_go_18 : decode cX8_go 18 = .ok (.ifCond .ne 6, 3) := by decide +kernel
theorem dX8_go_21 : decode cX8_go 21 = .ok (.bipush (-4), 2) := by decide +kernel
theorem dX8_go_23 : decode cX8_go 23 = .ok (.ireturn, 1) := by decide +kernel
theorem dX8_go_24 : decode cX8_go 24 = .ok (.aload_n 0, 1) := by decide +kernel
theorem dX8_go_25 : decode cX8_go 25 = .ok (.iconst 0, 1) := by decide +kernel
theorem dX8_go_26 : decode cX8_go 26 = .ok (.invokevirtual 167, 3) := by decide +kernel
theorem dX8_go_29 : decode cX8_go 29 = .ok (.aload_n 0, 1) := by decide +kernel
theorem dX8_go_30 : decode cX8_go 30 = .ok (.bipush 31, 2) := by decide +kernel
theorem dX8_go_32 : decode cX8_go 32 = .ok (.invokevirtual 154, 3) := by decide +kernel
theorem dX8_go_35 : decode cX8_go 35 = .ok (.iload_n 1, 1) := by decide +kernel
theorem dX8_go_36 : decode cX8_go 36 = .ok (.iadd, 1) := by decide +kernel
theorem dX8_go_37 : decode cX8_go 37 = .ok (.aload_n 0, 1) := by decide +kernel
theorem dX8_go_38 : decode cX8_go 38 = .ok (.invokevirtual 178, 3) := by decide +kernel
theorem dX8_go_41 : decode cX8_go 41 = .ok (.if_icmp .le 6, 3) := by decide +kernel
theorem dX8_go_44 : decode cX8_go 44 = .ok (.bipush (-6), 2) := by decide +kernel
theorem dX8_go_46 : decode cX8_go 46 = .ok (.ireturn, 1) := by decide +kernel
theorem dX8_go_47 : decode cX8_go 47 = .ok (.aload_n 0, 1) := by decide +kernel
theorem dX8_go_48 : decode cX8_go 48 = .ok (.iload_n 1, 1) := by decide +kernel
theorem dX8_go_49 : decode cX8_go 49 = .ok (.invokevirtual 233, 3) := by decide +kernel
theorem dX8_go_52 : decode cX8_go 52 = .ok (.aload_n 0, 1) := by decide +kernel
theorem dX8_go_53 : decode cX8_go 53 = .ok (.bipush 31, 2) := by decide +kernel
theorem dX8_go_55 : decode cX8_go 55 = .ok (.invokevirtual 154, 3) := by decide +kernel
theorem dX8_go_58 : decode cX8_go 58 = .ok (.ireturn, 1) := by decide +kernel
theorem dX8_kindWas_0 : decode cX8_kindWas 0 = .ok (.aload_n 0, 1) := by decide +kernel
theorem dX8_kindWas_1 : decode cX8_kindWas 1 = .ok (.iload_n 1, 1) := by decide +kernel
theorem dX8_kindWas_2 : decode cX8_kindWas 2 = .ok (.invokevirtual 191, 3) := by decide +kernel
theorem dX8_kindWas_5 : decode cX8_kindWas 5 = .ok (.istore_n 2, 1) := by decide +kernel
theorem dX8_kindWas_6 : decode cX8_kindWas 6 = .ok (.iload_n 2, 1) := by decide +kernel
theorem dX8_kindWas_7 : decode cX8_kindWas 7 = .ok (.ifCond .ne 5, 3) := by decide +kernel
theorem dX8_kindWas_10 : decode cX8_kindWas 10 = .ok (.iconst 1, 1) := by decide +kernel
theorem dX8_kindWas_11 : decode cX8_kindWas 11 = .ok (.ireturn, 1) := by decide +kernel
theorem dX8_kindWas_12 : decode cX8_kindWas 12 = .ok (.aload_n 0, 1) := by decide +kernel
theorem dX8_kindWas_13 : decode cX8_kindWas 13 = .ok (.iload_n 2, 1) := by decide +kernel
theorem dX8_kindWas_14 : decode cX8_kindWas 14 = .ok (.invokevirtual 197, 3) := by decide +kernel
theorem dX8_kindWas_17 : decode cX8_kindWas 17 = .ok (.iconst 2, 1) := by decide +kernel
theorem dX8_kindWas_18 : decode cX8_kindWas 18 = .ok (.if_icmp .ne 7, 3) := by decide +kernel
theorem dX8_kindWas_21 : decode cX8_kindWas 21 = .ok (.iconst 2, 1) := by decide +kernel
theorem dX8_kindWas_22 : decode cX8_kindWas 22 = .ok (.goto 27, 3) := by decide +kernel
theorem dX8_kindWas_25 : decode cX8_kindWas 25 = .ok (.iload_n 1, 1) := by decide +kernel
theorem dX8_kindWas_26 : decode cX8_kindWas 26 = .ok (.aload_n 0, 1) := by decide +kernel
theorem dX8_kindWas_27 : decode cX8_kindWas 27 = .ok (.invokevirtual 178, 3) := by decide +kernel
theorem dX8_kindWas_30 : decode cX8_kindWas 30 = .ok (.iconst 1, 1) := by decide +kernel
theorem dX8_kindWas_31 : decode cX8_kindWas 31 = .ok (.isub, 1) := by decide +kernel
theorem dX8_kindWas_32 : decode cX8_kindWas 32 = .ok (.if_icmp .ne 16, 3) := by decide +kernel
theorem dX8_kindWas_35 : decode cX8_kindWas 35 = .ok (.aload_n 0, 1) := by decide +kernel
theorem dX8_kindWas_36 : decode cX8_kindWas 36 = .ok (.iload_n 2, 1) := by decide +kernel
theorem dX8_kindWas_37 : decode cX8_kindWas 37 = .ok (.invokevirtual 157, 3) := by decide +kernel
theorem dX8_kindWas_40 : decode cX8_kindWas 40 = .ok (.iconst 1, 1) := by decide +kernel
theorem dX8_kindWas_41 : decode cX8_kindWas 41 = .ok (.if_icmp .ne 7, 3) := by decide +kernel
theorem dX8_kindWas_44 : decode cX8_kindWas 44 = .ok (.iconst 4, 1) := by decide +kernel
theorem dX8_kindWas_45 : decode cX8_kindWas 45 = .ok (.goto 4, 3) := by decide +kernel
theorem dX8_kindWas_48 : decode cX8_kindWas 48 = .ok (.iconst 3, 1) := by decide +kernel
theorem dX8_kindWas_49 : decode cX8_kindWas 49 = .ok (.ireturn, 1) := by decide +kernel
theorem dX8_kind_0 : decode cX8_kind 0 = .ok (.aload_n 0, 1) := by decide +kernel
theorem dX8_kind_1 : decode cX8_kind 1 = .ok (.iload_n 1, 1) := by decide +kernel
theorem dX8_kind_2 : decode cX8_kind 2 = .ok (.invokevirtual 185, 3) := by decide +kernel
theorem dX8_kind_5 : decode cX8_kind 5 = .ok (.ifCond .eq 8, 3) := by decide +kernel
theorem dX8_kind_8 : decode cX8_kind 8 = .ok (.bipush 6, 2) := by decide +kernel
theorem dX8_kind_10 : decode cX8_kind 10 = .ok (.goto 20, 3) := by decide +kernel
theorem dX8_kind_13 : decode cX8_kind 13 = .ok (.aload_n 0, 1) := by decide +kernel
theorem dX8_kind_14 : decode cX8_kind 14 = .ok (.iload_n 1, 1) := by decide +kernel
theorem dX8_kind_15 : decode cX8_kind 15 = .ok (.invokevirtual 188, 3) := by decide +kernel
theorem dX8_kind_18 : decode cX8_kind 18 = .ok (.ifCond .eq 7, 3) := by decide +kernel
theorem dX8_kind_21 : decode cX8_kind 21 = .ok (.iconst 5, 1) := by decide +kernel
theorem dX8_kind_22 : decode cX8_kind 22 = .ok (.goto 8, 3) := by decide +kernel
theorem dX8_kind_25 : decode cX8_kind 25 = .ok (.aload_n 0, 1) := by decide +kernel
theorem dX8_kind_26 : decode cX8_kind 26 = .ok (.iload_n 1, 1) := by decide +kernel
theorem dX8_kind_27 : decode cX8_kind 27 = .ok (.invokevirtual 236, 3) := by decide +kernel
theorem dX8_kind_30 : decode cX8_kind 30 = .ok (.ireturn, 1) := by decide +kernel
theorem dX8_isBlock_0 : decode cX8_isBlock 0 = .ok (.aload_n 0, 1) := by decide +kernel
theorem dX8_isBlock_1 : decode cX8_isBlock 1 = .ok (.iconst 0, 1) := by decide +kernel
theorem dX8_isBlock_2 : decode cX8_isBlock 2 = .ok (.invokevirtual 167, 3) := by decide +kernel
theorem dX8_isBlock_5 : decode cX8_isBlock 5 = .ok (.aload_n 0, 1) := by decide +kernel
theorem dX8_isBlock_6 : decode cX8_isBlock 6 = .ok (.getfield 48, 3) := by decide +kernel
theorem dX8_isBlock_9 : decode cX8_isBlock 9 = .ok (.iconst 0, 1) := by decide +kernel
theorem dX8_isBlock_10 : decode cX8_isBlock 10 = .ok (.baload, 1) := by decide +kernel
theorem dX8_isBlock_11 : decode cX8_isBlock 11 = .ok (.ifCond .eq 23, 3) := by decide +kernel
theorem dX8_isBlock_14 : decode cX8_isBlock 14 = .ok (.iload_n 1, 1) := by decide +kernel
theorem dX8_isBlock_15 : decode cX8_isBlock 15 = .ok (.iconst 0, 1) := by decide +kernel
theorem dX8_isBlock_16 : decode cX8_isBlock 16 = .ok (.aload_n 0, 1) := by decide +kernel
theorem dX8_isBlock_17 : decode cX8_isBlock 17 = .ok (.bipush 31, 2) := by decide +kernel
theorem dX8_isBlock_19 : decode cX8_isBlock 19 = .ok (.invokevirtual 154, 3) := by decide +kernel
theorem dX8_isBlock_22 : decode cX8_isBlock 22 = .ok (.iconst 1, 1) := by decide +kernel
theorem dX8_isBlock_23 : decode cX8_isBlock 23 = .ok (.isub, 1) := by decide +kernel
theorem dX8_isBlock_24 : decode cX8_isBlock 24 = .ok (.invokestatic 71, 3) := by decide +kernel
theorem dX8_isBlock_27 : decode cX8_isBlock 27 = .ok (.ifCond .eq 7, 3) := by decide +kernel
theorem dX8_isBlock_30 : decode cX8_isBlock 30 = .ok (.iconst 1, 1) := by decide +kernel
theorem dX8_isBlock_31 : decode cX8_isBlock 31 = .ok (.goto 4, 3) := by decide +kernel
theorem dX8_isBlock_34 : decode cX8_isBlock 34 = .ok (.iconst 0, 1) := by decide +kernel
theorem dX8_isBlock_35 : decode cX8_isBlock 35 = .ok (.ireturn, 1) := by decide +kernel
theorem dX8_blockTells_0 : decode cX8_blockTells 0 = .ok (.iload_n 2, 1) := by decide +kernel
theorem dX8_blockTells_1 : decode cX8_blockTells 1 = .ok (.tableswitch 61 0 3 #[31, 37, 43, 55], 31) := by decide +kernel
theorem dX8_blockTells_32 : decode cX8_blockTells 32 = .ok (.aload_n 0, 1) := by decide +kernel
theorem dX8_blockTells_33 : decode cX8_blockTells 33 = .ok (.iload_n 1, 1) := by decide +kernel
theorem dX8_blockTells_34 : decode cX8_blockTells 34 = .ok (.invokevirtual 239, 3) := by decide +kernel
theorem dX8_blockTells_37 : decode cX8_blockTells 37 = .ok (.ireturn, 1) := by decide +kernel
theorem dX8_blockTells_38 : decode cX8_blockTells 38 = .ok (.aload_n 0, 1) := by decide +kernel
theorem dX8_blockTells_39 : decode cX8_blockTells 39 = .ok (.iload_n 1, 1) := by decide +kernel
theorem dX8_blockTells_40 : decode cX8_blockTells 40 = .ok (.invokevirtual 191, 3) := by decide +kernel
theorem dX8_blockTells_43 : decode cX8_blockTells 43 = .ok (.ireturn, 1) := by decide +kernel
theorem dX8_blockTells_44 : decode cX8_blockTells 44 = .ok (.iload_n 1, 1) := by decide +kernel
theorem dX8_blockTells_45 : decode cX8_blockTells 45 = .ok (.aload_n 0, 1) := by decide +kernel
theorem dX8_blockTells_46 : decode cX8_blockTells 46 = .ok (.aload_n 0, 1) := by decide +kernel
theorem dX8_blockTells_47 : decode cX8_blockTells 47 = .ok (.iload_n 1, 1) := by decide +kernel
theorem dX8_blockTells_48 : decode cX8_blockTells 48 = .ok (.invokevirtual 191, 3) := by decide +kernel
theorem dX8_blockTells_51 : decode cX8_blockTells 51 = .ok (.invokevirtual 160, 3) := by decide +kernel
theorem dX8_blockTells_54 : decode cX8_blockTells 54 = .ok (.isub, 1) := by decide +kernel
theorem dX8_blockTells_55 : decode cX8_blockTells 55 = .ok (.ireturn, 1) := by decide +kernel
theorem dX8_blockTells_56 : decode cX8_blockTells 56 = .ok (.aload_n 0, 1) := by decide +kernel
theorem dX8_blockTells_57 : decode cX8_blockTells 57 = .ok (.iload_n 1, 1) := by decide +kernel
theorem dX8_blockTells_58 : decode cX8_blockTells 58 = .ok (.invokevirtual 194, 3) := by decide +kernel
theorem dX8_blockTells_61 : decode cX8_blockTells 61 = .ok (.ireturn, 1) := by decide +kernel
theorem dX8_blockTells_62 : decode cX8_blockTells 62 = .ok (.aload_n 0, 1) := by decide +kernel
theorem dX8_blockTells_63 : decode cX8_blockTells 63 = .ok (.bipush 32, 2) := by decide +kernel
theorem dX8_blockTells_65 : decode cX8_blockTells 65 = .ok (.iload_n 1, 1) := by decide +kernel
theorem dX8_blockTells_66 : decode cX8_blockTells 66 = .ok (.iadd, 1) := by decide +kernel
theorem dX8_blockTells_67 : decode cX8_blockTells 67 = .ok (.invokevirtual 154, 3) := by decide +kernel
theorem dX8_blockTells_70 : decode cX8_blockTells 70 = .ok (.ireturn, 1) := by decide +kernel
theorem dX8_block_0 : decode cX8_block 0 = .ok (.aload_n 0, 1) := by decide +kernel
theorem dX8_block_1 : decode cX8_block 1 = .ok (.iload_n 1, 1) := by decide +kernel
theorem dX8_block_2 : decode cX8_block 2 = .ok (.invokevirtual 242, 3) := by decide +kernel
theorem dX8_block_5 : decode cX8_block 5 = .ok (.ifCond .eq 26, 3) := by decide +kernel
theorem dX8_block_8 : decode cX8_block 8 = .ok (.iload_n 2, 1) := by decide +kernel
theorem dX8_block_9 : decode cX8_block 9 = .ok (.iconst 0, 1) := by decide +kernel
theorem dX8_block_10 : decode cX8_block 10 = .ok (.iconst 4, 1) := by decide +kernel
theorem dX8_block_11 : decode cX8_block 11 = .ok (.invokestatic 71, 3) := by decide +kernel
theorem dX8_block_14 : decode cX8_block 14 = .ok (.ifCond .eq 17, 3) := by decide +kernel
theorem dX8_block_17 : decode cX8_block 17 = .ok (.aload_n 0, 1) := by decide +kernel
theorem dX8_block_18 : decode cX8_block 18 = .ok (.aload_n 0, 1) := by decide +kernel
theorem dX8_block_19 : decode cX8_block 19 = .ok (.iload_n 1, 1) := by decide +kernel
theorem dX8_block_20 : decode cX8_block 20 = .ok (.iload_n 2, 1) := by decide +kernel
theorem dX8_block_21 : decode cX8_block 21 = .ok (.invokevirtual 245, 3) := by decide +kernel
theorem dX8_block_24 : decode cX8_block 24 = .ok (.iconst 1, 1) := by decide +kernel
theorem dX8_block_25 : decode cX8_block 25 = .ok (.invokevirtual 93, 3) := by decide +kernel
theorem dX8_block_28 : decode cX8_block 28 = .ok (.goto 4, 3) := by decide +kernel
theorem dX8_block_31 : decode cX8_block 31 = .ok (.iconst (-1), 1) := by decide +kernel
theorem dX8_block_32 : decode cX8_block 32 = .ok (.ireturn, 1) := by decide +kernel
theorem dX8_pull_0 : decode cX8_pull 0 = .ok (.aload_n 0, 1) := by decide +kernel
theorem dX8_pull_1 : decode cX8_pull 1 = .ok (.iload_n 1, 1) := by decide +kernel
theorem dX8_pull_2 : decode cX8_pull 2 = .ok (.invokevirtual 242, 3) := by decide +kernel
theorem dX8_pull_5 : decode cX8_pull 5 = .ok (.ifCond .eq 20, 3) := by decide +kernel
theorem dX8_pull_8 : decode cX8_pull 8 = .ok (.aload_n 0, 1) := by decide +kernel
theorem dX8_pull_9 : decode cX8_pull 9 = .ok (.aload_n 0, 1) := by decide +kernel
theorem dX8_pull_10 : decode cX8_pull 10 = .ok (.iload_n 1, 1) := by decide +kernel
theorem dX8_pull_11 : decode cX8_pull 11 = .ok (.invokevirtual 224, 3) := by decide +kernel
theorem dX8_pull_14 : decode cX8_pull 14 = .ok (.aload_n 0, 1) := by decide +kernel
theorem dX8_pull_15 : decode cX8_pull 15 = .ok (.iload_n 1, 1) := by decide +kernel
theorem dX8_pull_16 : decode cX8_pull 16 = .ok (.invokevirtual 221, 3) := by decide +kernel
theorem dX8_pull_19 : decode cX8_pull 19 = .ok (.invokevirtual 93, 3) := by decide +kernel
theorem dX8_pull_22 : decode cX8_pull 22 = .ok (.goto 4, 3) := by decide +kernel
theorem dX8_pull_25 : decode cX8_pull 25 = .ok (.iconst (-1), 1) := by decide +kernel
theorem dX8_pull_26 : decode cX8_pull 26 = .ok (.ireturn, 1) := by decide +kernel
theorem dX8_mark_0 : decode cX8_mark 0 = .ok (.aload_n 0, 1) := by decide +kernel
theorem dX8_mark_1 : decode cX8_mark 1 = .ok (.iload_n 1, 1) := by decide +kernel
theorem dX8_mark_2 : decode cX8_mark 2 = .ok (.invokevirtual 242, 3) := by decide +kernel
theorem dX8_mark_5 : decode cX8_mark 5 = .ok (.ifCond .eq 13, 3) := by decide +kernel
theorem dX8_mark_8 : decode cX8_mark 8 = .ok (.iload_n 2, 1) := by decide +kernel
theorem dX8_mark_9 : decode cX8_mark 9 = .ok (.iconst 1, 1) := by decide +kernel
theorem dX8_mark_10 : decode cX8_mark 10 = .ok (.bipush 6, 2) := by decide +kernel
theorem dX8_mark_12 : decode cX8_mark 12 = .ok (.invokestatic 71, 3) := by decide +kernel
theorem dX8_mark_15 : decode cX8_mark 15 = .ok (.ifCond .ne 5, 3) := by decide +kernel
theorem dX8_mark_18 : decode cX8_mark 18 = .ok (.iconst (-1), 1) := by decide +kernel
theorem dX8_mark_19 : decode cX8_mark 19 = .ok (.ireturn, 1) := by decide +kernel
theorem dX8_mark_20 : decode cX8_mark 20 = .ok (.aload_n 0, 1) := by decide +kernel
theorem dX8_mark_21 : decode cX8_mark 21 = .ok (.iload_n 1, 1) := by decide +kernel
theorem dX8_mark_22 : decode cX8_mark 22 = .ok (.invokevirtual 239, 3) := by decide +kernel
theorem dX8_mark_25 : decode cX8_mark 25 = .ok (.istore_n 3, 1) := by decide +kernel
theorem dX8_mark_26 : decode cX8_mark 26 = .ok (.iload_n 3, 1) := by decide +kernel
theorem dX8_mark_27 : decode cX8_mark 27 = .ok (.iload_n 2, 1) := by decide +kernel
theorem dX8_mark_28 : decode cX8_mark 28 = .ok (.if_icmp .eq 29, 3) := by decide +kernel
theorem dX8_mark_31 : decode cX8_mark 31 = .ok (.iload_n 2, 1) := by decide +kernel
theorem dX8_mark_32 : decode cX8_mark 32 = .ok (.iconst 1, 1) := by decide +kernel
theorem dX8_mark_33 : decode cX8_mark 33 = .ok (.if_icmp .ne 8, 3) := by decide +kernel
theorem dX8_mark_36 : decode cX8_mark 36 = .ok (.iload_n 3, 1) := by decide +kernel
theorem dX8_mark_37 : decode cX8_mark 37 = .ok (.iconst 5, 1) := by decide +kernel
theorem dX8_mark_38 : decode cX8_mark 38 = .ok (.if_icmp .eq 19, 3) := by decide +kernel
theorem dX8_mark_41 : decode cX8_mark 41 = .ok (.iload_n 2, 1) := by decide +kernel
theorem dX8_mark_42 : decode cX8_mark 42 = .ok (.iconst 3, 1) := by decide +kernel
theorem dX8_mark_43 : decode cX8_mark 43 = .ok (.if_icmp .ne 8, 3) := by decide +kernel
theorem dX8_mark_46 : decode cX8_mark 46 = .ok (.iload_n 3, 1) := by decide +kernel
theorem dX8_mark_47 : decode cX8_mark 47 = .ok (.iconst 4, 1) := by decide +kernel
theorem dX8_mark_48 : decode cX8_mark 48 = .ok (.if_icmp .eq 9, 3) := by decide +kernel
theorem dX8_mark_51 : decode cX8_mark 51 = .ok (.aload_n 0, 1) := by decide +kernel
theorem dX8_mark_52 : decode cX8_mark 52 = .ok (.iconst 3, 1) := by decide +kernel
theorem dX8_mark_53 : decode cX8_mark 53 = .ok (.invokevirtual 85, 3) := by decide +kernel
theorem dX8_mark_56 : decode cX8_mark 56 = .ok (.ireturn, 1) := by decide +kernel
theorem dX8_mark_57 : decode cX8_mark 57 = .ok (.iload_n 2, 1) := by decide +kernel
theorem dX8_mark_58 : decode cX8_mark 58 = .ok (.tableswitch 75 1 5 #[34, 36, 40, 50, 69], 34) := by decide +kernel
theorem dX8_mark_92 : decode cX8_mark 92 = .ok (.iload_n 1, 1) := by decide +kernel
theorem dX8_mark_93 : decode cX8_mark 93 = .ok (.ireturn, 1) := by decide +kernel
theorem dX8_mark_94 : decode cX8_mark 94 = .ok (.iload_n 1, 1) := by decide +kernel
theorem dX8_mark_95 : decode cX8_mark 95 = .ok (.iconst 1, 1) := by decide +kernel
theorem dX8_mark_96 : decode cX8_mark 96 = .ok (.isub, 1) := by decide +kernel
theorem dX8_mark_97 : decode cX8_mark 97 = .ok (.ireturn, 1) := by decide +kernel
theorem dX8_mark_98 : decode cX8_mark 98 = .ok (.aload_n 0, 1) := by decide +kernel
theorem dX8_mark_99 : decode cX8_mark 99 = .ok (.aload_n 0, 1) := by decide +kernel
theorem dX8_mark_100 : decode cX8_mark 100 = .ok (.iload_n 1, 1) := by decide +kernel
theorem dX8_mark_101 : decode cX8_mark 101 = .ok (.invokevirtual 191, 3) := by decide +kernel
theorem dX8_mark_104 : decode cX8_mark 104 = .ok (.invokevirtual 215, 3) := by decide +kernel
theorem dX8_mark_107 : decode cX8_mark 107 = .ok (.ireturn, 1) := by decide +kernel
theorem dX8_mark_108 : decode cX8_mark 108 = .ok (.aload_n 0, 1) := by decide +kernel
theorem dX8_mark_109 : decode cX8_mark 109 = .ok (.iload_n 1, 1) := by decide +kernel
theorem dX8_mark_110 : decode cX8_mark 110 = .ok (.invokevirtual 194, 3) := by decide +kernel
theorem dX8_mark_113 : decode cX8_mark 113 = .ok (.aload_n 0, 1) := by decide +kernel
theorem dX8_mark_114 : decode cX8_mark 114 = .ok (.iload_n 1, 1) := by decide +kernel
theorem dX8_mark_115 : decode cX8_mark 115 = .ok (.invokevirtual 212, 3) := by decide +kernel
theorem dX8_mark_118 : decode cX8_mark 118 = .ok (.if_icmp .ne 7, 3) := by decide +kernel
theorem dX8_mark_121 : decode cX8_mark 121 = .ok (.iconst 1, 1) := by decide +kernel
theorem dX8_mark_122 : decode cX8_mark 122 = .ok (.goto 4, 3) := by decide +kernel
theorem dX8_mark_125 : decode cX8_mark 125 = .ok (.iconst 2, 1) := by decide +kernel
theorem dX8_mark_126 : decode cX8_mark 126 = .ok (.ireturn, 1) := by decide +kernel
theorem dX8_mark_127 : decode cX8_mark 127 = .ok (.aload_n 0, 1) := by decide +kernel
theorem dX8_mark_128 : decode cX8_mark 128 = .ok (.iload_n 1, 1) := by decide +kernel
theorem dX8_mark_129 : decode cX8_mark 129 = .ok (.invokevirtual 218, 3) := by decide +kernel
theorem dX8_mark_132 : decode cX8_mark 132 = .ok (.ireturn, 1) := by decide +kernel
theorem dX8_mark_133 : decode cX8_mark 133 = .ok (.aload_n 0, 1) := by decide +kernel
theorem dX8_mark_134 : decode cX8_mark 134 = .ok (.iload_n 1, 1) := by decide +kernel
theorem dX8_mark_135 : decode cX8_mark 135 = .ok (.invokevirtual 236, 3) := by decide +kernel
theorem dX8_mark_138 : decode cX8_mark 138 = .ok (.ireturn, 1) := by decide +kernel
theorem dX8_slumpedMany_0 : decode cX8_slumpedMany 0 = .ok (.iconst 0, 1) := by decide +kernel
theorem dX8_slumpedMany_1 : decode cX8_slumpedMany 1 = .ok (.istore_n 1, 1) := by decide +kernel
theorem dX8_slumpedMany_2 : decode cX8_slumpedMany 2 = .ok (.iconst 0, 1) := by decide +kernel
theorem dX8_slumpedMany_3 : decode cX8_slumpedMany 3 = .ok (.istore_n 2, 1) := by decide +kernel
theorem dX8_slumpedMany_4 : decode cX8_slumpedMany 4 = .ok (.iload_n 2, 1) := by decide +kernel
theorem dX8_slumpedMany_5 : decode cX8_slumpedMany 5 = .ok (.aload_n 0, 1) := by decide +kernel
theorem dX8_slumpedMany_6 : decode cX8_slumpedMany 6 = .ok (.bipush 31, 2) := by decide +kernel
theorem dX8_slumpedMany_8 : decode cX8_slumpedMany 8 = .ok (.invokevirtual 154, 3) := by decide +kernel
theorem dX8_slumpedMany_11 : decode cX8_slumpedMany 11 = .ok (.if_icmp .ge 25, 3) := by decide +kernel
theorem dX8_slumpedMany_14 : decode cX8_slumpedMany 14 = .ok (.iload_n 1, 1) := by decide +kernel
theorem dX8_slumpedMany_15 : decode cX8_slumpedMany 15 = .ok (.aload_n 0, 1) := by decide +kernel
theorem dX8_slumpedMany_16 : decode cX8_slumpedMany 16 = .ok (.iload_n 2, 1) := by decide +kernel
theorem dX8_slumpedMany_17 : decode cX8_slumpedMany 17 = .ok (.invokevirtual 185, 3) := by decide +kernel
theorem dX8_slumpedMany_20 : decode cX8_slumpedMany 20 = .ok (.ifCond .eq 7, 3) := by decide +kernel
theorem dX8_slumpedMany_23 : decode cX8_slumpedMany 23 = .ok (.iconst 1, 1) := by decide +kernel
theorem dX8_slumpedMany_24 : decode cX8_slumpedMany 24 = .ok (.goto 4, 3) := by decide +kernel
theorem dX8_slumpedMany_27 : decode cX8_slumpedMany 27 = .ok (.iconst 0, 1) := by decide +kernel
theorem dX8_slumpedMany_28 : decode cX8_slumpedMany 28 = .ok (.iadd, 1) := by decide +kernel
theorem dX8_slumpedMany_29 : decode cX8_slumpedMany 29 = .ok (.istore_n 1, 1) := by decide +kernel
theorem dX8_slumpedMany_30 : decode cX8_slumpedMany 30 = .ok (.iinc 2 1, 3) := by decide +kernel
theorem dX8_slumpedMany_33 : decode cX8_slumpedMany 33 = .ok (.goto (-29), 3) := by decide +kernel
theorem dX8_slumpedMany_36 : decode cX8_slumpedMany 36 = .ok (.iload_n 1, 1) := by decide +kernel
theorem dX8_slumpedMany_37 : decode cX8_slumpedMany 37 = .ok (.ireturn, 1) := by decide +kernel
theorem dX8_door_0 : decode cX8_door 0 = .ok (.iload_n 1, 1) := by decide +kernel
theorem dX8_door_1 : decode cX8_door 1 = .ok (.iconst 0, 1) := by decide +kernel
theorem dX8_door_2 : decode cX8_door 2 = .ok (.bipush 11, 2) := by decide +kernel
theorem dX8_door_4 : decode cX8_door 4 = .ok (.invokestatic 71, 3) := by decide +kernel
theorem dX8_door_7 : decode cX8_door 7 = .ok (.ifCond .ne 5, 3) := by decide +kernel
theorem dX8_door_10 : decode cX8_door 10 = .ok (.iconst (-1), 1) := by decide +kernel
theorem dX8_door_11 : decode cX8_door 11 = .ok (.ireturn, 1) := by decide +kernel
theorem dX8_door_12 : decode cX8_door 12 = .ok (.aload_n 0, 1) := by decide +kernel
theorem dX8_door_13 : decode cX8_door 13 = .ok (.iconst 0, 1) := by decide +kernel
theorem dX8_door_14 : decode cX8_door 14 = .ok (.invokevirtual 167, 3) := by decide +kernel
theorem dX8_door_17 : decode cX8_door 17 = .ok (.aload_n 0, 1) := by decide +kernel
theorem dX8_door_18 : decode cX8_door 18 = .ok (.getfield 48, 3) := by decide +kernel
theorem dX8_door_21 : decode cX8_door 21 = .ok (.iconst 0, 1) := by decide +kernel
theorem dX8_door_22 : decode cX8_door 22 = .ok (.baload, 1) := by decide +kernel
theorem dX8_door_23 : decode cX8_door 23 = .ok (.ifCond .eq 16, 3) := by decide +kernel
theorem dX8_door_26 : decode cX8_door 26 = .ok (.aload_n 0, 1) := by decide +kernel
theorem dX8_door_27 : decode cX8_door 27 = .ok (.bipush 31, 2) := by decide +kernel
theorem dX8_door_29 : decode cX8_door 29 = .ok (.invokevirtual 154, 3) := by decide +kernel
theorem dX8_door_32 : decode cX8_door 32 = .ok (.aload_n 0, 1) := by decide +kernel
theorem dX8_door_33 : decode cX8_door 33 = .ok (.invokevirtual 178, 3) := by decide +kernel
theorem dX8_door_36 : decode cX8_door 36 = .ok (.if_icmp .ge 6, 3) := by decide +kernel
theorem dX8_door_39 : decode cX8_door 39 = .ok (.bipush (-4), 2) := by decide +kernel
theorem dX8_door_41 : decode cX8_door 41 = .ok (.ireturn, 1) := by decide +kernel
theorem dX8_door_42 : decode cX8_door 42 = .ok (.iconst 0, 1) := by decide +kernel
theorem dX8_door_43 : decode cX8_door 43 = .ok (.istore_n 2, 1) := by decide +kernel
theorem dX8_door_44 : decode cX8_door 44 = .ok (.iload_n 2, 1) := by decide +kernel
theorem dX8_door_45 : decode cX8_door 45 = .ok (.aload_n 0, 1) := by decide +kernel
theorem dX8_door_46 : decode cX8_door 46 = .ok (.iconst 0, 1) := by decide +kernel
theorem dX8_door_47 : decode cX8_door 47 = .ok (.invokevirtual 157, 3) := by decide +kernel
theorem dX8_door_50 : decode cX8_door 50 = .ok (.if_icmp .ge 20, 3) := by decide +kernel
theorem dX8_door_53 : decode cX8_door 53 = .ok (.aload_n 0, 1) := by decide +kernel
theorem dX8_door_54 : decode cX8_door 54 = .ok (.iload_n 2, 1) := by decide +kernel
theorem dX8_door_55 : decode cX8_door 55 = .ok (.invokevirtual 188, 3) := by decide +kernel
theorem dX8_door_58 : decode cX8_door 58 = .ok (.ifCond .eq 6, 3) := by decide +kernel
theorem dX8_door_61 : decode cX8_door 61 = .ok (.bipush (-4), 2) := by decide +kernel
theorem dX8_door_63 : decode cX8_door 63 = .ok (.ireturn, 1) := by decide +kernel
theorem dX8_door_64 : decode cX8_door 64 = .ok (.iinc 2 1, 3) := by decide +kernel
theorem dX8_door_67 : decode cX8_door 67 = .ok (.goto (-23), 3) := by decide +kernel
theorem dX8_door_70 : decode cX8_door 70 = .ok (.iload_n 1, 1) := by decide +kernel
theorem dX8_door_71 : decode cX8_door 71 = .ok (.aload_n 0, 1) := by decide +kernel
theorem dX8_door_72 : decode cX8_door 72 = .ok (.iconst 0, 1) := by decide +kernel
theorem dX8_door_73 : decode cX8_door 73 = .ok (.invokevirtual 157, 3) := by decide +kernel
theorem dX8_door_76 : decode cX8_door 76 = .ok (.if_icmp .lt 5, 3) := by decide +kernel
theorem dX8_door_79 : decode cX8_door 79 = .ok (.iconst (-1), 1) := by decide +kernel
theorem dX8_door_80 : decode cX8_door 80 = .ok (.ireturn, 1) := by decide +kernel
theorem dX8_door_81 : decode cX8_door 81 = .ok (.aload_n 0, 1) := by decide +kernel
theorem dX8_door_82 : decode cX8_door 82 = .ok (.iload_n 1, 1) := by decide +kernel
theorem dX8_door_83 : decode cX8_door 83 = .ok (.invokevirtual 185, 3) := by decide +kernel
theorem dX8_door_86 : decode cX8_door 86 = .ok (.ifCond .eq 9, 3) := by decide +kernel
theorem dX8_door_89 : decode cX8_door 89 = .ok (.aload_n 0, 1) := by decide +kernel
theorem dX8_door_90 : decode cX8_door 90 = .ok (.iconst 3, 1) := by decide +kernel
theorem dX8_door_91 : decode cX8_door 91 = .ok (.invokevirtual 85, 3) := by decide +kernel
theorem dX8_door_94 : decode cX8_door 94 = .ok (.ireturn, 1) := by decide +kernel
theorem dX8_door_95 : decode cX8_door 95 = .ok (.aload_n 0, 1) := by decide +kernel
theorem dX8_door_96 : decode cX8_door 96 = .ok (.bipush 92, 2) := by decide +kernel
theorem dX8_door_98 : decode cX8_door 98 = .ok (.iload_n 1, 1) := by decide +kernel
theorem dX8_door_99 : decode cX8_door 99 = .ok (.iadd, 1) := by decide +kernel
theorem dX8_door_100 : decode cX8_door 100 = .ok (.iconst 1, 1) := by decide +kernel
theorem dX8_door_101 : decode cX8_door 101 = .ok (.invokevirtual 163, 3) := by decide +kernel
theorem dX8_door_104 : decode cX8_door 104 = .ok (.aload_n 0, 1) := by decide +kernel
theorem dX8_door_105 : decode cX8_door 105 = .ok (.invokevirtual 230, 3) := by decide +kernel
theorem dX8_door_108 : decode cX8_door 108 = .ok (.aload_n 0, 1) := by decide +kernel
theorem dX8_door_109 : decode cX8_door 109 = .ok (.invokevirtual 248, 3) := by decide +kernel
theorem dX8_door_112 : decode cX8_door 112 = .ok (.ireturn, 1) := by decide +kernel
theorem dX8_keep_0 : decode cX8_keep 0 = .ok (.iload_n 1, 1) := by decide +kernel
theorem dX8_keep_1 : decode cX8_keep 1 = .ok (.iconst 0, 1) := by decide +kernel
theorem dX8_keep_2 : decode cX8_keep 2 = .ok (.iconst 2, 1) := by decide +kernel
theorem dX8_keep_3 : decode cX8_keep 3 = .ok (.invokestatic 71, 3) := by decide +kernel
theorem dX8_keep_6 : decode cX8_keep 6 = .ok (.ifCond .ne 5, 3) := by decide +kernel
theorem dX8_keep_9 : decode cX8_keep 9 = .ok (.iconst (-1), 1) := by decide +kernel
theorem dX8_keep_10 : decode cX8_keep 10 = .ok (.ireturn, 1) := by decide +kernel
theorem dX8_keep_11 : decode cX8_keep 11 = .ok (.aload_n 0, 1) := by decide +kernel
theorem dX8_keep_12 : decode cX8_keep 12 = .ok (.getfield 48, 3) := by decide +kernel
theorem dX8_keep_15 : decode cX8_keep 15 = .ok (.iconst 0, 1) := by decide +kernel
theorem dX8_keep_16 : decode cX8_keep 16 = .ok (.baload, 1) := by decide +kernel
theorem dX8_keep_17 : decode cX8_keep 17 = .ok (.ifCond .ne 6, 3) := by decide +kernel
theorem dX8_keep_20 : decode cX8_keep 20 = .ok (.bipush (-4), 2) := by decide +kernel
theorem dX8_keep_22 : decode cX8_keep 22 = .ok (.ireturn, 1) := by decide +kernel
theorem dX8_keep_23 : decode cX8_keep 23 = .ok (.aload_n 0, 1) := by decide +kernel
theorem dX8_keep_24 : decode cX8_keep 24 = .ok (.iconst 0, 1) := by decide +kernel
theorem dX8_keep_25 : decode cX8_keep 25 = .ok (.iconst 1, 1) := by decide +kernel
theorem dX8_keep_26 : decode cX8_keep 26 = .ok (.iload_n 1, 1) := by decide +kernel
theorem dX8_keep_27 : decode cX8_keep 27 = .ok (.iadd, 1) := by decide +kernel
theorem dX8_keep_28 : decode cX8_keep 28 = .ok (.invokevirtual 251, 3) := by decide +kernel
theorem dX8_keep_31 : decode cX8_keep 31 = .ok (.aload_n 0, 1) := by decide +kernel
theorem dX8_keep_32 : decode cX8_keep 32 = .ok (.getfield 48, 3) := by decide +kernel
theorem dX8_keep_35 : decode cX8_keep 35 = .ok (.iconst 1, 1) := by decide +kernel
theorem dX8_keep_36 : decode cX8_keep 36 = .ok (.iload_n 1, 1) := by decide +kernel
theorem dX8_keep_37 : decode cX8_keep 37 = .ok (.iadd, 1) := by decide +kernel
theorem dX8_keep_38 : decode cX8_keep 38 = .ok (.iconst 1, 1) := by decide +kernel
theorem dX8_keep_39 : decode cX8_keep 39 = .ok (.bastore, 1) := by decide +kernel
theorem dX8_keep_40 : decode cX8_keep 40 = .ok (.aload_n 0, 1) := by decide +kernel
theorem dX8_keep_41 : decode cX8_keep 41 = .ok (.iconst 0, 1) := by decide +kernel
theorem dX8_keep_42 : decode cX8_keep 42 = .ok (.invokevirtual 167, 3) := by decide +kernel
theorem dX8_keep_45 : decode cX8_keep 45 = .ok (.aload_n 0, 1) := by decide +kernel
theorem dX8_keep_46 : decode cX8_keep 46 = .ok (.bipush 31, 2) := by decide +kernel
theorem dX8_keep_48 : decode cX8_keep 48 = .ok (.invokevirtual 154, 3) := by decide +kernel
theorem dX8_keep_51 : decode cX8_keep 51 = .ok (.ireturn, 1) := by decide +kernel
theorem dX8_on_0 : decode cX8_on 0 = .ok (.iload_n 1, 1) := by decide +kernel
theorem dX8_on_1 : decode cX8_on 1 = .ok (.iconst 0, 1) := by decide +kernel
theorem dX8_on_2 : decode cX8_on 2 = .ok (.iconst 2, 1) := by decide +kernel
theorem dX8_on_3 : decode cX8_on 3 = .ok (.invokestatic 71, 3) := by decide +kernel
theorem dX8_on_6 : decode cX8_on 6 = .ok (.ifCond .ne 5, 3) := by decide +kernel
theorem dX8_on_9 : decode cX8_on 9 = .ok (.iconst (-1), 1) := by decide +kernel
theorem dX8_on_10 : decode cX8_on 10 = .ok (.ireturn, 1) := by decide +kernel
theorem dX8_on_11 : decode cX8_on 11 = .ok (.aload_n 0, 1) := by decide +kernel
theorem dX8_on_12 : decode cX8_on 12 = .ok (.getfield 48, 3) := by decide +kernel
theorem dX8_on_15 : decode cX8_on 15 = .ok (.iconst 1, 1) := by decide +kernel
theorem dX8_on_16 : decode cX8_on 16 = .ok (.iload_n 1, 1) := by decide +kernel
theorem dX8_on_17 : decode cX8_on 17 = .ok (.iadd, 1) := by decide +kernel
theorem dX8_on_18 : decode cX8_on 18 = .ok (.baload, 1) := by decide +kernel
theorem dX8_on_19 : decode cX8_on 19 = .ok (.ifCond .ne 9, 3) := by decide +kernel
theorem dX8_on_22 : decode cX8_on 22 = .ok (.aload_n 0, 1) := by decide +kernel
theorem dX8_on_23 : decode cX8_on 23 = .ok (.iconst 1, 1) := by decide +kernel
theorem dX8_on_24 : decode cX8_on 24 = .ok (.invokevirtual 85, 3) := by decide +kernel
theorem dX8_on_27 : decode cX8_on 27 = .ok (.ireturn, 1) := by decide +kernel
theorem dX8_on_28 : decode cX8_on 28 = .ok (.aload_n 0, 1) := by decide +kernel
theorem dX8_on_29 : decode cX8_on 29 = .ok (.iconst 1, 1) := by decide +kernel
theorem dX8_on_30 : decode cX8_on 30 = .ok (.iload_n 1, 1) := by decide +kernel
theorem dX8_on_31 : decode cX8_on 31 = .ok (.iadd, 1) := by decide +kernel
theorem dX8_on_32 : decode cX8_on 32 = .ok (.iconst 0, 1) := by decide +kernel
theorem dX8_on_33 : decode cX8_on 33 = .ok (.invokevirtual 251, 3) := by decide +kernel
theorem dX8_on_36 : decode cX8_on 36 = .ok (.aload_n 0, 1) := by decide +kernel
theorem dX8_on_37 : decode cX8_on 37 = .ok (.getfield 48, 3) := by decide +kernel
theorem dX8_on_40 : decode cX8_on 40 = .ok (.iconst 0, 1) := by decide +kernel
theorem dX8_on_41 : decode cX8_on 41 = .ok (.iconst 1, 1) := by decide +kernel
theorem dX8_on_42 : decode cX8_on 42 = .ok (.bastore, 1) := by decide +kernel
theorem dX8_on_43 : decode cX8_on 43 = .ok (.aload_n 0, 1) := by decide +kernel
theorem dX8_on_44 : decode cX8_on 44 = .ok (.iconst 0, 1) := by decide +kernel
theorem dX8_on_45 : decode cX8_on 45 = .ok (.invokevirtual 167, 3) := by decide +kernel
theorem dX8_on_48 : decode cX8_on 48 = .ok (.aload_n 0, 1) := by decide +kernel
theorem dX8_on_49 : decode cX8_on 49 = .ok (.bipush 31, 2) := by decide +kernel
theorem dX8_on_51 : decode cX8_on 51 = .ok (.invokevirtual 154, 3) := by decide +kernel
theorem dX8_on_54 : decode cX8_on 54 = .ok (.ireturn, 1) := by decide +kernel
theorem dX8_firstSlumped_0 : decode cX8_firstSlumped 0 = .ok (.bipush (-9), 2) := by decide +kernel
theorem dX8_firstSlumped_2 : decode cX8_firstSlumped 2 = .ok (.istore_n 1, 1) := by decide +kernel
theorem dX8_firstSlumped_3 : decode cX8_firstSlumped 3 = .ok (.iconst 0, 1) := by decide +kernel
theorem dX8_firstSlumped_4 : decode cX8_firstSlumped 4 = .ok (.istore_n 2, 1) := by decide +kernel
theorem dX8_firstSlumped_5 : decode cX8_firstSlumped 5 = .ok (.iload_n 2, 1) := by decide +kernel
theorem dX8_firstSlumped_6 : decode cX8_firstSlumped 6 = .ok (.aload_n 0, 1) := by decide +kernel
theorem dX8_firstSlumped_7 : decode cX8_firstSlumped 7 = .ok (.bipush 31, 2) := by decide +kernel
theorem dX8_firstSlumped_9 : decode cX8_firstSlumped 9 = .ok (.invokevirtual 154, 3) := by decide +kernel
theorem dX8_firstSlumped_12 : decode cX8_firstSlumped 12 = .ok (.if_icmp .ge 48, 3) := by decide +kernel
theorem dX8_firstSlumped_15 : decode cX8_firstSlumped 15 = .ok (.aload_n 0, 1) := by decide +kernel
theorem dX8_firstSlumped_16 : decode cX8_firstSlumped 16 = .ok (.iload_n 2, 1) := by decide +kernel
theorem dX8_firstSlumped_17 : decode cX8_firstSlumped 17 = .ok (.invokevirtual 185, 3) := by decide +kernel
theorem dX8_firstSlumped_20 : decode cX8_firstSlumped 20 = .ok (.ifCond .eq 32, 3) := by decide +kernel
theorem dX8_firstSlumped_23 : decode cX8_firstSlumped 23 = .ok (.iload_n 1, 1) := by decide +kernel
theorem dX8_firstSlumped_24 : decode cX8_firstSlumped 24 = .ok (.bipush (-9), 2) := by decide +kernel
theorem dX8_firstSlumped_26 : decode cX8_firstSlumped 26 = .ok (.if_icmp .eq 22, 3) := by decide +kernel
theorem dX8_firstSlumped_29 : decode cX8_firstSlumped 29 = .ok (.aload_n 0, 1) := by decide +kernel
theorem dX8_firstSlumped_30 : decode cX8_firstSlumped 30 = .ok (.bipush 32, 2) := by decide +kernel
theorem dX8_firstSlumped_32 : decode cX8_firstSlumped 32 = .ok (.iload_n 2, 1) := by decide +kernel
theorem dX8_firstSlumped_33 : decode cX8_firstSlumped 33 = .ok (.iadd, 1) := by decide +kernel
theorem dX8_firstSlumped_34 : decode cX8_firstSlumped 34 = .ok (.invokevirtual 154, 3) := by decide +kernel
theorem dX8_firstSlumped_37 : decode cX8_firstSlumped 37 = .ok (.aload_n 0, 1) := by decide +kernel
theorem dX8_firstSlumped_38 : decode cX8_firstSlumped 38 = .ok (.bipush 32, 2) := by decide +kernel
theorem dX8_firstSlumped_40 : decode cX8_firstSlumped 40 = .ok (.iload_n 1, 1) := by decide +kernel
theorem dX8_firstSlumped_41 : decode cX8_firstSlumped 41 = .ok (.iadd, 1) := by decide +kernel
theorem dX8_firstSlumped_42 : decode cX8_firstSlumped 42 = .ok (.invokevirtual 154, 3) := by decide +kernel
theorem dX8_firstSlumped_45 : decode cX8_firstSlumped 45 = .ok (.if_icmp .ge 7, 3) := by decide +kernel
theorem dX8_firstSlumped_48 : decode cX8_firstSlumped 48 = .ok (.iload_n 2, 1) := by decide +kernel
theorem dX8_firstSlumped_49 : decode cX8_firstSlumped 49 = .ok (.goto 4, 3) := by decide +kernel
theorem dX8_firstSlumped_52 : decode cX8_firstSlumped 52 = .ok (.iload_n 1, 1) := by decide +kernel
theorem dX8_firstSlumped_53 : decode cX8_firstSlumped 53 = .ok (.istore_n 1, 1) := by decide +kernel
theorem dX8_firstSlumped_54 : decode cX8_firstSlumped 54 = .ok (.iinc 2 1, 3) := by decide +kernel
theorem dX8_firstSlumped_57 : decode cX8_firstSlumped 57 = .ok (.goto (-52), 3) := by decide +kernel
theorem dX8_firstSlumped_60 : decode cX8_firstSlumped 60 = .ok (.iload_n 1, 1) := by decide +kernel
theorem dX8_firstSlumped_61 : decode cX8_firstSlumped 61 = .ok (.ireturn, 1) := by decide +kernel
theorem dX8_slumped_0 : decode cX8_slumped 0 = .ok (.aload_n 0, 1) := by decide +kernel
theorem dX8_slumped_1 : decode cX8_slumped 1 = .ok (.getfield 48, 3) := by decide +kernel
theorem dX8_slumped_4 : decode cX8_slumped 4 = .ok (.iconst 0, 1) := by decide +kernel
theorem dX8_slumped_5 : decode cX8_slumped 5 = .ok (.baload, 1) := by decide +kernel
theorem dX8_slumped_6 : decode cX8_slumped 6 = .ok (.ifCond .ne 6, 3) := by decide +kernel
theorem dX8_slumped_9 : decode cX8_slumped 9 = .ok (.bipush (-4), 2) := by decide +kernel
theorem dX8_slumped_11 : decode cX8_slumped 11 = .ok (.ireturn, 1) := by decide +kernel
theorem dX8_slumped_12 : decode cX8_slumped 12 = .ok (.aload_n 0, 1) := by decide +kernel
theorem dX8_slumped_13 : decode cX8_slumped 13 = .ok (.iconst 0, 1) := by decide +kernel
theorem dX8_slumped_14 : decode cX8_slumped 14 = .ok (.invokevirtual 167, 3) := by decide +kernel
theorem dX8_slumped_17 : decode cX8_slumped 17 = .ok (.aload_n 0, 1) := by decide +kernel
theorem dX8_slumped_18 : decode cX8_slumped 18 = .ok (.aload_n 0, 1) := by decide +kernel
theorem dX8_slumped_19 : decode cX8_slumped 19 = .ok (.invokevirtual 254, 3) := by decide +kernel
theorem dX8_slumped_22 : decode cX8_slumped 22 = .ok (.aload_n 0, 1) := by decide +kernel
theorem dX8_slumped_23 : decode cX8_slumped 23 = .ok (.invokevirtual 248, 3) := by decide +kernel
theorem dX8_slumped_26 : decode cX8_slumped 26 = .ok (.invokevirtual 93, 3) := by decide +kernel
theorem dX8_slumped_29 : decode cX8_slumped 29 = .ok (.ireturn, 1) := by decide +kernel
theorem dX8_layOwn_0 : decode cX8_layOwn 0 = .ok (.aload_n 0, 1) := by decide +kernel
theorem dX8_layOwn_1 : decode cX8_layOwn 1 = .ok (.iconst 0, 1) := by decide +kernel
theorem dX8_layOwn_2 : decode cX8_layOwn 2 = .ok (.iconst 4, 1) := by decide +kernel
theorem dX8_layOwn_3 : decode cX8_layOwn 3 = .ok (.invokevirtual 251, 3) := by decide +kernel
theorem dX8_layOwn_6 : decode cX8_layOwn 6 = .ok (.aload_n 0, 1) := by decide +kernel
theorem dX8_layOwn_7 : decode cX8_layOwn 7 = .ok (.iconst 4, 1) := by decide +kernel
theorem dX8_layOwn_8 : decode cX8_layOwn 8 = .ok (.invokevirtual 167, 3) := by decide +kernel
theorem dX8_layOwn_11 : decode cX8_layOwn 11 = .ok (.return_, 1) := by decide +kernel
theorem dX8_builds_0 : decode cX8_builds 0 = .ok (.aload_n 0, 1) := by decide +kernel
theorem dX8_builds_1 : decode cX8_builds 1 = .ok (.invokevirtual 175, 3) := by decide +kernel
theorem dX8_builds_4 : decode cX8_builds 4 = .ok (.aload_n 0, 1) := by decide +kernel
theorem dX8_builds_5 : decode cX8_builds 5 = .ok (.aload_n 0, 1) := by decide +kernel
theorem dX8_builds_6 : decode cX8_builds 6 = .ok (.invokevirtual 178, 3) := by decide +kernel
theorem dX8_builds_9 : decode cX8_builds 9 = .ok (.invokevirtual 233, 3) := by decide +kernel
theorem dX8_builds_12 : decode cX8_builds 12 = .ok (.aload_n 0, 1) := by decide +kernel
theorem dX8_builds_13 : decode cX8_builds 13 = .ok (.invokevirtual 248, 3) := by decide +kernel
theorem dX8_builds_16 : decode cX8_builds 16 = .ok (.ireturn, 1) := by decide +kernel
theorem dX8_falls_0 : decode cX8_falls 0 = .ok (.aload_n 0, 1) := by decide +kernel
theorem dX8_falls_1 : decode cX8_falls 1 = .ok (.getfield 48, 3) := by decide +kernel
theorem dX8_falls_4 : decode cX8_falls 4 = .ok (.iconst 0, 1) := by decide +kernel
theorem dX8_falls_5 : decode cX8_falls 5 = .ok (.baload, 1) := by decide +kernel
theorem dX8_falls_6 : decode cX8_falls 6 = .ok (.ifCond .ne 6, 3) := by decide +kernel
theorem dX8_falls_9 : decode cX8_falls 9 = .ok (.bipush (-4), 2) := by decide +kernel
theorem dX8_falls_11 : decode cX8_falls 11 = .ok (.ireturn, 1) := by decide +kernel
theorem dX8_falls_12 : decode cX8_falls 12 = .ok (.aload_n 0, 1) := by decide +kernel
theorem dX8_falls_13 : decode cX8_falls 13 = .ok (.invokevirtual 257, 3) := by decide +kernel
theorem dX8_falls_16 : decode cX8_falls 16 = .ok (.aload_n 0, 1) := by decide +kernel
theorem dX8_falls_17 : decode cX8_falls 17 = .ok (.invokevirtual 260, 3) := by decide +kernel
theorem dX8_falls_20 : decode cX8_falls 20 = .ok (.pop, 1) := by decide +kernel
theorem dX8_falls_21 : decode cX8_falls 21 = .ok (.aload_n 0, 1) := by decide +kernel
theorem dX8_falls_22 : decode cX8_falls 22 = .ok (.invokevirtual 254, 3) := by decide +kernel
theorem dX8_falls_25 : decode cX8_falls 25 = .ok (.istore_n 1, 1) := by decide +kernel
theorem dX8_falls_26 : decode cX8_falls 26 = .ok (.iload_n 1, 1) := by decide +kernel
theorem dX8_falls_27 : decode cX8_falls 27 = .ok (.bipush (-9), 2) := by decide +kernel
theorem dX8_falls_29 : decode cX8_falls 29 = .ok (.if_icmp .ne 8, 3) := by decide +kernel
theorem dX8_falls_32 : decode cX8_falls 32 = .ok (.bipush (-9), 2) := by decide +kernel
theorem dX8_falls_34 : decode cX8_falls 34 = .ok (.goto 16, 3) := by decide +kernel
theorem dX8_falls_37 : decode cX8_falls 37 = .ok (.aload_n 0, 1) := by decide +kernel
theorem dX8_falls_38 : decode cX8_falls 38 = .ok (.iload_n 1, 1) := by decide +kernel
theorem dX8_falls_39 : decode cX8_falls 39 = .ok (.aload_n 0, 1) := by decide +kernel
theorem dX8_falls_40 : decode cX8_falls 40 = .ok (.bipush 32, 2) := by decide +kernel
theorem dX8_falls_42 : decode cX8_falls 42 = .ok (.iload_n 1, 1) := by decide +kernel
theorem dX8_falls_43 : decode cX8_falls 43 = .ok (.iadd, 1) := by decide +kernel
theorem dX8_falls_44 : decode cX8_falls 44 = .ok (.invokevirtual 154, 3) := by decide +kernel
theorem dX8_falls_47 : decode cX8_falls 47 = .ok (.invokevirtual 93, 3) := by decide +kernel
theorem dX8_falls_50 : decode cX8_falls 50 = .ok (.ireturn, 1) := by decide +kernel
theorem dX8_pace_0 : decode cX8_pace 0 = .ok (.iload_n 1, 1) := by decide +kernel
theorem dX8_pace_1 : decode cX8_pace 1 = .ok (.iconst 1, 1) := by decide +kernel
theorem dX8_pace_2 : decode cX8_pace 2 = .ok (.bipush 9, 2) := by decide +kernel
theorem dX8_pace_4 : decode cX8_pace 4 = .ok (.invokestatic 71, 3) := by decide +kernel
theorem dX8_pace_7 : decode cX8_pace 7 = .ok (.ifCond .ne 5, 3) := by decide +kernel
theorem dX8_pace_10 : decode cX8_pace 10 = .ok (.iconst (-1), 1) := by decide +kernel
theorem dX8_pace_11 : decode cX8_pace 11 = .ok (.ireturn, 1) := by decide +kernel
theorem dX8_pace_12 : decode cX8_pace 12 = .ok (.aload_n 0, 1) := by decide +kernel
theorem dX8_pace_13 : decode cX8_pace 13 = .ok (.getfield 48, 3) := by decide +kernel
theorem dX8_pace_16 : decode cX8_pace 16 = .ok (.iconst 0, 1) := by decide +kernel
theorem dX8_pace_17 : decode cX8_pace 17 = .ok (.baload, 1) := by decide +kernel
theorem dX8_pace_18 : decode cX8_pace 18 = .ok (.ifCond .ne 6, 3) := by decide +kernel
theorem dX8_pace_21 : decode cX8_pace 21 = .ok (.bipush (-4), 2) := by decide +kernel
theorem dX8_pace_23 : decode cX8_pace 23 = .ok (.ireturn, 1) := by decide +kernel
theorem dX8_pace_24 : decode cX8_pace 24 = .ok (.aload_n 0, 1) := by decide +kernel
theorem dX8_pace_25 : decode cX8_pace 25 = .ok (.invokevirtual 257, 3) := by decide +kernel
theorem dX8_pace_28 : decode cX8_pace 28 = .ok (.aload_n 0, 1) := by decide +kernel
theorem dX8_pace_29 : decode cX8_pace 29 = .ok (.iconst 4, 1) := by decide +kernel
theorem dX8_pace_30 : decode cX8_pace 30 = .ok (.iload_n 1, 1) := by decide +kernel
theorem dX8_pace_31 : decode cX8_pace 31 = .ok (.invokevirtual 163, 3) := by decide +kernel
theorem dX8_pace_34 : decode cX8_pace 34 = .ok (.aload_n 0, 1) := by decide +kernel
theorem dX8_pace_35 : decode cX8_pace 35 = .ok (.invokevirtual 260, 3) := by decide +kernel
theorem dX8_pace_38 : decode cX8_pace 38 = .ok (.ireturn, 1) := by decide +kernel
theorem dX8_lean_0 : decode cX8_lean 0 = .ok (.iload_n 1, 1) := by decide +kernel
theorem dX8_lean_1 : decode cX8_lean 1 = .ok (.iconst 0, 1) := by decide +kernel
theorem dX8_lean_2 : decode cX8_lean 2 = .ok (.bipush 7, 2) := by decide +kernel
theorem dX8_lean_4 : decode cX8_lean 4 = .ok (.invokestatic 71, 3) := by decide +kernel
theorem dX8_lean_7 : decode cX8_lean 7 = .ok (.ifCond .ne 5, 3) := by decide +kernel
theorem dX8_lean_10 : decode cX8_lean 10 = .ok (.iconst (-1), 1) := by decide +kernel
theorem dX8_lean_11 : decode cX8_lean 11 = .ok (.ireturn, 1) := by decide +kernel
theorem dX8_lean_12 : decode cX8_lean 12 = .ok (.aload_n 0, 1) := by decide +kernel
theorem dX8_lean_13 : decode cX8_lean 13 = .ok (.getfield 48, 3) := by decide +kernel
theorem dX8_lean_16 : decode cX8_lean 16 = .ok (.iconst 0, 1) := by decide +kernel
theorem dX8_lean_17 : decode cX8_lean 17 = .ok (.baload, 1) := by decide +kernel
theorem dX8_lean_18 : decode cX8_lean 18 = .ok (.ifCond .ne 6, 3) := by decide +kernel
theorem dX8_lean_21 : decode cX8_lean 21 = .ok (.bipush (-4), 2) := by decide +kernel
theorem dX8_lean_23 : decode cX8_lean 23 = .ok (.ireturn, 1) := by decide +kernel
theorem dX8_lean_24 : decode cX8_lean 24 = .ok (.aload_n 0, 1) := by decide +kernel
theorem dX8_lean_25 : decode cX8_lean 25 = .ok (.invokevirtual 257, 3) := by decide +kernel
theorem dX8_lean_28 : decode cX8_lean 28 = .ok (.iload_n 1, 1) := by decide +kernel
theorem dX8_lean_29 : decode cX8_lean 29 = .ok (.aload_n 0, 1) := by decide +kernel
theorem dX8_lean_30 : decode cX8_lean 30 = .ok (.bipush 6, 2) := by decide +kernel
theorem dX8_lean_32 : decode cX8_lean 32 = .ok (.invokevirtual 154, 3) := by decide +kernel
theorem dX8_lean_35 : decode cX8_lean 35 = .ok (.if_icmp .lt 9, 3) := by decide +kernel
theorem dX8_lean_38 : decode cX8_lean 38 = .ok (.aload_n 0, 1) := by decide +kernel
theorem dX8_lean_39 : decode cX8_lean 39 = .ok (.iconst 2, 1) := by decide +kernel
theorem dX8_lean_40 : decode cX8_lean 40 = .ok (.invokevirtual 85, 3) := by decide +kernel
theorem dX8_lean_43 : decode cX8_lean 43 = .ok (.ireturn, 1) := by decide +kernel
theorem dX8_lean_44 : decode cX8_lean 44 = .ok (.bipush (-9), 2) := by decide +kernel
theorem dX8_lean_46 : decode cX8_lean 46 = .ok (.istore_n 2, 1) := by decide +kernel
theorem dX8_lean_47 : decode cX8_lean 47 = .ok (.iconst 0, 1) := by decide +kernel
theorem dX8_lean_48 : decode cX8_lean 48 = .ok (.istore_n 3, 1) := by decide +kernel
theorem dX8_lean_49 : decode cX8_lean 49 = .ok (.iload_n 3, 1) := by decide +kernel
theorem dX8_lean_50 : decode cX8_lean 50 = .ok (.bipush 9, 2) := by decide +kernel
theorem dX8_lean_52 : decode cX8_lean 52 = .ok (.if_icmp .gt 35, 3) := by decide +kernel
theorem dX8_lean_55 : decode cX8_lean 55 = .ok (.aload_n 0, 1) := by decide +kernel
theorem dX8_lean_56 : decode cX8_lean 56 = .ok (.bipush 7, 2) := by decide +kernel
theorem dX8_lean_58 : decode cX8_lean 58 = .ok (.iconst 3, 1) := by decide +kernel
theorem dX8_lean_59 : decode cX8_lean 59 = .ok (.iload_n 1, 1) := by decide +kernel
theorem dX8_lean_60 : decode cX8_lean 60 = .ok (.imul, 1) := by decide +kernel
theorem dX8_lean_61 : decode cX8_lean 61 = .ok (.iadd, 1) := by decide +kernel
theorem dX8_lean_62 : decode cX8_lean 62 = .ok (.iconst 2, 1) := by decide +kernel
theorem dX8_lean_63 : decode cX8_lean 63 = .ok (.iadd, 1) := by decide +kernel
theorem dX8_lean_64 : decode cX8_lean 64 = .ok (.iload_n 3, 1) := by decide +kernel
theorem dX8_lean_65 : decode cX8_lean 65 = .ok (.invokevirtual 163, 3) := by decide +kernel
theorem dX8_lean_68 : decode cX8_lean 68 = .ok (.aload_n 0, 1) := by decide +kernel
theorem dX8_lean_69 : decode cX8_lean 69 = .ok (.invokevirtual 260, 3) := by decide +kernel
theorem dX8_lean_72 : decode cX8_lean 72 = .ok (.ifCond .ne 7, 3) := by decide +kernel
theorem dX8_lean_75 : decode cX8_lean 75 = .ok (.iload_n 3, 1) := by decide +kernel
theorem dX8_lean_76 : decode cX8_lean 76 = .ok (.goto 4, 3) := by decide +kernel
theorem dX8_lean_79 : decode cX8_lean 79 = .ok (.iload_n 2, 1) := by decide +kernel
theorem dX8_lean_80 : decode cX8_lean 80 = .ok (.istore_n 2, 1) := by decide +kernel
theorem dX8_lean_81 : decode cX8_lean 81 = .ok (.iinc 3 1, 3) := by decide +kernel
theorem dX8_lean_84 : decode cX8_lean 84 = .ok (.goto (-35), 3) := by decide +kernel
theorem dX8_lean_87 : decode cX8_lean 87 = .ok (.iload_n 2, 1) := by decide +kernel
theorem dX8_lean_88 : decode cX8_lean 88 = .ok (.ireturn, 1) := by decide +kernel
theorem dX8_slow_0 : decode cX8_slow 0 = .ok (.aload_n 0, 1) := by decide +kernel
theorem dX8_slow_1 : decode cX8_slow 1 = .ok (.getfield 48, 3) := by decide +kernel
theorem dX8_slow_4 : decode cX8_slow 4 = .ok (.iconst 0, 1) := by decide +kernel
theorem dX8_slow_5 : decode cX8_slow 5 = .ok (.baload, 1) := by decide +kernel
theorem dX8_slow_6 : decode cX8_slow 6 = .ok (.ifCond .ne 6, 3) := by decide +kernel
theorem dX8_slow_9 : decode cX8_slow 9 = .ok (.bipush (-4), 2) := by decide +kernel
theorem dX8_slow_11 : decode cX8_slow 11 = .ok (.ireturn, 1) := by decide +kernel
theorem dX8_slow_12 : decode cX8_slow 12 = .ok (.bipush (-9), 2) := by decide +kernel
theorem dX8_slow_14 : decode cX8_slow 14 = .ok (.istore_n 1, 1) := by decide +kernel
theorem dX8_slow_15 : decode cX8_slow 15 = .ok (.bipush 9, 2) := by decide +kernel
theorem dX8_slow_17 : decode cX8_slow 17 = .ok (.istore_n 2, 1) := by decide +kernel
theorem dX8_slow_18 : decode cX8_slow 18 = .ok (.iload_n 2, 1) := by decide +kernel
theorem dX8_slow_19 : decode cX8_slow 19 = .ok (.iconst 1, 1) := by decide +kernel
theorem dX8_slow_20 : decode cX8_slow 20 = .ok (.if_icmp .lt 32, 3) := by decide +kernel
theorem dX8_slow_23 : decode cX8_slow 23 = .ok (.aload_n 0, 1) := by decide +kernel
theorem dX8_slow_24 : decode cX8_slow 24 = .ok (.invokevirtual 257, 3) := by decide +kernel
theorem dX8_slow_27 : decode cX8_slow 27 = .ok (.aload_n 0, 1) := by decide +kernel
theorem dX8_slow_28 : decode cX8_slow 28 = .ok (.iconst 4, 1) := by decide +kernel
theorem dX8_slow_29 : decode cX8_slow 29 = .ok (.iload_n 2, 1) := by decide +kernel
theorem dX8_slow_30 : decode cX8_slow 30 = .ok (.invokevirtual 163, 3) := by decide +kernel
theorem dX8_slow_33 : decode cX8_slow 33 = .ok (.aload_n 0, 1) := by decide +kernel
theorem dX8_slow_34 : decode cX8_slow 34 = .ok (.invokevirtual 260, 3) := by decide +kernel
theorem dX8_slow_37 : decode cX8_slow 37 = .ok (.ifCond .ne 7, 3) := by decide +kernel
theorem dX8_slow_40 : decode cX8_slow 40 = .ok (.iload_n 2, 1) := by decide +kernel
theorem dX8_slow_41 : decode cX8_slow 41 = .ok (.goto 4, 3) := by decide +kernel
theorem dX8_slow_44 : decode cX8_slow 44 = .ok (.iload_n 1, 1) := by decide +kernel
theorem dX8_slow_45 : decode cX8_slow 45 = .ok (.istore_n 1, 1) := by decide +kernel
theorem dX8_slow_46 : decode cX8_slow 46 = .ok (.iinc 2 (-1), 3) := by decide +kernel
theorem dX8_slow_49 : decode cX8_slow 49 = .ok (.goto (-31), 3) := by decide +kernel
theorem dX8_slow_52 : decode cX8_slow 52 = .ok (.iload_n 1, 1) := by decide +kernel
theorem dX8_slow_53 : decode cX8_slow 53 = .ok (.bipush (-9), 2) := by decide +kernel
theorem dX8_slow_55 : decode cX8_slow 55 = .ok (.if_icmp .ne 6, 3) := by decide +kernel
theorem dX8_slow_58 : decode cX8_slow 58 = .ok (.bipush (-9), 2) := by decide +kernel
theorem dX8_slow_60 : decode cX8_slow 60 = .ok (.ireturn, 1) := by decide +kernel
theorem dX8_slow_61 : decode cX8_slow 61 = .ok (.bipush (-9), 2) := by decide +kernel
theorem dX8_slow_63 : decode cX8_slow 63 = .ok (.istore_n 2, 1) := by decide +kernel
theorem dX8_slow_64 : decode cX8_slow 64 = .ok (.bipush 40, 2) := by decide +kernel
theorem dX8_slow_66 : decode cX8_slow 66 = .ok (.istore_n 3, 1) := by decide +kernel
theorem dX8_slow_67 : decode cX8_slow 67 = .ok (.iload_n 3, 1) := by decide +kernel
theorem dX8_slow_68 : decode cX8_slow 68 = .ok (.ifCond .lt 32, 3) := by decide +kernel
theorem dX8_slow_71 : decode cX8_slow 71 = .ok (.aload_n 0, 1) := by decide +kernel
theorem dX8_slow_72 : decode cX8_slow 72 = .ok (.invokevirtual 257, 3) := by decide +kernel
theorem dX8_slow_75 : decode cX8_slow 75 = .ok (.aload_n 0, 1) := by decide +kernel
theorem dX8_slow_76 : decode cX8_slow 76 = .ok (.iconst 2, 1) := by decide +kernel
theorem dX8_slow_77 : decode cX8_slow 77 = .ok (.iload_n 3, 1) := by decide +kernel
theorem dX8_slow_78 : decode cX8_slow 78 = .ok (.invokevirtual 163, 3) := by decide +kernel
theorem dX8_slow_81 : decode cX8_slow 81 = .ok (.aload_n 0, 1) := by decide +kernel
theorem dX8_slow_82 : decode cX8_slow 82 = .ok (.invokevirtual 260, 3) := by decide +kernel
theorem dX8_slow_85 : decode cX8_slow 85 = .ok (.ifCond .ne 7, 3) := by decide +kernel
theorem dX8_slow_88 : decode cX8_slow 88 = .ok (.iload_n 3, 1) := by decide +kernel
theorem dX8_slow_89 : decode cX8_slow 89 = .ok (.goto 4, 3) := by decide +kernel
theorem dX8_slow_92 : decode cX8_slow 92 = .ok (.iload_n 2, 1) := by decide +kernel
theorem dX8_slow_93 : decode cX8_slow 93 = .ok (.istore_n 2, 1) := by decide +kernel
theorem dX8_slow_94 : decode cX8_slow 94 = .ok (.iinc 3 (-1), 3) := by decide +kernel
theorem dX8_slow_97 : decode cX8_slow 97 = .ok (.goto (-30), 3) := by decide +kernel
theorem dX8_slow_100 : decode cX8_slow 100 = .ok (.aload_n 0, 1) := by decide +kernel
theorem dX8_slow_101 : decode cX8_slow 101 = .ok (.iload_n 2, 1) := by decide +kernel
theorem dX8_slow_102 : decode cX8_slow 102 = .ok (.iload_n 1, 1) := by decide +kernel
theorem dX8_slow_103 : decode cX8_slow 103 = .ok (.invokevirtual 93, 3) := by decide +kernel
theorem dX8_slow_106 : decode cX8_slow 106 = .ok (.ireturn, 1) := by decide +kernel
theorem dX8_spiral_0 : decode cX8_spiral 0 = .ok (.aload_n 0, 1) := by decide +kernel
theorem dX8_spiral_1 : decode cX8_spiral 1 = .ok (.getfield 48, 3) := by decide +kernel
theorem dX8_spiral_4 : decode cX8_spiral 4 = .ok (.iconst 0, 1) := by decide +kernel
theorem dX8_spiral_5 : decode cX8_spiral 5 = .ok (.baload, 1) := by decide +kernel
theorem dX8_spiral_6 : decode cX8_spiral 6 = .ok (.ifCond .ne 6, 3) := by decide +kernel
theorem dX8_spiral_9 : decode cX8_spiral 9 = .ok (.bipush (-4), 2) := by decide +kernel
theorem dX8_spiral_11 : decode cX8_spiral 11 = .ok (.ireturn, 1) := by decide +kernel
theorem dX8_spiral_12 : decode cX8_spiral 12 = .ok (.bipush (-9), 2) := by decide +kernel
theorem dX8_spiral_14 : decode cX8_spiral 14 = .ok (.istore_n 1, 1) := by decide +kernel
theorem dX8_spiral_15 : decode cX8_spiral 15 = .ok (.iconst 0, 1) := by decide +kernel
theorem dX8_spiral_16 : decode cX8_spiral 16 = .ok (.istore_n 2, 1) := by decide +kernel
theorem dX8_spiral_17 : decode cX8_spiral 17 = .ok (.aload_n 0, 1) := by decide +kernel
theorem dX8_spiral_18 : decode cX8_spiral 18 = .ok (.invokevirtual 257, 3) := by decide +kernel
theorem dX8_spiral_21 : decode cX8_spiral 21 = .ok (.iconst 1, 1) := by decide +kernel
theorem dX8_spiral_22 : decode cX8_spiral 22 = .ok (.aload_n 0, 1) := by decide +kernel
theorem dX8_spiral_23 : decode cX8_spiral 23 = .ok (.bipush 6, 2) := by decide +kernel
theorem dX8_spiral_25 : decode cX8_spiral 25 = .ok (.invokevirtual 154, 3) := by decide +kernel
theorem dX8_spiral_28 : decode cX8_spiral 28 = .ok (.ishl, 1) := by decide +kernel
theorem dX8_spiral_29 : decode cX8_spiral 29 = .ok (.istore_n 3, 1) := by decide +kernel
theorem dX8_spiral_30 : decode cX8_spiral 30 = .ok (.iconst 0, 1) := by decide +kernel
theorem dX8_spiral_31 : decode cX8_spiral 31 = .ok (.istore 4, 2) := by decide +kernel
theorem dX8_spiral_33 : decode cX8_spiral 33 = .ok (.iload 4, 2) := by decide +kernel
theorem dX8_spiral_35 : decode cX8_spiral 35 = .ok (.iload_n 3, 1) := by decide +kernel
theorem dX8_spiral_36 : decode cX8_spiral 36 = .ok (.if_icmp .ge 80, 3) := by decide +kernel
theorem dX8_spiral_39 : decode cX8_spiral 39 = .ok (.iconst 0, 1) := by decide +kernel
theorem dX8_spiral_40 : decode cX8_spiral 40 = .ok (.istore 5, 2) := by decide +kernel
theorem dX8_spiral_42 : decode cX8_spiral 42 = .ok (.iload 5, 2) := by decide +kernel
theorem dX8_spiral_44 : decode cX8_spiral 44 = .ok (.aload_n 0, 1) := by decide +kernel
theorem dX8_spiral_45 : decode cX8_spiral 45 = .ok (.bipush 6, 2) := by decide +kernel
theorem dX8_spiral_47 : decode cX8_spiral 47 = .ok (.invokevirtual 154, 3) := by decide +kernel
theorem dX8_spiral_50 : decode cX8_spiral 50 = .ok (.if_icmp .ge 36, 3) := by decide +kernel
theorem dX8_spiral_53 : decode cX8_spiral 53 = .ok (.aload_n 0, 1) := by decide +kernel
theorem dX8_spiral_54 : decode cX8_spiral 54 = .ok (.bipush 7, 2) := by decide +kernel
theorem dX8_spiral_56 : decode cX8_spiral 56 = .ok (.iconst 3, 1) := by decide +kernel
theorem dX8_spiral_57 : decode cX8_spiral 57 = .ok (.iload 5, 2) := by decide +kernel
theorem dX8_spiral_59 : decode cX8_spiral 59 = .ok (.imul, 1) := by decide +kernel
theorem dX8_spiral_60 : decode cX8_spiral 60 = .ok (.iadd, 1) := by decide +kernel
theorem dX8_spiral_61 : decode cX8_spiral 61 = .ok (.iload 4, 2) := by decide +kernel
theorem dX8_spiral_63 : decode cX8_spiral 63 = .ok (.iload 5, 2) := by decide +kernel
theorem dX8_spiral_65 : decode cX8_spiral 65 = .ok (.ishr, 1) := by decide +kernel
theorem dX8_spiral_66 : decode cX8_spiral 66 = .ok (.iconst 1, 1) := by decide +kernel
theorem dX8_spiral_67 : decode cX8_spiral 67 = .ok (.iand, 1) := by decide +kernel
theorem dX8_spiral_68 : decode cX8_spiral 68 = .ok (.iconst 1, 1) := by decide +kernel
theorem dX8_spiral_69 : decode cX8_spiral 69 = .ok (.if_icmp .ne 7, 3) := by decide +kernel
theorem dX8_spiral_72 : decode cX8_spiral 72 = .ok (.iconst 2, 1) := by decide +kernel
theorem dX8_spiral_73 : decode cX8_spiral 73 = .ok (.goto 4, 3) := by decide +kernel
theorem dX8_spiral_76 : decode cX8_spiral 76 = .ok (.iconst 1, 1) := by decide +kernel
theorem dX8_spiral_77 : decode cX8_spiral 77 = .ok (.invokevirtual 163, 3) := by decide +kernel
theorem dX8_spiral_80 : decode cX8_spiral 80 = .ok (.iinc 5 1, 3) := by decide +kernel
theorem dX8_spiral_83 : decode cX8_spiral 83 = .ok (.goto (-41), 3) := by decide +kernel
theorem dX8_spiral_86 : decode cX8_spiral 86 = .ok (.aload_n 0, 1) := by decide +kernel
theorem dX8_spiral_87 : decode cX8_spiral 87 = .ok (.invokevirtual 260, 3) := by decide +kernel
theorem dX8_spiral_90 : decode cX8_spiral 90 = .ok (.istore 5, 2) := by decide +kernel
theorem dX8_spiral_92 : decode cX8_spiral 92 = .ok (.iload_n 1, 1) := by decide +kernel
theorem dX8_spiral_93 : decode cX8_spiral 93 = .ok (.bipush (-9), 2) := by decide +kernel
theorem dX8_spiral_95 : decode cX8_spiral 95 = .ok (.if_icmp .eq 9, 3) := by decide +kernel
theorem dX8_spiral_98 : decode cX8_spiral 98 = .ok (.iload 5, 2) := by decide +kernel
theorem dX8_spiral_100 : decode cX8_spiral 100 = .ok (.iload_n 2, 1) := by decide +kernel
theorem dX8_spiral_101 : decode cX8_spiral 101 = .ok (.if_icmp .ge 9, 3) := by decide +kernel
theorem dX8_spiral_104 : decode cX8_spiral 104 = .ok (.iload 4, 2) := by decide +kernel
theorem dX8_spiral_106 : decode cX8_spiral 106 = .ok (.istore_n 1, 1) := by decide +kernel
theorem dX8_spiral_107 : decode cX8_spiral 107 = .ok (.iload 5, 2) := by decide +kernel
theorem dX8_spiral_109 : decode cX8_spiral 109 = .ok (.istore_n 2, 1) := by decide +kernel
theorem dX8_spiral_110 : decode cX8_spiral 110 = .ok (.iinc 4 1, 3) := by decide +kernel
theorem dX8_spiral_113 : decode cX8_spiral 113 = .ok (.goto (-80), 3) := by decide +kernel
theorem dX8_spiral_116 : decode cX8_spiral 116 = .ok (.aload_n 0, 1) := by decide +kernel
theorem dX8_spiral_117 : decode cX8_spiral 117 = .ok (.iload_n 2, 1) := by decide +kernel
theorem dX8_spiral_118 : decode cX8_spiral 118 = .ok (.iload_n 1, 1) := by decide +kernel
theorem dX8_spiral_119 : decode cX8_spiral 119 = .ok (.invokevirtual 93, 3) := by decide +kernel
theorem dX8_spiral_122 : decode cX8_spiral 122 = .ok (.ireturn, 1) := by decide +kernel
theorem dX8_slips_0 : decode cX8_slips 0 = .ok (.aload_n 0, 1) := by decide +kernel
theorem dX8_slips_1 : decode cX8_slips 1 = .ok (.invokevirtual 257, 3) := by decide +kernel
theorem dX8_slips_4 : decode cX8_slips 4 = .ok (.iload_n 1, 1) := by decide +kernel
theorem dX8_slips_5 : decode cX8_slips 5 = .ok (.bipush 80, 2) := by decide +kernel
theorem dX8_slips_7 : decode cX8_slips 7 = .ok (.if_icmp .eq 9, 3) := by decide +kernel
theorem dX8_slips_10 : decode cX8_slips 10 = .ok (.iload_n 1, 1) := by decide +kernel
theorem dX8_slips_11 : decode cX8_slips 11 = .ok (.bipush 90, 2) := by decide +kernel
theorem dX8_slips_13 : decode cX8_slips 13 = .ok (.if_icmp .ne 49, 3) := by decide +kernel
theorem dX8_slips_16 : decode cX8_slips 16 = .ok (.aload_n 0, 1) := by decide +kernel
theorem dX8_slips_17 : decode cX8_slips 17 = .ok (.iconst 4, 1) := by decide +kernel
theorem dX8_slips_18 : decode cX8_slips 18 = .ok (.invokevirtual 154, 3) := by decide +kernel
theorem dX8_slips_21 : decode cX8_slips 21 = .ok (.iload_n 1, 1) := by decide +kernel
theorem dX8_slips_22 : decode cX8_slips 22 = .ok (.bipush 80, 2) := by decide +kernel
theorem dX8_slips_24 : decode cX8_slips 24 = .ok (.if_icmp .ne 7, 3) := by decide +kernel
theorem dX8_slips_27 : decode cX8_slips 27 = .ok (.iconst (-1), 1) := by decide +kernel
theorem dX8_slips_28 : decode cX8_slips 28 = .ok (.goto 4, 3) := by decide +kernel
theorem dX8_slips_31 : decode cX8_slips 31 = .ok (.iconst 1, 1) := by decide +kernel
theorem dX8_slips_32 : decode cX8_slips 32 = .ok (.iadd, 1) := by decide +kernel
theorem dX8_slips_33 : decode cX8_slips 33 = .ok (.istore_n 2, 1) := by decide +kernel
theorem dX8_slips_34 : decode cX8_slips 34 = .ok (.iload_n 2, 1) := by decide +kernel
theorem dX8_slips_35 : decode cX8_slips 35 = .ok (.iconst 1, 1) := by decide +kernel
theorem dX8_slips_36 : decode cX8_slips 36 = .ok (.bipush 9, 2) := by decide +kernel
theorem dX8_slips_38 : decode cX8_slips 38 = .ok (.invokestatic 71, 3) := by decide +kernel
theorem dX8_slips_41 : decode cX8_slips 41 = .ok (.istore_n 3, 1) := by decide +kernel
theorem dX8_slips_42 : decode cX8_slips 42 = .ok (.aload_n 0, 1) := by decide +kernel
theorem dX8_slips_43 : decode cX8_slips 43 = .ok (.iconst 4, 1) := by decide +kernel
theorem dX8_slips_44 : decode cX8_slips 44 = .ok (.iload_n 3, 1) := by decide +kernel
theorem dX8_slips_45 : decode cX8_slips 45 = .ok (.ifCond .eq 7, 3) := by decide +kernel
theorem dX8_slips_48 : decode cX8_slips 48 = .ok (.iload_n 2, 1) := by decide +kernel
theorem dX8_slips_49 : decode cX8_slips 49 = .ok (.goto 8, 3) := by decide +kernel
theorem dX8_slips_52 : decode cX8_slips 52 = .ok (.aload_n 0, 1) := by decide +kernel
theorem dX8_slips_53 : decode cX8_slips 53 = .ok (.iconst 4, 1) := by decide +kernel
theorem dX8_slips_54 : decode cX8_slips 54 = .ok (.invokevirtual 154, 3) := by decide +kernel
theorem dX8_slips_57 : decode cX8_slips 57 = .ok (.invokevirtual 163, 3) := by decide +kernel
theorem dX8_slips_60 : decode cX8_slips 60 = .ok (.iload_n 3, 1) := by decide +kernel
theorem dX8_slips_61 : decode cX8_slips 61 = .ok (.ireturn, 1) := by decide +kernel
theorem dX8_slips_62 : decode cX8_slips 62 = .ok (.iload_n 1, 1) := by decide +kernel
theorem dX8_slips_63 : decode cX8_slips 63 = .ok (.bipush 10, 2) := by decide +kernel
theorem dX8_slips_65 : decode cX8_slips 65 = .ok (.idiv, 1) := by decide +kernel
theorem dX8_slips_66 : decode cX8_slips 66 = .ok (.istore_n 2, 1) := by decide +kernel
theorem dX8_slips_67 : decode cX8_slips 67 = .ok (.iload_n 1, 1) := by decide +kernel
theorem dX8_slips_68 : decode cX8_slips 68 = .ok (.bipush 10, 2) := by decide +kernel
theorem dX8_slips_70 : decode cX8_slips 70 = .ok (.irem, 1) := by decide +kernel
theorem dX8_slips_71 : decode cX8_slips 71 = .ok (.istore_n 3, 1) := by decide +kernel
theorem dX8_slips_72 : decode cX8_slips 72 = .ok (.iload_n 2, 1) := by decide +kernel
theorem dX8_slips_73 : decode cX8_slips 73 = .ok (.aload_n 0, 1) := by decide +kernel
theorem dX8_slips_74 : decode cX8_slips 74 = .ok (.bipush 6, 2) := by decide +kernel
theorem dX8_slips_76 : decode cX8_slips 76 = .ok (.invokevirtual 154, 3) := by decide +kernel
theorem dX8_slips_79 : decode cX8_slips 79 = .ok (.if_icmp .ge 8, 3) := by decide +kernel
theorem dX8_slips_82 : decode cX8_slips 82 = .ok (.iload_n 3, 1) := by decide +kernel
theorem dX8_slips_83 : decode cX8_slips 83 = .ok (.iconst 2, 1) := by decide +kernel
theorem dX8_slips_84 : decode cX8_slips 84 = .ok (.if_icmp .le 5, 3) := by decide +kernel
theorem dX8_slips_87 : decode cX8_slips 87 = .ok (.iconst 0, 1) := by decide +kernel
theorem dX8_slips_88 : decode cX8_slips 88 = .ok (.ireturn, 1) := by decide +kernel
theorem dX8_slips_89 : decode cX8_slips 89 = .ok (.aload_n 0, 1) := by decide +kernel
theorem dX8_slips_90 : decode cX8_slips 90 = .ok (.iload_n 2, 1) := by decide +kernel
theorem dX8_slips_91 : decode cX8_slips 91 = .ok (.invokevirtual 215, 3) := by decide +kernel
theorem dX8_slips_94 : decode cX8_slips 94 = .ok (.iload_n 3, 1) := by decide +kernel
theorem dX8_slips_95 : decode cX8_slips 95 = .ok (.iconst 2, 1) := by decide +kernel
theorem dX8_slips_96 : decode cX8_slips 96 = .ok (.if_icmp .ne 7, 3) := by decide +kernel
theorem dX8_slips_99 : decode cX8_slips 99 = .ok (.iconst (-1), 1) := by decide +kernel
theorem dX8_slips_100 : decode cX8_slips 100 = .ok (.goto 6, 3) := by decide +kernel
theorem dX8_slips_103 : decode cX8_slips 103 = .ok (.iload_n 3, 1) := by decide +kernel
theorem dX8_slips_104 : decode cX8_slips 104 = .ok (.iconst 1, 1) := by decide +kernel
theorem dX8_slips_105 : decode cX8_slips 105 = .ok (.iadd, 1) := by decide +kernel
theorem dX8_slips_106 : decode cX8_slips 106 = .ok (.iadd, 1) := by decide +kernel
theorem dX8_slips_107 : decode cX8_slips 107 = .ok (.istore 4, 2) := by decide +kernel
theorem dX8_slips_109 : decode cX8_slips 109 = .ok (.iload 4, 2) := by decide +kernel
theorem dX8_slips_111 : decode cX8_slips 111 = .ok (.iconst 0, 1) := by decide +kernel
theorem dX8_slips_112 : decode cX8_slips 112 = .ok (.bipush 9, 2) := by decide +kernel
theorem dX8_slips_114 : decode cX8_slips 114 = .ok (.invokestatic 71, 3) := by decide +kernel
theorem dX8_slips_117 : decode cX8_slips 117 = .ok (.istore 5, 2) := by decide +kernel
theorem dX8_slips_119 : decode cX8_slips 119 = .ok (.aload_n 0, 1) := by decide +kernel
theorem dX8_slips_120 : decode cX8_slips 120 = .ok (.bipush 7, 2) := by decide +kernel
theorem dX8_slips_122 : decode cX8_slips 122 = .ok (.iconst 3, 1) := by decide +kernel
theorem dX8_slips_123 : decode cX8_slips 123 = .ok (.iload_n 2, 1) := by decide +kernel
theorem dX8_slips_124 : decode cX8_slips 124 = .ok (.imul, 1) := by decide +kernel
theorem dX8_slips_125 : decode cX8_slips 125 = .ok (.iadd, 1) := by decide +kernel
theorem dX8_slips_126 : decode cX8_slips 126 = .ok (.iconst 2, 1) := by decide +kernel
theorem dX8_slips_127 : decode cX8_slips 127 = .ok (.iadd, 1) := by decide +kernel
theorem dX8_slips_128 : decode cX8_slips 128 = .ok (.iload 5, 2) := by decide +kernel
theorem dX8_slips_130 : decode cX8_slips 130 = .ok (.ifCond .eq 8, 3) := by decide +kernel
theorem dX8_slips_133 : decode cX8_slips 133 = .ok (.iload 4, 2) := by decide +kernel
theorem dX8_slips_135 : decode cX8_slips 135 = .ok (.goto 8, 3) := by decide +kernel
theorem dX8_slips_138 : decode cX8_slips 138 = .ok (.aload_n 0, 1) := by decide +kernel
theorem dX8_slips_139 : decode cX8_slips 139 = .ok (.iload_n 2, 1) := by decide +kernel
theorem dX8_slips_140 : decode cX8_slips 140 = .ok (.invokevirtual 215, 3) := by decide +kernel
theorem dX8_slips_143 : decode cX8_slips 143 = .ok (.invokevirtual 163, 3) := by decide +kernel
theorem dX8_slips_146 : decode cX8_slips 146 = .ok (.iload 5, 2) := by decide +kernel
theorem dX8_slips_148 : decode cX8_slips 148 = .ok (.ireturn, 1) := by decide +kernel
theorem dX8_isAs_0 : decode cX8_isAs 0 = .ok (.iconst 1, 1) := by decide +kernel
theorem dX8_isAs_1 : decode cX8_isAs 1 = .ok (.istore_n 2, 1) := by decide +kernel
theorem dX8_isAs_2 : decode cX8_isAs 2 = .ok (.iconst 0, 1) := by decide +kernel
theorem dX8_isAs_3 : decode cX8_isAs 3 = .ok (.istore_n 3, 1) := by decide +kernel
theorem dX8_isAs_4 : decode cX8_isAs 4 = .ok (.iload_n 3, 1) := by decide +kernel
theorem dX8_isAs_5 : decode cX8_isAs 5 = .ok (.aload_n 0, 1) := by decide +kernel
theorem dX8_isAs_6 : decode cX8_isAs 6 = .ok (.invokevirtual 178, 3) := by decide +kernel
theorem dX8_isAs_9 : decode cX8_isAs 9 = .ok (.if_icmp .ge 41, 3) := by decide +kernel
theorem dX8_isAs_12 : decode cX8_isAs 12 = .ok (.iload_n 2, 1) := by decide +kernel
theorem dX8_isAs_13 : decode cX8_isAs 13 = .ok (.ifCond .eq 29, 3) := by decide +kernel
theorem dX8_isAs_16 : decode cX8_isAs 16 = .ok (.aload_n 0, 1) := by decide +kernel
theorem dX8_isAs_17 : decode cX8_isAs 17 = .ok (.iload_n 3, 1) := by decide +kernel
theorem dX8_isAs_18 : decode cX8_isAs 18 = .ok (.invokevirtual 185, 3) := by decide +kernel
theorem dX8_isAs_21 : decode cX8_isAs 21 = .ok (.ifCond .eq 7, 3) := by decide +kernel
theorem dX8_isAs_24 : decode cX8_isAs 24 = .ok (.iconst 1, 1) := by decide +kernel
theorem dX8_isAs_25 : decode cX8_isAs 25 = .ok (.goto 4, 3) := by decide +kernel
theorem dX8_isAs_28 : decode cX8_isAs 28 = .ok (.iconst 0, 1) := by decide +kernel
theorem dX8_isAs_29 : decode cX8_isAs 29 = .ok (.aload_n 0, 1) := by decide +kernel
theorem dX8_isAs_30 : decode cX8_isAs 30 = .ok (.iload_n 1, 1) := by decide +kernel
theorem dX8_isAs_31 : decode cX8_isAs 31 = .ok (.iload_n 3, 1) := by decide +kernel
theorem dX8_isAs_32 : decode cX8_isAs 32 = .ok (.invokevirtual 89, 3) := by decide +kernel
theorem dX8_isAs_35 : decode cX8_isAs 35 = .ok (.if_icmp .ne 7, 3) := by decide +kernel
theorem dX8_isAs_38 : decode cX8_isAs 38 = .ok (.iconst 1, 1) := by decide +kernel
theorem dX8_isAs_39 : decode cX8_isAs 39 = .ok (.goto 4, 3) := by decide +kernel
theorem dX8_isAs_42 : decode cX8_isAs 42 = .ok (.iconst 0, 1) := by decide +kernel
theorem dX8_isAs_43 : decode cX8_isAs 43 = .ok (.istore_n 2, 1) := by decide +kernel
theorem dX8_isAs_44 : decode cX8_isAs 44 = .ok (.iinc 3 1, 3) := by decide +kernel
theorem dX8_isAs_47 : decode cX8_isAs 47 = .ok (.goto (-43), 3) := by decide +kernel
theorem dX8_isAs_50 : decode cX8_isAs 50 = .ok (.iload_n 2, 1) := by decide +kernel
theorem dX8_isAs_51 : decode cX8_isAs 51 = .ok (.ireturn, 1) := by decide +kernel
theorem dX8_fell_0 : decode cX8_fell 0 = .ok (.iload_n 1, 1) := by decide +kernel
theorem dX8_fell_1 : decode cX8_fell 1 = .ok (.invokestatic 81, 3) := by decide +kernel
theorem dX8_fell_4 : decode cX8_fell 4 = .ok (.ifCond .ne 5, 3) := by decide +kernel
theorem dX8_fell_7 : decode cX8_fell 7 = .ok (.iconst (-1), 1) := by decide +kernel
theorem dX8_fell_8 : decode cX8_fell 8 = .ok (.ireturn, 1) := by decide +kernel
theorem dX8_fell_9 : decode cX8_fell 9 = .ok (.aload_n 0, 1) := by decide +kernel
theorem dX8_fell_10 : decode cX8_fell 10 = .ok (.getfield 48, 3) := by decide +kernel
theorem dX8_fell_13 : decode cX8_fell 13 = .ok (.iconst 0, 1) := by decide +kernel
theorem dX8_fell_14 : decode cX8_fell 14 = .ok (.baload, 1) := by decide +kernel
theorem dX8_fell_15 : decode cX8_fell 15 = .ok (.ifCond .ne 6, 3) := by decide +kernel
theorem dX8_fell_18 : decode cX8_fell 18 = .ok (.bipush (-4), 2) := by decide +kernel
theorem dX8_fell_20 : decode cX8_fell 20 = .ok (.ireturn, 1) := by decide +kernel
theorem dX8_fell_21 : decode cX8_fell 21 = .ok (.aload_n 0, 1) := by decide +kernel
theorem dX8_fell_22 : decode cX8_fell 22 = .ok (.getfield 13, 3) := by decide +kernel
theorem dX8_fell_25 : decode cX8_fell 25 = .ok (.iload_n 1, 1) := by decide +kernel
theorem dX8_fell_26 : decode cX8_fell 26 = .ok (.iaload, 1) := by decide +kernel
theorem dX8_fell_27 : decode cX8_fell 27 = .ok (.ifCond .ge 9, 3) := by decide +kernel
theorem dX8_fell_30 : decode cX8_fell 30 = .ok (.aload_n 0, 1) := by decide +kernel
theorem dX8_fell_31 : decode cX8_fell 31 = .ok (.iconst 1, 1) := by decide +kernel
theorem dX8_fell_32 : decode cX8_fell 32 = .ok (.invokevirtual 85, 3) := by decide +kernel
theorem dX8_fell_35 : decode cX8_fell 35 = .ok (.ireturn, 1) := by decide +kernel
theorem dX8_fell_36 : decode cX8_fell 36 = .ok (.aload_n 0, 1) := by decide +kernel
theorem dX8_fell_37 : decode cX8_fell 37 = .ok (.iconst 0, 1) := by decide +kernel
theorem dX8_fell_38 : decode cX8_fell 38 = .ok (.invokevirtual 167, 3) := by decide +kernel
theorem dX8_fell_41 : decode cX8_fell 41 = .ok (.aload_n 0, 1) := by decide +kernel
theorem dX8_fell_42 : decode cX8_fell 42 = .ok (.getfield 13, 3) := by decide +kernel
theorem dX8_fell_45 : decode cX8_fell 45 = .ok (.iload_n 1, 1) := by decide +kernel
theorem dX8_fell_46 : decode cX8_fell 46 = .ok (.iaload, 1) := by decide +kernel
theorem dX8_fell_47 : decode cX8_fell 47 = .ok (.aload_n 0, 1) := by decide +kernel
theorem dX8_fell_48 : decode cX8_fell 48 = .ok (.invokevirtual 178, 3) := by decide +kernel
theorem dX8_fell_51 : decode cX8_fell 51 = .ok (.if_icmp .eq 9, 3) := by decide +kernel
theorem dX8_fell_54 : decode cX8_fell 54 = .ok (.aload_n 0, 1) := by decide +kernel
theorem dX8_fell_55 : decode cX8_fell 55 = .ok (.iconst 5, 1) := by decide +kernel
theorem dX8_fell_56 : decode cX8_fell 56 = .ok (.invokevirtual 85, 3) := by decide +kernel
theorem dX8_fell_59 : decode cX8_fell 59 = .ok (.ireturn, 1) := by decide +kernel
theorem dX8_fell_60 : decode cX8_fell 60 = .ok (.iconst 1, 1) := by decide +kernel
theorem dX8_fell_61 : decode cX8_fell 61 = .ok (.istore_n 2, 1) := by decide +kernel
theorem dX8_fell_62 : decode cX8_fell 62 = .ok (.iconst 0, 1) := by decide +kernel
theorem dX8_fell_63 : decode cX8_fell 63 = .ok (.istore_n 3, 1) := by decide +kernel
theorem dX8_fell_64 : decode cX8_fell 64 = .ok (.iload_n 3, 1) := by decide +kernel
theorem dX8_fell_65 : decode cX8_fell 65 = .ok (.aload_n 0, 1) := by decide +kernel
theorem dX8_fell_66 : decode cX8_fell 66 = .ok (.getfield 13, 3) := by decide +kernel
theorem dX8_fell_69 : decode cX8_fell 69 = .ok (.iload_n 1, 1) := by decide +kernel
theorem dX8_fell_70 : decode cX8_fell 70 = .ok (.iaload, 1) := by decide +kernel
theorem dX8_fell_71 : decode cX8_fell 71 = .ok (.if_icmp .ge 33, 3) := by decide +kernel
theorem dX8_fell_74 : decode cX8_fell 74 = .ok (.iload_n 2, 1) := by decide +kernel
theorem dX8_fell_75 : decode cX8_fell 75 = .ok (.ifCond .eq 21, 3) := by decide +kernel
theorem dX8_fell_78 : decode cX8_fell 78 = .ok (.aload_n 0, 1) := by decide +kernel
theorem dX8_fell_79 : decode cX8_fell 79 = .ok (.iload_n 1, 1) := by decide +kernel
theorem dX8_fell_80 : decode cX8_fell 80 = .ok (.iload_n 3, 1) := by decide +kernel
theorem dX8_fell_81 : decode cX8_fell 81 = .ok (.invokevirtual 89, 3) := by decide +kernel
theorem dX8_fell_84 : decode cX8_fell 84 = .ok (.iconst 0, 1) := by decide +kernel
theorem dX8_fell_85 : decode cX8_fell 85 = .ok (.iconst 1, 1) := by decide +kernel
theorem dX8_fell_86 : decode cX8_fell 86 = .ok (.invokestatic 71, 3) := by decide +kernel
theorem dX8_fell_89 : decode cX8_fell 89 = .ok (.ifCond .eq 7, 3) := by decide +kernel
theorem dX8_fell_92 : decode cX8_fell 92 = .ok (.iconst 1, 1) := by decide +kernel
theorem dX8_fell_93 : decode cX8_fell 93 = .ok (.goto 4, 3) := by decide +kernel
theorem dX8_fell_96 : decode cX8_fell 96 = .ok (.iconst 0, 1) := by decide +kernel
theorem dX8_fell_97 : decode cX8_fell 97 = .ok (.istore_n 2, 1) := by decide +kernel
theorem dX8_fell_98 : decode cX8_fell 98 = .ok (.iinc 3 1, 3) := by decide +kernel
theorem dX8_fell_101 : decode cX8_fell 101 = .ok (.goto (-37), 3) := by decide +kernel
theorem dX8_fell_104 : decode cX8_fell 104 = .ok (.iload_n 2, 1) := by decide +kernel
theorem dX8_fell_105 : decode cX8_fell 105 = .ok (.ifCond .ne 9, 3) := by decide +kernel
theorem dX8_fell_108 : decode cX8_fell 108 = .ok (.aload_n 0, 1) := by decide +kernel
theorem dX8_fell_109 : decode cX8_fell 109 = .ok (.iconst 3, 1) := by decide +kernel
theorem dX8_fell_110 : decode cX8_fell 110 = .ok (.invokevirtual 85, 3) := by decide +kernel
theorem dX8_fell_113 : decode cX8_fell 113 = .ok (.ireturn, 1) := by decide +kernel
theorem dX8_fell_114 : decode cX8_fell 114 = .ok (.bipush (-9), 2) := by decide +kernel
theorem dX8_fell_116 : decode cX8_fell 116 = .ok (.istore_n 3, 1) := by decide +kernel
theorem dX8_fell_117 : decode cX8_fell 117 = .ok (.iconst 0, 1) := by decide +kernel
theorem dX8_fell_118 : decode cX8_fell 118 = .ok (.istore 4, 2) := by decide +kernel
theorem dX8_fell_120 : decode cX8_fell 120 = .ok (.iconst 0, 1) := by decide +kernel
theorem dX8_fell_121 : decode cX8_fell 121 = .ok (.istore 5, 2) := by decide +kernel
theorem dX8_fell_123 : decode cX8_fell 123 = .ok (.iload 5, 2) := by decide +kernel
theorem dX8_fell_125 : decode cX8_fell 125 = .ok (.bipush 100, 2) := by decide +kernel
theorem dX8_fell_127 : decode cX8_fell 127 = .ok (.if_icmp .ge 62, 3) := by decide +kernel
theorem dX8_fell_130 : decode cX8_fell 130 = .ok (.aload_n 0, 1) := by decide +kernel
theorem dX8_fell_131 : decode cX8_fell 131 = .ok (.iload 5, 2) := by decide +kernel
theorem dX8_fell_133 : decode cX8_fell 133 = .ok (.invokevirtual 263, 3) := by decide +kernel
theorem dX8_fell_136 : decode cX8_fell 136 = .ok (.ifCond .eq 47, 3) := by decide +kernel
theorem dX8_fell_139 : decode cX8_fell 139 = .ok (.aload_n 0, 1) := by decide +kernel
theorem dX8_fell_140 : decode cX8_fell 140 = .ok (.invokevirtual 260, 3) := by decide +kernel
theorem dX8_fell_143 : decode cX8_fell 143 = .ok (.pop, 1) := by decide +kernel
theorem dX8_fell_144 : decode cX8_fell 144 = .ok (.aload_n 0, 1) := by decide +kernel
theorem dX8_fell_145 : decode cX8_fell 145 = .ok (.iload_n 1, 1) := by decide +kernel
theorem dX8_fell_146 : decode cX8_fell 146 = .ok (.invokevirtual 266, 3) := by decide +kernel
theorem dX8_fell_149 : decode cX8_fell 149 = .ok (.istore 6, 2) := by decide +kernel
theorem dX8_fell_151 : decode cX8_fell 151 = .ok (.iload 6, 2) := by decide +kernel
theorem dX8_fell_153 : decode cX8_fell 153 = .ok (.ifCond .eq 13, 3) := by decide +kernel
theorem dX8_fell_156 : decode cX8_fell 156 = .ok (.iload 4, 2) := by decide +kernel
theorem dX8_fell_158 : decode cX8_fell 158 = .ok (.ifCond .ne 8, 3) := by decide +kernel
theorem dX8_fell_161 : decode cX8_fell 161 = .ok (.iload 5, 2) := by decide +kernel
theorem dX8_fell_163 : decode cX8_fell 163 = .ok (.goto 4, 3) := by decide +kernel
theorem dX8_fell_166 : decode cX8_fell 166 = .ok (.iload_n 3, 1) := by decide +kernel
theorem dX8_fell_167 : decode cX8_fell 167 = .ok (.istore_n 3, 1) := by decide +kernel
theorem dX8_fell_168 : decode cX8_fell 168 = .ok (.iload 4, 2) := by decide +kernel
theorem dX8_fell_170 : decode cX8_fell 170 = .ok (.iload 6, 2) := by decide +kernel
theorem dX8_fell_172 : decode cX8_fell 172 = .ok (.ifCond .eq 7, 3) := by decide +kernel
theorem dX8_fell_175 : decode cX8_fell 175 = .ok (.iconst 1, 1) := by decide +kernel
theorem dX8_fell_176 : decode cX8_fell 176 = .ok (.goto 4, 3) := by decide +kernel
theorem dX8_fell_179 : decode cX8_fell 179 = .ok (.iconst 0, 1) := by decide +kernel
theorem dX8_fell_180 : decode cX8_fell 180 = .ok (.iadd, 1) := by decide +kernel
theorem dX8_fell_181 : decode cX8_fell 181 = .ok (.istore 4, 2) := by decide +kernel
theorem dX8_fell_183 : decode cX8_fell 183 = .ok (.iinc 5 1, 3) := by decide +kernel
theorem dX8_fell_186 : decode cX8_fell 186 = .ok (.goto (-63), 3) := by decide +kernel
theorem dX8_fell_189 : decode cX8_fell 189 = .ok (.iload_n 3, 1) := by decide +kernel
theorem dX8_fell_190 : decode cX8_fell 190 = .ok (.bipush (-9), 2) := by decide +kernel
theorem dX8_fell_192 : decode cX8_fell 192 = .ok (.if_icmp .ne 8, 3) := by decide +kernel
theorem dX8_fell_195 : decode cX8_fell 195 = .ok (.bipush (-9), 2) := by decide +kernel
theorem dX8_fell_197 : decode cX8_fell 197 = .ok (.goto 10, 3) := by decide +kernel
theorem dX8_fell_200 : decode cX8_fell 200 = .ok (.aload_n 0, 1) := by decide +kernel
theorem dX8_fell_201 : decode cX8_fell 201 = .ok (.iload 4, 2) := by decide +kernel
theorem dX8_fell_203 : decode cX8_fell 203 = .ok (.iload_n 3, 1) := by decide +kernel
theorem dX8_fell_204 : decode cX8_fell 204 = .ok (.invokevirtual 93, 3) := by decide +kernel
theorem dX8_fell_207 : decode cX8_fell 207 = .ok (.ireturn, 1) := by decide +kernel
theorem dX8_odds_0 : decode cX8_odds 0 = .ok (.aload_n 0, 1) := by decide +kernel
theorem dX8_odds_1 : decode cX8_odds 1 = .ok (.getfield 48, 3) := by decide +kernel
theorem dX8_odds_4 : decode cX8_odds 4 = .ok (.iconst 0, 1) := by decide +kernel
theorem dX8_odds_5 : decode cX8_odds 5 = .ok (.baload, 1) := by decide +kernel
theorem dX8_odds_6 : decode cX8_odds 6 = .ok (.ifCond .ne 6, 3) := by decide +kernel
theorem dX8_odds_9 : decode cX8_odds 9 = .ok (.bipush (-4), 2) := by decide +kernel
theorem dX8_odds_11 : decode cX8_odds 11 = .ok (.ireturn, 1) := by decide +kernel
theorem dX8_odds_12 : decode cX8_odds 12 = .ok (.iconst 0, 1) := by decide +kernel
theorem dX8_odds_13 : decode cX8_odds 13 = .ok (.istore_n 1, 1) := by decide +kernel
theorem dX8_odds_14 : decode cX8_odds 14 = .ok (.iconst 0, 1) := by decide +kernel
theorem dX8_odds_15 : decode cX8_odds 15 = .ok (.istore_n 2, 1) := by decide +kernel
theorem dX8_odds_16 : decode cX8_odds 16 = .ok (.iconst 0, 1) := by decide +kernel
theorem dX8_odds_17 : decode cX8_odds 17 = .ok (.istore_n 3, 1) := by decide +kernel
theorem dX8_odds_18 : decode cX8_odds 18 = .ok (.iload_n 3, 1) := by decide +kernel
theorem dX8_odds_19 : decode cX8_odds 19 = .ok (.bipush 100, 2) := by decide +kernel
theorem dX8_odds_21 : decode cX8_odds 21 = .ok (.if_icmp .ge 35, 3) := by decide +kernel
theorem dX8_odds_24 : decode cX8_odds 24 = .ok (.aload_n 0, 1) := by decide +kernel
theorem dX8_odds_25 : decode cX8_odds 25 = .ok (.iload_n 3, 1) := by decide +kernel
theorem dX8_odds_26 : decode cX8_odds 26 = .ok (.invokevirtual 263, 3) := by decide +kernel
theorem dX8_odds_29 : decode cX8_odds 29 = .ok (.ifCond .eq 21, 3) := by decide +kernel
theorem dX8_odds_32 : decode cX8_odds 32 = .ok (.iinc 1 1, 3) := by decide +kernel
theorem dX8_odds_35 : decode cX8_odds 35 = .ok (.iload_n 2, 1) := by decide +kernel
theorem dX8_odds_36 : decode cX8_odds 36 = .ok (.aload_n 0, 1) := by decide +kernel
theorem dX8_odds_37 : decode cX8_odds 37 = .ok (.invokevirtual 260, 3) := by decide +kernel
theorem dX8_odds_40 : decode cX8_odds 40 = .ok (.ifCond .ne 7, 3) := by decide +kernel
theorem dX8_odds_43 : decode cX8_odds 43 = .ok (.iconst 1, 1) := by decide +kernel
theorem dX8_odds_44 : decode cX8_odds 44 = .ok (.goto 4, 3) := by decide +kernel
theorem dX8_odds_47 : decode cX8_odds 47 = .ok (.iconst 0, 1) := by decide +kernel
theorem dX8_odds_48 : decode cX8_odds 48 = .ok (.iadd, 1) := by decide +kernel
theorem dX8_odds_49 : decode cX8_odds 49 = .ok (.istore_n 2, 1) := by decide +kernel
theorem dX8_odds_50 : decode cX8_odds 50 = .ok (.iinc 3 1, 3) := by decide +kernel
theorem dX8_odds_53 : decode cX8_odds 53 = .ok (.goto (-35), 3) := by decide +kernel
theorem dX8_odds_56 : decode cX8_odds 56 = .ok (.aload_n 0, 1) := by decide +kernel
theorem dX8_odds_57 : decode cX8_odds 57 = .ok (.iload_n 2, 1) := by decide +kernel
theorem dX8_odds_58 : decode cX8_odds 58 = .ok (.i2l, 1) := by decide +kernel
theorem dX8_odds_59 : decode cX8_odds 59 = .ok (.iload_n 1, 1) := by decide +kernel
theorem dX8_odds_60 : decode cX8_odds 60 = .ok (.i2l, 1) := by decide +kernel
theorem dX8_odds_61 : decode cX8_odds 61 = .ok (.iload_n 1, 1) := by decide +kernel
theorem dX8_odds_62 : decode cX8_odds 62 = .ok (.invokevirtual 269, 3) := by decide +kernel
theorem dX8_odds_65 : decode cX8_odds 65 = .ok (.ireturn, 1) := by decide +kernel
theorem dX8_stands_0 : decode cX8_stands 0 = .ok (.aload_n 0, 1) := by decide +kernel
theorem dX8_stands_1 : decode cX8_stands 1 = .ok (.iconst 4, 1) := by decide +kernel
theorem dX8_stands_2 : decode cX8_stands 2 = .ok (.invokevirtual 167, 3) := by decide +kernel
theorem dX8_stands_5 : decode cX8_stands 5 = .ok (.aload_n 0, 1) := by decide +kernel
theorem dX8_stands_6 : decode cX8_stands 6 = .ok (.iload_n 1, 1) := by decide +kernel
theorem dX8_stands_7 : decode cX8_stands 7 = .ok (.iload_n 2, 1) := by decide +kernel
theorem dX8_stands_8 : decode cX8_stands 8 = .ok (.iload_n 3, 1) := by decide +kernel
theorem dX8_stands_9 : decode cX8_stands 9 = .ok (.invokevirtual 171, 3) := by decide +kernel
theorem dX8_stands_12 : decode cX8_stands 12 = .ok (.aload_n 0, 1) := by decide +kernel
theorem dX8_stands_13 : decode cX8_stands 13 = .ok (.invokevirtual 260, 3) := by decide +kernel
theorem dX8_stands_16 : decode cX8_stands 16 = .ok (.ifCond .ne 7, 3) := by decide +kernel
theorem dX8_stands_19 : decode cX8_stands 19 = .ok (.iconst 1, 1) := by decide +kernel
theorem dX8_stands_20 : decode cX8_stands 20 = .ok (.goto 4, 3) := by decide +kernel
theorem dX8_stands_23 : decode cX8_stands 23 = .ok (.iconst 0, 1) := by decide +kernel
theorem dX8_stands_24 : decode cX8_stands 24 = .ok (.ireturn, 1) := by decide +kernel
theorem dX8_isAnyPlan_0 : decode cX8_isAnyPlan 0 = .ok (.iconst 0, 1) := by decide +kernel
theorem dX8_isAnyPlan_1 : decode cX8_isAnyPlan 1 = .ok (.istore_n 1, 1) := by decide +kernel
theorem dX8_isAnyPlan_2 : decode cX8_isAnyPlan 2 = .ok (.iconst 0, 1) := by decide +kernel
theorem dX8_isAnyPlan_3 : decode cX8_isAnyPlan 3 = .ok (.istore_n 2, 1) := by decide +kernel
theorem dX8_isAnyPlan_4 : decode cX8_isAnyPlan 4 = .ok (.iload_n 2, 1) := by decide +kernel
theorem dX8_isAnyPlan_5 : decode cX8_isAnyPlan 5 = .ok (.iconst 4, 1) := by decide +kernel
theorem dX8_isAnyPlan_6 : decode cX8_isAnyPlan 6 = .ok (.if_icmp .ge 28, 3) := by decide +kernel
theorem dX8_isAnyPlan_9 : decode cX8_isAnyPlan 9 = .ok (.iload_n 1, 1) := by decide +kernel
theorem dX8_isAnyPlan_10 : decode cX8_isAnyPlan 10 = .ok (.ifCond .ne 12, 3) := by decide +kernel
theorem dX8_isAnyPlan_13 : decode cX8_isAnyPlan 13 = .ok (.aload_n 0, 1) := by decide +kernel
theorem dX8_isAnyPlan_14 : decode cX8_isAnyPlan 14 = .ok (.getfield 36, 3) := by decide +kernel
theorem dX8_isAnyPlan_17 : decode cX8_isAnyPlan 17 = .ok (.iload_n 2, 1) := by decide +kernel
theorem dX8_isAnyPlan_18 : decode cX8_isAnyPlan 18 = .ok (.baload, 1) := by decide +kernel
theorem dX8_isAnyPlan_19 : decode cX8_isAnyPlan 19 = .ok (.ifCond .eq 7, 3) := by decide +kernel
theorem dX8_isAnyPlan_22 : decode cX8_isAnyPlan 22 = .ok (.iconst 1, 1) := by decide +kernel
theorem dX8_isAnyPlan_23 : decode cX8_isAnyPlan 23 = .ok (.goto 4, 3) := by decide +kernel
theorem dX8_isAnyPlan_26 : decode cX8_isAnyPlan 26 = .ok (.iconst 0, 1) := by decide +kernel
theorem dX8_isAnyPlan_27 : decode cX8_isAnyPlan 27 = .ok (.istore_n 1, 1) := by decide +kernel
theorem dX8_isAnyPlan_28 : decode cX8_isAnyPlan 28 = .ok (.iinc 2 1, 3) := by decide +kernel
theorem dX8_isAnyPlan_31 : decode cX8_isAnyPlan 31 = .ok (.goto (-27), 3) := by decide +kernel
theorem dX8_isAnyPlan_34 : decode cX8_isAnyPlan 34 = .ok (.iload_n 1, 1) := by decide +kernel
theorem dX8_isAnyPlan_35 : decode cX8_isAnyPlan 35 = .ok (.ireturn, 1) := by decide +kernel
theorem dX8_timeOf_0 : decode cX8_timeOf 0 = .ok (.aload_n 0, 1) := by decide +kernel
theorem dX8_timeOf_1 : decode cX8_timeOf 1 = .ok (.getfield 39, 3) := by decide +kernel
theorem dX8_timeOf_4 : decode cX8_timeOf 4 = .ok (.bipush 26, 2) := by decide +kernel
theorem dX8_timeOf_6 : decode cX8_timeOf 6 = .ok (.iload_n 1, 1) := by decide +kernel
theorem dX8_timeOf_7 : decode cX8_timeOf 7 = .ok (.imul, 1) := by decide +kernel
theorem dX8_timeOf_8 : decode cX8_timeOf 8 = .ok (.iconst 1, 1) := by decide +kernel
theorem dX8_timeOf_9 : decode cX8_timeOf 9 = .ok (.iadd, 1) := by decide +kernel
theorem dX8_timeOf_10 : decode cX8_timeOf 10 = .ok (.iaload, 1) := by decide +kernel
theorem dX8_timeOf_11 : decode cX8_timeOf 11 = .ok (.aload_n 0, 1) := by decide +kernel
theorem dX8_timeOf_12 : decode cX8_timeOf 12 = .ok (.iload_n 1, 1) := by decide +kernel
theorem dX8_timeOf_13 : decode cX8_timeOf 13 = .ok (.invokevirtual 139, 3) := by decide +kernel
theorem dX8_timeOf_16 : decode cX8_timeOf 16 = .ok (.imul, 1) := by decide +kernel
theorem dX8_timeOf_17 : decode cX8_timeOf 17 = .ok (.istore_n 3, 1) := by decide +kernel
theorem dX8_timeOf_18 : decode cX8_timeOf 18 = .ok (.iload_n 2, 1) := by decide +kernel
theorem dX8_timeOf_19 : decode cX8_timeOf 19 = .ok (.iconst 2, 1) := by decide +kernel
theorem dX8_timeOf_20 : decode cX8_timeOf 20 = .ok (.if_icmp .ne 11, 3) := by decide +kernel
theorem dX8_timeOf_23 : decode cX8_timeOf 23 = .ok (.iload_n 3, 1) := by decide +kernel
theorem dX8_timeOf_24 : decode cX8_timeOf 24 = .ok (.iconst 1, 1) := by decide +kernel
theorem dX8_timeOf_25 : decode cX8_timeOf 25 = .ok (.iadd, 1) := by decide +kernel
theorem dX8_timeOf_26 : decode cX8_timeOf 26 = .ok (.iconst 2, 1) := by decide +kernel
theorem dX8_timeOf_27 : decode cX8_timeOf 27 = .ok (.idiv, 1) := by decide +kernel
theorem dX8_timeOf_28 : decode cX8_timeOf 28 = .ok (.goto 4, 3) := by decide +kernel
theorem dX8_timeOf_31 : decode cX8_timeOf 31 = .ok (.iload_n 3, 1) := by decide +kernel
theorem dX8_timeOf_32 : decode cX8_timeOf 32 = .ok (.ireturn, 1) := by decide +kernel
theorem dX8_storm_0 : decode cX8_storm 0 = .ok (.iload_n 1, 1) := by decide +kernel
theorem dX8_storm_1 : decode cX8_storm 1 = .ok (.invokestatic 136, 3) := by decide +kernel
theorem dX8_storm_4 : decode cX8_storm 4 = .ok (.ifCond .eq 34, 3) := by decide +kernel
theorem dX8_storm_7 : decode cX8_storm 7 = .ok (.iload_n 2, 1) := by decide +kernel
theorem dX8_storm_8 : decode cX8_storm 8 = .ok (.iconst 1, 1) := by decide +kernel
theorem dX8_storm_9 : decode cX8_storm 9 = .ok (.iconst 2, 1) := by decide +kernel
theorem dX8_storm_10 : decode cX8_storm 10 = .ok (.invokestatic 71, 3) := by decide +kernel
theorem dX8_storm_13 : decode cX8_storm 13 = .ok (.ifCond .eq 25, 3) := by decide +kernel
theorem dX8_storm_16 : decode cX8_storm 16 = .ok (.iload_n 3, 1) := by decide +kernel
theorem dX8_storm_17 : decode cX8_storm 17 = .ok (.iconst 0, 1) := by decide +kernel
theorem dX8_storm_18 : decode cX8_storm 18 = .ok (.sipush 600, 3) := by decide +kernel
theorem dX8_storm_21 : decode cX8_storm 21 = .ok (.invokestatic 71, 3) := by decide +kernel
theorem dX8_storm_24 : decode cX8_storm 24 = .ok (.ifCond .eq 14, 3) := by decide +kernel
theorem dX8_storm_27 : decode cX8_storm 27 = .ok (.iload 4, 2) := by decide +kernel
theorem dX8_storm_29 : decode cX8_storm 29 = .ok (.iconst 0, 1) := by decide +kernel
theorem dX8_storm_30 : decode cX8_storm 30 = .ok (.bipush 6, 2) := by decide +kernel
theorem dX8_storm_32 : decode cX8_storm 32 = .ok (.invokestatic 71, 3) := by decide +kernel
theorem dX8_storm_35 : decode cX8_storm 35 = .ok (.ifCond .ne 5, 3) := by decide +kernel
theorem dX8_storm_38 : decode cX8_storm 38 = .ok (.iconst (-1), 1) := by decide +kernel
theorem dX8_storm_39 : decode cX8_storm 39 = .ok (.ireturn, 1) := by decide +kernel
theorem dX8_storm_40 : decode cX8_storm 40 = .ok (.aload_n 0, 1) := by decide +kernel
theorem dX8_storm_41 : decode cX8_storm 41 = .ok (.getfield 29, 3) := by decide +kernel
theorem dX8_storm_44 : decode cX8_storm 44 = .ok (.iload_n 1, 1) := by decide +kernel
theorem dX8_storm_45 : decode cX8_storm 45 = .ok (.baload, 1) := by decide +kernel
theorem dX8_storm_46 : decode cX8_storm 46 = .ok (.ifCond .eq 10, 3) := by decide +kernel
theorem dX8_storm_49 : decode cX8_storm 49 = .ok (.aload_n 0, 1) := by decide +kernel
theorem dX8_storm_50 : decode cX8_storm 50 = .ok (.invokevirtual 273, 3) := by decide +kernel
theorem dX8_storm_53 : decode cX8_storm 53 = .ok (.ifCond .ne 9, 3) := by decide +kernel
theorem dX8_storm_56 : decode cX8_storm 56 = .ok (.aload_n 0, 1) := by decide +kernel
theorem dX8_storm_57 : decode cX8_storm 57 = .ok (.iconst 1, 1) := by decide +kernel
theorem dX8_storm_58 : decode cX8_storm 58 = .ok (.invokevirtual 85, 3) := by decide +kernel
theorem dX8_storm_61 : decode cX8_storm 61 = .ok (.ireturn, 1) := by decide +kernel
theorem dX8_storm_62 : decode cX8_storm 62 = .ok (.bipush (-9), 2) := by decide +kernel
theorem dX8_storm_64 : decode cX8_storm 64 = .ok (.istore 5, 2) := by decide +kernel
theorem dX8_storm_66 : decode cX8_storm 66 = .ok (.iconst 0, 1) := by decide +kernel
theorem dX8_storm_67 : decode cX8_storm 67 = .ok (.istore 6, 2) := by decide +kernel
theorem dX8_storm_69 : decode cX8_storm 69 = .ok (.iload 6, 2) := by decide +kernel
theorem dX8_storm_71 : decode cX8_storm 71 = .ok (.iconst 4, 1) := by decide +kernel
theorem dX8_storm_72 : decode cX8_storm 72 = .ok (.if_icmp .ge 95, 3) := by decide +kernel
theorem dX8_storm_75 : decode cX8_storm 75 = .ok (.aload_n 0, 1) := by decide +kernel
theorem dX8_storm_76 : decode cX8_storm 76 = .ok (.getfield 36, 3) := by decide +kernel
theorem dX8_storm_79 : decode cX8_storm 79 = .ok (.iload 6, 2) := by decide +kernel
theorem dX8_storm_81 : decode cX8_storm 81 = .ok (.baload, 1) := by decide +kernel
theorem dX8_storm_82 : decode cX8_storm 82 = .ok (.ifCond .eq 40, 3) := by decide +kernel
theorem dX8_storm_85 : decode cX8_storm 85 = .ok (.aload_n 0, 1) := by decide +kernel
theorem dX8_storm_86 : decode cX8_storm 86 = .ok (.iload 6, 2) := by decide +kernel
theorem dX8_storm_88 : decode cX8_storm 88 = .ok (.iload_n 2, 1) := by decide +kernel
theorem dX8_storm_89 : decode cX8_storm 89 = .ok (.invokevirtual 277, 3) := by decide +kernel
theorem dX8_storm_92 : decode cX8_storm 92 = .ok (.iload_n 3, 1) := by decide +kernel
theorem dX8_storm_93 : decode cX8_storm 93 = .ok (.if_icmp .gt 29, 3) := by decide +kernel
theorem dX8_storm_96 : decode cX8_storm 96 = .ok (.aload_n 0, 1) := by decide +kernel
theorem dX8_storm_97 : decode cX8_storm 97 = .ok (.iload 6, 2) := by decide +kernel
theorem dX8_storm_99 : decode cX8_storm 99 = .ok (.invokevirtual 142, 3) := by decide +kernel
theorem dX8_storm_102 : decode cX8_storm 102 = .ok (.iload 4, 2) := by decide +kernel
theorem dX8_storm_104 : decode cX8_storm 104 = .ok (.if_icmp .lt 18, 3) := by decide +kernel
theorem dX8_storm_107 : decode cX8_storm 107 = .ok (.aload_n 0, 1) := by decide +kernel
theorem dX8_storm_108 : decode cX8_storm 108 = .ok (.iload_n 1, 1) := by decide +kernel
theorem dX8_storm_109 : decode cX8_storm 109 = .ok (.iload 6, 2) := by decide +kernel
theorem dX8_storm_111 : decode cX8_storm 111 = .ok (.iload_n 2, 1) := by decide +kernel
theorem dX8_storm_112 : decode cX8_storm 112 = .ok (.invokevirtual 280, 3) := by decide +kernel
theorem dX8_storm_115 : decode cX8_storm 115 = .ok (.ifCond .eq 7, 3) := by decide +kernel
theorem dX8_storm_118 : decode cX8_storm 118 = .ok (.iconst 1, 1) := by decide +kernel
theorem dX8_storm_119 : decode cX8_storm 119 = .ok (.goto 4, 3) := by decide +kernel
theorem dX8_storm_122 : decode cX8_storm 122 = .ok (.iconst 0, 1) := by decide +kernel
theorem dX8_storm_123 : decode cX8_storm 123 = .ok (.istore 7, 2) := by decide +kernel
theorem dX8_storm_125 : decode cX8_storm 125 = .ok (.iload 7, 2) := by decide +kernel
theorem dX8_storm_127 : decode cX8_storm 127 = .ok (.ifCond .eq 30, 3) := by decide +kernel
theorem dX8_storm_130 : decode cX8_storm 130 = .ok (.iload 5, 2) := by decide +kernel
theorem dX8_storm_132 : decode cX8_storm 132 = .ok (.bipush (-9), 2) := by decide +kernel
theorem dX8_storm_134 : decode cX8_storm 134 = .ok (.if_icmp .eq 18, 3) := by decide +kernel
theorem dX8_storm_137 : decode cX8_storm 137 = .ok (.aload_n 0, 1) := by decide +kernel
theorem dX8_storm_138 : decode cX8_storm 138 = .ok (.iload 6, 2) := by decide +kernel
theorem dX8_storm_140 : decode cX8_storm 140 = .ok (.invokevirtual 139, 3) := by decide +kernel
theorem dX8_storm_143 : decode cX8_storm 143 = .ok (.aload_n 0, 1) := by decide +kernel
theorem dX8_storm_144 : decode cX8_storm 144 = .ok (.iload 5, 2) := by decide +kernel
theorem dX8_storm_146 : decode cX8_storm 146 = .ok (.invokevirtual 139, 3) := by decide +kernel
theorem dX8_storm_149 : decode cX8_storm 149 = .ok (.if_icmp .ge 8, 3) := by decide +kernel
theorem dX8_storm_152 : decode cX8_storm 152 = .ok (.iload 6, 2) := by decide +kernel
theorem dX8_storm_154 : decode cX8_storm 154 = .ok (.goto 5, 3) := by decide +kernel
theorem dX8_storm_157 : decode cX8_storm 157 = .ok (.iload 5, 2) := by decide +kernel
theorem dX8_storm_159 : decode cX8_storm 159 = .ok (.istore 5, 2) := by decide +kernel
theorem dX8_storm_161 : decode cX8_storm 161 = .ok (.iinc 6 1, 3) := by decide +kernel
theorem dX8_storm_164 : decode cX8_storm 164 = .ok (.goto (-95), 3) := by decide +kernel
theorem dX8_storm_167 : decode cX8_storm 167 = .ok (.iload 5, 2) := by decide +kernel
theorem dX8_storm_169 : decode cX8_storm 169 = .ok (.bipush (-9), 2) := by decide +kernel
theorem dX8_storm_171 : decode cX8_storm 171 = .ok (.if_icmp .ne 8, 3) := by decide +kernel
theorem dX8_storm_174 : decode cX8_storm 174 = .ok (.bipush (-9), 2) := by decide +kernel
theorem dX8_storm_176 : decode cX8_storm 176 = .ok (.goto 16, 3) := by decide +kernel
theorem dX8_storm_179 : decode cX8_storm 179 = .ok (.aload_n 0, 1) := by decide +kernel
theorem dX8_storm_180 : decode cX8_storm 180 = .ok (.aload_n 0, 1) := by decide +kernel
theorem dX8_storm_181 : decode cX8_storm 181 = .ok (.iload 5, 2) := by decide +kernel
theorem dX8_storm_183 : decode cX8_storm 183 = .ok (.iload_n 2, 1) := by decide +kernel
theorem dX8_storm_184 : decode cX8_storm 184 = .ok (.invokevirtual 277, 3) := by decide +kernel
theorem dX8_storm_187 : decode cX8_storm 187 = .ok (.iload 5, 2) := by decide +kernel
theorem dX8_storm_189 : decode cX8_storm 189 = .ok (.invokevirtual 93, 3) := by decide +kernel
theorem dX8_storm_192 : decode cX8_storm 192 = .ok (.ireturn, 1) := by decide +kernel
theorem dX8_halls_0 : decode cX8_halls 0 = .ok (.iload_n 1, 1) := by decide +kernel
theorem dX8_halls_1 : decode cX8_halls 1 = .ok (.invokestatic 136, 3) := by decide +kernel
theorem dX8_halls_4 : decode cX8_halls 4 = .ok (.ifCond .eq 20, 3) := by decide +kernel
theorem dX8_halls_7 : decode cX8_halls 7 = .ok (.iload_n 2, 1) := by decide +kernel
theorem dX8_halls_8 : decode cX8_halls 8 = .ok (.iconst 1, 1) := by decide +kernel
theorem dX8_halls_9 : decode cX8_halls 9 = .ok (.bipush 40, 2) := by decide +kernel
theorem dX8_halls_11 : decode cX8_halls 11 = .ok (.invokestatic 71, 3) := by decide +kernel
theorem dX8_halls_14 : decode cX8_halls 14 = .ok (.ifCond .eq 10, 3) := by decide +kernel
theorem dX8_halls_17 : decode cX8_halls 17 = .ok (.iload_n 3, 1) := by decide +kernel
theorem dX8_halls_18 : decode cX8_halls 18 = .ok (.invokestatic 81, 3) := by decide +kernel
theorem dX8_halls_21 : decode cX8_halls 21 = .ok (.ifCond .ne 5, 3) := by decide +kernel
theorem dX8_halls_24 : decode cX8_halls 24 = .ok (.iconst (-1), 1) := by decide +kernel
theorem dX8_halls_25 : decode cX8_halls 25 = .ok (.ireturn, 1) := by decide +kernel
theorem dX8_halls_26 : decode cX8_halls 26 = .ok (.aload_n 0, 1) := by decide +kernel
theorem dX8_halls_27 : decode cX8_halls 27 = .ok (.getfield 29, 3) := by decide +kernel
theorem dX8_halls_30 : decode cX8_halls 30 = .ok (.iload_n 1, 1) := by decide +kernel
theorem dX8_halls_31 : decode cX8_halls 31 = .ok (.baload, 1) := by decide +kernel
theorem dX8_halls_32 : decode cX8_halls 32 = .ok (.ifCond .eq 10, 3) := by decide +kernel
theorem dX8_halls_35 : decode cX8_halls 35 = .ok (.aload_n 0, 1) := by decide +kernel
theorem dX8_halls_36 : decode cX8_halls 36 = .ok (.invokevirtual 273, 3) := by decide +kernel
theorem dX8_halls_39 : decode cX8_halls 39 = .ok (.ifCond .ne 9, 3) := by decide +kernel
theorem dX8_halls_42 : decode cX8_halls 42 = .ok (.aload_n 0, 1) := by decide +kernel
theorem dX8_halls_43 : decode cX8_halls 43 = .ok (.iconst 1, 1) := by decide +kernel
theorem dX8_halls_44 : decode cX8_halls 44 = .ok (.invokevirtual 85, 3) := by decide +kernel
theorem dX8_halls_47 : decode cX8_halls 47 = .ok (.ireturn, 1) := by decide +kernel
theorem dX8_halls_48 : decode cX8_halls 48 = .ok (.iconst 0, 1) := by decide +kernel
theorem dX8_halls_49 : decode cX8_halls 49 = .ok (.istore 4, 2) := by decide +kernel
theorem dX8_halls_51 : decode cX8_halls 51 = .ok (.iload 4, 2) := by decide +kernel
theorem dX8_halls_53 : decode cX8_halls 53 = .ok (.iconst 4, 1) := by decide +kernel
theorem dX8_halls_54 : decode cX8_halls 54 = .ok (.if_icmp .ge 51, 3) := by decide +kernel
theorem dX8_halls_57 : decode cX8_halls 57 = .ok (.aload_n 0, 1) := by decide +kernel
theorem dX8_halls_58 : decode cX8_halls 58 = .ok (.getfield 57, 3) := by decide +kernel
theorem dX8_halls_61 : decode cX8_halls 61 = .ok (.iload 4, 2) := by decide +kernel
theorem dX8_halls_63 : decode cX8_halls 63 = .ok (.aload_n 0, 1) := by decide +kernel
theorem dX8_halls_64 : decode cX8_halls 64 = .ok (.getfield 36, 3) := by decide +kernel
theorem dX8_halls_67 : decode cX8_halls 67 = .ok (.iload 4, 2) := by decide +kernel
theorem dX8_halls_69 : decode cX8_halls 69 = .ok (.baload, 1) := by decide +kernel
theorem dX8_halls_70 : decode cX8_halls 70 = .ok (.ifCond .eq 27, 3) := by decide +kernel
theorem dX8_halls_73 : decode cX8_halls 73 = .ok (.aload_n 0, 1) := by decide +kernel
theorem dX8_halls_74 : decode cX8_halls 74 = .ok (.iload 4, 2) := by decide +kernel
theorem dX8_halls_76 : decode cX8_halls 76 = .ok (.invokevirtual 142, 3) := by decide +kernel
theorem dX8_halls_79 : decode cX8_halls 79 = .ok (.ifCond .le 18, 3) := by decide +kernel
theorem dX8_halls_82 : decode cX8_halls 82 = .ok (.aload_n 0, 1) := by decide +kernel
theorem dX8_halls_83 : decode cX8_halls 83 = .ok (.iload_n 1, 1) := by decide +kernel
theorem dX8_halls_84 : decode cX8_halls 84 = .ok (.iload 4, 2) := by decide +kernel
theorem dX8_halls_86 : decode cX8_halls 86 = .ok (.iconst 1, 1) := by decide +kernel
theorem dX8_halls_87 : decode cX8_halls 87 = .ok (.invokevirtual 280, 3) := by decide +kernel
theorem dX8_halls_90 : decode cX8_halls 90 = .ok (.ifCond .eq 7, 3) := by decide +kernel
theorem dX8_halls_93 : decode cX8_halls 93 = .ok (.iconst 1, 1) := by decide +kernel
theorem dX8_halls_94 : decode cX8_halls 94 = .ok (.goto 4, 3) := by decide +kernel
theorem dX8_halls_97 : decode cX8_halls 97 = .ok (.iconst 0, 1) := by decide +kernel
theorem dX8_halls_98 : decode cX8_halls 98 = .ok (.bastore, 1) := by decide +kernel
theorem dX8_halls_99 : decode cX8_halls 99 = .ok (.iinc 4 1, 3) := by decide +kernel
theorem dX8_halls_102 : decode cX8_halls 102 = .ok (.goto (-51), 3) := by decide +kernel
theorem dX8_halls_105 : decode cX8_halls 105 = .ok (.iconst 0, 1) := by decide +kernel
theorem dX8_halls_106 : decode cX8_halls 106 = .ok (.istore 4, 2) := by decide +kernel
theorem dX8_halls_108 : decode cX8_halls 108 = .ok (.iload 4, 2) := by decide +kernel
theorem dX8_halls_110 : decode cX8_halls 110 = .ok (.iload_n 2, 1) := by decide +kernel
theorem dX8_halls_111 : decode cX8_halls 111 = .ok (.if_icmp .gt 32, 3) := by decide +kernel
theorem dX8_halls_114 : decode cX8_halls 114 = .ok (.aload_n 0, 1) := by decide +kernel
theorem dX8_halls_115 : decode cX8_halls 115 = .ok (.getfield 54, 3) := by decide +kernel
theorem dX8_halls_118 : decode cX8_halls 118 = .ok (.sipush 164, 3) := by decide +kernel
theorem dX8_halls_121 : decode cX8_halls 121 = .ok (.iload 4, 2) := by decide +kernel
theorem dX8_halls_123 : decode cX8_halls 123 = .ok (.iadd, 1) := by decide +kernel
theorem dX8_halls_124 : decode cX8_halls 124 = .ok (.iload 4, 2) := by decide +kernel
theorem dX8_halls_126 : decode cX8_halls 126 = .ok (.ifCond .ne 7, 3) := by decide +kernel
theorem dX8_halls_129 : decode cX8_halls 129 = .ok (.iconst 0, 1) := by decide +kernel
theorem dX8_halls_130 : decode cX8_halls 130 = .ok (.goto 6, 3) := by decide +kernel
theorem dX8_halls_133 : decode cX8_halls 133 = .ok (.ldc_w 283, 3) := by decide +kernel
theorem dX8_halls_136 : decode cX8_halls 136 = .ok (.iastore, 1) := by decide +kernel
theorem dX8_halls_137 : decode cX8_halls 137 = .ok (.iinc 4 1, 3) := by decide +kernel
theorem dX8_halls_140 : decode cX8_halls 140 = .ok (.goto (-32), 3) := by decide +kernel
theorem dX8_halls_143 : decode cX8_halls 143 = .ok (.iconst 3, 1) := by decide +kernel
theorem dX8_halls_144 : decode cX8_halls 144 = .ok (.istore 4, 2) := by decide +kernel
theorem dX8_halls_146 : decode cX8_halls 146 = .ok (.iload 4, 2) := by decide +kernel
theorem dX8_halls_148 : decode cX8_halls 148 = .ok (.ifCond .lt 115, 3) := by decide +kernel
theorem dX8_halls_151 : decode cX8_halls 151 = .ok (.iconst 0, 1) := by decide +kernel
theorem dX8_halls_152 : decode cX8_halls 152 = .ok (.istore 5, 2) := by decide +kernel
theorem dX8_halls_154 : decode cX8_halls 154 = .ok (.iload 5, 2) := by decide +kernel
theorem dX8_halls_156 : decode cX8_halls 156 = .ok (.iload_n 2, 1) := by decide +kernel
theorem dX8_halls_157 : decode cX8_halls 157 = .ok (.if_icmp .gt 100, 3) := by decide +kernel
theorem dX8_halls_160 : decode cX8_halls 160 = .ok (.aload_n 0, 1) := by decide +kernel
theorem dX8_halls_161 : decode cX8_halls 161 = .ok (.getfield 54, 3) := by decide +kernel
theorem dX8_halls_164 : decode cX8_halls 164 = .ok (.bipush 41, 2) := by decide +kernel
theorem dX8_halls_166 : decode cX8_halls 166 = .ok (.iload 4, 2) := by decide +kernel
theorem dX8_halls_168 : decode cX8_halls 168 = .ok (.iconst 1, 1) := by decide +kernel
theorem dX8_halls_169 : decode cX8_halls 169 = .ok (.iadd, 1) := by decide +kernel
theorem dX8_halls_170 : decode cX8_halls 170 = .ok (.imul, 1) := by decide +kernel
theorem dX8_halls_171 : decode cX8_halls 171 = .ok (.iload 5, 2) := by decide +kernel
theorem dX8_halls_173 : decode cX8_halls 173 = .ok (.iadd, 1) := by decide +kernel
theorem dX8_halls_174 : decode cX8_halls 174 = .ok (.iaload, 1) := by decide +kernel
theorem dX8_halls_175 : decode cX8_halls 175 = .ok (.istore 6, 2) := by decide +kernel
theorem dX8_halls_177 : decode cX8_halls 177 = .ok (.iload 5, 2) := by decide +kernel
theorem dX8_halls_179 : decode cX8_halls 179 = .ok (.ifCond .le 47, 3) := by decide +kernel
theorem dX8_halls_182 : decode cX8_halls 182 = .ok (.aload_n 0, 1) := by decide +kernel
theorem dX8_halls_183 : decode cX8_halls 183 = .ok (.getfield 57, 3) := by decide +kernel
theorem dX8_halls_186 : decode cX8_halls 186 = .ok (.iload 4, 2) := by decide +kernel
theorem dX8_halls_188 : decode cX8_halls 188 = .ok (.baload, 1) := by decide +kernel
theorem dX8_halls_189 : decode cX8_halls 189 = .ok (.ifCond .eq 37, 3) := by decide +kernel
theorem dX8_halls_192 : decode cX8_halls 192 = .ok (.aload_n 0, 1) := by decide +kernel
theorem dX8_halls_193 : decode cX8_halls 193 = .ok (.iload 4, 2) := by decide +kernel
theorem dX8_halls_195 : decode cX8_halls 195 = .ok (.invokevirtual 139, 3) := by decide +kernel
theorem dX8_halls_198 : decode cX8_halls 198 = .ok (.aload_n 0, 1) := by decide +kernel
theorem dX8_halls_199 : decode cX8_halls 199 = .ok (.getfield 54, 3) := by decide +kernel
theorem dX8_halls_202 : decode cX8_halls 202 = .ok (.bipush 41, 2) := by decide +kernel
theorem dX8_halls_204 : decode cX8_halls 204 = .ok (.iload 4, 2) := by decide +kernel
theorem dX8_halls_206 : decode cX8_halls 206 = .ok (.imul, 1) := by decide +kernel
theorem dX8_halls_207 : decode cX8_halls 207 = .ok (.iconst 0, 1) := by decide +kernel
theorem dX8_halls_208 : decode cX8_halls 208 = .ok (.iload 5, 2) := by decide +kernel
theorem dX8_halls_210 : decode cX8_halls 210 = .ok (.aload_n 0, 1) := by decide +kernel
theorem dX8_halls_211 : decode cX8_halls 211 = .ok (.iload 4, 2) := by decide +kernel
theorem dX8_halls_213 : decode cX8_halls 213 = .ok (.invokevirtual 142, 3) := by decide +kernel
theorem dX8_halls_216 : decode cX8_halls 216 = .ok (.isub, 1) := by decide +kernel
theorem dX8_halls_217 : decode cX8_halls 217 = .ok (.invokestatic 284, 3) := by decide +kernel
theorem dX8_halls_220 : decode cX8_halls 220 = .ok (.iadd, 1) := by decide +kernel
theorem dX8_halls_221 : decode cX8_halls 221 = .ok (.iaload, 1) := by decide +kernel
theorem dX8_halls_222 : decode cX8_halls 222 = .ok (.iadd, 1) := by decide +kernel
theorem dX8_halls_223 : decode cX8_halls 223 = .ok (.goto 6, 3) := by decide +kernel
theorem dX8_halls_226 : decode cX8_halls 226 = .ok (.ldc_w 283, 3) := by decide +kernel
theorem dX8_halls_229 : decode cX8_halls 229 = .ok (.istore 7, 2) := by decide +kernel
theorem dX8_halls_231 : decode cX8_halls 231 = .ok (.aload_n 0, 1) := by decide +kernel
theorem dX8_halls_232 : decode cX8_halls 232 = .ok (.getfield 54, 3) := by decide +kernel
theorem dX8_halls_235 : decode cX8_halls 235 = .ok (.bipush 41, 2) := by decide +kernel
theorem dX8_halls_237 : decode cX8_halls 237 = .ok (.iload 4, 2) := by decide +kernel
theorem dX8_halls_239 : decode cX8_halls 239 = .ok (.imul, 1) := by decide +kernel
theorem dX8_halls_240 : decode cX8_halls 240 = .ok (.iload 5, 2) := by decide +kernel
theorem dX8_halls_242 : decode cX8_halls 242 = .ok (.iadd, 1) := by decide +kernel
theorem dX8_halls_243 : decode cX8_halls 243 = .ok (.iload 6, 2) := by decide +kernel
theorem dX8_halls_245 : decode cX8_halls 245 = .ok (.iload 7, 2) := by decide +kernel
theorem dX8_halls_247 : decode cX8_halls 247 = .ok (.invokestatic 203, 3) := by decide +kernel
theorem dX8_halls_250 : decode cX8_halls 250 = .ok (.iastore, 1) := by decide +kernel
theorem dX8_halls_251 : decode cX8_halls 251 = .ok (.iinc 5 1, 3) := by decide +kernel
theorem dX8_halls_254 : decode cX8_halls 254 = .ok (.goto (-100), 3) := by decide +kernel
theorem dX8_halls_257 : decode cX8_halls 257 = .ok (.iinc 4 (-1), 3) := by decide +kernel
theorem dX8_halls_260 : decode cX8_halls 260 = .ok (.goto (-114), 3) := by decide +kernel
theorem dX8_halls_263 : decode cX8_halls 263 = .ok (.aload_n 0, 1) := by decide +kernel
theorem dX8_halls_264 : decode cX8_halls 264 = .ok (.getfield 54, 3) := by decide +kernel
