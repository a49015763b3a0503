theorem dX8_addNode_68 : decode cX8_addNode 68 = .ok (.invokevirtual 201, 3) := by decide +kernel
theorem dX8_addNode_71 : decode cX8_addNode 71 = .ok (.aload_n 0, 1) := by decide +kernel
theorem dX8_addNode_72 : decode cX8_addNode 72 = .ok (.getfield 13, 3) := by decide +kernel
theorem dX8_addNode_75 : decode cX8_addNode 75 = .ok (.iconst 3, 1) := by decide +kernel
theorem dX8_addNode_76 : decode cX8_addNode 76 = .ok (.iaload, 1) := by decide +kernel
theorem dX8_addNode_77 : decode cX8_addNode 77 = .ok (.istore 5, 2) := by decide +kernel
theorem dX8_addNode_79 : decode cX8_addNode 79 = .ok (.aload_n 0, 1) := by decide +kernel
theorem dX8_addNode_80 : decode cX8_addNode 80 = .ok (.getfield 13, 3) := by decide +kernel
theorem dX8_addNode_83 : decode cX8_addNode 83 = .ok (.iconst 3, 1) := by decide +kernel
theorem dX8_addNode_84 : decode cX8_addNode 84 = .ok (.dup2, 1) := by decide +kernel
theorem dX8_addNode_85 : decode cX8_addNode 85 = .ok (.iaload, 1) := by decide +kernel
theorem dX8_addNode_86 : decode cX8_addNode 86 = .ok (.iconst 1, 1) := by decide +kernel
theorem dX8_addNode_87 : decode cX8_addNode 87 = .ok (.iadd, 1) := by decide +kernel
theorem dX8_addNode_88 : decode cX8_addNode 88 = .ok (.iastore, 1) := by decide +kernel
theorem dX8_addNode_89 : decode cX8_addNode 89 = .ok (.aload_n 0, 1) := by decide +kernel
theorem dX8_addNode_90 : decode cX8_addNode 90 = .ok (.getfield 13, 3) := by decide +kernel
theorem dX8_addNode_93 : decode cX8_addNode 93 = .ok (.bipush 11, 2) := by decide +kernel
theorem dX8_addNode_95 : decode cX8_addNode 95 = .ok (.iload 5, 2) := by decide +kernel
theorem dX8_addNode_97 : decode cX8_addNode 97 = .ok (.iadd, 1) := by decide +kernel
theorem dX8_addNode_98 : decode cX8_addNode 98 = .ok (.iload_n 2, 1) := by decide +kernel
theorem dX8_addNode_99 : decode cX8_addNode 99 = .ok (.iastore, 1) := by decide +kernel
theorem dX8_addNode_100 : decode cX8_addNode 100 = .ok (.aload_n 0, 1) := by decide +kernel
theorem dX8_addNode_101 : decode cX8_addNode 101 = .ok (.getfield 13, 3) := by decide +kernel
theorem dX8_addNode_104 : decode cX8_addNode 104 = .ok (.bipush 71, 2) := by decide +kernel
theorem dX8_addNode_106 : decode cX8_addNode 106 = .ok (.iload 5, 2) := by decide +kernel
theorem dX8_addNode_108 : decode cX8_addNode 108 = .ok (.iadd, 1) := by decide +kernel
theorem dX8_addNode_109 : decode cX8_addNode 109 = .ok (.iload_n 3, 1) := by decide +kernel
theorem dX8_addNode_110 : decode cX8_addNode 110 = .ok (.iastore, 1) := by decide +kernel
theorem dX8_addNode_111 : decode cX8_addNode 111 = .ok (.aload_n 0, 1) := by decide +kernel
theorem dX8_addNode_112 : decode cX8_addNode 112 = .ok (.getfield 13, 3) := by decide +kernel
theorem dX8_addNode_115 : decode cX8_addNode 115 = .ok (.sipush 131, 3) := by decide +kernel
theorem dX8_addNode_118 : decode cX8_addNode 118 = .ok (.iload 5, 2) := by decide +kernel
theorem dX8_addNode_120 : decode cX8_addNode 120 = .ok (.iadd, 1) := by decide +kernel
theorem dX8_addNode_121 : decode cX8_addNode 121 = .ok (.iload 4, 2) := by decide +kernel
theorem dX8_addNode_123 : decode cX8_addNode 123 = .ok (.ifCond .eq 7, 3) := by decide +kernel
theorem dX8_addNode_126 : decode cX8_addNode 126 = .ok (.iconst 1, 1) := by decide +kernel
theorem dX8_addNode_127 : decode cX8_addNode 127 = .ok (.goto 4, 3) := by decide +kernel
theorem dX8_addNode_130 : decode cX8_addNode 130 = .ok (.iconst 0, 1) := by decide +kernel
theorem dX8_addNode_131 : decode cX8_addNode 131 = .ok (.iastore, 1) := by decide +kernel
theorem dX8_addNode_132 : decode cX8_addNode 132 = .ok (.aload_n 0, 1) := by decide +kernel
theorem dX8_addNode_133 : decode cX8_addNode 133 = .ok (.getfield 13, 3) := by decide +kernel
theorem dX8_addNode_136 : decode cX8_addNode 136 = .ok (.sipush 191, 3) := by decide +kernel
theorem dX8_addNode_139 : decode cX8_addNode 139 = .ok (.iload 5, 2) := by decide +kernel
theorem dX8_addNode_141 : decode cX8_addNode 141 = .ok (.iadd, 1) := by decide +kernel
theorem dX8_addNode_142 : decode cX8_addNode 142 = .ok (.iconst 0, 1) := by decide +kernel
theorem dX8_addNode_143 : decode cX8_addNode 143 = .ok (.iastore, 1) := by decide +kernel
theorem dX8_addNode_144 : decode cX8_addNode 144 = .ok (.aload_n 0, 1) := by decide +kernel
theorem dX8_addNode_145 : decode cX8_addNode 145 = .ok (.getfield 13, 3) := by decide +kernel
theorem dX8_addNode_148 : decode cX8_addNode 148 = .ok (.iload_n 1, 1) := by decide +kernel
theorem dX8_addNode_149 : decode cX8_addNode 149 = .ok (.bipush 60, 2) := by decide +kernel
theorem dX8_addNode_151 : decode cX8_addNode 151 = .ok (.iload 5, 2) := by decide +kernel
theorem dX8_addNode_153 : decode cX8_addNode 153 = .ok (.invokestatic 173, 3) := by decide +kernel
theorem dX8_addNode_156 : decode cX8_addNode 156 = .ok (.iconst 1, 1) := by decide +kernel
theorem dX8_addNode_157 : decode cX8_addNode 157 = .ok (.iastore, 1) := by decide +kernel
theorem dX8_addNode_158 : decode cX8_addNode 158 = .ok (.aload_n 0, 1) := by decide +kernel
theorem dX8_addNode_159 : decode cX8_addNode 159 = .ok (.getfield 13, 3) := by decide +kernel
theorem dX8_addNode_162 : decode cX8_addNode 162 = .ok (.iload_n 1, 1) := by decide +kernel
theorem dX8_addNode_163 : decode cX8_addNode 163 = .ok (.bipush 120, 2) := by decide +kernel
theorem dX8_addNode_165 : decode cX8_addNode 165 = .ok (.iload 5, 2) := by decide +kernel
theorem dX8_addNode_167 : decode cX8_addNode 167 = .ok (.invokestatic 173, 3) := by decide +kernel
theorem dX8_addNode_170 : decode cX8_addNode 170 = .ok (.iconst 1, 1) := by decide +kernel
theorem dX8_addNode_171 : decode cX8_addNode 171 = .ok (.iastore, 1) := by decide +kernel
theorem dX8_addNode_172 : decode cX8_addNode 172 = .ok (.iload 5, 2) := by decide +kernel
theorem dX8_addNode_174 : decode cX8_addNode 174 = .ok (.ireturn, 1) := by decide +kernel
theorem dX8_removeNode_0 : decode cX8_removeNode 0 = .ok (.aload_n 0, 1) := by decide +kernel
theorem dX8_removeNode_1 : decode cX8_removeNode 1 = .ok (.iconst 0, 1) := by decide +kernel
theorem dX8_removeNode_2 : decode cX8_removeNode 2 = .ok (.putfield 38, 3) := by decide +kernel
theorem dX8_removeNode_5 : decode cX8_removeNode 5 = .ok (.aload_n 0, 1) := by decide +kernel
theorem dX8_removeNode_6 : decode cX8_removeNode 6 = .ok (.aload_n 0, 1) := by decide +kernel
theorem dX8_removeNode_7 : decode cX8_removeNode 7 = .ok (.iload_n 1, 1) := by decide +kernel
theorem dX8_removeNode_8 : decode cX8_removeNode 8 = .ok (.invokevirtual 188, 3) := by decide +kernel
theorem dX8_removeNode_11 : decode cX8_removeNode 11 = .ok (.ifCond .eq 15, 3) := by decide +kernel
theorem dX8_removeNode_14 : decode cX8_removeNode 14 = .ok (.aload_n 0, 1) := by decide +kernel
theorem dX8_removeNode_15 : decode cX8_removeNode 15 = .ok (.iload_n 2, 1) := by decide +kernel
theorem dX8_removeNode_16 : decode cX8_removeNode 16 = .ok (.invokevirtual 191, 3) := by decide +kernel
theorem dX8_removeNode_19 : decode cX8_removeNode 19 = .ok (.ifCond .eq 7, 3) := by decide +kernel
theorem dX8_removeNode_22 : decode cX8_removeNode 22 = .ok (.iconst 1, 1) := by decide +kernel
theorem dX8_removeNode_23 : decode cX8_removeNode 23 = .ok (.goto 4, 3) := by decide +kernel
theorem dX8_removeNode_26 : decode cX8_removeNode 26 = .ok (.iconst 0, 1) := by decide +kernel
theorem dX8_removeNode_27 : decode cX8_removeNode 27 = .ok (.iconst 1, 1) := by decide +kernel
theorem dX8_removeNode_28 : decode cX8_removeNode 28 = .ok (.invokevirtual 49, 3) := by decide +kernel
theorem dX8_removeNode_31 : decode cX8_removeNode 31 = .ok (.ifCond .ne 51, 3) := by decide +kernel
theorem dX8_removeNode_34 : decode cX8_removeNode 34 = .ok (.aload_n 0, 1) := by decide +kernel
theorem dX8_removeNode_35 : decode cX8_removeNode 35 = .ok (.aload_n 0, 1) := by decide +kernel
theorem dX8_removeNode_36 : decode cX8_removeNode 36 = .ok (.iload_n 1, 1) := by decide +kernel
theorem dX8_removeNode_37 : decode cX8_removeNode 37 = .ok (.invokevirtual 177, 3) := by decide +kernel
theorem dX8_removeNode_40 : decode cX8_removeNode 40 = .ok (.ifCond .eq 34, 3) := by decide +kernel
theorem dX8_removeNode_43 : decode cX8_removeNode 43 = .ok (.aload_n 0, 1) := by decide +kernel
theorem dX8_removeNode_44 : decode cX8_removeNode 44 = .ok (.iload_n 1, 1) := by decide +kernel
theorem dX8_removeNode_45 : decode cX8_removeNode 45 = .ok (.bipush 60, 2) := by decide +kernel
theorem dX8_removeNode_47 : decode cX8_removeNode 47 = .ok (.iload_n 2, 1) := by decide +kernel
theorem dX8_removeNode_48 : decode cX8_removeNode 48 = .ok (.invokevirtual 209, 3) := by decide +kernel
theorem dX8_removeNode_51 : decode cX8_removeNode 51 = .ok (.ifCond .eq 23, 3) := by decide +kernel
theorem dX8_removeNode_54 : decode cX8_removeNode 54 = .ok (.aload_n 0, 1) := by decide +kernel
theorem dX8_removeNode_55 : decode cX8_removeNode 55 = .ok (.getfield 13, 3) := by decide +kernel
theorem dX8_removeNode_58 : decode cX8_removeNode 58 = .ok (.sipush 611, 3) := by decide +kernel
theorem dX8_removeNode_61 : decode cX8_removeNode 61 = .ok (.iconst 3, 1) := by decide +kernel
theorem dX8_removeNode_62 : decode cX8_removeNode 62 = .ok (.iload_n 1, 1) := by decide +kernel
theorem dX8_removeNode_63 : decode cX8_removeNode 63 = .ok (.imul, 1) := by decide +kernel
theorem dX8_removeNode_64 : decode cX8_removeNode 64 = .ok (.iadd, 1) := by decide +kernel
theorem dX8_removeNode_65 : decode cX8_removeNode 65 = .ok (.iaload, 1) := by decide +kernel
theorem dX8_removeNode_66 : decode cX8_removeNode 66 = .ok (.iload_n 2, 1) := by decide +kernel
theorem dX8_removeNode_67 : decode cX8_removeNode 67 = .ok (.if_icmp .eq 7, 3) := by decide +kernel
theorem dX8_removeNode_70 : decode cX8_removeNode 70 = .ok (.iconst 1, 1) := by decide +kernel
theorem dX8_removeNode_71 : decode cX8_removeNode 71 = .ok (.goto 4, 3) := by decide +kernel
theorem dX8_removeNode_74 : decode cX8_removeNode 74 = .ok (.iconst 0, 1) := by decide +kernel
theorem dX8_removeNode_75 : decode cX8_removeNode 75 = .ok (.iconst 2, 1) := by decide +kernel
theorem dX8_removeNode_76 : decode cX8_removeNode 76 = .ok (.invokevirtual 49, 3) := by decide +kernel
theorem dX8_removeNode_79 : decode cX8_removeNode 79 = .ok (.ifCond .eq 5, 3) := by decide +kernel
theorem dX8_removeNode_82 : decode cX8_removeNode 82 = .ok (.iconst 0, 1) := by decide +kernel
theorem dX8_removeNode_83 : decode cX8_removeNode 83 = .ok (.ireturn, 1) := by decide +kernel
theorem dX8_removeNode_84 : decode cX8_removeNode 84 = .ok (.aload_n 0, 1) := by decide +kernel
theorem dX8_removeNode_85 : decode cX8_removeNode 85 = .ok (.invokevirtual 201, 3) := by decide +kernel
theorem dX8_removeNode_88 : decode cX8_removeNode 88 = .ok (.iconst 0, 1) := by decide +kernel
theorem dX8_removeNode_89 : decode cX8_removeNode 89 = .ok (.istore_n 3, 1) := by decide +kernel
theorem dX8_removeNode_90 : decode cX8_removeNode 90 = .ok (.iload_n 2, 1) := by decide +kernel
theorem dX8_removeNode_91 : decode cX8_removeNode 91 = .ok (.istore 4, 2) := by decide +kernel
theorem dX8_removeNode_93 : decode cX8_removeNode 93 = .ok (.iload 4, 2) := by decide +kernel
theorem dX8_removeNode_95 : decode cX8_removeNode 95 = .ok (.aload_n 0, 1) := by decide +kernel
theorem dX8_removeNode_96 : decode cX8_removeNode 96 = .ok (.getfield 13, 3) := by decide +kernel
theorem dX8_removeNode_99 : decode cX8_removeNode 99 = .ok (.iconst 3, 1) := by decide +kernel
theorem dX8_removeNode_100 : decode cX8_removeNode 100 = .ok (.iaload, 1) := by decide +kernel
theorem dX8_removeNode_101 : decode cX8_removeNode 101 = .ok (.if_icmp .ge 48, 3) := by decide +kernel
theorem dX8_removeNode_104 : decode cX8_removeNode 104 = .ok (.aload_n 0, 1) := by decide +kernel
theorem dX8_removeNode_105 : decode cX8_removeNode 105 = .ok (.iload_n 1, 1) := by decide +kernel
theorem dX8_removeNode_106 : decode cX8_removeNode 106 = .ok (.bipush 60, 2) := by decide +kernel
theorem dX8_removeNode_108 : decode cX8_removeNode 108 = .ok (.iload 4, 2) := by decide +kernel
theorem dX8_removeNode_110 : decode cX8_removeNode 110 = .ok (.invokevirtual 209, 3) := by decide +kernel
theorem dX8_removeNode_113 : decode cX8_removeNode 113 = .ok (.ifCond .eq 30, 3) := by decide +kernel
theorem dX8_removeNode_116 : decode cX8_removeNode 116 = .ok (.aload_n 0, 1) := by decide +kernel
theorem dX8_removeNode_117 : decode cX8_removeNode 117 = .ok (.iload 4, 2) := by decide +kernel
theorem dX8_removeNode_119 : decode cX8_removeNode 119 = .ok (.iload_n 2, 1) := by decide +kernel
theorem dX8_removeNode_120 : decode cX8_removeNode 120 = .ok (.invokevirtual 180, 3) := by decide +kernel
theorem dX8_removeNode_123 : decode cX8_removeNode 123 = .ok (.ifCond .eq 20, 3) := by decide +kernel
theorem dX8_removeNode_126 : decode cX8_removeNode 126 = .ok (.aload_n 0, 1) := by decide +kernel
theorem dX8_removeNode_127 : decode cX8_removeNode 127 = .ok (.getfield 13, 3) := by decide +kernel
theorem dX8_removeNode_130 : decode cX8_removeNode 130 = .ok (.iload_n 1, 1) := by decide +kernel
theorem dX8_removeNode_131 : decode cX8_removeNode 131 = .ok (.bipush 60, 2) := by decide +kernel
theorem dX8_removeNode_133 : decode cX8_removeNode 133 = .ok (.iload 4, 2) := by decide +kernel
theorem dX8_removeNode_135 : decode cX8_removeNode 135 = .ok (.invokestatic 173, 3) := by decide +kernel
theorem dX8_removeNode_138 : decode cX8_removeNode 138 = .ok (.iconst 0, 1) := by decide +kernel
theorem dX8_removeNode_139 : decode cX8_removeNode 139 = .ok (.iastore, 1) := by decide +kernel
theorem dX8_removeNode_140 : decode cX8_removeNode 140 = .ok (.iinc 3 1, 3) := by decide +kernel
theorem dX8_removeNode_143 : decode cX8_removeNode 143 = .ok (.iinc 4 1, 3) := by decide +kernel
theorem dX8_removeNode_146 : decode cX8_removeNode 146 = .ok (.goto (-53), 3) := by decide +kernel
theorem dX8_removeNode_149 : decode cX8_removeNode 149 = .ok (.iload_n 3, 1) := by decide +kernel
theorem dX8_removeNode_150 : decode cX8_removeNode 150 = .ok (.ireturn, 1) := by decide +kernel
theorem dX8_isChanged_0 : decode cX8_isChanged 0 = .ok (.aload_n 0, 1) := by decide +kernel
theorem dX8_isChanged_1 : decode cX8_isChanged 1 = .ok (.iload_n 1, 1) := by decide +kernel
theorem dX8_isChanged_2 : decode cX8_isChanged 2 = .ok (.iconst 0, 1) := by decide +kernel
theorem dX8_isChanged_3 : decode cX8_isChanged 3 = .ok (.iload_n 2, 1) := by decide +kernel
theorem dX8_isChanged_4 : decode cX8_isChanged 4 = .ok (.invokevirtual 209, 3) := by decide +kernel
theorem dX8_isChanged_7 : decode cX8_isChanged 7 = .ok (.ifCond .eq 35, 3) := by decide +kernel
theorem dX8_isChanged_10 : decode cX8_isChanged 10 = .ok (.aload_n 0, 1) := by decide +kernel
theorem dX8_isChanged_11 : decode cX8_isChanged 11 = .ok (.iload_n 1, 1) := by decide +kernel
theorem dX8_isChanged_12 : decode cX8_isChanged 12 = .ok (.bipush 60, 2) := by decide +kernel
theorem dX8_isChanged_14 : decode cX8_isChanged 14 = .ok (.iload_n 2, 1) := by decide +kernel
theorem dX8_isChanged_15 : decode cX8_isChanged 15 = .ok (.invokevirtual 209, 3) := by decide +kernel
theorem dX8_isChanged_18 : decode cX8_isChanged 18 = .ok (.ifCond .eq 24, 3) := by decide +kernel
theorem dX8_isChanged_21 : decode cX8_isChanged 21 = .ok (.aload_n 0, 1) := by decide +kernel
theorem dX8_isChanged_22 : decode cX8_isChanged 22 = .ok (.iload_n 1, 1) := by decide +kernel
theorem dX8_isChanged_23 : decode cX8_isChanged 23 = .ok (.iload_n 2, 1) := by decide +kernel
theorem dX8_isChanged_24 : decode cX8_isChanged 24 = .ok (.iload_n 3, 1) := by decide +kernel
theorem dX8_isChanged_25 : decode cX8_isChanged 25 = .ok (.invokevirtual 218, 3) := by decide +kernel
theorem dX8_isChanged_28 : decode cX8_isChanged 28 = .ok (.aload_n 0, 1) := by decide +kernel
theorem dX8_isChanged_29 : decode cX8_isChanged 29 = .ok (.iload_n 1, 1) := by decide +kernel
theorem dX8_isChanged_30 : decode cX8_isChanged 30 = .ok (.iload_n 2, 1) := by decide +kernel
theorem dX8_isChanged_31 : decode cX8_isChanged 31 = .ok (.iload_n 3, 1) := by decide +kernel
theorem dX8_isChanged_32 : decode cX8_isChanged 32 = .ok (.invokevirtual 212, 3) := by decide +kernel
theorem dX8_isChanged_35 : decode cX8_isChanged 35 = .ok (.if_icmp .eq 7, 3) := by decide +kernel
theorem dX8_isChanged_38 : decode cX8_isChanged 38 = .ok (.iconst 1, 1) := by decide +kernel
theorem dX8_isChanged_39 : decode cX8_isChanged 39 = .ok (.goto 4, 3) := by decide +kernel
theorem dX8_isChanged_42 : decode cX8_isChanged 42 = .ok (.iconst 0, 1) := by decide +kernel
theorem dX8_isChanged_43 : decode cX8_isChanged 43 = .ok (.ireturn, 1) := by decide +kernel
theorem dX8_changesOf_0 : decode cX8_changesOf 0 = .ok (.iconst 0, 1) := by decide +kernel
theorem dX8_changesOf_1 : decode cX8_changesOf 1 = .ok (.istore_n 3, 1) := by decide +kernel
theorem dX8_changesOf_2 : decode cX8_changesOf 2 = .ok (.iconst 0, 1) := by decide +kernel
theorem dX8_changesOf_3 : decode cX8_changesOf 3 = .ok (.istore 4, 2) := by decide +kernel
theorem dX8_changesOf_5 : decode cX8_changesOf 5 = .ok (.iload 4, 2) := by decide +kernel
theorem dX8_changesOf_7 : decode cX8_changesOf 7 = .ok (.aload_n 0, 1) := by decide +kernel
theorem dX8_changesOf_8 : decode cX8_changesOf 8 = .ok (.getfield 13, 3) := by decide +kernel
theorem dX8_changesOf_11 : decode cX8_changesOf 11 = .ok (.iconst 1, 1) := by decide +kernel
theorem dX8_changesOf_12 : decode cX8_changesOf 12 = .ok (.iaload, 1) := by decide +kernel
theorem dX8_changesOf_13 : decode cX8_changesOf 13 = .ok (.if_icmp .ge 28, 3) := by decide +kernel
theorem dX8_changesOf_16 : decode cX8_changesOf 16 = .ok (.iload_n 3, 1) := by decide +kernel
theorem dX8_changesOf_17 : decode cX8_changesOf 17 = .ok (.aload_n 0, 1) := by decide +kernel
theorem dX8_changesOf_18 : decode cX8_changesOf 18 = .ok (.iload_n 1, 1) := by decide +kernel
theorem dX8_changesOf_19 : decode cX8_changesOf 19 = .ok (.iload_n 2, 1) := by decide +kernel
theorem dX8_changesOf_20 : decode cX8_changesOf 20 = .ok (.iload 4, 2) := by decide +kernel
theorem dX8_changesOf_22 : decode cX8_changesOf 22 = .ok (.invokevirtual 221, 3) := by decide +kernel
theorem dX8_changesOf_25 : decode cX8_changesOf 25 = .ok (.ifCond .eq 7, 3) := by decide +kernel
theorem dX8_changesOf_28 : decode cX8_changesOf 28 = .ok (.iconst 1, 1) := by decide +kernel
theorem dX8_changesOf_29 : decode cX8_changesOf 29 = .ok (.goto 4, 3) := by decide +kernel
theorem dX8_changesOf_32 : decode cX8_changesOf 32 = .ok (.iconst 0, 1) := by decide +kernel
theorem dX8_changesOf_33 : decode cX8_changesOf 33 = .ok (.iadd, 1) := by decide +kernel
theorem dX8_changesOf_34 : decode cX8_changesOf 34 = .ok (.istore_n 3, 1) := by decide +kernel
theorem dX8_changesOf_35 : decode cX8_changesOf 35 = .ok (.iinc 4 1, 3) := by decide +kernel
theorem dX8_changesOf_38 : decode cX8_changesOf 38 = .ok (.goto (-33), 3) := by decide +kernel
theorem dX8_changesOf_41 : decode cX8_changesOf 41 = .ok (.iload_n 3, 1) := by decide +kernel
theorem dX8_changesOf_42 : decode cX8_changesOf 42 = .ok (.ireturn, 1) := by decide +kernel
theorem dX8_allChanges_0 : decode cX8_allChanges 0 = .ok (.iconst 0, 1) := by decide +kernel
theorem dX8_allChanges_1 : decode cX8_allChanges 1 = .ok (.istore_n 2, 1) := by decide +kernel
theorem dX8_allChanges_2 : decode cX8_allChanges 2 = .ok (.iconst 0, 1) := by decide +kernel
theorem dX8_allChanges_3 : decode cX8_allChanges 3 = .ok (.istore_n 3, 1) := by decide +kernel
theorem dX8_allChanges_4 : decode cX8_allChanges 4 = .ok (.iload_n 3, 1) := by decide +kernel
theorem dX8_allChanges_5 : decode cX8_allChanges 5 = .ok (.aload_n 0, 1) := by decide +kernel
theorem dX8_allChanges_6 : decode cX8_allChanges 6 = .ok (.getfield 13, 3) := by decide +kernel
theorem dX8_allChanges_9 : decode cX8_allChanges 9 = .ok (.iconst 3, 1) := by decide +kernel
theorem dX8_allChanges_10 : decode cX8_allChanges 10 = .ok (.iaload, 1) := by decide +kernel
theorem dX8_allChanges_11 : decode cX8_allChanges 11 = .ok (.if_icmp .ge 18, 3) := by decide +kernel
theorem dX8_allChanges_14 : decode cX8_allChanges 14 = .ok (.iload_n 2, 1) := by decide +kernel
theorem dX8_allChanges_15 : decode cX8_allChanges 15 = .ok (.aload_n 0, 1) := by decide +kernel
theorem dX8_allChanges_16 : decode cX8_allChanges 16 = .ok (.iload_n 1, 1) := by decide +kernel
theorem dX8_allChanges_17 : decode cX8_allChanges 17 = .ok (.iload_n 3, 1) := by decide +kernel
theorem dX8_allChanges_18 : decode cX8_allChanges 18 = .ok (.invokevirtual 224, 3) := by decide +kernel
theorem dX8_allChanges_21 : decode cX8_allChanges 21 = .ok (.iadd, 1) := by decide +kernel
theorem dX8_allChanges_22 : decode cX8_allChanges 22 = .ok (.istore_n 2, 1) := by decide +kernel
theorem dX8_allChanges_23 : decode cX8_allChanges 23 = .ok (.iinc 3 1, 3) := by decide +kernel
theorem dX8_allChanges_26 : decode cX8_allChanges 26 = .ok (.goto (-22), 3) := by decide +kernel
theorem dX8_allChanges_29 : decode cX8_allChanges 29 = .ok (.iload_n 2, 1) := by decide +kernel
theorem dX8_allChanges_30 : decode cX8_allChanges 30 = .ok (.ireturn, 1) := by decide +kernel
theorem dX8_object_0 : decode cX8_object 0 = .ok (.aload_n 0, 1) := by decide +kernel
theorem dX8_object_1 : decode cX8_object 1 = .ok (.getfield 13, 3) := by decide +kernel
theorem dX8_object_4 : decode cX8_object 4 = .ok (.iconst 4, 1) := by decide +kernel
theorem dX8_object_5 : decode cX8_object 5 = .ok (.iaload, 1) := by decide +kernel
theorem dX8_object_6 : decode cX8_object 6 = .ok (.bipush 40, 2) := by decide +kernel
theorem dX8_object_8 : decode cX8_object 8 = .ok (.if_icmp .ne 8, 3) := by decide +kernel
theorem dX8_object_11 : decode cX8_object 11 = .ok (.aload_n 0, 1) := by decide +kernel
theorem dX8_object_12 : decode cX8_object 12 = .ok (.iconst 0, 1) := by decide +kernel
theorem dX8_object_13 : decode cX8_object 13 = .ok (.invokevirtual 227, 3) := by decide +kernel
theorem dX8_object_16 : decode cX8_object 16 = .ok (.sipush 626, 3) := by decide +kernel
theorem dX8_object_19 : decode cX8_object 19 = .ok (.bipush 6, 2) := by decide +kernel
theorem dX8_object_21 : decode cX8_object 21 = .ok (.aload_n 0, 1) := by decide +kernel
theorem dX8_object_22 : decode cX8_object 22 = .ok (.getfield 13, 3) := by decide +kernel
theorem dX8_object_25 : decode cX8_object 25 = .ok (.iconst 4, 1) := by decide +kernel
theorem dX8_object_26 : decode cX8_object 26 = .ok (.iaload, 1) := by decide +kernel
theorem dX8_object_27 : decode cX8_object 27 = .ok (.imul, 1) := by decide +kernel
theorem dX8_object_28 : decode cX8_object 28 = .ok (.iadd, 1) := by decide +kernel
theorem dX8_object_29 : decode cX8_object 29 = .ok (.istore 6, 2) := by decide +kernel
theorem dX8_object_31 : decode cX8_object 31 = .ok (.aload_n 0, 1) := by decide +kernel
theorem dX8_object_32 : decode cX8_object 32 = .ok (.getfield 13, 3) := by decide +kernel
theorem dX8_object_35 : decode cX8_object 35 = .ok (.iload 6, 2) := by decide +kernel
theorem dX8_object_37 : decode cX8_object 37 = .ok (.iconst 0, 1) := by decide +kernel
theorem dX8_object_38 : decode cX8_object 38 = .ok (.iadd, 1) := by decide +kernel
theorem dX8_object_39 : decode cX8_object 39 = .ok (.iload_n 1, 1) := by decide +kernel
theorem dX8_object_40 : decode cX8_object 40 = .ok (.iastore, 1) := by decide +kernel
theorem dX8_object_41 : decode cX8_object 41 = .ok (.aload_n 0, 1) := by decide +kernel
theorem dX8_object_42 : decode cX8_object 42 = .ok (.getfield 13, 3) := by decide +kernel
theorem dX8_object_45 : decode cX8_object 45 = .ok (.iload 6, 2) := by decide +kernel
theorem dX8_object_47 : decode cX8_object 47 = .ok (.iconst 1, 1) := by decide +kernel
theorem dX8_object_48 : decode cX8_object 48 = .ok (.iadd, 1) := by decide +kernel
theorem dX8_object_49 : decode cX8_object 49 = .ok (.iload_n 2, 1) := by decide +kernel
theorem dX8_object_50 : decode cX8_object 50 = .ok (.iastore, 1) := by decide +kernel
theorem dX8_object_51 : decode cX8_object 51 = .ok (.aload_n 0, 1) := by decide +kernel
theorem dX8_object_52 : decode cX8_object 52 = .ok (.getfield 13, 3) := by decide +kernel
theorem dX8_object_55 : decode cX8_object 55 = .ok (.iload 6, 2) := by decide +kernel
theorem dX8_object_57 : decode cX8_object 57 = .ok (.iconst 2, 1) := by decide +kernel
theorem dX8_object_58 : decode cX8_object 58 = .ok (.iadd, 1) := by decide +kernel
theorem dX8_object_59 : decode cX8_object 59 = .ok (.iload_n 3, 1) := by decide +kernel
theorem dX8_object_60 : decode cX8_object 60 = .ok (.iastore, 1) := by decide +kernel
theorem dX8_object_61 : decode cX8_object 61 = .ok (.aload_n 0, 1) := by decide +kernel
theorem dX8_object_62 : decode cX8_object 62 = .ok (.getfield 13, 3) := by decide +kernel
theorem dX8_object_65 : decode cX8_object 65 = .ok (.iload 6, 2) := by decide +kernel
theorem dX8_object_67 : decode cX8_object 67 = .ok (.iconst 3, 1) := by decide +kernel
theorem dX8_object_68 : decode cX8_object 68 = .ok (.iadd, 1) := by decide +kernel
theorem dX8_object_69 : decode cX8_object 69 = .ok (.iload 4, 2) := by decide +kernel
theorem dX8_object_71 : decode cX8_object 71 = .ok (.iastore, 1) := by decide +kernel
theorem dX8_object_72 : decode cX8_object 72 = .ok (.aload_n 0, 1) := by decide +kernel
theorem dX8_object_73 : decode cX8_object 73 = .ok (.getfield 13, 3) := by decide +kernel
theorem dX8_object_76 : decode cX8_object 76 = .ok (.iload 6, 2) := by decide +kernel
theorem dX8_object_78 : decode cX8_object 78 = .ok (.iconst 4, 1) := by decide +kernel
theorem dX8_object_79 : decode cX8_object 79 = .ok (.iadd, 1) := by decide +kernel
theorem dX8_object_80 : decode cX8_object 80 = .ok (.iload 5, 2) := by decide +kernel
theorem dX8_object_82 : decode cX8_object 82 = .ok (.iastore, 1) := by decide +kernel
theorem dX8_object_83 : decode cX8_object 83 = .ok (.aload_n 0, 1) := by decide +kernel
theorem dX8_object_84 : decode cX8_object 84 = .ok (.getfield 13, 3) := by decide +kernel
theorem dX8_object_87 : decode cX8_object 87 = .ok (.iload 6, 2) := by decide +kernel
theorem dX8_object_89 : decode cX8_object 89 = .ok (.iconst 5, 1) := by decide +kernel
theorem dX8_object_90 : decode cX8_object 90 = .ok (.iadd, 1) := by decide +kernel
theorem dX8_object_91 : decode cX8_object 91 = .ok (.aload_n 0, 1) := by decide +kernel
theorem dX8_object_92 : decode cX8_object 92 = .ok (.getfield 13, 3) := by decide +kernel
theorem dX8_object_95 : decode cX8_object 95 = .ok (.iconst 0, 1) := by decide +kernel
theorem dX8_object_96 : decode cX8_object 96 = .ok (.iaload, 1) := by decide +kernel
theorem dX8_object_97 : decode cX8_object 97 = .ok (.iastore, 1) := by decide +kernel
theorem dX8_object_98 : decode cX8_object 98 = .ok (.aload_n 0, 1) := by decide +kernel
theorem dX8_object_99 : decode cX8_object 99 = .ok (.getfield 13, 3) := by decide +kernel
theorem dX8_object_102 : decode cX8_object 102 = .ok (.iconst 4, 1) := by decide +kernel
theorem dX8_object_103 : decode cX8_object 103 = .ok (.dup2, 1) := by decide +kernel
theorem dX8_object_104 : decode cX8_object 104 = .ok (.iaload, 1) := by decide +kernel
theorem dX8_object_105 : decode cX8_object 105 = .ok (.iconst 1, 1) := by decide +kernel
theorem dX8_object_106 : decode cX8_object 106 = .ok (.iadd, 1) := by decide +kernel
theorem dX8_object_107 : decode cX8_object 107 = .ok (.iastore, 1) := by decide +kernel
theorem dX8_object_108 : decode cX8_object 108 = .ok (.aload_n 0, 1) := by decide +kernel
theorem dX8_object_109 : decode cX8_object 109 = .ok (.dup, 1) := by decide +kernel
theorem dX8_object_110 : decode cX8_object 110 = .ok (.getfield 231, 3) := by decide +kernel
theorem dX8_object_113 : decode cX8_object 113 = .ok (.iconst 1, 1) := by decide +kernel
theorem dX8_object_114 : decode cX8_object 114 = .ok (.iadd, 1) := by decide +kernel
theorem dX8_object_115 : decode cX8_object 115 = .ok (.putfield 231, 3) := by decide +kernel
theorem dX8_object_118 : decode cX8_object 118 = .ok (.return_, 1) := by decide +kernel
theorem dX8_dropConflict_0 : decode cX8_dropConflict 0 = .ok (.aload_n 0, 1) := by decide +kernel
theorem dX8_dropConflict_1 : decode cX8_dropConflict 1 = .ok (.getfield 13, 3) := by decide +kernel
theorem dX8_dropConflict_4 : decode cX8_dropConflict 4 = .ok (.iconst 4, 1) := by decide +kernel
theorem dX8_dropConflict_5 : decode cX8_dropConflict 5 = .ok (.dup2, 1) := by decide +kernel
theorem dX8_dropConflict_6 : decode cX8_dropConflict 6 = .ok (.iaload, 1) := by decide +kernel
theorem dX8_dropConflict_7 : decode cX8_dropConflict 7 = .ok (.iconst 1, 1) := by decide +kernel
theorem dX8_dropConflict_8 : decode cX8_dropConflict 8 = .ok (.isub, 1) := by decide +kernel
theorem dX8_dropConflict_9 : decode cX8_dropConflict 9 = .ok (.iastore, 1) := by decide +kernel
theorem dX8_dropConflict_10 : decode cX8_dropConflict 10 = .ok (.sipush 626, 3) := by decide +kernel
theorem dX8_dropConflict_13 : decode cX8_dropConflict 13 = .ok (.bipush 6, 2) := by decide +kernel
theorem dX8_dropConflict_15 : decode cX8_dropConflict 15 = .ok (.iload_n 1, 1) := by decide +kernel
theorem dX8_dropConflict_16 : decode cX8_dropConflict 16 = .ok (.imul, 1) := by decide +kernel
theorem dX8_dropConflict_17 : decode cX8_dropConflict 17 = .ok (.iadd, 1) := by decide +kernel
theorem dX8_dropConflict_18 : decode cX8_dropConflict 18 = .ok (.istore_n 2, 1) := by decide +kernel
theorem dX8_dropConflict_19 : decode cX8_dropConflict 19 = .ok (.iload_n 2, 1) := by decide +kernel
theorem dX8_dropConflict_20 : decode cX8_dropConflict 20 = .ok (.sipush 626, 3) := by decide +kernel
theorem dX8_dropConflict_23 : decode cX8_dropConflict 23 = .ok (.bipush 6, 2) := by decide +kernel
theorem dX8_dropConflict_25 : decode cX8_dropConflict 25 = .ok (.aload_n 0, 1) := by decide +kernel
theorem dX8_dropConflict_26 : decode cX8_dropConflict 26 = .ok (.getfield 13, 3) := by decide +kernel
theorem dX8_dropConflict_29 : decode cX8_dropConflict 29 = .ok (.iconst 4, 1) := by decide +kernel
theorem dX8_dropConflict_30 : decode cX8_dropConflict 30 = .ok (.iaload, 1) := by decide +kernel
theorem dX8_dropConflict_31 : decode cX8_dropConflict 31 = .ok (.imul, 1) := by decide +kernel
theorem dX8_dropConflict_32 : decode cX8_dropConflict 32 = .ok (.iadd, 1) := by decide +kernel
theorem dX8_dropConflict_33 : decode cX8_dropConflict 33 = .ok (.if_icmp .ge 24, 3) := by decide +kernel
theorem dX8_dropConflict_36 : decode cX8_dropConflict 36 = .ok (.aload_n 0, 1) := by decide +kernel
theorem dX8_dropConflict_37 : decode cX8_dropConflict 37 = .ok (.getfield 13, 3) := by decide +kernel
theorem dX8_dropConflict_40 : decode cX8_dropConflict 40 = .ok (.iload_n 2, 1) := by decide +kernel
theorem dX8_dropConflict_41 : decode cX8_dropConflict 41 = .ok (.aload_n 0, 1) := by decide +kernel
theorem dX8_dropConflict_42 : decode cX8_dropConflict 42 = .ok (.getfield 13, 3) := by decide +kernel
theorem dX8_dropConflict_45 : decode cX8_dropConflict 45 = .ok (.iload_n 2, 1) := by decide +kernel
theorem dX8_dropConflict_46 : decode cX8_dropConflict 46 = .ok (.bipush 6, 2) := by decide +kernel
theorem dX8_dropConflict_48 : decode cX8_dropConflict 48 = .ok (.iadd, 1) := by decide +kernel
theorem dX8_dropConflict_49 : decode cX8_dropConflict 49 = .ok (.iaload, 1) := by decide +kernel
theorem dX8_dropConflict_50 : decode cX8_dropConflict 50 = .ok (.iastore, 1) := by decide +kernel
theorem dX8_dropConflict_51 : decode cX8_dropConflict 51 = .ok (.iinc 2 1, 3) := by decide +kernel
theorem dX8_dropConflict_54 : decode cX8_dropConflict 54 = .ok (.goto (-35), 3) := by decide +kernel
theorem dX8_dropConflict_57 : decode cX8_dropConflict 57 = .ok (.return_, 1) := by decide +kernel
theorem dX8_childWith_0 : decode cX8_childWith 0 = .ok (.iconst 0, 1) := by decide +kernel
theorem dX8_childWith_1 : decode cX8_childWith 1 = .ok (.istore_n 3, 1) := by decide +kernel
theorem dX8_childWith_2 : decode cX8_childWith 2 = .ok (.iload_n 3, 1) := by decide +kernel
theorem dX8_childWith_3 : decode cX8_childWith 3 = .ok (.aload_n 0, 1) := by decide +kernel
theorem dX8_childWith_4 : decode cX8_childWith 4 = .ok (.getfield 13, 3) := by decide +kernel
theorem dX8_childWith_7 : decode cX8_childWith 7 = .ok (.iconst 3, 1) := by decide +kernel
theorem dX8_childWith_8 : decode cX8_childWith 8 = .ok (.iaload, 1) := by decide +kernel
theorem dX8_childWith_9 : decode cX8_childWith 9 = .ok (.if_icmp .ge 45, 3) := by decide +kernel
theorem dX8_childWith_12 : decode cX8_childWith 12 = .ok (.aload_n 0, 1) := by decide +kernel
theorem dX8_childWith_13 : decode cX8_childWith 13 = .ok (.iload_n 3, 1) := by decide +kernel
theorem dX8_childWith_14 : decode cX8_childWith 14 = .ok (.invokevirtual 194, 3) := by decide +kernel
theorem dX8_childWith_17 : decode cX8_childWith 17 = .ok (.ifCond .eq 31, 3) := by decide +kernel
theorem dX8_childWith_20 : decode cX8_childWith 20 = .ok (.aload_n 0, 1) := by decide +kernel
theorem dX8_childWith_21 : decode cX8_childWith 21 = .ok (.getfield 13, 3) := by decide +kernel
theorem dX8_childWith_24 : decode cX8_childWith 24 = .ok (.bipush 11, 2) := by decide +kernel
theorem dX8_childWith_26 : decode cX8_childWith 26 = .ok (.iload_n 3, 1) := by decide +kernel
theorem dX8_childWith_27 : decode cX8_childWith 27 = .ok (.iadd, 1) := by decide +kernel
theorem dX8_childWith_28 : decode cX8_childWith 28 = .ok (.iaload, 1) := by decide +kernel
theorem dX8_childWith_29 : decode cX8_childWith 29 = .ok (.iload_n 1, 1) := by decide +kernel
theorem dX8_childWith_30 : decode cX8_childWith 30 = .ok (.if_icmp .ne 18, 3) := by decide +kernel
theorem dX8_childWith_33 : decode cX8_childWith 33 = .ok (.aload_n 0, 1) := by decide +kernel
theorem dX8_childWith_34 : decode cX8_childWith 34 = .ok (.getfield 13, 3) := by decide +kernel
theorem dX8_childWith_37 : decode cX8_childWith 37 = .ok (.bipush 71, 2) := by decide +kernel
theorem dX8_childWith_39 : decode cX8_childWith 39 = .ok (.iload_n 3, 1) := by decide +kernel
theorem dX8_childWith_40 : decode cX8_childWith 40 = .ok (.iadd, 1) := by decide +kernel
theorem dX8_childWith_41 : decode cX8_childWith 41 = .ok (.iaload, 1) := by decide +kernel
theorem dX8_childWith_42 : decode cX8_childWith 42 = .ok (.iload_n 2, 1) := by decide +kernel
theorem dX8_childWith_43 : decode cX8_childWith 43 = .ok (.if_icmp .ne 5, 3) := by decide +kernel
theorem dX8_childWith_46 : decode cX8_childWith 46 = .ok (.iload_n 3, 1) := by decide +kernel
theorem dX8_childWith_47 : decode cX8_childWith 47 = .ok (.ireturn, 1) := by decide +kernel
theorem dX8_childWith_48 : decode cX8_childWith 48 = .ok (.iinc 3 1, 3) := by decide +kernel
theorem dX8_childWith_51 : decode cX8_childWith 51 = .ok (.goto (-49), 3) := by decide +kernel
theorem dX8_childWith_54 : decode cX8_childWith 54 = .ok (.iconst (-1), 1) := by decide +kernel
theorem dX8_childWith_55 : decode cX8_childWith 55 = .ok (.ireturn, 1) := by decide +kernel
theorem dX8_mergeAdded_0 : decode cX8_mergeAdded 0 = .ok (.aload_n 0, 1) := by decide +kernel
theorem dX8_mergeAdded_1 : decode cX8_mergeAdded 1 = .ok (.aload_n 0, 1) := by decide +kernel
theorem dX8_mergeAdded_2 : decode cX8_mergeAdded 2 = .ok (.getfield 13, 3) := by decide +kernel
theorem dX8_mergeAdded_5 : decode cX8_mergeAdded 5 = .ok (.bipush 11, 2) := by decide +kernel
theorem dX8_mergeAdded_7 : decode cX8_mergeAdded 7 = .ok (.iload_n 2, 1) := by decide +kernel
theorem dX8_mergeAdded_8 : decode cX8_mergeAdded 8 = .ok (.iadd, 1) := by decide +kernel
theorem dX8_mergeAdded_9 : decode cX8_mergeAdded 9 = .ok (.iaload, 1) := by decide +kernel
theorem dX8_mergeAdded_10 : decode cX8_mergeAdded 10 = .ok (.invokevirtual 194, 3) := by decide +kernel
theorem dX8_mergeAdded_13 : decode cX8_mergeAdded 13 = .ok (.ifCond .ne 15, 3) := by decide +kernel
theorem dX8_mergeAdded_16 : decode cX8_mergeAdded 16 = .ok (.aload_n 0, 1) := by decide +kernel
theorem dX8_mergeAdded_17 : decode cX8_mergeAdded 17 = .ok (.iconst 2, 1) := by decide +kernel
theorem dX8_mergeAdded_18 : decode cX8_mergeAdded 18 = .ok (.iload_n 2, 1) := by decide +kernel
theorem dX8_mergeAdded_19 : decode cX8_mergeAdded 19 = .ok (.iconst (-1), 1) := by decide +kernel
theorem dX8_mergeAdded_20 : decode cX8_mergeAdded 20 = .ok (.iconst 0, 1) := by decide +kernel
theorem dX8_mergeAdded_21 : decode cX8_mergeAdded 21 = .ok (.iload_n 1, 1) := by decide +kernel
theorem dX8_mergeAdded_22 : decode cX8_mergeAdded 22 = .ok (.invokevirtual 234, 3) := by decide +kernel
theorem dX8_mergeAdded_25 : decode cX8_mergeAdded 25 = .ok (.goto 88, 3) := by decide +kernel
theorem dX8_mergeAdded_28 : decode cX8_mergeAdded 28 = .ok (.aload_n 0, 1) := by decide +kernel
theorem dX8_mergeAdded_29 : decode cX8_mergeAdded 29 = .ok (.aload_n 0, 1) := by decide +kernel
theorem dX8_mergeAdded_30 : decode cX8_mergeAdded 30 = .ok (.getfield 13, 3) := by decide +kernel
theorem dX8_mergeAdded_33 : decode cX8_mergeAdded 33 = .ok (.bipush 11, 2) := by decide +kernel
theorem dX8_mergeAdded_35 : decode cX8_mergeAdded 35 = .ok (.iload_n 2, 1) := by decide +kernel
theorem dX8_mergeAdded_36 : decode cX8_mergeAdded 36 = .ok (.iadd, 1) := by decide +kernel
theorem dX8_mergeAdded_37 : decode cX8_mergeAdded 37 = .ok (.iaload, 1) := by decide +kernel
theorem dX8_mergeAdded_38 : decode cX8_mergeAdded 38 = .ok (.aload_n 0, 1) := by decide +kernel
theorem dX8_mergeAdded_39 : decode cX8_mergeAdded 39 = .ok (.getfield 13, 3) := by decide +kernel
theorem dX8_mergeAdded_42 : decode cX8_mergeAdded 42 = .ok (.bipush 71, 2) := by decide +kernel
theorem dX8_mergeAdded_44 : decode cX8_mergeAdded 44 = .ok (.iload_n 2, 1) := by decide +kernel
theorem dX8_mergeAdded_45 : decode cX8_mergeAdded 45 = .ok (.iadd, 1) := by decide +kernel
theorem dX8_mergeAdded_46 : decode cX8_mergeAdded 46 = .ok (.iaload, 1) := by decide +kernel
theorem dX8_mergeAdded_47 : decode cX8_mergeAdded 47 = .ok (.invokevirtual 238, 3) := by decide +kernel
theorem dX8_mergeAdded_50 : decode cX8_mergeAdded 50 = .ok (.iconst (-1), 1) := by decide +kernel
theorem dX8_mergeAdded_51 : decode cX8_mergeAdded 51 = .ok (.if_icmp .eq 15, 3) := by decide +kernel
theorem dX8_mergeAdded_54 : decode cX8_mergeAdded 54 = .ok (.aload_n 0, 1) := by decide +kernel
theorem dX8_mergeAdded_55 : decode cX8_mergeAdded 55 = .ok (.iconst 3, 1) := by decide +kernel
theorem dX8_mergeAdded_56 : decode cX8_mergeAdded 56 = .ok (.iload_n 2, 1) := by decide +kernel
theorem dX8_mergeAdded_57 : decode cX8_mergeAdded 57 = .ok (.iconst (-1), 1) := by decide +kernel
theorem dX8_mergeAdded_58 : decode cX8_mergeAdded 58 = .ok (.iconst 0, 1) := by decide +kernel
theorem dX8_mergeAdded_59 : decode cX8_mergeAdded 59 = .ok (.iload_n 1, 1) := by decide +kernel
theorem dX8_mergeAdded_60 : decode cX8_mergeAdded 60 = .ok (.invokevirtual 234, 3) := by decide +kernel
theorem dX8_mergeAdded_63 : decode cX8_mergeAdded 63 = .ok (.goto 50, 3) := by decide +kernel
theorem dX8_mergeAdded_66 : decode cX8_mergeAdded 66 = .ok (.aload_n 0, 1) := by decide +kernel
theorem dX8_mergeAdded_67 : decode cX8_mergeAdded 67 = .ok (.getfield 13, 3) := by decide +kernel
theorem dX8_mergeAdded_70 : decode cX8_mergeAdded 70 = .ok (.sipush 191, 3) := by decide +kernel
theorem dX8_mergeAdded_73 : decode cX8_mergeAdded 73 = .ok (.iload_n 2, 1) := by decide +kernel
theorem dX8_mergeAdded_74 : decode cX8_mergeAdded 74 = .ok (.iadd, 1) := by decide +kernel
theorem dX8_mergeAdded_75 : decode cX8_mergeAdded 75 = .ok (.iconst 1, 1) := by decide +kernel
theorem dX8_mergeAdded_76 : decode cX8_mergeAdded 76 = .ok (.iastore, 1) := by decide +kernel
theorem dX8_mergeAdded_77 : decode cX8_mergeAdded 77 = .ok (.iconst 0, 1) := by decide +kernel
theorem dX8_mergeAdded_78 : decode cX8_mergeAdded 78 = .ok (.istore_n 3, 1) := by decide +kernel
theorem dX8_mergeAdded_79 : decode cX8_mergeAdded 79 = .ok (.iload_n 3, 1) := by decide +kernel
theorem dX8_mergeAdded_80 : decode cX8_mergeAdded 80 = .ok (.bipush 6, 2) := by decide +kernel
theorem dX8_mergeAdded_82 : decode cX8_mergeAdded 82 = .ok (.if_icmp .ge 31, 3) := by decide +kernel
theorem dX8_mergeAdded_85 : decode cX8_mergeAdded 85 = .ok (.aload_n 0, 1) := by decide +kernel
theorem dX8_mergeAdded_86 : decode cX8_mergeAdded 86 = .ok (.getfield 13, 3) := by decide +kernel
theorem dX8_mergeAdded_89 : decode cX8_mergeAdded 89 = .ok (.sipush 251, 3) := by decide +kernel
theorem dX8_mergeAdded_92 : decode cX8_mergeAdded 92 = .ok (.bipush 6, 2) := by decide +kernel
theorem dX8_mergeAdded_94 : decode cX8_mergeAdded 94 = .ok (.iload_n 2, 1) := by decide +kernel
theorem dX8_mergeAdded_95 : decode cX8_mergeAdded 95 = .ok (.imul, 1) := by decide +kernel
theorem dX8_mergeAdded_96 : decode cX8_mergeAdded 96 = .ok (.iadd, 1) := by decide +kernel
theorem dX8_mergeAdded_97 : decode cX8_mergeAdded 97 = .ok (.iload_n 3, 1) := by decide +kernel
theorem dX8_mergeAdded_98 : decode cX8_mergeAdded 98 = .ok (.iadd, 1) := by decide +kernel
theorem dX8_mergeAdded_99 : decode cX8_mergeAdded 99 = .ok (.aload_n 0, 1) := by decide +kernel
theorem dX8_mergeAdded_100 : decode cX8_mergeAdded 100 = .ok (.iload_n 1, 1) := by decide +kernel
theorem dX8_mergeAdded_101 : decode cX8_mergeAdded 101 = .ok (.iload_n 2, 1) := by decide +kernel
theorem dX8_mergeAdded_102 : decode cX8_mergeAdded 102 = .ok (.iload_n 3, 1) := by decide +kernel
theorem dX8_mergeAdded_103 : decode cX8_mergeAdded 103 = .ok (.invokevirtual 212, 3) := by decide +kernel
theorem dX8_mergeAdded_106 : decode cX8_mergeAdded 106 = .ok (.iastore, 1) := by decide +kernel
theorem dX8_mergeAdded_107 : decode cX8_mergeAdded 107 = .ok (.iinc 3 1, 3) := by decide +kernel
theorem dX8_mergeAdded_110 : decode cX8_mergeAdded 110 = .ok (.goto (-31), 3) := by decide +kernel
theorem dX8_mergeAdded_113 : decode cX8_mergeAdded 113 = .ok (.return_, 1) := by decide +kernel
theorem dX8_mergeField_0 : decode cX8_mergeField 0 = .ok (.aload_n 0, 1) := by decide +kernel
theorem dX8_mergeField_1 : decode cX8_mergeField 1 = .ok (.iload_n 1, 1) := by decide +kernel
theorem dX8_mergeField_2 : decode cX8_mergeField 2 = .ok (.iload_n 2, 1) := by decide +kernel
theorem dX8_mergeField_3 : decode cX8_mergeField 3 = .ok (.iload_n 3, 1) := by decide +kernel
theorem dX8_mergeField_4 : decode cX8_mergeField 4 = .ok (.invokevirtual 218, 3) := by decide +kernel
theorem dX8_mergeField_7 : decode cX8_mergeField 7 = .ok (.istore 4, 2) := by decide +kernel
theorem dX8_mergeField_9 : decode cX8_mergeField 9 = .ok (.aload_n 0, 1) := by decide +kernel
theorem dX8_mergeField_10 : decode cX8_mergeField 10 = .ok (.iload_n 1, 1) := by decide +kernel
theorem dX8_mergeField_11 : decode cX8_mergeField 11 = .ok (.iload_n 2, 1) := by decide +kernel
theorem dX8_mergeField_12 : decode cX8_mergeField 12 = .ok (.iload_n 3, 1) := by decide +kernel
theorem dX8_mergeField_13 : decode cX8_mergeField 13 = .ok (.invokevirtual 212, 3) := by decide +kernel
theorem dX8_mergeField_16 : decode cX8_mergeField 16 = .ok (.istore 5, 2) := by decide +kernel
theorem dX8_mergeField_18 : decode cX8_mergeField 18 = .ok (.aload_n 0, 1) := by decide +kernel
theorem dX8_mergeField_19 : decode cX8_mergeField 19 = .ok (.iload_n 2, 1) := by decide +kernel
theorem dX8_mergeField_20 : decode cX8_mergeField 20 = .ok (.iload_n 3, 1) := by decide +kernel
theorem dX8_mergeField_21 : decode cX8_mergeField 21 = .ok (.invokevirtual 203, 3) := by decide +kernel
theorem dX8_mergeField_24 : decode cX8_mergeField 24 = .ok (.istore 6, 2) := by decide +kernel
theorem dX8_mergeField_26 : decode cX8_mergeField 26 = .ok (.sipush 251, 3) := by decide +kernel
theorem dX8_mergeField_29 : decode cX8_mergeField 29 = .ok (.bipush 6, 2) := by decide +kernel
theorem dX8_mergeField_31 : decode cX8_mergeField 31 = .ok (.iload_n 2, 1) := by decide +kernel
theorem dX8_mergeField_32 : decode cX8_mergeField 32 = .ok (.imul, 1) := by decide +kernel
theorem dX8_mergeField_33 : decode cX8_mergeField 33 = .ok (.iadd, 1) := by decide +kernel
theorem dX8_mergeField_34 : decode cX8_mergeField 34 = .ok (.iload_n 3, 1) := by decide +kernel
theorem dX8_mergeField_35 : decode cX8_mergeField 35 = .ok (.iadd, 1) := by decide +kernel
theorem dX8_mergeField_36 : decode cX8_mergeField 36 = .ok (.istore 7, 2) := by decide +kernel
theorem dX8_mergeField_38 : decode cX8_mergeField 38 = .ok (.aload_n 0, 1) := by decide +kernel
theorem dX8_mergeField_39 : decode cX8_mergeField 39 = .ok (.getfield 13, 3) := by decide +kernel
theorem dX8_mergeField_42 : decode cX8_mergeField 42 = .ok (.iconst 5, 1) := by decide +kernel
theorem dX8_mergeField_43 : decode cX8_mergeField 43 = .ok (.iload_n 3, 1) := by decide +kernel
theorem dX8_mergeField_44 : decode cX8_mergeField 44 = .ok (.iadd, 1) := by decide +kernel
theorem dX8_mergeField_45 : decode cX8_mergeField 45 = .ok (.iaload, 1) := by decide +kernel
theorem dX8_mergeField_46 : decode cX8_mergeField 46 = .ok (.tableswitch 171 0 4 #[34, 68, 85, 102, 132], 34) := by decide +kernel
theorem dX8_mergeField_80 : decode cX8_mergeField 80 = .ok (.aload_n 0, 1) := by decide +kernel
theorem dX8_mergeField_81 : decode cX8_mergeField 81 = .ok (.getfield 13, 3) := by decide +kernel
theorem dX8_mergeField_84 : decode cX8_mergeField 84 = .ok (.iload 7, 2) := by decide +kernel
theorem dX8_mergeField_86 : decode cX8_mergeField 86 = .ok (.ldc2_w 241, 3) := by decide +kernel
theorem dX8_mergeField_89 : decode cX8_mergeField 89 = .ok (.ldc2_w 243, 3) := by decide +kernel
theorem dX8_mergeField_92 : decode cX8_mergeField 92 = .ok (.iload 6, 2) := by decide +kernel
theorem dX8_mergeField_94 : decode cX8_mergeField 94 = .ok (.i2l, 1) := by decide +kernel
theorem dX8_mergeField_95 : decode cX8_mergeField 95 = .ok (.iload 5, 2) := by decide +kernel
theorem dX8_mergeField_97 : decode cX8_mergeField 97 = .ok (.i2l, 1) := by decide +kernel
theorem dX8_mergeField_98 : decode cX8_mergeField 98 = .ok (.ladd, 1) := by decide +kernel
theorem dX8_mergeField_99 : decode cX8_mergeField 99 = .ok (.iload 4, 2) := by decide +kernel
theorem dX8_mergeField_101 : decode cX8_mergeField 101 = .ok (.i2l, 1) := by decide +kernel
theorem dX8_mergeField_102 : decode cX8_mergeField 102 = .ok (.lsub, 1) := by decide +kernel
theorem dX8_mergeField_103 : decode cX8_mergeField 103 = .ok (.invokestatic 245, 3) := by decide +kernel
theorem dX8_mergeField_106 : decode cX8_mergeField 106 = .ok (.invokestatic 248, 3) := by decide +kernel
theorem dX8_mergeField_109 : decode cX8_mergeField 109 = .ok (.l2i, 1) := by decide +kernel
theorem dX8_mergeField_110 : decode cX8_mergeField 110 = .ok (.iastore, 1) := by decide +kernel
theorem dX8_mergeField_111 : decode cX8_mergeField 111 = .ok (.goto 115, 3) := by decide +kernel
theorem dX8_mergeField_114 : decode cX8_mergeField 114 = .ok (.aload_n 0, 1) := by decide +kernel
theorem dX8_mergeField_115 : decode cX8_mergeField 115 = .ok (.getfield 13, 3) := by decide +kernel
theorem dX8_mergeField_118 : decode cX8_mergeField 118 = .ok (.iload 7, 2) := by decide +kernel
theorem dX8_mergeField_120 : decode cX8_mergeField 120 = .ok (.iload 6, 2) := by decide +kernel
theorem dX8_mergeField_122 : decode cX8_mergeField 122 = .ok (.iload 5, 2) := by decide +kernel
theorem dX8_mergeField_124 : decode cX8_mergeField 124 = .ok (.invokestatic 250, 3) := by decide +kernel
theorem dX8_mergeField_127 : decode cX8_mergeField 127 = .ok (.iastore, 1) := by decide +kernel
theorem dX8_mergeField_128 : decode cX8_mergeField 128 = .ok (.goto 98, 3) := by decide +kernel
theorem dX8_mergeField_131 : decode cX8_mergeField 131 = .ok (.aload_n 0, 1) := by decide +kernel
theorem dX8_mergeField_132 : decode cX8_mergeField 132 = .ok (.getfield 13, 3) := by decide +kernel
theorem dX8_mergeField_135 : decode cX8_mergeField 135 = .ok (.iload 7, 2) := by decide +kernel
theorem dX8_mergeField_137 : decode cX8_mergeField 137 = .ok (.iload 6, 2) := by decide +kernel
theorem dX8_mergeField_139 : decode cX8_mergeField 139 = .ok (.iload 5, 2) := by decide +kernel
theorem dX8_mergeField_141 : decode cX8_mergeField 141 = .ok (.invokestatic 81, 3) := by decide +kernel
theorem dX8_mergeField_144 : decode cX8_mergeField 144 = .ok (.iastore, 1) := by decide +kernel
theorem dX8_mergeField_145 : decode cX8_mergeField 145 = .ok (.goto 81, 3) := by decide +kernel
theorem dX8_mergeField_148 : decode cX8_mergeField 148 = .ok (.aload_n 0, 1) := by decide +kernel
theorem dX8_mergeField_149 : decode cX8_mergeField 149 = .ok (.getfield 13, 3) := by decide +kernel
theorem dX8_mergeField_152 : decode cX8_mergeField 152 = .ok (.iload 7, 2) := by decide +kernel
theorem dX8_mergeField_154 : decode cX8_mergeField 154 = .ok (.iload 6, 2) := by decide +kernel
theorem dX8_mergeField_156 : decode cX8_mergeField 156 = .ok (.iload 4, 2) := by decide +kernel
theorem dX8_mergeField_158 : decode cX8_mergeField 158 = .ok (.iload 5, 2) := by decide +kernel
theorem dX8_mergeField_160 : decode cX8_mergeField 160 = .ok (.iconst (-1), 1) := by decide +kernel
theorem dX8_mergeField_161 : decode cX8_mergeField 161 = .ok (.ixor, 1) := by decide +kernel
theorem dX8_mergeField_162 : decode cX8_mergeField 162 = .ok (.iand, 1) := by decide +kernel
theorem dX8_mergeField_163 : decode cX8_mergeField 163 = .ok (.iconst (-1), 1) := by decide +kernel
theorem dX8_mergeField_164 : decode cX8_mergeField 164 = .ok (.ixor, 1) := by decide +kernel
theorem dX8_mergeField_165 : decode cX8_mergeField 165 = .ok (.iand, 1) := by decide +kernel
theorem dX8_mergeField_166 : decode cX8_mergeField 166 = .ok (.iload 5, 2) := by decide +kernel
theorem dX8_mergeField_168 : decode cX8_mergeField 168 = .ok (.iload 4, 2) := by decide +kernel
theorem dX8_mergeField_170 : decode cX8_mergeField 170 = .ok (.iconst (-1), 1) := by decide +kernel
theorem dX8_mergeField_171 : decode cX8_mergeField 171 = .ok (.ixor, 1) := by decide +kernel
theorem dX8_mergeField_172 : decode cX8_mergeField 172 = .ok (.iand, 1) := by decide +kernel
theorem dX8_mergeField_173 : decode cX8_mergeField 173 = .ok (.ior, 1) := by decide +kernel
theorem dX8_mergeField_174 : decode cX8_mergeField 174 = .ok (.iastore, 1) := by decide +kernel
theorem dX8_mergeField_175 : decode cX8_mergeField 175 = .ok (.goto 51, 3) := by decide +kernel
theorem dX8_mergeField_178 : decode cX8_mergeField 178 = .ok (.iload 6, 2) := by decide +kernel
theorem dX8_mergeField_180 : decode cX8_mergeField 180 = .ok (.iload 4, 2) := by decide +kernel
theorem dX8_mergeField_182 : decode cX8_mergeField 182 = .ok (.if_icmp .ne 15, 3) := by decide +kernel
theorem dX8_mergeField_185 : decode cX8_mergeField 185 = .ok (.aload_n 0, 1) := by decide +kernel
theorem dX8_mergeField_186 : decode cX8_mergeField 186 = .ok (.getfield 13, 3) := by decide +kernel
theorem dX8_mergeField_189 : decode cX8_mergeField 189 = .ok (.iload 7, 2) := by decide +kernel
theorem dX8_mergeField_191 : decode cX8_mergeField 191 = .ok (.iload 5, 2) := by decide +kernel
theorem dX8_mergeField_193 : decode cX8_mergeField 193 = .ok (.iastore, 1) := by decide +kernel
theorem dX8_mergeField_194 : decode cX8_mergeField 194 = .ok (.goto 32, 3) := by decide +kernel
theorem dX8_mergeField_197 : decode cX8_mergeField 197 = .ok (.iload 6, 2) := by decide +kernel
theorem dX8_mergeField_199 : decode cX8_mergeField 199 = .ok (.iload 5, 2) := by decide +kernel
theorem dX8_mergeField_201 : decode cX8_mergeField 201 = .ok (.if_icmp .eq 25, 3) := by decide +kernel
theorem dX8_mergeField_204 : decode cX8_mergeField 204 = .ok (.aload_n 0, 1) := by decide +kernel
theorem dX8_mergeField_205 : decode cX8_mergeField 205 = .ok (.iconst 0, 1) := by decide +kernel
theorem dX8_mergeField_206 : decode cX8_mergeField 206 = .ok (.iload_n 2, 1) := by decide +kernel
theorem dX8_mergeField_207 : decode cX8_mergeField 207 = .ok (.iload_n 3, 1) := by decide +kernel
theorem dX8_mergeField_208 : decode cX8_mergeField 208 = .ok (.iload 5, 2) := by decide +kernel
theorem dX8_mergeField_210 : decode cX8_mergeField 210 = .ok (.iload_n 1, 1) := by decide +kernel
theorem dX8_mergeField_211 : decode cX8_mergeField 211 = .ok (.invokevirtual 234, 3) := by decide +kernel
theorem dX8_mergeField_214 : decode cX8_mergeField 214 = .ok (.goto 12, 3) := by decide +kernel
theorem dX8_mergeField_217 : decode cX8_mergeField 217 = .ok (.aload_n 0, 1) := by decide +kernel
theorem dX8_mergeField_218 : decode cX8_mergeField 218 = .ok (.getfield 13, 3) := by decide +kernel
theorem dX8_mergeField_221 : decode cX8_mergeField 221 = .ok (.iload 7, 2) := by decide +kernel
theorem dX8_mergeField_223 : decode cX8_mergeField 223 = .ok (.iload 5, 2) := by decide +kernel
theorem dX8_mergeField_225 : decode cX8_mergeField 225 = .ok (.iastore, 1) := by decide +kernel
theorem dX8_mergeField_226 : decode cX8_mergeField 226 = .ok (.return_, 1) := by decide +kernel
theorem dX8_mergeChanged_0 : decode cX8_mergeChanged 0 = .ok (.aload_n 0, 1) := by decide +kernel
theorem dX8_mergeChanged_1 : decode cX8_mergeChanged 1 = .ok (.iload_n 1, 1) := by decide +kernel
theorem dX8_mergeChanged_2 : decode cX8_mergeChanged 2 = .ok (.iload_n 2, 1) := by decide +kernel
theorem dX8_mergeChanged_3 : decode cX8_mergeChanged 3 = .ok (.invokevirtual 224, 3) := by decide +kernel
theorem dX8_mergeChanged_6 : decode cX8_mergeChanged 6 = .ok (.ifCond .ne 4, 3) := by decide +kernel
theorem dX8_mergeChanged_9 : decode cX8_mergeChanged 9 = .ok (.return_, 1) := by decide +kernel
theorem dX8_mergeChanged_10 : decode cX8_mergeChanged 10 = .ok (.aload_n 0, 1) := by decide +kernel
theorem dX8_mergeChanged_11 : decode cX8_mergeChanged 11 = .ok (.iload_n 2, 1) := by decide +kernel
theorem dX8_mergeChanged_12 : decode cX8_mergeChanged 12 = .ok (.invokevirtual 194, 3) := by decide +kernel
theorem dX8_mergeChanged_15 : decode cX8_mergeChanged 15 = .ok (.ifCond .ne 13, 3) := by decide +kernel
theorem dX8_mergeChanged_18 : decode cX8_mergeChanged 18 = .ok (.aload_n 0, 1) := by decide +kernel
theorem dX8_mergeChanged_19 : decode cX8_mergeChanged 19 = .ok (.iconst 1, 1) := by decide +kernel
theorem dX8_mergeChanged_20 : decode cX8_mergeChanged 20 = .ok (.iload_n 2, 1) := by decide +kernel
theorem dX8_mergeChanged_21 : decode cX8_mergeChanged 21 = .ok (.iconst (-1), 1) := by decide +kernel
theorem dX8_mergeChanged_22 : decode cX8_mergeChanged 22 = .ok (.iconst 0, 1) := by decide +kernel
theorem dX8_mergeChanged_23 : decode cX8_mergeChanged 23 = .ok (.iload_n 1, 1) := by decide +kernel
theorem dX8_mergeChanged_24 : decode cX8_mergeChanged 24 = .ok (.invokevirtual 234, 3) := by decide +kernel
theorem dX8_mergeChanged_27 : decode cX8_mergeChanged 27 = .ok (.return_, 1) := by decide +kernel
theorem dX8_mergeChanged_28 : decode cX8_mergeChanged 28 = .ok (.iconst 0, 1) := by decide +kernel
theorem dX8_mergeChanged_29 : decode cX8_mergeChanged 29 = .ok (.istore_n 3, 1) := by decide +kernel
theorem dX8_mergeChanged_30 : decode cX8_mergeChanged 30 = .ok (.iload_n 3, 1) := by decide +kernel
theorem dX8_mergeChanged_31 : decode cX8_mergeChanged 31 = .ok (.aload_n 0, 1) := by decide +kernel
theorem dX8_mergeChanged_32 : decode cX8_mergeChanged 32 = .ok (.getfield 13, 3) := by decide +kernel
theorem dX8_mergeChanged_35 : decode cX8_mergeChanged 35 = .ok (.iconst 1, 1) := by decide +kernel
theorem dX8_mergeChanged_36 : decode cX8_mergeChanged 36 = .ok (.iaload, 1) := by decide +kernel
theorem dX8_mergeChanged_37 : decode cX8_mergeChanged 37 = .ok (.if_icmp .ge 26, 3) := by decide +kernel
theorem dX8_mergeChanged_40 : decode cX8_mergeChanged 40 = .ok (.aload_n 0, 1) := by decide +kernel
theorem dX8_mergeChanged_41 : decode cX8_mergeChanged 41 = .ok (.iload_n 1, 1) := by decide +kernel
theorem dX8_mergeChanged_42 : decode cX8_mergeChanged 42 = .ok (.iload_n 2, 1) := by decide +kernel
theorem dX8_mergeChanged_43 : decode cX8_mergeChanged 43 = .ok (.iload_n 3, 1) := by decide +kernel
theorem dX8_mergeChanged_44 : decode cX8_mergeChanged 44 = .ok (.invokevirtual 221, 3) := by decide +kernel
theorem dX8_mergeChanged_47 : decode cX8_mergeChanged 47 = .ok (.ifCond .eq 10, 3) := by decide +kernel
theorem dX8_mergeChanged_50 : decode cX8_mergeChanged 50 = .ok (.aload_n 0, 1) := by decide +kernel
theorem dX8_mergeChanged_51 : decode cX8_mergeChanged 51 = .ok (.iload_n 1, 1) := by decide +kernel
theorem dX8_mergeChanged_52 : decode cX8_mergeChanged 52 = .ok (.iload_n 2, 1) := by decide +kernel
theorem dX8_mergeChanged_53 : decode cX8_mergeChanged 53 = .ok (.iload_n 3, 1) := by decide +kernel
theorem dX8_mergeChanged_54 : decode cX8_mergeChanged 54 = .ok (.invokevirtual 252, 3) := by decide +kernel
theorem dX8_mergeChanged_57 : decode cX8_mergeChanged 57 = .ok (.iinc 3 1, 3) := by decide +kernel
theorem dX8_mergeChanged_60 : decode cX8_mergeChanged 60 = .ok (.goto (-30), 3) := by decide +kernel
theorem dX8_mergeChanged_63 : decode cX8_mergeChanged 63 = .ok (.return_, 1) := by decide +kernel
theorem dX8_isAsInBase_0 : decode cX8_isAsInBase 0 = .ok (.aload_n 0, 1) := by decide +kernel
theorem dX8_isAsInBase_1 : decode cX8_isAsInBase 1 = .ok (.iload_n 1, 1) := by decide +kernel
theorem dX8_isAsInBase_2 : decode cX8_isAsInBase 2 = .ok (.iconst 0, 1) := by decide +kernel
theorem dX8_isAsInBase_3 : decode cX8_isAsInBase 3 = .ok (.iload_n 2, 1) := by decide +kernel
theorem dX8_isAsInBase_4 : decode cX8_isAsInBase 4 = .ok (.invokevirtual 209, 3) := by decide +kernel
theorem dX8_isAsInBase_7 : decode cX8_isAsInBase 7 = .ok (.istore_n 3, 1) := by decide +kernel
theorem dX8_isAsInBase_8 : decode cX8_isAsInBase 8 = .ok (.iconst 0, 1) := by decide +kernel
theorem dX8_isAsInBase_9 : decode cX8_isAsInBase 9 = .ok (.istore 4, 2) := by decide +kernel
theorem dX8_isAsInBase_11 : decode cX8_isAsInBase 11 = .ok (.iload 4, 2) := by decide +kernel
theorem dX8_isAsInBase_13 : decode cX8_isAsInBase 13 = .ok (.aload_n 0, 1) := by decide +kernel
theorem dX8_isAsInBase_14 : decode cX8_isAsInBase 14 = .ok (.getfield 13, 3) := by decide +kernel
theorem dX8_isAsInBase_17 : decode cX8_isAsInBase 17 = .ok (.iconst 1, 1) := by decide +kernel
theorem dX8_isAsInBase_18 : decode cX8_isAsInBase 18 = .ok (.iaload, 1) := by decide +kernel
theorem dX8_isAsInBase_19 : decode cX8_isAsInBase 19 = .ok (.if_icmp .ge 37, 3) := by decide +kernel
theorem dX8_isAsInBase_22 : decode cX8_isAsInBase 22 = .ok (.iload_n 3, 1) := by decide +kernel
theorem dX8_isAsInBase_23 : decode cX8_isAsInBase 23 = .ok (.ifCond .eq 25, 3) := by decide +kernel
theorem dX8_isAsInBase_26 : decode cX8_isAsInBase 26 = .ok (.aload_n 0, 1) := by decide +kernel
theorem dX8_isAsInBase_27 : decode cX8_isAsInBase 27 = .ok (.iload_n 2, 1) := by decide +kernel
theorem dX8_isAsInBase_28 : decode cX8_isAsInBase 28 = .ok (.iload 4, 2) := by decide +kernel
theorem dX8_isAsInBase_30 : decode cX8_isAsInBase 30 = .ok (.invokevirtual 203, 3) := by decide +kernel
theorem dX8_isAsInBase_33 : decode cX8_isAsInBase 33 = .ok (.aload_n 0, 1) := by decide +kernel
theorem dX8_isAsInBase_34 : decode cX8_isAsInBase 34 = .ok (.iload_n 1, 1) := by decide +kernel
theorem dX8_isAsInBase_35 : decode cX8_isAsInBase 35 = .ok (.iload_n 2, 1) := by decide +kernel
theorem dX8_isAsInBase_36 : decode cX8_isAsInBase 36 = .ok (.iload 4, 2) := by decide +kernel
theorem dX8_isAsInBase_38 : decode cX8_isAsInBase 38 = .ok (.invokevirtual 218, 3) := by decide +kernel
theorem dX8_isAsInBase_41 : decode cX8_isAsInBase 41 = .ok (.if_icmp .ne 7, 3) := by decide +kernel
theorem dX8_isAsInBase_44 : decode cX8_isAsInBase 44 = .ok (.iconst 1, 1) := by decide +kernel
theorem dX8_isAsInBase_45 : decode cX8_isAsInBase 45 = .ok (.goto 4, 3) := by decide +kernel
theorem dX8_isAsInBase_48 : decode cX8_isAsInBase 48 = .ok (.iconst 0, 1) := by decide +kernel
theorem dX8_isAsInBase_49 : decode cX8_isAsInBase 49 = .ok (.istore_n 3, 1) := by decide +kernel
theorem dX8_isAsInBase_50 : decode cX8_isAsInBase 50 = .ok (.iinc 4 1, 3) := by decide +kernel
theorem dX8_isAsInBase_53 : decode cX8_isAsInBase 53 = .ok (.goto (-42), 3) := by decide +kernel
theorem dX8_isAsInBase_56 : decode cX8_isAsInBase 56 = .ok (.iload_n 3, 1) := by decide +kernel
theorem dX8_isAsInBase_57 : decode cX8_isAsInBase 57 = .ok (.ireturn, 1) := by decide +kernel
theorem dX8_kill_0 : decode cX8_kill 0 = .ok (.iload_n 1, 1) := by decide +kernel
theorem dX8_kill_1 : decode cX8_kill 1 = .ok (.istore_n 2, 1) := by decide +kernel
theorem dX8_kill_2 : decode cX8_kill 2 = .ok (.iload_n 2, 1) := by decide +kernel
theorem dX8_kill_3 : decode cX8_kill 3 = .ok (.aload_n 0, 1) := by decide +kernel
theorem dX8_kill_4 : decode cX8_kill 4 = .ok (.getfield 13, 3) := by decide +kernel
theorem dX8_kill_7 : decode cX8_kill 7 = .ok (.iconst 3, 1) := by decide +kernel
theorem dX8_kill_8 : decode cX8_kill 8 = .ok (.iaload, 1) := by decide +kernel
theorem dX8_kill_9 : decode cX8_kill 9 = .ok (.if_icmp .ge 29, 3) := by decide +kernel
theorem dX8_kill_12 : decode cX8_kill 12 = .ok (.aload_n 0, 1) := by decide +kernel
theorem dX8_kill_13 : decode cX8_kill 13 = .ok (.iload_n 2, 1) := by decide +kernel
theorem dX8_kill_14 : decode cX8_kill 14 = .ok (.iload_n 1, 1) := by decide +kernel
theorem dX8_kill_15 : decode cX8_kill 15 = .ok (.invokevirtual 180, 3) := by decide +kernel
theorem dX8_kill_18 : decode cX8_kill 18 = .ok (.ifCond .eq 14, 3) := by decide +kernel
theorem dX8_kill_21 : decode cX8_kill 21 = .ok (.aload_n 0, 1) := by decide +kernel
theorem dX8_kill_22 : decode cX8_kill 22 = .ok (.getfield 13, 3) := by decide +kernel
theorem dX8_kill_25 : decode cX8_kill 25 = .ok (.sipush 191, 3) := by decide +kernel
theorem dX8_kill_28 : decode cX8_kill 28 = .ok (.iload_n 2, 1) := by decide +kernel
theorem dX8_kill_29 : decode cX8_kill 29 = .ok (.iadd, 1) := by decide +kernel
theorem dX8_kill_30 : decode cX8_kill 30 = .ok (.iconst 0, 1) := by decide +kernel
theorem dX8_kill_31 : decode cX8_kill 31 = .ok (.iastore, 1) := by decide +kernel
theorem dX8_kill_32 : decode cX8_kill 32 = .ok (.iinc 2 1, 3) := by decide +kernel
theorem dX8_kill_35 : decode cX8_kill 35 = .ok (.goto (-33), 3) := by decide +kernel
theorem dX8_kill_38 : decode cX8_kill 38 = .ok (.return_, 1) := by decide +kernel
theorem dX8_mergeRemoved_0 : decode cX8_mergeRemoved 0 = .ok (.aload_n 0, 1) := by decide +kernel
theorem dX8_mergeRemoved_1 : decode cX8_mergeRemoved 1 = .ok (.iload_n 2, 1) := by decide +kernel
theorem dX8_mergeRemoved_2 : decode cX8_mergeRemoved 2 = .ok (.invokevirtual 194, 3) := by decide +kernel
theorem dX8_mergeRemoved_5 : decode cX8_mergeRemoved 5 = .ok (.ifCond .ne 4, 3) := by decide +kernel
theorem dX8_mergeRemoved_8 : decode cX8_mergeRemoved 8 = .ok (.return_, 1) := by decide +kernel
theorem dX8_mergeRemoved_9 : decode cX8_mergeRemoved 9 = .ok (.iconst 1, 1) := by decide +kernel
theorem dX8_mergeRemoved_10 : decode cX8_mergeRemoved 10 = .ok (.istore_n 3, 1) := by decide +kernel
theorem dX8_mergeRemoved_11 : decode cX8_mergeRemoved 11 = .ok (.iload_n 2, 1) := by decide +kernel
theorem dX8_mergeRemoved_12 : decode cX8_mergeRemoved 12 = .ok (.istore 4, 2) := by decide +kernel
theorem dX8_mergeRemoved_14 : decode cX8_mergeRemoved 14 = .ok (.iload 4, 2) := by decide +kernel
theorem dX8_mergeRemoved_16 : decode cX8_mergeRemoved 16 = .ok (.aload_n 0, 1) := by decide +kernel
theorem dX8_mergeRemoved_17 : decode cX8_mergeRemoved 17 = .ok (.getfield 13, 3) := by decide +kernel
theorem dX8_mergeRemoved_20 : decode cX8_mergeRemoved 20 = .ok (.iconst 3, 1) := by decide +kernel
theorem dX8_mergeRemoved_21 : decode cX8_mergeRemoved 21 = .ok (.iaload, 1) := by decide +kernel
theorem dX8_mergeRemoved_22 : decode cX8_mergeRemoved 22 = .ok (.if_icmp .ge 48, 3) := by decide +kernel
theorem dX8_mergeRemoved_25 : decode cX8_mergeRemoved 25 = .ok (.iload_n 3, 1) := by decide +kernel
theorem dX8_mergeRemoved_26 : decode cX8_mergeRemoved 26 = .ok (.ifCond .eq 36, 3) := by decide +kernel
theorem dX8_mergeRemoved_29 : decode cX8_mergeRemoved 29 = .ok (.aload_n 0, 1) := by decide +kernel
theorem dX8_mergeRemoved_30 : decode cX8_mergeRemoved 30 = .ok (.iload 4, 2) := by decide +kernel
theorem dX8_mergeRemoved_32 : decode cX8_mergeRemoved 32 = .ok (.invokevirtual 194, 3) := by decide +kernel
theorem dX8_mergeRemoved_35 : decode cX8_mergeRemoved 35 = .ok (.ifCond .eq 23, 3) := by decide +kernel
theorem dX8_mergeRemoved_38 : decode cX8_mergeRemoved 38 = .ok (.aload_n 0, 1) := by decide +kernel
theorem dX8_mergeRemoved_39 : decode cX8_mergeRemoved 39 = .ok (.iload 4, 2) := by decide +kernel
theorem dX8_mergeRemoved_41 : decode cX8_mergeRemoved 41 = .ok (.iload_n 2, 1) := by decide +kernel
theorem dX8_mergeRemoved_42 : decode cX8_mergeRemoved 42 = .ok (.invokevirtual 180, 3) := by decide +kernel
theorem dX8_mergeRemoved_45 : decode cX8_mergeRemoved 45 = .ok (.ifCond .eq 13, 3) := by decide +kernel
theorem dX8_mergeRemoved_48 : decode cX8_mergeRemoved 48 = .ok (.aload_n 0, 1) := by decide +kernel
theorem dX8_mergeRemoved_49 : decode cX8_mergeRemoved 49 = .ok (.iload_n 1, 1) := by decide +kernel
theorem dX8_mergeRemoved_50 : decode cX8_mergeRemoved 50 = .ok (.iload 4, 2) := by decide +kernel
theorem dX8_mergeRemoved_52 : decode cX8_mergeRemoved 52 = .ok (.invokevirtual 256, 3) := by decide +kernel
theorem dX8_mergeRemoved_55 : decode cX8_mergeRemoved 55 = .ok (.ifCond .eq 7, 3) := by decide +kernel
theorem dX8_mergeRemoved_58 : decode cX8_mergeRemoved 58 = .ok (.iconst 1, 1) := by decide +kernel
theorem dX8_mergeRemoved_59 : decode cX8_mergeRemoved 59 = .ok (.goto 4, 3) := by decide +kernel
theorem dX8_mergeRemoved_62 : decode cX8_mergeRemoved 62 = .ok (.iconst 0, 1) := by decide +kernel
theorem dX8_mergeRemoved_63 : decode cX8_mergeRemoved 63 = .ok (.istore_n 3, 1) := by decide +kernel
theorem dX8_mergeRemoved_64 : decode cX8_mergeRemoved 64 = .ok (.iinc 4 1, 3) := by decide +kernel
theorem dX8_mergeRemoved_67 : decode cX8_mergeRemoved 67 = .ok (.goto (-53), 3) := by decide +kernel
theorem dX8_mergeRemoved_70 : decode cX8_mergeRemoved 70 = .ok (.iload_n 3, 1) := by decide +kernel
theorem dX8_mergeRemoved_71 : decode cX8_mergeRemoved 71 = .ok (.ifCond .eq 11, 3) := by decide +kernel
theorem dX8_mergeRemoved_74 : decode cX8_mergeRemoved 74 = .ok (.aload_n 0, 1) := by decide +kernel
theorem dX8_mergeRemoved_75 : decode cX8_mergeRemoved 75 = .ok (.iload_n 2, 1) := by decide +kernel
theorem dX8_mergeRemoved_76 : decode cX8_mergeRemoved 76 = .ok (.invokevirtual 259, 3) := by decide +kernel
theorem dX8_mergeRemoved_79 : decode cX8_mergeRemoved 79 = .ok (.goto 12, 3) := by decide +kernel
theorem dX8_mergeRemoved_82 : decode cX8_mergeRemoved 82 = .ok (.aload_n 0, 1) := by decide +kernel
theorem dX8_mergeRemoved_83 : decode cX8_mergeRemoved 83 = .ok (.iconst 4, 1) := by decide +kernel
theorem dX8_mergeRemoved_84 : decode cX8_mergeRemoved 84 = .ok (.iload_n 2, 1) := by decide +kernel
theorem dX8_mergeRemoved_85 : decode cX8_mergeRemoved 85 = .ok (.iconst (-1), 1) := by decide +kernel
theorem dX8_mergeRemoved_86 : decode cX8_mergeRemoved 86 = .ok (.iconst 0, 1) := by decide +kernel
theorem dX8_mergeRemoved_87 : decode cX8_mergeRemoved 87 = .ok (.iload_n 1, 1) := by decide +kernel
theorem dX8_mergeRemoved_88 : decode cX8_mergeRemoved 88 = .ok (.invokevirtual 234, 3) := by decide +kernel
theorem dX8_mergeRemoved_91 : decode cX8_mergeRemoved 91 = .ok (.return_, 1) := by decide +kernel
theorem dX8_isTop_0 : decode cX8_isTop 0 = .ok (.aload_n 0, 1) := by decide +kernel
theorem dX8_isTop_1 : decode cX8_isTop 1 = .ok (.iload_n 1, 1) := by decide +kernel
theorem dX8_isTop_2 : decode cX8_isTop 2 = .ok (.iconst 0, 1) := by decide +kernel
theorem dX8_isTop_3 : decode cX8_isTop 3 = .ok (.iload_n 2, 1) := by decide +kernel
theorem dX8_isTop_4 : decode cX8_isTop 4 = .ok (.invokevirtual 209, 3) := by decide +kernel
theorem dX8_isTop_7 : decode cX8_isTop 7 = .ok (.ifCond .eq 37, 3) := by decide +kernel
theorem dX8_isTop_10 : decode cX8_isTop 10 = .ok (.aload_n 0, 1) := by decide +kernel
theorem dX8_isTop_11 : decode cX8_isTop 11 = .ok (.iload_n 1, 1) := by decide +kernel
theorem dX8_isTop_12 : decode cX8_isTop 12 = .ok (.bipush 60, 2) := by decide +kernel
theorem dX8_isTop_14 : decode cX8_isTop 14 = .ok (.iload_n 2, 1) := by decide +kernel
theorem dX8_isTop_15 : decode cX8_isTop 15 = .ok (.invokevirtual 209, 3) := by decide +kernel
theorem dX8_isTop_18 : decode cX8_isTop 18 = .ok (.ifCond .ne 26, 3) := by decide +kernel
theorem dX8_isTop_21 : decode cX8_isTop 21 = .ok (.aload_n 0, 1) := by decide +kernel
theorem dX8_isTop_22 : decode cX8_isTop 22 = .ok (.iload_n 1, 1) := by decide +kernel
theorem dX8_isTop_23 : decode cX8_isTop 23 = .ok (.bipush 60, 2) := by decide +kernel
theorem dX8_isTop_25 : decode cX8_isTop 25 = .ok (.aload_n 0, 1) := by decide +kernel
theorem dX8_isTop_26 : decode cX8_isTop 26 = .ok (.getfield 13, 3) := by decide +kernel
theorem dX8_isTop_29 : decode cX8_isTop 29 = .ok (.bipush 11, 2) := by decide +kernel
theorem dX8_isTop_31 : decode cX8_isTop 31 = .ok (.iload_n 2, 1) := by decide +kernel
theorem dX8_isTop_32 : decode cX8_isTop 32 = .ok (.iadd, 1) := by decide +kernel
theorem dX8_isTop_33 : decode cX8_isTop 33 = .ok (.iaload, 1) := by decide +kernel
theorem dX8_isTop_34 : decode cX8_isTop 34 = .ok (.invokevirtual 209, 3) := by decide +kernel
theorem dX8_isTop_37 : decode cX8_isTop 37 = .ok (.ifCond .eq 7, 3) := by decide +kernel
theorem dX8_isTop_40 : decode cX8_isTop 40 = .ok (.iconst 1, 1) := by decide +kernel
theorem dX8_isTop_41 : decode cX8_isTop 41 = .ok (.goto 4, 3) := by decide +kernel
theorem dX8_isTop_44 : decode cX8_isTop 44 = .ok (.iconst 0, 1) := by decide +kernel
theorem dX8_isTop_45 : decode cX8_isTop 45 = .ok (.ireturn, 1) := by decide +kernel
theorem dX8_merge_0 : decode cX8_merge 0 = .ok (.aload_n 0, 1) := by decide +kernel
theorem dX8_merge_1 : decode cX8_merge 1 = .ok (.iconst 0, 1) := by decide +kernel
theorem dX8_merge_2 : decode cX8_merge 2 = .ok (.putfield 231, 3) := by decide +kernel
theorem dX8_merge_5 : decode cX8_merge 5 = .ok (.iconst 0, 1) := by decide +kernel
theorem dX8_merge_6 : decode cX8_merge 6 = .ok (.istore_n 2, 1) := by decide +kernel
theorem dX8_merge_7 : decode cX8_merge 7 = .ok (.iload_n 2, 1) := by decide +kernel
theorem dX8_merge_8 : decode cX8_merge 8 = .ok (.aload_n 0, 1) := by decide +kernel
theorem dX8_merge_9 : decode cX8_merge 9 = .ok (.getfield 13, 3) := by decide +kernel
theorem dX8_merge_12 : decode cX8_merge 12 = .ok (.iconst 3, 1) := by decide +kernel
theorem dX8_merge_13 : decode cX8_merge 13 = .ok (.iaload, 1) := by decide +kernel
theorem dX8_merge_14 : decode cX8_merge 14 = .ok (.if_icmp .ge 37, 3) := by decide +kernel
theorem dX8_merge_17 : decode cX8_merge 17 = .ok (.aload_n 0, 1) := by decide +kernel
theorem dX8_merge_18 : decode cX8_merge 18 = .ok (.iload_n 1, 1) := by decide +kernel
theorem dX8_merge_19 : decode cX8_merge 19 = .ok (.bipush 120, 2) := by decide +kernel
theorem dX8_merge_21 : decode cX8_merge 21 = .ok (.iload_n 2, 1) := by decide +kernel
theorem dX8_merge_22 : decode cX8_merge 22 = .ok (.invokevirtual 209, 3) := by decide +kernel
theorem dX8_merge_25 : decode cX8_merge 25 = .ok (.ifCond .eq 20, 3) := by decide +kernel
theorem dX8_merge_28 : decode cX8_merge 28 = .ok (.aload_n 0, 1) := by decide +kernel
theorem dX8_merge_29 : decode cX8_merge 29 = .ok (.iload_n 1, 1) := by decide +kernel
theorem dX8_merge_30 : decode cX8_merge 30 = .ok (.bipush 60, 2) := by decide +kernel
theorem dX8_merge_32 : decode cX8_merge 32 = .ok (.iload_n 2, 1) := by decide +kernel
theorem dX8_merge_33 : decode cX8_merge 33 = .ok (.invokevirtual 209, 3) := by decide +kernel
theorem dX8_merge_36 : decode cX8_merge 36 = .ok (.ifCond .eq 9, 3) := by decide +kernel
theorem dX8_merge_39 : decode cX8_merge 39 = .ok (.aload_n 0, 1) := by decide +kernel
theorem dX8_merge_40 : decode cX8_merge 40 = .ok (.iload_n 1, 1) := by decide +kernel
theorem dX8_merge_41 : decode cX8_merge 41 = .ok (.iload_n 2, 1) := by decide +kernel
theorem dX8_merge_42 : decode cX8_merge 42 = .ok (.invokevirtual 262, 3) := by decide +kernel
theorem dX8_merge_45 : decode cX8_merge 45 = .ok (.iinc 2 1, 3) := by decide +kernel
theorem dX8_merge_48 : decode cX8_merge 48 = .ok (.goto (-41), 3) := by decide +kernel
theorem dX8_merge_51 : decode cX8_merge 51 = .ok (.iconst 0, 1) := by decide +kernel
theorem dX8_merge_52 : decode cX8_merge 52 = .ok (.istore_n 2, 1) := by decide +kernel
theorem dX8_merge_53 : decode cX8_merge 53 = .ok (.iload_n 2, 1) := by decide +kernel
theorem dX8_merge_54 : decode cX8_merge 54 = .ok (.aload_n 0, 1) := by decide +kernel
theorem dX8_merge_55 : decode cX8_merge 55 = .ok (.getfield 13, 3) := by decide +kernel
theorem dX8_merge_58 : decode cX8_merge 58 = .ok (.iconst 3, 1) := by decide +kernel
theorem dX8_merge_59 : decode cX8_merge 59 = .ok (.iaload, 1) := by decide +kernel
theorem dX8_merge_60 : decode cX8_merge 60 = .ok (.if_icmp .ge 15, 3) := by decide +kernel
theorem dX8_merge_63 : decode cX8_merge 63 = .ok (.aload_n 0, 1) := by decide +kernel
theorem dX8_merge_64 : decode cX8_merge 64 = .ok (.iload_n 1, 1) := by decide +kernel
theorem dX8_merge_65 : decode cX8_merge 65 = .ok (.iload_n 2, 1) := by decide +kernel
theorem dX8_merge_66 : decode cX8_merge 66 = .ok (.invokevirtual 266, 3) := by decide +kernel
theorem dX8_merge_69 : decode cX8_merge 69 = .ok (.iinc 2 1, 3) := by decide +kernel
theorem dX8_merge_72 : decode cX8_merge 72 = .ok (.goto (-19), 3) := by decide +kernel
theorem dX8_merge_75 : decode cX8_merge 75 = .ok (.iconst 1, 1) := by decide +kernel
theorem dX8_merge_76 : decode cX8_merge 76 = .ok (.istore_n 2, 1) := by decide +kernel
theorem dX8_merge_77 : decode cX8_merge 77 = .ok (.iload_n 2, 1) := by decide +kernel
theorem dX8_merge_78 : decode cX8_merge 78 = .ok (.aload_n 0, 1) := by decide +kernel
theorem dX8_merge_79 : decode cX8_merge 79 = .ok (.getfield 13, 3) := by decide +kernel
theorem dX8_merge_82 : decode cX8_merge 82 = .ok (.iconst 3, 1) := by decide +kernel
theorem dX8_merge_83 : decode cX8_merge 83 = .ok (.iaload, 1) := by decide +kernel
theorem dX8_merge_84 : decode cX8_merge 84 = .ok (.if_icmp .ge 24, 3) := by decide +kernel
theorem dX8_merge_87 : decode cX8_merge 87 = .ok (.aload_n 0, 1) := by decide +kernel
theorem dX8_merge_88 : decode cX8_merge 88 = .ok (.iload_n 1, 1) := by decide +kernel
theorem dX8_merge_89 : decode cX8_merge 89 = .ok (.iload_n 2, 1) := by decide +kernel
theorem dX8_merge_90 : decode cX8_merge 90 = .ok (.invokevirtual 269, 3) := by decide +kernel
theorem dX8_merge_93 : decode cX8_merge 93 = .ok (.ifCond .eq 9, 3) := by decide +kernel
theorem dX8_merge_96 : decode cX8_merge 96 = .ok (.aload_n 0, 1) := by decide +kernel
theorem dX8_merge_97 : decode cX8_merge 97 = .ok (.iload_n 1, 1) := by decide +kernel
theorem dX8_merge_98 : decode cX8_merge 98 = .ok (.iload_n 2, 1) := by decide +kernel
theorem dX8_merge_99 : decode cX8_merge 99 = .ok (.invokevirtual 272, 3) := by decide +kernel
theorem dX8_merge_102 : decode cX8_merge 102 = .ok (.iinc 2 1, 3) := by decide +kernel
theorem dX8_merge_105 : decode cX8_merge 105 = .ok (.goto (-28), 3) := by decide +kernel
theorem dX8_merge_108 : decode cX8_merge 108 = .ok (.aload_n 0, 1) := by decide +kernel
theorem dX8_merge_109 : decode cX8_merge 109 = .ok (.iload_n 1, 1) := by decide +kernel
theorem dX8_merge_110 : decode cX8_merge 110 = .ok (.invokevirtual 275, 3) := by decide +kernel
theorem dX8_merge_113 : decode cX8_merge 113 = .ok (.aload_n 0, 1) := by decide +kernel
theorem dX8_merge_114 : decode cX8_merge 114 = .ok (.getfield 231, 3) := by decide +kernel
theorem dX8_merge_117 : decode cX8_merge 117 = .ok (.ireturn, 1) := by decide +kernel
theorem dX8_endLease_0 : decode cX8_endLease 0 = .ok (.aload_n 0, 1) := by decide +kernel
theorem dX8_endLease_1 : decode cX8_endLease 1 = .ok (.getfield 13, 3) := by decide +kernel
theorem dX8_endLease_4 : decode cX8_endLease 4 = .ok (.sipush 611, 3) := by decide +kernel
theorem dX8_endLease_7 : decode cX8_endLease 7 = .ok (.iconst 3, 1) := by decide +kernel
theorem dX8_endLease_8 : decode cX8_endLease 8 = .ok (.iload_n 1, 1) := by decide +kernel
theorem dX8_endLease_9 : decode cX8_endLease 9 = .ok (.imul, 1) := by decide +kernel
theorem dX8_endLease_10 : decode cX8_endLease 10 = .ok (.iadd, 1) := by decide +kernel
theorem dX8_endLease_11 : decode cX8_endLease 11 = .ok (.iconst (-1), 1) := by decide +kernel
theorem dX8_endLease_12 : decode cX8_endLease 12 = .ok (.iastore, 1) := by decide +kernel
theorem dX8_endLease_13 : decode cX8_endLease 13 = .ok (.aload_n 0, 1) := by decide +kernel
theorem dX8_endLease_14 : decode cX8_endLease 14 = .ok (.getfield 13, 3) := by decide +kernel
theorem dX8_endLease_17 : decode cX8_endLease 17 = .ok (.sipush 611, 3) := by decide +kernel
theorem dX8_endLease_20 : decode cX8_endLease 20 = .ok (.iconst 3, 1) := by decide +kernel
theorem dX8_endLease_21 : decode cX8_endLease 21 = .ok (.iload_n 1, 1) := by decide +kernel
theorem dX8_endLease_22 : decode cX8_endLease 22 = .ok (.imul, 1) := by decide +kernel
theorem dX8_endLease_23 : decode cX8_endLease 23 = .ok (.iadd, 1) := by decide +kernel
theorem dX8_endLease_24 : decode cX8_endLease 24 = .ok (.iconst 1, 1) := by decide +kernel
theorem dX8_endLease_25 : decode cX8_endLease 25 = .ok (.iadd, 1) := by decide +kernel
theorem dX8_endLease_26 : decode cX8_endLease 26 = .ok (.iconst 0, 1) := by decide +kernel
theorem dX8_endLease_27 : decode cX8_endLease 27 = .ok (.iastore, 1) := by decide +kernel
theorem dX8_endLease_28 : decode cX8_endLease 28 = .ok (.aload_n 0, 1) := by decide +kernel
theorem dX8_endLease_29 : decode cX8_endLease 29 = .ok (.getfield 13, 3) := by decide +kernel
theorem dX8_endLease_32 : decode cX8_endLease 32 = .ok (.sipush 611, 3) := by decide +kernel
theorem dX8_endLease_35 : decode cX8_endLease 35 = .ok (.iconst 3, 1) := by decide +kernel
theorem dX8_endLease_36 : decode cX8_endLease 36 = .ok (.iload_n 1, 1) := by decide +kernel
theorem dX8_endLease_37 : decode cX8_endLease 37 = .ok (.imul, 1) := by decide +kernel
theorem dX8_endLease_38 : decode cX8_endLease 38 = .ok (.iadd, 1) := by decide +kernel
theorem dX8_endLease_39 : decode cX8_endLease 39 = .ok (.iconst 2, 1) := by decide +kernel
theorem dX8_endLease_40 : decode cX8_endLease 40 = .ok (.iadd, 1) := by decide +kernel
theorem dX8_endLease_41 : decode cX8_endLease 41 = .ok (.iconst 0, 1) := by decide +kernel
theorem dX8_endLease_42 : decode cX8_endLease 42 = .ok (.iastore, 1) := by decide +kernel
theorem dX8_endLease_43 : decode cX8_endLease 43 = .ok (.iconst 0, 1) := by decide +kernel
theorem dX8_endLease_44 : decode cX8_endLease 44 = .ok (.istore_n 2, 1) := by decide +kernel
theorem dX8_endLease_45 : decode cX8_endLease 45 = .ok (.iload_n 2, 1) := by decide +kernel
theorem dX8_endLease_46 : decode cX8_endLease 46 = .ok (.sipush 900, 3) := by decide +kernel
theorem dX8_endLease_49 : decode cX8_endLease 49 = .ok (.if_icmp .ge 21, 3) := by decide +kernel
theorem dX8_endLease_52 : decode cX8_endLease 52 = .ok (.aload_n 0, 1) := by decide +kernel
theorem dX8_endLease_53 : decode cX8_endLease 53 = .ok (.getfield 13, 3) := by decide +kernel
theorem dX8_endLease_56 : decode cX8_endLease 56 = .ok (.iload_n 1, 1) := by decide +kernel
theorem dX8_endLease_57 : decode cX8_endLease 57 = .ok (.iconst 0, 1) := by decide +kernel
theorem dX8_endLease_58 : decode cX8_endLease 58 = .ok (.iload_n 2, 1) := by decide +kernel
theorem dX8_endLease_59 : decode cX8_endLease 59 = .ok (.invokestatic 173, 3) := by decide +kernel
theorem dX8_endLease_62 : decode cX8_endLease 62 = .ok (.iconst 0, 1) := by decide +kernel
theorem dX8_endLease_63 : decode cX8_endLease 63 = .ok (.iastore, 1) := by decide +kernel
theorem dX8_endLease_64 : decode cX8_endLease 64 = .ok (.iinc 2 1, 3) := by decide +kernel
theorem dX8_endLease_67 : decode cX8_endLease 67 = .ok (.goto (-22), 3) := by decide +kernel
theorem dX8_endLease_70 : decode cX8_endLease 70 = .ok (.return_, 1) := by decide +kernel
theorem dX8_commit_0 : decode cX8_commit 0 = .ok (.aload_n 0, 1) := by decide +kernel
theorem dX8_commit_1 : decode cX8_commit 1 = .ok (.iconst 0, 1) := by decide +kernel
theorem dX8_commit_2 : decode cX8_commit 2 = .ok (.putfield 38, 3) := by decide +kernel
theorem dX8_commit_5 : decode cX8_commit 5 = .ok (.aload_n 0, 1) := by decide +kernel
theorem dX8_commit_6 : decode cX8_commit 6 = .ok (.aload_n 0, 1) := by decide +kernel
theorem dX8_commit_7 : decode cX8_commit 7 = .ok (.iload_n 1, 1) := by decide +kernel
theorem dX8_commit_8 : decode cX8_commit 8 = .ok (.invokevirtual 188, 3) := by decide +kernel
theorem dX8_commit_11 : decode cX8_commit 11 = .ok (.iconst 1, 1) := by decide +kernel
theorem dX8_commit_12 : decode cX8_commit 12 = .ok (.invokevirtual 49, 3) := by decide +kernel
theorem dX8_commit_15 : decode cX8_commit 15 = .ok (.ifCond .ne 16, 3) := by decide +kernel
theorem dX8_commit_18 : decode cX8_commit 18 = .ok (.aload_n 0, 1) := by decide +kernel
theorem dX8_commit_19 : decode cX8_commit 19 = .ok (.aload_n 0, 1) := by decide +kernel
theorem dX8_commit_20 : decode cX8_commit 20 = .ok (.iload_n 1, 1) := by decide +kernel
theorem dX8_commit_21 : decode cX8_commit 21 = .ok (.invokevirtual 177, 3) := by decide +kernel
theorem dX8_commit_24 : decode cX8_commit 24 = .ok (.iconst 2, 1) := by decide +kernel
theorem dX8_commit_25 : decode cX8_commit 25 = .ok (.invokevirtual 49, 3) := by decide +kernel
theorem dX8_commit_28 : decode cX8_commit 28 = .ok (.ifCond .eq 5, 3) := by decide +kernel
theorem dX8_commit_31 : decode cX8_commit 31 = .ok (.iconst 0, 1) := by decide +kernel
theorem dX8_commit_32 : decode cX8_commit 32 = .ok (.ireturn, 1) := by decide +kernel
theorem dX8_commit_33 : decode cX8_commit 33 = .ok (.aload_n 0, 1) := by decide +kernel
theorem dX8_commit_34 : decode cX8_commit 34 = .ok (.invokevirtual 201, 3) := by decide +kernel
theorem dX8_commit_37 : decode cX8_commit 37 = .ok (.aload_n 0, 1) := by decide +kernel
theorem dX8_commit_38 : decode cX8_commit 38 = .ok (.iload_n 1, 1) := by decide +kernel
theorem dX8_commit_39 : decode cX8_commit 39 = .ok (.invokevirtual 278, 3) := by decide +kernel
theorem dX8_commit_42 : decode cX8_commit 42 = .ok (.ireturn, 1) := by decide +kernel
theorem dX8_abandon_0 : decode cX8_abandon 0 = .ok (.aload_n 0, 1) := by decide +kernel
theorem dX8_abandon_1 : decode cX8_abandon 1 = .ok (.iconst 0, 1) := by decide +kernel
theorem dX8_abandon_2 : decode cX8_abandon 2 = .ok (.putfield 38, 3) := by decide +kernel
theorem dX8_abandon_5 : decode cX8_abandon 5 = .ok (.aload_n 0, 1) := by decide +kernel
theorem dX8_abandon_6 : decode cX8_abandon 6 = .ok (.aload_n 0, 1) := by decide +kernel
theorem dX8_abandon_7 : decode cX8_abandon 7 = .ok (.iload_n 1, 1) := by decide +kernel
theorem dX8_abandon_8 : decode cX8_abandon 8 = .ok (.invokevirtual 188, 3) := by decide +kernel
theorem dX8_abandon_11 : decode cX8_abandon 11 = .ok (.iconst 1, 1) := by decide +kernel
theorem dX8_abandon_12 : decode cX8_abandon 12 = .ok (.invokevirtual 49, 3) := by decide +kernel
theorem dX8_abandon_15 : decode cX8_abandon 15 = .ok (.ifCond .ne 16, 3) := by decide +kernel
theorem dX8_abandon_18 : decode cX8_abandon 18 = .ok (.aload_n 0, 1) := by decide +kernel
theorem dX8_abandon_19 : decode cX8_abandon 19 = .ok (.aload_n 0, 1) := by decide +kernel
theorem dX8_abandon_20 : decode cX8_abandon 20 = .ok (.iload_n 1, 1) := by decide +kernel
theorem dX8_abandon_21 : decode cX8_abandon 21 = .ok (.invokevirtual 177, 3) := by decide +kernel
theorem dX8_abandon_24 : decode cX8_abandon 24 = .ok (.iconst 2, 1) := by decide +kernel
theorem dX8_abandon_25 : decode cX8_abandon 25 = .ok (.invokevirtual 49, 3) := by decide +kernel
theorem dX8_abandon_28 : decode cX8_abandon 28 = .ok (.ifCond .eq 5, 3) := by decide +kernel
theorem dX8_abandon_31 : decode cX8_abandon 31 = .ok (.iconst 0, 1) := by decide +kernel
theorem dX8_abandon_32 : decode cX8_abandon 32 = .ok (.ireturn, 1) := by decide +kernel
theorem dX8_abandon_33 : decode cX8_abandon 33 = .ok (.aload_n 0, 1) := by decide +kernel
theorem dX8_abandon_34 : decode cX8_abandon 34 = .ok (.invokevirtual 201, 3) := by decide +kernel
theorem dX8_abandon_37 : decode cX8_abandon 37 = .ok (.aload_n 0, 1) := by decide +kernel
theorem dX8_abandon_38 : decode cX8_abandon 38 = .ok (.iload_n 1, 1) := by decide +kernel
theorem dX8_abandon_39 : decode cX8_abandon 39 = .ok (.invokevirtual 281, 3) := by decide +kernel
theorem dX8_abandon_42 : decode cX8_abandon 42 = .ok (.istore_n 2, 1) := by decide +kernel
theorem dX8_abandon_43 : decode cX8_abandon 43 = .ok (.aload_n 0, 1) := by decide +kernel
theorem dX8_abandon_44 : decode cX8_abandon 44 = .ok (.iload_n 1, 1) := by decide +kernel
theorem dX8_abandon_45 : decode cX8_abandon 45 = .ok (.invokevirtual 275, 3) := by decide +kernel
theorem dX8_abandon_48 : decode cX8_abandon 48 = .ok (.iload_n 2, 1) := by decide +kernel
theorem dX8_abandon_49 : decode cX8_abandon 49 = .ok (.ireturn, 1) := by decide +kernel
theorem dX8_resolve_0 : decode cX8_resolve 0 = .ok (.aload_n 0, 1) := by decide +kernel
theorem dX8_resolve_1 : decode cX8_resolve 1 = .ok (.iconst 0, 1) := by decide +kernel
theorem dX8_resolve_2 : decode cX8_resolve 2 = .ok (.putfield 38, 3) := by decide +kernel
theorem dX8_resolve_5 : decode cX8_resolve 5 = .ok (.aload_n 0, 1) := by decide +kernel
theorem dX8_resolve_6 : decode cX8_resolve 6 = .ok (.iload_n 1, 1) := by decide +kernel
theorem dX8_resolve_7 : decode cX8_resolve 7 = .ok (.iconst 0, 1) := by decide +kernel
theorem dX8_resolve_8 : decode cX8_resolve 8 = .ok (.aload_n 0, 1) := by decide +kernel
theorem dX8_resolve_9 : decode cX8_resolve 9 = .ok (.getfield 13, 3) := by decide +kernel
theorem dX8_resolve_12 : decode cX8_resolve 12 = .ok (.iconst 4, 1) := by decide +kernel
theorem dX8_resolve_13 : decode cX8_resolve 13 = .ok (.iaload, 1) := by decide +kernel
theorem dX8_resolve_14 : decode cX8_resolve 14 = .ok (.iconst 1, 1) := by decide +kernel
theorem dX8_resolve_15 : decode cX8_resolve 15 = .ok (.isub, 1) := by decide +kernel
theorem dX8_resolve_16 : decode cX8_resolve 16 = .ok (.invokestatic 53, 3) := by decide +kernel
theorem dX8_resolve_19 : decode cX8_resolve 19 = .ok (.iconst 1, 1) := by decide +kernel
theorem dX8_resolve_20 : decode cX8_resolve 20 = .ok (.invokevirtual 49, 3) := by decide +kernel
theorem dX8_resolve_23 : decode cX8_resolve 23 = .ok (.ifCond .eq 5, 3) := by decide +kernel
theorem dX8_resolve_26 : decode cX8_resolve 26 = .ok (.iconst 0, 1) := by decide +kernel
theorem dX8_resolve_27 : decode cX8_resolve 27 = .ok (.ireturn, 1) := by decide +kernel
theorem dX8_resolve_28 : decode cX8_resolve 28 = .ok (.sipush 626, 3) := by decide +kernel
theorem dX8_resolve_31 : decode cX8_resolve 31 = .ok (.bipush 6, 2) := by decide +kernel
theorem dX8_resolve_33 : decode cX8_resolve 33 = .ok (.iload_n 1, 1) := by decide +kernel
theorem dX8_resolve_34 : decode cX8_resolve 34 = .ok (.imul, 1) := by decide +kernel
theorem dX8_resolve_35 : decode cX8_resolve 35 = .ok (.iadd, 1) := by decide +kernel
theorem dX8_resolve_36 : decode cX8_resolve 36 = .ok (.istore_n 3, 1) := by decide +kernel
theorem dX8_resolve_37 : decode cX8_resolve 37 = .ok (.aload_n 0, 1) := by decide +kernel
theorem dX8_resolve_38 : decode cX8_resolve 38 = .ok (.getfield 13, 3) := by decide +kernel
theorem dX8_resolve_41 : decode cX8_resolve 41 = .ok (.iload_n 3, 1) := by decide +kernel
theorem dX8_resolve_42 : decode cX8_resolve 42 = .ok (.iconst 0, 1) := by decide +kernel
theorem dX8_resolve_43 : decode cX8_resolve 43 = .ok (.iadd, 1) := by decide +kernel
theorem dX8_resolve_44 : decode cX8_resolve 44 = .ok (.iaload, 1) := by decide +kernel
theorem dX8_resolve_45 : decode cX8_resolve 45 = .ok (.istore 4, 2) := by decide +kernel
theorem dX8_resolve_47 : decode cX8_resolve 47 = .ok (.aload_n 0, 1) := by decide +kernel
theorem dX8_resolve_48 : decode cX8_resolve 48 = .ok (.getfield 13, 3) := by decide +kernel
theorem dX8_resolve_51 : decode cX8_resolve 51 = .ok (.iload_n 3, 1) := by decide +kernel
theorem dX8_resolve_52 : decode cX8_resolve 52 = .ok (.iconst 1, 1) := by decide +kernel
theorem dX8_resolve_53 : decode cX8_resolve 53 = .ok (.iadd, 1) := by decide +kernel
theorem dX8_resolve_54 : decode cX8_resolve 54 = .ok (.iaload, 1) := by decide +kernel
theorem dX8_resolve_55 : decode cX8_resolve 55 = .ok (.istore 5, 2) := by decide +kernel
theorem dX8_resolve_57 : decode cX8_resolve 57 = .ok (.aload_n 0, 1) := by decide +kernel
theorem dX8_resolve_58 : decode cX8_resolve 58 = .ok (.iload_n 2, 1) := by decide +kernel
theorem dX8_resolve_59 : decode cX8_resolve 59 = .ok (.ifCond .eq 23, 3) := by decide +kernel
theorem dX8_resolve_62 : decode cX8_resolve 62 = .ok (.iload 4, 2) := by decide +kernel
theorem dX8_resolve_64 : decode cX8_resolve 64 = .ok (.ifCond .eq 9, 3) := by decide +kernel
theorem dX8_resolve_67 : decode cX8_resolve 67 = .ok (.iload 4, 2) := by decide +kernel
theorem dX8_resolve_69 : decode cX8_resolve 69 = .ok (.iconst 4, 1) := by decide +kernel
theorem dX8_resolve_70 : decode cX8_resolve 70 = .ok (.if_icmp .ne 16, 3) := by decide +kernel
theorem dX8_resolve_73 : decode cX8_resolve 73 = .ok (.aload_n 0, 1) := by decide +kernel
theorem dX8_resolve_74 : decode cX8_resolve 74 = .ok (.iload 5, 2) := by decide +kernel
theorem dX8_resolve_76 : decode cX8_resolve 76 = .ok (.invokevirtual 194, 3) := by decide +kernel
theorem dX8_resolve_79 : decode cX8_resolve 79 = .ok (.ifCond .eq 7, 3) := by decide +kernel
theorem dX8_resolve_82 : decode cX8_resolve 82 = .ok (.iconst 1, 1) := by decide +kernel
theorem dX8_resolve_83 : decode cX8_resolve 83 = .ok (.goto 4, 3) := by decide +kernel
theorem dX8_resolve_86 : decode cX8_resolve 86 = .ok (.iconst 0, 1) := by decide +kernel
theorem dX8_resolve_87 : decode cX8_resolve 87 = .ok (.iconst 2, 1) := by decide +kernel
theorem dX8_resolve_88 : decode cX8_resolve 88 = .ok (.invokevirtual 49, 3) := by decide +kernel
theorem dX8_resolve_91 : decode cX8_resolve 91 = .ok (.ifCond .eq 5, 3) := by decide +kernel
theorem dX8_resolve_94 : decode cX8_resolve 94 = .ok (.iconst 0, 1) := by decide +kernel
theorem dX8_resolve_95 : decode cX8_resolve 95 = .ok (.ireturn, 1) := by decide +kernel
theorem dX8_resolve_96 : decode cX8_resolve 96 = .ok (.aload_n 0, 1) := by decide +kernel
theorem dX8_resolve_97 : decode cX8_resolve 97 = .ok (.invokevirtual 201, 3) := by decide +kernel
theorem dX8_resolve_100 : decode cX8_resolve 100 = .ok (.iload_n 2, 1) := by decide +kernel
theorem dX8_resolve_101 : decode cX8_resolve 101 = .ok (.ifCond .eq 39, 3) := by decide +kernel
theorem dX8_resolve_104 : decode cX8_resolve 104 = .ok (.iload 4, 2) := by decide +kernel
theorem dX8_resolve_106 : decode cX8_resolve 106 = .ok (.ifCond .ne 34, 3) := by decide +kernel
theorem dX8_resolve_109 : decode cX8_resolve 109 = .ok (.aload_n 0, 1) := by decide +kernel
theorem dX8_resolve_110 : decode cX8_resolve 110 = .ok (.getfield 13, 3) := by decide +kernel
theorem dX8_resolve_113 : decode cX8_resolve 113 = .ok (.sipush 251, 3) := by decide +kernel
theorem dX8_resolve_116 : decode cX8_resolve 116 = .ok (.bipush 6, 2) := by decide +kernel
theorem dX8_resolve_118 : decode cX8_resolve 118 = .ok (.iload 5, 2) := by decide +kernel
theorem dX8_resolve_120 : decode cX8_resolve 120 = .ok (.imul, 1) := by decide +kernel
theorem dX8_resolve_121 : decode cX8_resolve 121 = .ok (.iadd, 1) := by decide +kernel
theorem dX8_resolve_122 : decode cX8_resolve 122 = .ok (.aload_n 0, 1) := by decide +kernel
theorem dX8_resolve_123 : decode cX8_resolve 123 = .ok (.getfield 13, 3) := by decide +kernel
theorem dX8_resolve_126 : decode cX8_resolve 126 = .ok (.iload_n 3, 1) := by decide +kernel
theorem dX8_resolve_127 : decode cX8_resolve 127 = .ok (.iconst 2, 1) := by decide +kernel
theorem dX8_resolve_128 : decode cX8_resolve 128 = .ok (.iadd, 1) := by decide +kernel
theorem dX8_resolve_129 : decode cX8_resolve 129 = .ok (.iaload, 1) := by decide +kernel
theorem dX8_resolve_130 : decode cX8_resolve 130 = .ok (.iadd, 1) := by decide +kernel
theorem dX8_resolve_131 : decode cX8_resolve 131 = .ok (.aload_n 0, 1) := by decide +kernel
theorem dX8_resolve_132 : decode cX8_resolve 132 = .ok (.getfield 13, 3) := by decide +kernel
theorem dX8_resolve_135 : decode cX8_resolve 135 = .ok (.iload_n 3, 1) := by decide +kernel
theorem dX8_resolve_136 : decode cX8_resolve 136 = .ok (.iconst 3, 1) := by decide +kernel
theorem dX8_resolve_137 : decode cX8_resolve 137 = .ok (.iadd, 1) := by decide +kernel
theorem dX8_resolve_138 : decode cX8_resolve 138 = .ok (.iaload, 1) := by decide +kernel
theorem dX8_resolve_139 : decode cX8_resolve 139 = .ok (.iastore, 1) := by decide +kernel
theorem dX8_resolve_140 : decode cX8_resolve 140 = .ok (.iload_n 2, 1) := by decide +kernel
theorem dX8_resolve_141 : decode cX8_resolve 141 = .ok (.ifCond .eq 15, 3) := by decide +kernel
theorem dX8_resolve_144 : decode cX8_resolve 144 = .ok (.iload 4, 2) := by decide +kernel
theorem dX8_resolve_146 : decode cX8_resolve 146 = .ok (.iconst 4, 1) := by decide +kernel
theorem dX8_resolve_147 : decode cX8_resolve 147 = .ok (.if_icmp .ne 9, 3) := by decide +kernel
theorem dX8_resolve_150 : decode cX8_resolve 150 = .ok (.aload_n 0, 1) := by decide +kernel
theorem dX8_resolve_151 : decode cX8_resolve 151 = .ok (.iload 5, 2) := by decide +kernel
theorem dX8_resolve_153 : decode cX8_resolve 153 = .ok (.invokevirtual 259, 3) := by decide +kernel
theorem dX8_resolve_156 : decode cX8_resolve 156 = .ok (.aload_n 0, 1) := by decide +kernel
theorem dX8_resolve_157 : decode cX8_resolve 157 = .ok (.iload_n 1, 1) := by decide +kernel
theorem dX8_resolve_158 : decode cX8_resolve 158 = .ok (.invokevirtual 227, 3) := by decide +kernel
theorem dX8_resolve_161 : decode cX8_resolve 161 = .ok (.aload_n 0, 1) := by decide +kernel
theorem dX8_resolve_162 : decode cX8_resolve 162 = .ok (.getfield 13, 3) := by decide +kernel
theorem dX8_resolve_165 : decode cX8_resolve 165 = .ok (.iconst 4, 1) := by decide +kernel
theorem dX8_resolve_166 : decode cX8_resolve 166 = .ok (.iaload, 1) := by decide +kernel
theorem dX8_resolve_167 : decode cX8_resolve 167 = .ok (.ireturn, 1) := by decide +kernel
theorem dX8_advance_0 : decode cX8_advance 0 = .ok (.aload_n 0, 1) := by decide +kernel
theorem dX8_advance_1 : decode cX8_advance 1 = .ok (.iconst 0, 1) := by decide +kernel
theorem dX8_advance_2 : decode cX8_advance 2 = .ok (.putfield 38, 3) := by decide +kernel
theorem dX8_advance_5 : decode cX8_advance 5 = .ok (.aload_n 0, 1) := by decide +kernel
theorem dX8_advance_6 : decode cX8_advance 6 = .ok (.iload_n 1, 1) := by decide +kernel
theorem dX8_advance_7 : decode cX8_advance 7 = .ok (.iconst 1, 1) := by decide +kernel
theorem dX8_advance_8 : decode cX8_advance 8 = .ok (.sipush 200, 3) := by decide +kernel
theorem dX8_advance_11 : decode cX8_advance 11 = .ok (.invokestatic 53, 3) := by decide +kernel
theorem dX8_advance_14 : decode cX8_advance 14 = .ok (.ifCond .eq 21, 3) := by decide +kernel
theorem dX8_advance_17 : decode cX8_advance 17 = .ok (.aload_n 0, 1) := by decide +kernel
theorem dX8_advance_18 : decode cX8_advance 18 = .ok (.getfield 13, 3) := by decide +kernel
theorem dX8_advance_21 : decode cX8_advance 21 = .ok (.iconst 0, 1) := by decide +kernel
theorem dX8_advance_22 : decode cX8_advance 22 = .ok (.iaload, 1) := by decide +kernel
theorem dX8_advance_23 : decode cX8_advance 23 = .ok (.iload_n 1, 1) := by decide +kernel
theorem dX8_advance_24 : decode cX8_advance 24 = .ok (.iadd, 1) := by decide +kernel
theorem dX8_advance_25 : decode cX8_advance 25 = .ok (.sipush 9999, 3) := by decide +kernel
theorem dX8_advance_28 : decode cX8_advance 28 = .ok (.if_icmp .gt 7, 3) := by decide +kernel
theorem dX8_advance_31 : decode cX8_advance 31 = .ok (.iconst 1, 1) := by decide +kernel
theorem dX8_advance_32 : decode cX8_advance 32 = .ok (.goto 4, 3) := by decide +kernel
theorem dX8_advance_35 : decode cX8_advance 35 = .ok (.iconst 0, 1) := by decide +kernel
theorem dX8_advance_36 : decode cX8_advance 36 = .ok (.iconst 1, 1) := by decide +kernel
theorem dX8_advance_37 : decode cX8_advance 37 = .ok (.invokevirtual 49, 3) := by decide +kernel
theorem dX8_advance_40 : decode cX8_advance 40 = .ok (.ifCond .eq 5, 3) := by decide +kernel
theorem dX8_advance_43 : decode cX8_advance 43 = .ok (.iconst 0, 1) := by decide +kernel
theorem dX8_advance_44 : decode cX8_advance 44 = .ok (.ireturn, 1) := by decide +kernel
theorem dX8_advance_45 : decode cX8_advance 45 = .ok (.aload_n 0, 1) := by decide +kernel
theorem dX8_advance_46 : decode cX8_advance 46 = .ok (.invokevirtual 201, 3) := by decide +kernel
theorem dX8_advance_49 : decode cX8_advance 49 = .ok (.iconst 0, 1) := by decide +kernel
theorem dX8_advance_50 : decode cX8_advance 50 = .ok (.istore_n 2, 1) := by decide +kernel
theorem dX8_advance_51 : decode cX8_advance 51 = .ok (.iconst 0, 1) := by decide +kernel
theorem dX8_advance_52 : decode cX8_advance 52 = .ok (.istore_n 3, 1) := by decide +kernel
theorem dX8_advance_53 : decode cX8_advance 53 = .ok (.iload_n 3, 1) := by decide +kernel
theorem dX8_advance_54 : decode cX8_advance 54 = .ok (.iload_n 1, 1) := by decide +kernel
theorem dX8_advance_55 : decode cX8_advance 55 = .ok (.if_icmp .ge 82, 3) := by decide +kernel
theorem dX8_advance_58 : decode cX8_advance 58 = .ok (.aload_n 0, 1) := by decide +kernel
theorem dX8_advance_59 : decode cX8_advance 59 = .ok (.getfield 13, 3) := by decide +kernel
theorem dX8_advance_62 : decode cX8_advance 62 = .ok (.iconst 0, 1) := by decide +kernel
theorem dX8_advance_63 : decode cX8_advance 63 = .ok (.dup2, 1) := by decide +kernel
theorem dX8_advance_64 : decode cX8_advance 64 = .ok (.iaload, 1) := by decide +kernel
theorem dX8_advance_65 : decode cX8_advance 65 = .ok (.iconst 1, 1) := by decide +kernel
theorem dX8_advance_66 : decode cX8_advance 66 = .ok (.iadd, 1) := by decide +kernel
theorem dX8_advance_67 : decode cX8_advance 67 = .ok (.iastore, 1) := by decide +kernel
theorem dX8_advance_68 : decode cX8_advance 68 = .ok (.iconst 0, 1) := by decide +kernel
theorem dX8_advance_69 : decode cX8_advance 69 = .ok (.istore 4, 2) := by decide +kernel
theorem dX8_advance_71 : decode cX8_advance 71 = .ok (.iload 4, 2) := by decide +kernel
theorem dX8_advance_73 : decode cX8_advance 73 = .ok (.aload_n 0, 1) := by decide +kernel
theorem dX8_advance_74 : decode cX8_advance 74 = .ok (.getfield 13, 3) := by decide +kernel
theorem dX8_advance_77 : decode cX8_advance 77 = .ok (.iconst 2, 1) := by decide +kernel
theorem dX8_advance_78 : decode cX8_advance 78 = .ok (.iaload, 1) := by decide +kernel
theorem dX8_advance_79 : decode cX8_advance 79 = .ok (.if_icmp .ge 52, 3) := by decide +kernel
theorem dX8_advance_82 : decode cX8_advance 82 = .ok (.aload_n 0, 1) := by decide +kernel
theorem dX8_advance_83 : decode cX8_advance 83 = .ok (.iload 4, 2) := by decide +kernel
theorem dX8_advance_85 : decode cX8_advance 85 = .ok (.invokevirtual 177, 3) := by decide +kernel
theorem dX8_advance_88 : decode cX8_advance 88 = .ok (.ifCond .eq 37, 3) := by decide +kernel
theorem dX8_advance_91 : decode cX8_advance 91 = .ok (.aload_n 0, 1) := by decide +kernel
theorem dX8_advance_92 : decode cX8_advance 92 = .ok (.getfield 13, 3) := by decide +kernel
theorem dX8_advance_95 : decode cX8_advance 95 = .ok (.sipush 611, 3) := by decide +kernel
theorem dX8_advance_98 : decode cX8_advance 98 = .ok (.iconst 3, 1) := by decide +kernel
theorem dX8_advance_99 : decode cX8_advance 99 = .ok (.iload 4, 2) := by decide +kernel
theorem dX8_advance_101 : decode cX8_advance 101 = .ok (.imul, 1) := by decide +kernel
theorem dX8_advance_102 : decode cX8_advance 102 = .ok (.iadd, 1) := by decide +kernel
theorem dX8_advance_103 : decode cX8_advance 103 = .ok (.iconst 1, 1) := by decide +kernel
theorem dX8_advance_104 : decode cX8_advance 104 = .ok (.iadd, 1) := by decide +kernel
theorem dX8_advance_105 : decode cX8_advance 105 = .ok (.iaload, 1) := by decide +kernel
theorem dX8_advance_106 : decode cX8_advance 106 = .ok (.aload_n 0, 1) := by decide +kernel
theorem dX8_advance_107 : decode cX8_advance 107 = .ok (.getfield 13, 3) := by decide +kernel
theorem dX8_advance_110 : decode cX8_advance 110 = .ok (.iconst 0, 1) := by decide +kernel
theorem dX8_advance_111 : decode cX8_advance 111 = .ok (.iaload, 1) := by decide +kernel
theorem dX8_advance_112 : decode cX8_advance 112 = .ok (.if_icmp .ne 13, 3) := by decide +kernel
theorem dX8_advance_115 : decode cX8_advance 115 = .ok (.aload_n 0, 1) := by decide +kernel
theorem dX8_advance_116 : decode cX8_advance 116 = .ok (.iload 4, 2) := by decide +kernel
theorem dX8_advance_118 : decode cX8_advance 118 = .ok (.invokevirtual 278, 3) := by decide +kernel
theorem dX8_advance_121 : decode cX8_advance 121 = .ok (.pop, 1) := by decide +kernel
theorem dX8_advance_122 : decode cX8_advance 122 = .ok (.iinc 2 1, 3) := by decide +kernel
theorem dX8_advance_125 : decode cX8_advance 125 = .ok (.iinc 4 1, 3) := by decide +kernel
theorem dX8_advance_128 : decode cX8_advance 128 = .ok (.goto (-57), 3) := by decide +kernel
theorem dX8_advance_131 : decode cX8_advance 131 = .ok (.iinc 3 1, 3) := by decide +kernel
theorem dX8_advance_134 : decode cX8_advance 134 = .ok (.goto (-81), 3) := by decide +kernel
theorem dX8_advance_137 : decode cX8_advance 137 = .ok (.iload_n 2, 1) := by decide +kernel
theorem dX8_advance_138 : decode cX8_advance 138 = .ok (.ireturn, 1) := by decide +kernel
theorem dX8_tick_0 : decode cX8_tick 0 = .ok (.aload_n 0, 1) := by decide +kernel
theorem dX8_tick_1 : decode cX8_tick 1 = .ok (.iconst 0, 1) := by decide +kernel
theorem dX8_tick_2 : decode cX8_tick 2 = .ok (.putfield 38, 3) := by decide +kernel
theorem dX8_tick_5 : decode cX8_tick 5 = .ok (.aload_n 0, 1) := by decide +kernel
theorem dX8_tick_6 : decode cX8_tick 6 = .ok (.getfield 13, 3) := by decide +kernel
theorem dX8_tick_9 : decode cX8_tick 9 = .ok (.iconst 0, 1) := by decide +kernel
theorem dX8_tick_10 : decode cX8_tick 10 = .ok (.iaload, 1) := by decide +kernel
theorem dX8_tick_11 : decode cX8_tick 11 = .ok (.ireturn, 1) := by decide +kernel
theorem dX8_setup_0 : decode cX8_setup 0 = .ok (.aload_n 0, 1) := by decide +kernel
theorem dX8_setup_1 : decode cX8_setup 1 = .ok (.iconst 0, 1) := by decide +kernel
theorem dX8_setup_2 : decode cX8_setup 2 = .ok (.putfield 38, 3) := by decide +kernel
theorem dX8_setup_5 : decode cX8_setup 5 = .ok (.aload_n 0, 1) := by decide +kernel
theorem dX8_setup_6 : decode cX8_setup 6 = .ok (.iload_n 1, 1) := by decide +kernel
theorem dX8_setup_7 : decode cX8_setup 7 = .ok (.iconst 0, 1) := by decide +kernel
theorem dX8_setup_8 : decode cX8_setup 8 = .ok (.iconst 1, 1) := by decide +kernel
theorem dX8_setup_9 : decode cX8_setup 9 = .ok (.invokestatic 53, 3) := by decide +kernel
theorem dX8_setup_12 : decode cX8_setup 12 = .ok (.iconst 1, 1) := by decide +kernel
theorem dX8_setup_13 : decode cX8_setup 13 = .ok (.invokevirtual 49, 3) := by decide +kernel
theorem dX8_setup_16 : decode cX8_setup 16 = .ok (.ifCond .eq 7, 3) := by decide +kernel
theorem dX8_setup_19 : decode cX8_setup 19 = .ok (.iconst 0, 1) := by decide +kernel
theorem dX8_setup_20 : decode cX8_setup 20 = .ok (.goto 17, 3) := by decide +kernel
theorem dX8_setup_23 : decode cX8_setup 23 = .ok (.aload_n 0, 1) := by decide +kernel
theorem dX8_setup_24 : decode cX8_setup 24 = .ok (.getfield 13, 3) := by decide +kernel
theorem dX8_setup_27 : decode cX8_setup 27 = .ok (.iload_n 1, 1) := by decide +kernel
theorem dX8_setup_28 : decode cX8_setup 28 = .ok (.ifCond .ne 7, 3) := by decide +kernel
theorem dX8_setup_31 : decode cX8_setup 31 = .ok (.iconst 1, 1) := by decide +kernel
theorem dX8_setup_32 : decode cX8_setup 32 = .ok (.goto 4, 3) := by decide +kernel
theorem dX8_setup_35 : decode cX8_setup 35 = .ok (.iconst 2, 1) := by decide +kernel
theorem dX8_setup_36 : decode cX8_setup 36 = .ok (.iaload, 1) := by decide +kernel
theorem dX8_setup_37 : decode cX8_setup 37 = .ok (.ireturn, 1) := by decide +kernel
theorem dX8_rule_0 : decode cX8_rule 0 = .ok (.aload_n 0, 1) := by decide +kernel
theorem dX8_rule_1 : decode cX8_rule 1 = .ok (.iconst 0, 1) := by decide +kernel
theorem dX8_rule_2 : decode cX8_rule 2 = .ok (.putfield 38, 3) := by decide +kernel
theorem dX8_rule_5 : decode cX8_rule 5 = .ok (.aload_n 0, 1) := by decide +kernel
theorem dX8_rule_6 : decode cX8_rule 6 = .ok (.aload_n 0, 1) := by decide +kernel
theorem dX8_rule_7 : decode cX8_rule 7 = .ok (.iload_n 1, 1) := by decide +kernel
theorem dX8_rule_8 : decode cX8_rule 8 = .ok (.invokevirtual 205, 3) := by decide +kernel
theorem dX8_rule_11 : decode cX8_rule 11 = .ok (.iconst 1, 1) := by decide +kernel
theorem dX8_rule_12 : decode cX8_rule 12 = .ok (.invokevirtual 49, 3) := by decide +kernel
theorem dX8_rule_15 : decode cX8_rule 15 = .ok (.ifCond .eq 7, 3) := by decide +kernel
theorem dX8_rule_18 : decode cX8_rule 18 = .ok (.iconst 0, 1) := by decide +kernel
theorem dX8_rule_19 : decode cX8_rule 19 = .ok (.goto 11, 3) := by decide +kernel
theorem dX8_rule_22 : decode cX8_rule 22 = .ok (.aload_n 0, 1) := by decide +kernel
theorem dX8_rule_23 : decode cX8_rule 23 = .ok (.getfield 13, 3) := by decide +kernel
theorem dX8_rule_26 : decode cX8_rule 26 = .ok (.iconst 5, 1) := by decide +kernel
theorem dX8_rule_27 : decode cX8_rule 27 = .ok (.iload_n 1, 1) := by decide +kernel
theorem dX8_rule_28 : decode cX8_rule 28 = .ok (.iadd, 1) := by decide +kernel
theorem dX8_rule_29 : decode cX8_rule 29 = .ok (.iaload, 1) := by decide +kernel
theorem dX8_rule_30 : decode cX8_rule 30 = .ok (.ireturn, 1) := by decide +kernel
theorem dX8_nodeCount_0 : decode cX8_nodeCount 0 = .ok (.aload_n 0, 1) := by decide +kernel
theorem dX8_nodeCount_1 : decode cX8_nodeCount 1 = .ok (.iconst 0, 1) := by decide +kernel
theorem dX8_nodeCount_2 : decode cX8_nodeCount 2 = .ok (.putfield 38, 3) := by decide +kernel
theorem dX8_nodeCount_5 : decode cX8_nodeCount 5 = .ok (.aload_n 0, 1) := by decide +kernel
theorem dX8_nodeCount_6 : decode cX8_nodeCount 6 = .ok (.getfield 13, 3) := by decide +kernel
theorem dX8_nodeCount_9 : decode cX8_nodeCount 9 = .ok (.iconst 3, 1) := by decide +kernel
theorem dX8_nodeCount_10 : decode cX8_nodeCount 10 = .ok (.iaload, 1) := by decide +kernel
theorem dX8_nodeCount_11 : decode cX8_nodeCount 11 = .ok (.ireturn, 1) := by decide +kernel
theorem dX8_depth_0 : decode cX8_depth 0 = .ok (.iconst 0, 1) := by decide +kernel
theorem dX8_depth_1 : decode cX8_depth 1 = .ok (.istore_n 2, 1) := by decide +kernel
theorem dX8_depth_2 : decode cX8_depth 2 = .ok (.iload_n 1, 1) := by decide +kernel
theorem dX8_depth_3 : decode cX8_depth 3 = .ok (.istore_n 3, 1) := by decide +kernel
theorem dX8_depth_4 : decode cX8_depth 4 = .ok (.iload_n 3, 1) := by decide +kernel
theorem dX8_depth_5 : decode cX8_depth 5 = .ok (.ifCond .le 19, 3) := by decide +kernel
theorem dX8_depth_8 : decode cX8_depth 8 = .ok (.iinc 2 1, 3) := by decide +kernel
theorem dX8_depth_11 : decode cX8_depth 11 = .ok (.aload_n 0, 1) := by decide +kernel
theorem dX8_depth_12 : decode cX8_depth 12 = .ok (.getfield 13, 3) := by decide +kernel
theorem dX8_depth_15 : decode cX8_depth 15 = .ok (.bipush 11, 2) := by decide +kernel
theorem dX8_depth_17 : decode cX8_depth 17 = .ok (.iload_n 3, 1) := by decide +kernel
theorem dX8_depth_18 : decode cX8_depth 18 = .ok (.iadd, 1) := by decide +kernel
theorem dX8_depth_19 : decode cX8_depth 19 = .ok (.iaload, 1) := by decide +kernel
theorem dX8_depth_20 : decode cX8_depth 20 = .ok (.istore_n 3, 1) := by decide +kernel
theorem dX8_depth_21 : decode cX8_depth 21 = .ok (.goto (-17), 3) := by decide +kernel
theorem dX8_depth_24 : decode cX8_depth 24 = .ok (.iload_n 2, 1) := by decide +kernel
theorem dX8_depth_25 : decode cX8_depth 25 = .ok (.ireturn, 1) := by decide +kernel
theorem dX8_node_0 : decode cX8_node 0 = .ok (.aload_n 0, 1) := by decide +kernel
theorem dX8_node_1 : decode cX8_node 1 = .ok (.iconst 0, 1) := by decide +kernel
theorem dX8_node_2 : decode cX8_node 2 = .ok (.putfield 38, 3) := by decide +kernel
theorem dX8_node_5 : decode cX8_node 5 = .ok (.aload_n 0, 1) := by decide +kernel
theorem dX8_node_6 : decode cX8_node 6 = .ok (.aload_n 0, 1) := by decide +kernel
theorem dX8_node_7 : decode cX8_node 7 = .ok (.iload_n 1, 1) := by decide +kernel
theorem dX8_node_8 : decode cX8_node 8 = .ok (.invokevirtual 191, 3) := by decide +kernel
theorem dX8_node_11 : decode cX8_node 11 = .ok (.iconst 1, 1) := by decide +kernel
theorem dX8_node_12 : decode cX8_node 12 = .ok (.invokevirtual 49, 3) := by decide +kernel
theorem dX8_node_15 : decode cX8_node 15 = .ok (.ifCond .ne 17, 3) := by decide +kernel
theorem dX8_node_18 : decode cX8_node 18 = .ok (.aload_n 0, 1) := by decide +kernel
theorem dX8_node_19 : decode cX8_node 19 = .ok (.iload_n 2, 1) := by decide +kernel
theorem dX8_node_20 : decode cX8_node 20 = .ok (.iconst 0, 1) := by decide +kernel
theorem dX8_node_21 : decode cX8_node 21 = .ok (.iconst 4, 1) := by decide +kernel
theorem dX8_node_22 : decode cX8_node 22 = .ok (.invokestatic 53, 3) := by decide +kernel
theorem dX8_node_25 : decode cX8_node 25 = .ok (.iconst 2, 1) := by decide +kernel
theorem dX8_node_26 : decode cX8_node 26 = .ok (.invokevirtual 49, 3) := by decide +kernel
theorem dX8_node_29 : decode cX8_node 29 = .ok (.ifCond .eq 5, 3) := by decide +kernel
theorem dX8_node_32 : decode cX8_node 32 = .ok (.iconst 0, 1) := by decide +kernel
theorem dX8_node_33 : decode cX8_node 33 = .ok (.ireturn, 1) := by decide +kernel
theorem dX8_node_34 : decode cX8_node 34 = .ok (.iload_n 2, 1) := by decide +kernel
theorem dX8_node_35 : decode cX8_node 35 = .ok (.tableswitch 71 0 3 #[29, 39, 49, 60], 29) := by decide +kernel
theorem dX8_node_64 : decode cX8_node 64 = .ok (.aload_n 0, 1) := by decide +kernel
theorem dX8_node_65 : decode cX8_node 65 = .ok (.getfield 13, 3) := by decide +kernel
theorem dX8_node_68 : decode cX8_node 68 = .ok (.bipush 11, 2) := by decide +kernel
theorem dX8_node_70 : decode cX8_node 70 = .ok (.iload_n 1, 1) := by decide +kernel
theorem dX8_node_71 : decode cX8_node 71 = .ok (.iadd, 1) := by decide +kernel
theorem dX8_node_72 : decode cX8_node 72 = .ok (.iaload, 1) := by decide +kernel
theorem dX8_node_73 : decode cX8_node 73 = .ok (.ireturn, 1) := by decide +kernel
theorem dX8_node_74 : decode cX8_node 74 = .ok (.aload_n 0, 1) := by decide +kernel
theorem dX8_node_75 : decode cX8_node 75 = .ok (.getfield 13, 3) := by decide +kernel
theorem dX8_node_78 : decode cX8_node 78 = .ok (.bipush 71, 2) := by decide +kernel
theorem dX8_node_80 : decode cX8_node 80 = .ok (.iload_n 1, 1) := by decide +kernel
theorem dX8_node_81 : decode cX8_node 81 = .ok (.iadd, 1) := by decide +kernel
theorem dX8_node_82 : decode cX8_node 82 = .ok (.iaload, 1) := by decide +kernel
theorem dX8_node_83 : decode cX8_node 83 = .ok (.ireturn, 1) := by decide +kernel
theorem dX8_node_84 : decode cX8_node 84 = .ok (.aload_n 0, 1) := by decide +kernel
theorem dX8_node_85 : decode cX8_node 85 = .ok (.getfield 13, 3) := by decide +kernel
theorem dX8_node_88 : decode cX8_node 88 = .ok (.sipush 131, 3) := by decide +kernel
theorem dX8_node_91 : decode cX8_node 91 = .ok (.iload_n 1, 1) := by decide +kernel
theorem dX8_node_92 : decode cX8_node 92 = .ok (.iadd, 1) := by decide +kernel
theorem dX8_node_93 : decode cX8_node 93 = .ok (.iaload, 1) := by decide +kernel
theorem dX8_node_94 : decode cX8_node 94 = .ok (.ireturn, 1) := by decide +kernel
theorem dX8_node_95 : decode cX8_node 95 = .ok (.aload_n 0, 1) := by decide +kernel
theorem dX8_node_96 : decode cX8_node 96 = .ok (.getfield 13, 3) := by decide +kernel
theorem dX8_node_99 : decode cX8_node 99 = .ok (.sipush 191, 3) := by decide +kernel
theorem dX8_node_102 : decode cX8_node 102 = .ok (.iload_n 1, 1) := by decide +kernel
theorem dX8_node_103 : decode cX8_node 103 = .ok (.iadd, 1) := by decide +kernel
theorem dX8_node_104 : decode cX8_node 104 = .ok (.iaload, 1) := by decide +kernel
theorem dX8_node_105 : decode cX8_node 105 = .ok (.ireturn, 1) := by decide +kernel
theorem dX8_node_106 : decode cX8_node 106 = .ok (.aload_n 0, 1) := by decide +kernel
theorem dX8_node_107 : decode cX8_node 107 = .ok (.iload_n 1, 1) := by decide +kernel
theorem dX8_node_108 : decode cX8_node 108 = .ok (.invokevirtual 284, 3) := by decide +kernel
theorem dX8_node_111 : decode cX8_node 111 = .ok (.ireturn, 1) := by decide +kernel
theorem dX8_field_0 : decode cX8_field 0 = .ok (.aload_n 0, 1) := by decide +kernel
theorem dX8_field_1 : decode cX8_field 1 = .ok (.iconst 0, 1) := by decide +kernel
theorem dX8_field_2 : decode cX8_field 2 = .ok (.putfield 38, 3) := by decide +kernel
theorem dX8_field_5 : decode cX8_field 5 = .ok (.aload_n 0, 1) := by decide +kernel
theorem dX8_field_6 : decode cX8_field 6 = .ok (.aload_n 0, 1) := by decide +kernel
theorem dX8_field_7 : decode cX8_field 7 = .ok (.iload_n 1, 1) := by decide +kernel
theorem dX8_field_8 : decode cX8_field 8 = .ok (.invokevirtual 191, 3) := by decide +kernel
theorem dX8_field_11 : decode cX8_field 11 = .ok (.ifCond .eq 15, 3) := by decide +kernel
theorem dX8_field_14 : decode cX8_field 14 = .ok (.aload_n 0, 1) := by decide +kernel
theorem dX8_field_15 : decode cX8_field 15 = .ok (.iload_n 2, 1) := by decide +kernel
theorem dX8_field_16 : decode cX8_field 16 = .ok (.invokevirtual 205, 3) := by decide +kernel
theorem dX8_field_19 : decode cX8_field 19 = .ok (.ifCond .eq 7, 3) := by decide +kernel
theorem dX8_field_22 : decode cX8_field 22 = .ok (.iconst 1, 1) := by decide +kernel
theorem dX8_field_23 : decode cX8_field 23 = .ok (.goto 4, 3) := by decide +kernel
theorem dX8_field_26 : decode cX8_field 26 = .ok (.iconst 0, 1) := by decide +kernel
theorem dX8_field_27 : decode cX8_field 27 = .ok (.iconst 1, 1) := by decide +kernel
theorem dX8_field_28 : decode cX8_field 28 = .ok (.invokevirtual 49, 3) := by decide +kernel
theorem dX8_field_31 : decode cX8_field 31 = .ok (.ifCond .eq 7, 3) := by decide +kernel
theorem dX8_field_34 : decode cX8_field 34 = .ok (.iconst 0, 1) := by decide +kernel
theorem dX8_field_35 : decode cX8_field 35 = .ok (.goto 9, 3) := by decide +kernel
theorem dX8_field_38 : decode cX8_field 38 = .ok (.aload_n 0, 1) := by decide +kernel
theorem dX8_field_39 : decode cX8_field 39 = .ok (.iload_n 1, 1) := by decide +kernel
theorem dX8_field_40 : decode cX8_field 40 = .ok (.iload_n 2, 1) := by decide +kernel
theorem dX8_field_41 : decode cX8_field 41 = .ok (.invokevirtual 203, 3) := by decide +kernel
theorem dX8_field_44 : decode cX8_field 44 = .ok (.ireturn, 1) := by decide +kernel
theorem dX8_childrenOf_0 : decode cX8_childrenOf 0 = .ok (.iconst 0, 1) := by decide +kernel
theorem dX8_childrenOf_1 : decode cX8_childrenOf 1 = .ok (.istore_n 2, 1) := by decide +kernel
theorem dX8_childrenOf_2 : decode cX8_childrenOf 2 = .ok (.iconst 1, 1) := by decide +kernel
theorem dX8_childrenOf_3 : decode cX8_childrenOf 3 = .ok (.istore_n 3, 1) := by decide +kernel
theorem dX8_childrenOf_4 : decode cX8_childrenOf 4 = .ok (.iload_n 3, 1) := by decide +kernel
theorem dX8_childrenOf_5 : decode cX8_childrenOf 5 = .ok (.aload_n 0, 1) := by decide +kernel
theorem dX8_childrenOf_6 : decode cX8_childrenOf 6 = .ok (.getfield 13, 3) := by decide +kernel
theorem dX8_childrenOf_9 : decode cX8_childrenOf 9 = .ok (.iconst 3, 1) := by decide +kernel
theorem dX8_childrenOf_10 : decode cX8_childrenOf 10 = .ok (.iaload, 1) := by decide +kernel
theorem dX8_childrenOf_11 : decode cX8_childrenOf 11 = .ok (.if_icmp .ge 38, 3) := by decide +kernel
theorem dX8_childrenOf_14 : decode cX8_childrenOf 14 = .ok (.iload_n 2, 1) := by decide +kernel
theorem dX8_childrenOf_15 : decode cX8_childrenOf 15 = .ok (.aload_n 0, 1) := by decide +kernel
theorem dX8_childrenOf_16 : decode cX8_childrenOf 16 = .ok (.iload_n 3, 1) := by decide +kernel
theorem dX8_childrenOf_17 : decode cX8_childrenOf 17 = .ok (.invokevirtual 194, 3) := by decide +kernel
theorem dX8_childrenOf_20 : decode cX8_childrenOf 20 = .ok (.ifCond .eq 20, 3) := by decide +kernel
theorem dX8_childrenOf_23 : decode cX8_childrenOf 23 = .ok (.aload_n 0, 1) := by decide +kernel
theorem dX8_childrenOf_24 : decode cX8_childrenOf 24 = .ok (.getfield 13, 3) := by decide +kernel
theorem dX8_childrenOf_27 : decode cX8_childrenOf 27 = .ok (.bipush 11, 2) := by decide +kernel
theorem dX8_childrenOf_29 : decode cX8_childrenOf 29 = .ok (.iload_n 3, 1) := by decide +kernel
theorem dX8_childrenOf_30 : decode cX8_childrenOf 30 = .ok (.iadd, 1) := by decide +kernel
theorem dX8_childrenOf_31 : decode cX8_childrenOf 31 = .ok (.iaload, 1) := by decide +kernel
theorem dX8_childrenOf_32 : decode cX8_childrenOf 32 = .ok (.iload_n 1, 1) := by decide +kernel
theorem dX8_childrenOf_33 : decode cX8_childrenOf 33 = .ok (.if_icmp .ne 7, 3) := by decide +kernel
theorem dX8_childrenOf_36 : decode cX8_childrenOf 36 = .ok (.iconst 1, 1) := by decide +kernel
theorem dX8_childrenOf_37 : decode cX8_childrenOf 37 = .ok (.goto 4, 3) := by decide +kernel
theorem dX8_childrenOf_40 : decode cX8_childrenOf 40 = .ok (.iconst 0, 1) := by decide +kernel
theorem dX8_childrenOf_41 : decode cX8_childrenOf 41 = .ok (.iadd, 1) := by decide +kernel
theorem dX8_childrenOf_42 : decode cX8_childrenOf 42 = .ok (.istore_n 2, 1) := by decide +kernel
theorem dX8_childrenOf_43 : decode cX8_childrenOf 43 = .ok (.iinc 3 1, 3) := by decide +kernel
theorem dX8_childrenOf_46 : decode cX8_childrenOf 46 = .ok (.goto (-42), 3) := by decide +kernel
theorem dX8_childrenOf_49 : decode cX8_childrenOf 49 = .ok (.iload_n 2, 1) := by decide +kernel
theorem dX8_childrenOf_50 : decode cX8_childrenOf 50 = .ok (.ireturn, 1) := by decide +kernel
theorem dX8_childAt_0 : decode cX8_childAt 0 = .ok (.iconst (-1), 1) := by decide +kernel
theorem dX8_childAt_1 : decode cX8_childAt 1 = .ok (.istore_n 3, 1) := by decide +kernel
theorem dX8_childAt_2 : decode cX8_childAt 2 = .ok (.iconst 1, 1) := by decide +kernel
theorem dX8_childAt_3 : decode cX8_childAt 3 = .ok (.istore 4, 2) := by decide +kernel
theorem dX8_childAt_5 : decode cX8_childAt 5 = .ok (.iload 4, 2) := by decide +kernel
theorem dX8_childAt_7 : decode cX8_childAt 7 = .ok (.aload_n 0, 1) := by decide +kernel
theorem dX8_childAt_8 : decode cX8_childAt 8 = .ok (.getfield 13, 3) := by decide +kernel
theorem dX8_childAt_11 : decode cX8_childAt 11 = .ok (.iconst 3, 1) := by decide +kernel
theorem dX8_childAt_12 : decode cX8_childAt 12 = .ok (.iaload, 1) := by decide +kernel
theorem dX8_childAt_13 : decode cX8_childAt 13 = .ok (.if_icmp .ge 124, 3) := by decide +kernel
theorem dX8_childAt_16 : decode cX8_childAt 16 = .ok (.aload_n 0, 1) := by decide +kernel
theorem dX8_childAt_17 : decode cX8_childAt 17 = .ok (.iload 4, 2) := by decide +kernel
theorem dX8_childAt_19 : decode cX8_childAt 19 = .ok (.invokevirtual 194, 3) := by decide +kernel
theorem dX8_childAt_22 : decode cX8_childAt 22 = .ok (.ifCond .eq 109, 3) := by decide +kernel
theorem dX8_childAt_25 : decode cX8_childAt 25 = .ok (.aload_n 0, 1) := by decide +kernel
theorem dX8_childAt_26 : decode cX8_childAt 26 = .ok (.getfield 13, 3) := by decide +kernel
theorem dX8_childAt_29 : decode cX8_childAt 29 = .ok (.bipush 11, 2) := by decide +kernel
theorem dX8_childAt_31 : decode cX8_childAt 31 = .ok (.iload 4, 2) := by decide +kernel
theorem dX8_childAt_33 : decode cX8_childAt 33 = .ok (.iadd, 1) := by decide +kernel
theorem dX8_childAt_34 : decode cX8_childAt 34 = .ok (.iaload, 1) := by decide +kernel
theorem dX8_childAt_35 : decode cX8_childAt 35 = .ok (.iload_n 1, 1) := by decide +kernel
theorem dX8_childAt_36 : decode cX8_childAt 36 = .ok (.if_icmp .ne 95, 3) := by decide +kernel
theorem dX8_childAt_39 : decode cX8_childAt 39 = .ok (.iconst 0, 1) := by decide +kernel
theorem dX8_childAt_40 : decode cX8_childAt 40 = .ok (.istore 5, 2) := by decide +kernel
theorem dX8_childAt_42 : decode cX8_childAt 42 = .ok (.iconst 1, 1) := by decide +kernel
theorem dX8_childAt_43 : decode cX8_childAt 43 = .ok (.istore 6, 2) := by decide +kernel
theorem dX8_childAt_45 : decode cX8_childAt 45 = .ok (.iload 6, 2) := by decide +kernel
theorem dX8_childAt_47 : decode cX8_childAt 47 = .ok (.aload_n 0, 1) := by decide +kernel
theorem dX8_childAt_48 : decode cX8_childAt 48 = .ok (.getfield 13, 3) := by decide +kernel
theorem dX8_childAt_51 : decode cX8_childAt 51 = .ok (.iconst 3, 1) := by decide +kernel
theorem dX8_childAt_52 : decode cX8_childAt 52 = .ok (.iaload, 1) := by decide +kernel
theorem dX8_childAt_53 : decode cX8_childAt 53 = .ok (.if_icmp .ge 65, 3) := by decide +kernel
theorem dX8_childAt_56 : decode cX8_childAt 56 = .ok (.iload 5, 2) := by decide +kernel
theorem dX8_childAt_58 : decode cX8_childAt 58 = .ok (.aload_n 0, 1) := by decide +kernel
theorem dX8_childAt_59 : decode cX8_childAt 59 = .ok (.iload 6, 2) := by decide +kernel
theorem dX8_childAt_61 : decode cX8_childAt 61 = .ok (.invokevirtual 194, 3) := by decide +kernel
theorem dX8_childAt_64 : decode cX8_childAt 64 = .ok (.ifCond .eq 44, 3) := by decide +kernel
theorem dX8_childAt_67 : decode cX8_childAt 67 = .ok (.aload_n 0, 1) := by decide +kernel
theorem dX8_childAt_68 : decode cX8_childAt 68 = .ok (.getfield 13, 3) := by decide +kernel
theorem dX8_childAt_71 : decode cX8_childAt 71 = .ok (.bipush 11, 2) := by decide +kernel
theorem dX8_childAt_73 : decode cX8_childAt 73 = .ok (.iload 6, 2) := by decide +kernel
theorem dX8_childAt_75 : decode cX8_childAt 75 = .ok (.iadd, 1) := by decide +kernel
theorem dX8_childAt_76 : decode cX8_childAt 76 = .ok (.iaload, 1) := by decide +kernel
theorem dX8_childAt_77 : decode cX8_childAt 77 = .ok (.iload_n 1, 1) := by decide +kernel
theorem dX8_childAt_78 : decode cX8_childAt 78 = .ok (.if_icmp .ne 30, 3) := by decide +kernel
theorem dX8_childAt_81 : decode cX8_childAt 81 = .ok (.aload_n 0, 1) := by decide +kernel
theorem dX8_childAt_82 : decode cX8_childAt 82 = .ok (.getfield 13, 3) := by decide +kernel
theorem dX8_childAt_85 : decode cX8_childAt 85 = .ok (.bipush 71, 2) := by decide +kernel
theorem dX8_childAt_87 : decode cX8_childAt 87 = .ok (.iload 6, 2) := by decide +kernel
theorem dX8_childAt_89 : decode cX8_childAt 89 = .ok (.iadd, 1) := by decide +kernel
theorem dX8_childAt_90 : decode cX8_childAt 90 = .ok (.iaload, 1) := by decide +kernel
theorem dX8_childAt_91 : decode cX8_childAt 91 = .ok (.aload_n 0, 1) := by decide +kernel
theorem dX8_childAt_92 : decode cX8_childAt 92 = .ok (.getfield 13, 3) := by decide +kernel
theorem dX8_childAt_95 : decode cX8_childAt 95 = .ok (.bipush 71, 2) := by decide +kernel
theorem dX8_childAt_97 : decode cX8_childAt 97 = .ok (.iload 4, 2) := by decide +kernel
theorem dX8_childAt_99 : decode cX8_childAt 99 = .ok (.iadd, 1) := by decide +kernel
theorem dX8_childAt_100 : decode cX8_childAt 100 = .ok (.iaload, 1) := by decide +kernel
theorem dX8_childAt_101 : decode cX8_childAt 101 = .ok (.if_icmp .ge 7, 3) := by decide +kernel
theorem dX8_childAt_104 : decode cX8_childAt 104 = .ok (.iconst 1, 1) := by decide +kernel
theorem dX8_childAt_105 : decode cX8_childAt 105 = .ok (.goto 4, 3) := by decide +kernel
theorem dX8_childAt_108 : decode cX8_childAt 108 = .ok (.iconst 0, 1) := by decide +kernel
theorem dX8_childAt_109 : decode cX8_childAt 109 = .ok (.iadd, 1) := by decide +kernel
theorem dX8_childAt_110 : decode cX8_childAt 110 = .ok (.istore 5, 2) := by decide +kernel
theorem dX8_childAt_112 : decode cX8_childAt 112 = .ok (.iinc 6 1, 3) := by decide +kernel
theorem dX8_childAt_115 : decode cX8_childAt 115 = .ok (.goto (-70), 3) := by decide +kernel
theorem dX8_childAt_118 : decode cX8_childAt 118 = .ok (.iload 5, 2) := by decide +kernel
theorem dX8_childAt_120 : decode cX8_childAt 120 = .ok (.iload_n 2, 1) := by decide +kernel
theorem dX8_childAt_121 : decode cX8_childAt 121 = .ok (.if_icmp .ne 8, 3) := by decide +kernel
theorem dX8_childAt_124 : decode cX8_childAt 124 = .ok (.iload 4, 2) := by decide +kernel
theorem dX8_childAt_126 : decode cX8_childAt 126 = .ok (.goto 4, 3) := by decide +kernel
theorem dX8_childAt_129 : decode cX8_childAt 129 = .ok (.iload_n 3, 1) := by decide +kernel
theorem dX8_childAt_130 : decode cX8_childAt 130 = .ok (.istore_n 3, 1) := by decide +kernel
theorem dX8_childAt_131 : decode cX8_childAt 131 = .ok (.iinc 4 1, 3) := by decide +kernel
theorem dX8_childAt_134 : decode cX8_childAt 134 = .ok (.goto (-129), 3) := by decide +kernel
theorem dX8_childAt_137 : decode cX8_childAt 137 = .ok (.iload_n 3, 1) := by decide +kernel
theorem dX8_childAt_138 : decode cX8_childAt 138 = .ok (.ireturn, 1) := by decide +kernel
theorem dX8_childCount_0 : decode cX8_childCount 0 = .ok (.aload_n 0, 1) := by decide +kernel
theorem dX8_childCount_1 : decode cX8_childCount 1 = .ok (.iconst 0, 1) := by decide +kernel
theorem dX8_childCount_2 : decode cX8_childCount 2 = .ok (.putfield 38, 3) := by decide +kernel
theorem dX8_childCount_5 : decode cX8_childCount 5 = .ok (.aload_n 0, 1) := by decide +kernel
theorem dX8_childCount_6 : decode cX8_childCount 6 = .ok (.aload_n 0, 1) := by decide +kernel
theorem dX8_childCount_7 : decode cX8_childCount 7 = .ok (.iload_n 1, 1) := by decide +kernel
theorem dX8_childCount_8 : decode cX8_childCount 8 = .ok (.invokevirtual 191, 3) := by decide +kernel
theorem dX8_childCount_11 : decode cX8_childCount 11 = .ok (.iconst 1, 1) := by decide +kernel
theorem dX8_childCount_12 : decode cX8_childCount 12 = .ok (.invokevirtual 49, 3) := by decide +kernel
theorem dX8_childCount_15 : decode cX8_childCount 15 = .ok (.ifCond .eq 7, 3) := by decide +kernel
theorem dX8_childCount_18 : decode cX8_childCount 18 = .ok (.iconst 0, 1) := by decide +kernel
theorem dX8_childCount_19 : decode cX8_childCount 19 = .ok (.goto 8, 3) := by decide +kernel
theorem dX8_childCount_22 : decode cX8_childCount 22 = .ok (.aload_n 0, 1) := by decide +kernel
theorem dX8_childCount_23 : decode cX8_childCount 23 = .ok (.iload_n 1, 1) := by decide +kernel
theorem dX8_childCount_24 : decode cX8_childCount 24 = .ok (.invokevirtual 287, 3) := by decide +kernel
theorem dX8_childCount_27 : decode cX8_childCount 27 = .ok (.ireturn, 1) := by decide +kernel
theorem dX8_child_0 : decode cX8_child 0 = .ok (.aload_n 0, 1) := by decide +kernel
theorem dX8_child_1 : decode cX8_child 1 = .ok (.iconst 0, 1) := by decide +kernel
theorem dX8_child_2 : decode cX8_child 2 = .ok (.putfield 38, 3) := by decide +kernel
theorem dX8_child_5 : decode cX8_child 5 = .ok (.aload_n 0, 1) := by decide +kernel
theorem dX8_child_6 : decode cX8_child 6 = .ok (.aload_n 0, 1) := by decide +kernel
theorem dX8_child_7 : decode cX8_child 7 = .ok (.iload_n 1, 1) := by decide +kernel
theorem dX8_child_8 : decode cX8_child 8 = .ok (.invokevirtual 191, 3) := by decide +kernel
theorem dX8_child_11 : decode cX8_child 11 = .ok (.ifCond .eq 22, 3) := by decide +kernel
theorem dX8_child_14 : decode cX8_child 14 = .ok (.iload_n 2, 1) := by decide +kernel
theorem dX8_child_15 : decode cX8_child 15 = .ok (.iconst 0, 1) := by decide +kernel
theorem dX8_child_16 : decode cX8_child 16 = .ok (.aload_n 0, 1) := by decide +kernel
theorem dX8_child_17 : decode cX8_child 17 = .ok (.iload_n 1, 1) := by decide +kernel
theorem dX8_child_18 : decode cX8_child 18 = .ok (.invokevirtual 287, 3) := by decide +kernel
theorem dX8_child_21 : decode cX8_child 21 = .ok (.iconst 1, 1) := by decide +kernel
theorem dX8_child_22 : decode cX8_child 22 = .ok (.isub, 1) := by decide +kernel
theorem dX8_child_23 : decode cX8_child 23 = .ok (.invokestatic 53, 3) := by decide +kernel
theorem dX8_child_26 : decode cX8_child 26 = .ok (.ifCond .eq 7, 3) := by decide +kernel
theorem dX8_child_29 : decode cX8_child 29 = .ok (.iconst 1, 1) := by decide +kernel
theorem dX8_child_30 : decode cX8_child 30 = .ok (.goto 4, 3) := by decide +kernel
theorem dX8_child_33 : decode cX8_child 33 = .ok (.iconst 0, 1) := by decide +kernel
theorem dX8_child_34 : decode cX8_child 34 = .ok (.iconst 1, 1) := by decide +kernel
theorem dX8_child_35 : decode cX8_child 35 = .ok (.invokevirtual 49, 3) := by decide +kernel
theorem dX8_child_38 : decode cX8_child 38 = .ok (.ifCond .eq 7, 3) := by decide +kernel
theorem dX8_child_41 : decode cX8_child 41 = .ok (.iconst 0, 1) := by decide +kernel
theorem dX8_child_42 : decode cX8_child 42 = .ok (.goto 9, 3) := by decide +kernel
theorem dX8_child_45 : decode cX8_child 45 = .ok (.aload_n 0, 1) := by decide +kernel
theorem dX8_child_46 : decode cX8_child 46 = .ok (.iload_n 1, 1) := by decide +kernel
theorem dX8_child_47 : decode cX8_child 47 = .ok (.iload_n 2, 1) := by decide +kernel
theorem dX8_child_48 : decode cX8_child 48 = .ok (.invokevirtual 290, 3) := by decide +kernel
theorem dX8_child_51 : decode cX8_child 51 = .ok (.ireturn, 1) := by decide +kernel
theorem dX8_find_0 : decode cX8_find 0 = .ok (.aload_n 0, 1) := by decide +kernel
theorem dX8_find_1 : decode cX8_find 1 = .ok (.iconst 0, 1) := by decide +kernel
theorem dX8_find_2 : decode cX8_find 2 = .ok (.putfield 38, 3) := by decide +kernel
theorem dX8_find_5 : decode cX8_find 5 = .ok (.aload_n 0, 1) := by decide +kernel
theorem dX8_find_6 : decode cX8_find 6 = .ok (.aload_n 0, 1) := by decide +kernel
theorem dX8_find_7 : decode cX8_find 7 = .ok (.iload_n 1, 1) := by decide +kernel
theorem dX8_find_8 : decode cX8_find 8 = .ok (.invokevirtual 191, 3) := by decide +kernel
theorem dX8_find_11 : decode cX8_find 11 = .ok (.iconst 1, 1) := by decide +kernel
theorem dX8_find_12 : decode cX8_find 12 = .ok (.invokevirtual 49, 3) := by decide +kernel
theorem dX8_find_15 : decode cX8_find 15 = .ok (.ifCond .ne 26, 3) := by decide +kernel
theorem dX8_find_18 : decode cX8_find 18 = .ok (.aload_n 0, 1) := by decide +kernel
theorem dX8_find_19 : decode cX8_find 19 = .ok (.aload_n 0, 1) := by decide +kernel
theorem dX8_find_20 : decode cX8_find 20 = .ok (.iload_n 1, 1) := by decide +kernel
theorem dX8_find_21 : decode cX8_find 21 = .ok (.iload_n 2, 1) := by decide +kernel
theorem dX8_find_22 : decode cX8_find 22 = .ok (.invokevirtual 238, 3) := by decide +kernel
theorem dX8_find_25 : decode cX8_find 25 = .ok (.iconst (-1), 1) := by decide +kernel
theorem dX8_find_26 : decode cX8_find 26 = .ok (.if_icmp .eq 7, 3) := by decide +kernel
theorem dX8_find_29 : decode cX8_find 29 = .ok (.iconst 1, 1) := by decide +kernel
theorem dX8_find_30 : decode cX8_find 30 = .ok (.goto 4, 3) := by decide +kernel
theorem dX8_find_33 : decode cX8_find 33 = .ok (.iconst 0, 1) := by decide +kernel
theorem dX8_find_34 : decode cX8_find 34 = .ok (.iconst 2, 1) := by decide +kernel
theorem dX8_find_35 : decode cX8_find 35 = .ok (.invokevirtual 49, 3) := by decide +kernel
theorem dX8_find_38 : decode cX8_find 38 = .ok (.ifCond .eq 7, 3) := by decide +kernel
theorem dX8_find_41 : decode cX8_find 41 = .ok (.iconst 0, 1) := by decide +kernel
theorem dX8_find_42 : decode cX8_find 42 = .ok (.goto 9, 3) := by decide +kernel
theorem dX8_find_45 : decode cX8_find 45 = .ok (.aload_n 0, 1) := by decide +kernel
theorem dX8_find_46 : decode cX8_find 46 = .ok (.iload_n 1, 1) := by decide +kernel
theorem dX8_find_47 : decode cX8_find 47 = .ok (.iload_n 2, 1) := by decide +kernel
theorem dX8_find_48 : decode cX8_find 48 = .ok (.invokevirtual 238, 3) := by decide +kernel
theorem dX8_find_51 : decode cX8_find 51 = .ok (.ireturn, 1) := by decide +kernel
theorem dX8_sizeOf_0 : decode cX8_sizeOf 0 = .ok (.iconst 0, 1) := by decide +kernel
theorem dX8_sizeOf_1 : decode cX8_sizeOf 1 = .ok (.istore_n 2, 1) := by decide +kernel
theorem dX8_sizeOf_2 : decode cX8_sizeOf 2 = .ok (.iload_n 1, 1) := by decide +kernel
theorem dX8_sizeOf_3 : decode cX8_sizeOf 3 = .ok (.istore_n 3, 1) := by decide +kernel
theorem dX8_sizeOf_4 : decode cX8_sizeOf 4 = .ok (.iload_n 3, 1) := by decide +kernel
theorem dX8_sizeOf_5 : decode cX8_sizeOf 5 = .ok (.aload_n 0, 1) := by decide +kernel
theorem dX8_sizeOf_6 : decode cX8_sizeOf 6 = .ok (.getfield 13, 3) := by decide +kernel
theorem dX8_sizeOf_9 : decode cX8_sizeOf 9 = .ok (.iconst 3, 1) := by decide +kernel
theorem dX8_sizeOf_10 : decode cX8_sizeOf 10 = .ok (.iaload, 1) := by decide +kernel
theorem dX8_sizeOf_11 : decode cX8_sizeOf 11 = .ok (.if_icmp .ge 34, 3) := by decide +kernel
theorem dX8_sizeOf_14 : decode cX8_sizeOf 14 = .ok (.iload_n 2, 1) := by decide +kernel
theorem dX8_sizeOf_15 : decode cX8_sizeOf 15 = .ok (.aload_n 0, 1) := by decide +kernel
theorem dX8_sizeOf_16 : decode cX8_sizeOf 16 = .ok (.iload_n 3, 1) := by decide +kernel
theorem dX8_sizeOf_17 : decode cX8_sizeOf 17 = .ok (.invokevirtual 194, 3) := by decide +kernel
theorem dX8_sizeOf_20 : decode cX8_sizeOf 20 = .ok (.ifCond .eq 16, 3) := by decide +kernel
theorem dX8_sizeOf_23 : decode cX8_sizeOf 23 = .ok (.aload_n 0, 1) := by decide +kernel
theorem dX8_sizeOf_24 : decode cX8_sizeOf 24 = .ok (.iload_n 3, 1) := by decide +kernel
theorem dX8_sizeOf_25 : decode cX8_sizeOf 25 = .ok (.iload_n 1, 1) := by decide +kernel
theorem dX8_sizeOf_26 : decode cX8_sizeOf 26 = .ok (.invokevirtual 180, 3) := by decide +kernel
theorem dX8_sizeOf_29 : decode cX8_sizeOf 29 = .ok (.ifCond .eq 7, 3) := by decide +kernel
theorem dX8_sizeOf_32 : decode cX8_sizeOf 32 = .ok (.iconst 1, 1) := by decide +kernel
theorem dX8_sizeOf_33 : decode cX8_sizeOf 33 = .ok (.goto 4, 3) := by decide +kernel
theorem dX8_sizeOf_36 : decode cX8_sizeOf 36 = .ok (.iconst 0, 1) := by decide +kernel
theorem dX8_sizeOf_37 : decode cX8_sizeOf 37 = .ok (.iadd, 1) := by decide +kernel
theorem dX8_sizeOf_38 : decode cX8_sizeOf 38 = .ok (.istore_n 2, 1) := by decide +kernel
theorem dX8_sizeOf_39 : decode cX8_sizeOf 39 = .ok (.iinc 3 1, 3) := by decide +kernel
theorem dX8_sizeOf_42 : decode cX8_sizeOf 42 = .ok (.goto (-38), 3) := by decide +kernel
theorem dX8_sizeOf_45 : decode cX8_sizeOf 45 = .ok (.iload_n 2, 1) := by decide +kernel
theorem dX8_sizeOf_46 : decode cX8_sizeOf 46 = .ok (.ireturn, 1) := by decide +kernel
theorem dX8_walk_0 : decode cX8_walk 0 = .ok (.aload_n 0, 1) := by decide +kernel
theorem dX8_walk_1 : decode cX8_walk 1 = .ok (.iconst 0, 1) := by decide +kernel
theorem dX8_walk_2 : decode cX8_walk 2 = .ok (.putfield 38, 3) := by decide +kernel
theorem dX8_walk_5 : decode cX8_walk 5 = .ok (.aload_n 0, 1) := by decide +kernel
theorem dX8_walk_6 : decode cX8_walk 6 = .ok (.aload_n 0, 1) := by decide +kernel
theorem dX8_walk_7 : decode cX8_walk 7 = .ok (.iload_n 1, 1) := by decide +kernel
theorem dX8_walk_8 : decode cX8_walk 8 = .ok (.invokevirtual 191, 3) := by decide +kernel
theorem dX8_walk_11 : decode cX8_walk 11 = .ok (.ifCond .eq 22, 3) := by decide +kernel
theorem dX8_walk_14 : decode cX8_walk 14 = .ok (.iload_n 2, 1) := by decide +kernel
theorem dX8_walk_15 : decode cX8_walk 15 = .ok (.iconst 0, 1) := by decide +kernel
theorem dX8_walk_16 : decode cX8_walk 16 = .ok (.aload_n 0, 1) := by decide +kernel
theorem dX8_walk_17 : decode cX8_walk 17 = .ok (.iload_n 1, 1) := by decide +kernel
theorem dX8_walk_18 : decode cX8_walk 18 = .ok (.invokevirtual 293, 3) := by decide +kernel
theorem dX8_walk_21 : decode cX8_walk 21 = .ok (.iconst 1, 1) := by decide +kernel
theorem dX8_walk_22 : decode cX8_walk 22 = .ok (.isub, 1) := by decide +kernel
theorem dX8_walk_23 : decode cX8_walk 23 = .ok (.invokestatic 53, 3) := by decide +kernel
theorem dX8_walk_26 : decode cX8_walk 26 = .ok (.ifCond .eq 7, 3) := by decide +kernel
theorem dX8_walk_29 : decode cX8_walk 29 = .ok (.iconst 1, 1) := by decide +kernel
theorem dX8_walk_30 : decode cX8_walk 30 = .ok (.goto 4, 3) := by decide +kernel
theorem dX8_walk_33 : decode cX8_walk 33 = .ok (.iconst 0, 1) := by decide +kernel
theorem dX8_walk_34 : decode cX8_walk 34 = .ok (.iconst 1, 1) := by decide +kernel
theorem dX8_walk_35 : decode cX8_walk 35 = .ok (.invokevirtual 49, 3) := by decide +kernel
theorem dX8_walk_38 : decode cX8_walk 38 = .ok (.ifCond .eq 5, 3) := by decide +kernel
theorem dX8_walk_41 : decode cX8_walk 41 = .ok (.iconst 0, 1) := by decide +kernel
theorem dX8_walk_42 : decode cX8_walk 42 = .ok (.ireturn, 1) := by decide +kernel
theorem dX8_walk_43 : decode cX8_walk 43 = .ok (.iload_n 1, 1) := by decide +kernel
theorem dX8_walk_44 : decode cX8_walk 44 = .ok (.istore_n 3, 1) := by decide +kernel
theorem dX8_walk_45 : decode cX8_walk 45 = .ok (.iload_n 2, 1) := by decide +kernel
theorem dX8_walk_46 : decode cX8_walk 46 = .ok (.istore 4, 2) := by decide +kernel
theorem dX8_walk_48 : decode cX8_walk 48 = .ok (.iload 4, 2) := by decide +kernel
theorem dX8_walk_50 : decode cX8_walk 50 = .ok (.ifCond .le 58, 3) := by decide +kernel
theorem dX8_walk_53 : decode cX8_walk 53 = .ok (.iinc 4 (-1), 3) := by decide +kernel
theorem dX8_walk_56 : decode cX8_walk 56 = .ok (.iconst 0, 1) := by decide +kernel
theorem dX8_walk_57 : decode cX8_walk 57 = .ok (.istore 5, 2) := by decide +kernel
theorem dX8_walk_59 : decode cX8_walk 59 = .ok (.iload 4, 2) := by decide +kernel
theorem dX8_walk_61 : decode cX8_walk 61 = .ok (.aload_n 0, 1) := by decide +kernel
theorem dX8_walk_62 : decode cX8_walk 62 = .ok (.aload_n 0, 1) := by decide +kernel
theorem dX8_walk_63 : decode cX8_walk 63 = .ok (.iload_n 3, 1) := by decide +kernel
theorem dX8_walk_64 : decode cX8_walk 64 = .ok (.iload 5, 2) := by decide +kernel
theorem dX8_walk_66 : decode cX8_walk 66 = .ok (.invokevirtual 290, 3) := by decide +kernel
theorem dX8_walk_69 : decode cX8_walk 69 = .ok (.invokevirtual 293, 3) := by decide +kernel
theorem dX8_walk_72 : decode cX8_walk 72 = .ok (.if_icmp .lt 25, 3) := by decide +kernel
theorem dX8_walk_75 : decode cX8_walk 75 = .ok (.iload 4, 2) := by decide +kernel
theorem dX8_walk_77 : decode cX8_walk 77 = .ok (.aload_n 0, 1) := by decide +kernel
theorem dX8_walk_78 : decode cX8_walk 78 = .ok (.aload_n 0, 1) := by decide +kernel
theorem dX8_walk_79 : decode cX8_walk 79 = .ok (.iload_n 3, 1) := by decide +kernel
theorem dX8_walk_80 : decode cX8_walk 80 = .ok (.iload 5, 2) := by decide +kernel
theorem dX8_walk_82 : decode cX8_walk 82 = .ok (.invokevirtual 290, 3) := by decide +kernel
theorem dX8_walk_85 : decode cX8_walk 85 = .ok (.invokevirtual 293, 3) := by decide +kernel
theorem dX8_walk_88 : decode cX8_walk 88 = .ok (.isub, 1) := by decide +kernel
theorem dX8_walk_89 : decode cX8_walk 89 = .ok (.istore 4, 2) := by decide +kernel
theorem dX8_walk_91 : decode cX8_walk 91 = .ok (.iinc 5 1, 3) := by decide +kernel
theorem dX8_walk_94 : decode cX8_walk 94 = .ok (.goto (-35), 3) := by decide +kernel
theorem dX8_walk_97 : decode cX8_walk 97 = .ok (.aload_n 0, 1) := by decide +kernel
theorem dX8_walk_98 : decode cX8_walk 98 = .ok (.iload_n 3, 1) := by decide +kernel
theorem dX8_walk_99 : decode cX8_walk 99 = .ok (.iload 5, 2) := by decide +kernel
theorem dX8_walk_101 : decode cX8_walk 101 = .ok (.invokevirtual 290, 3) := by decide +kernel
theorem dX8_walk_104 : decode cX8_walk 104 = .ok (.istore_n 3, 1) := by decide +kernel
theorem dX8_walk_105 : decode cX8_walk 105 = .ok (.goto (-57), 3) := by decide +kernel
theorem dX8_walk_108 : decode cX8_walk 108 = .ok (.iload_n 3, 1) := by decide +kernel
theorem dX8_walk_109 : decode cX8_walk 109 = .ok (.ireturn, 1) := by decide +kernel
theorem dX8_size_0 : decode cX8_size 0 = .ok (.aload_n 0, 1) := by decide +kernel
theorem dX8_size_1 : decode cX8_size 1 = .ok (.iconst 0, 1) := by decide +kernel
theorem dX8_size_2 : decode cX8_size 2 = .ok (.putfield 38, 3) := by decide +kernel
theorem dX8_size_5 : decode cX8_size 5 = .ok (.aload_n 0, 1) := by decide +kernel
theorem dX8_size_6 : decode cX8_size 6 = .ok (.aload_n 0, 1) := by decide +kernel
theorem dX8_size_7 : decode cX8_size 7 = .ok (.iload_n 1, 1) := by decide +kernel
theorem dX8_size_8 : decode cX8_size 8 = .ok (.invokevirtual 191, 3) := by decide +kernel
theorem dX8_size_11 : decode cX8_size 11 = .ok (.iconst 1, 1) := by decide +kernel
theorem dX8_size_12 : decode cX8_size 12 = .ok (.invokevirtual 49, 3) := by decide +kernel
theorem dX8_size_15 : decode cX8_size 15 = .ok (.ifCond .eq 7, 3) := by decide +kernel
theorem dX8_size_18 : decode cX8_size 18 = .ok (.iconst 0, 1) := by decide +kernel
theorem dX8_size_19 : decode cX8_size 19 = .ok (.goto 8, 3) := by decide +kernel
theorem dX8_size_22 : decode cX8_size 22 = .ok (.aload_n 0, 1) := by decide +kernel
theorem dX8_size_23 : decode cX8_size 23 = .ok (.iload_n 1, 1) := by decide +kernel
theorem dX8_size_24 : decode cX8_size 24 = .ok (.invokevirtual 293, 3) := by decide +kernel
theorem dX8_size_27 : decode cX8_size 27 = .ok (.ireturn, 1) := by decide +kernel
theorem dX8_isCounted_0 : decode cX8_isCounted 0 = .ok (.aload_n 0, 1) := by decide +kernel
theorem dX8_isCounted_1 : decode cX8_isCounted 1 = .ok (.iload_n 1, 1) := by decide +kernel
theorem dX8_isCounted_2 : decode cX8_isCounted 2 = .ok (.invokevirtual 194, 3) := by decide +kernel
theorem dX8_isCounted_5 : decode cX8_isCounted 5 = .ok (.ifCond .eq 30, 3) := by decide +kernel
theorem dX8_isCounted_8 : decode cX8_isCounted 8 = .ok (.aload_n 0, 1) := by decide +kernel
theorem dX8_isCounted_9 : decode cX8_isCounted 9 = .ok (.getfield 13, 3) := by decide +kernel
theorem dX8_isCounted_12 : decode cX8_isCounted 12 = .ok (.sipush 131, 3) := by decide +kernel
theorem dX8_isCounted_15 : decode cX8_isCounted 15 = .ok (.iload_n 1, 1) := by decide +kernel
theorem dX8_isCounted_16 : decode cX8_isCounted 16 = .ok (.iadd, 1) := by decide +kernel
theorem dX8_isCounted_17 : decode cX8_isCounted 17 = .ok (.iaload, 1) := by decide +kernel
theorem dX8_isCounted_18 : decode cX8_isCounted 18 = .ok (.iconst 1, 1) := by decide +kernel
theorem dX8_isCounted_19 : decode cX8_isCounted 19 = .ok (.if_icmp .ne 16, 3) := by decide +kernel
theorem dX8_isCounted_22 : decode cX8_isCounted 22 = .ok (.aload_n 0, 1) := by decide +kernel
theorem dX8_isCounted_23 : decode cX8_isCounted 23 = .ok (.iload_n 1, 1) := by decide +kernel
theorem dX8_isCounted_24 : decode cX8_isCounted 24 = .ok (.iload_n 2, 1) := by decide +kernel
theorem dX8_isCounted_25 : decode cX8_isCounted 25 = .ok (.invokevirtual 180, 3) := by decide +kernel
theorem dX8_isCounted_28 : decode cX8_isCounted 28 = .ok (.ifCond .eq 7, 3) := by decide +kernel
theorem dX8_isCounted_31 : decode cX8_isCounted 31 = .ok (.iconst 1, 1) := by decide +kernel
theorem dX8_isCounted_32 : decode cX8_isCounted 32 = .ok (.goto 4, 3) := by decide +kernel
theorem dX8_isCounted_35 : decode cX8_isCounted 35 = .ok (.iconst 0, 1) := by decide +kernel
theorem dX8_isCounted_36 : decode cX8_isCounted 36 = .ok (.ireturn, 1) := by decide +kernel
theorem dX8_total_0 : decode cX8_total 0 = .ok (.aload_n 0, 1) := by decide +kernel
theorem dX8_total_1 : decode cX8_total 1 = .ok (.iconst 0, 1) := by decide +kernel
theorem dX8_total_2 : decode cX8_total 2 = .ok (.putfield 38, 3) := by decide +kernel
theorem dX8_total_5 : decode cX8_total 5 = .ok (.aload_n 0, 1) := by decide +kernel
theorem dX8_total_6 : decode cX8_total 6 = .ok (.aload_n 0, 1) := by decide +kernel
theorem dX8_total_7 : decode cX8_total 7 = .ok (.iload_n 1, 1) := by decide +kernel
theorem dX8_total_8 : decode cX8_total 8 = .ok (.invokevirtual 191, 3) := by decide +kernel
theorem dX8_total_11 : decode cX8_total 11 = .ok (.ifCond .eq 15, 3) := by decide +kernel
theorem dX8_total_14 : decode cX8_total 14 = .ok (.aload_n 0, 1) := by decide +kernel
theorem dX8_total_15 : decode cX8_total 15 = .ok (.iload_n 2, 1) := by decide +kernel
theorem dX8_total_16 : decode cX8_total 16 = .ok (.invokevirtual 205, 3) := by decide +kernel
theorem dX8_total_19 : decode cX8_total 19 = .ok (.ifCond .eq 7, 3) := by decide +kernel
theorem dX8_total_22 : decode cX8_total 22 = .ok (.iconst 1, 1) := by decide +kernel
theorem dX8_total_23 : decode cX8_total 23 = .ok (.goto 4, 3) := by decide +kernel
theorem dX8_total_26 : decode cX8_total 26 = .ok (.iconst 0, 1) := by decide +kernel
theorem dX8_total_27 : decode cX8_total 27 = .ok (.iconst 1, 1) := by decide +kernel
theorem dX8_total_28 : decode cX8_total 28 = .ok (.invokevirtual 49, 3) := by decide +kernel
theorem dX8_total_31 : decode cX8_total 31 = .ok (.ifCond .eq 5, 3) := by decide +kernel
theorem dX8_total_34 : decode cX8_total 34 = .ok (.lconst 0, 1) := by decide +kernel
theorem dX8_total_35 : decode cX8_total 35 = .ok (.lreturn, 1) := by decide +kernel
theorem dX8_total_36 : decode cX8_total 36 = .ok (.lconst 0, 1) := by decide +kernel
theorem dX8_total_37 : decode cX8_total 37 = .ok (.lstore_n 3, 1) := by decide +kernel
theorem dX8_total_38 : decode cX8_total 38 = .ok (.iload_n 1, 1) := by decide +kernel
theorem dX8_total_39 : decode cX8_total 39 = .ok (.istore 5, 2) := by decide +kernel
theorem dX8_total_41 : decode cX8_total 41 = .ok (.iload 5, 2) := by decide +kernel
theorem dX8_total_43 : decode cX8_total 43 = .ok (.aload_n 0, 1) := by decide +kernel
theorem dX8_total_44 : decode cX8_total 44 = .ok (.getfield 13, 3) := by decide +kernel
theorem dX8_total_47 : decode cX8_total 47 = .ok (.iconst 3, 1) := by decide +kernel
theorem dX8_total_48 : decode cX8_total 48 = .ok (.iaload, 1) := by decide +kernel
theorem dX8_total_49 : decode cX8_total 49 = .ok (.if_icmp .ge 34, 3) := by decide +kernel
theorem dX8_total_52 : decode cX8_total 52 = .ok (.lload_n 3, 1) := by decide +kernel
theorem dX8_total_53 : decode cX8_total 53 = .ok (.aload_n 0, 1) := by decide +kernel
theorem dX8_total_54 : decode cX8_total 54 = .ok (.iload 5, 2) := by decide +kernel
theorem dX8_total_56 : decode cX8_total 56 = .ok (.iload_n 1, 1) := by decide +kernel
theorem dX8_total_57 : decode cX8_total 57 = .ok (.invokevirtual 296, 3) := by decide +kernel
theorem dX8_total_60 : decode cX8_total 60 = .ok (.ifCond .eq 14, 3) := by decide +kernel
theorem dX8_total_63 : decode cX8_total 63 = .ok (.aload_n 0, 1) := by decide +kernel
theorem dX8_total_64 : decode cX8_total 64 = .ok (.iload 5, 2) := by decide +kernel
theorem dX8_total_66 : decode cX8_total 66 = .ok (.iload_n 2, 1) := by decide +kernel
theorem dX8_total_67 : decode cX8_total 67 = .ok (.invokevirtual 203, 3) := by decide +kernel
theorem dX8_total_70 : decode cX8_total 70 = .ok (.i2l, 1) := by decide +kernel
theorem dX8_total_71 : decode cX8_total 71 = .ok (.goto 4, 3) := by decide +kernel
theorem dX8_total_74 : decode cX8_total 74 = .ok (.lconst 0, 1) := by decide +kernel
theorem dX8_total_75 : decode cX8_total 75 = .ok (.ladd, 1) := by decide +kernel
theorem dX8_total_76 : decode cX8_total 76 = .ok (.lstore_n 3, 1) := by decide +kernel
theorem dX8_total_77 : decode cX8_total 77 = .ok (.iinc 5 1, 3) := by decide +kernel
theorem dX8_total_80 : decode cX8_total 80 = .ok (.goto (-39), 3) := by decide +kernel
theorem dX8_total_83 : decode cX8_total 83 = .ok (.lload_n 3, 1) := by decide +kernel
theorem dX8_total_84 : decode cX8_total 84 = .ok (.lreturn, 1) := by decide +kernel
theorem dX8_greatest_0 : decode cX8_greatest 0 = .ok (.aload_n 0, 1) := by decide +kernel
theorem dX8_greatest_1 : decode cX8_greatest 1 = .ok (.iconst 0, 1) := by decide +kernel
theorem dX8_greatest_2 : decode cX8_greatest 2 = .ok (.putfield 38, 3) := by decide +kernel
theorem dX8_greatest_5 : decode cX8_greatest 5 = .ok (.aload_n 0, 1) := by decide +kernel
theorem dX8_greatest_6 : decode cX8_greatest 6 = .ok (.aload_n 0, 1) := by decide +kernel
theorem dX8_greatest_7 : decode cX8_greatest 7 = .ok (.iload_n 1, 1) := by decide +kernel
theorem dX8_greatest_8 : decode cX8_greatest 8 = .ok (.invokevirtual 191, 3) := by decide +kernel
theorem dX8_greatest_11 : decode cX8_greatest 11 = .ok (.ifCond .eq 15, 3) := by decide +kernel
theorem dX8_greatest_14 : decode cX8_greatest 14 = .ok (.aload_n 0, 1) := by decide +kernel
theorem dX8_greatest_15 : decode cX8_greatest 15 = .ok (.iload_n 2, 1) := by decide +kernel
theorem dX8_greatest_16 : decode cX8_greatest 16 = .ok (.invokevirtual 205, 3) := by decide +kernel
theorem dX8_greatest_19 : decode cX8_greatest 19 = .ok (.ifCond .eq 7, 3) := by decide +kernel
theorem dX8_greatest_22 : decode cX8_greatest 22 = .ok (.iconst 1, 1) := by decide +kernel
theorem dX8_greatest_23 : decode cX8_greatest 23 = .ok (.goto 4, 3) := by decide +kernel
theorem dX8_greatest_26 : decode cX8_greatest 26 = .ok (.iconst 0, 1) := by decide +kernel
theorem dX8_greatest_27 : decode cX8_greatest 27 = .ok (.iconst 1, 1) := by decide +kernel
theorem dX8_greatest_28 : decode cX8_greatest 28 = .ok (.invokevirtual 49, 3) := by decide +kernel
theorem dX8_greatest_31 : decode cX8_greatest 31 = .ok (.ifCond .eq 5, 3) := by decide +kernel
theorem dX8_greatest_34 : decode cX8_greatest 34 = .ok (.iconst 0, 1) := by decide +kernel
theorem dX8_greatest_35 : decode cX8_greatest 35 = .ok (.ireturn, 1) := by decide +kernel
theorem dX8_greatest_36 : decode cX8_greatest 36 = .ok (.iconst (-1), 1) := by decide +kernel
theorem dX8_greatest_37 : decode cX8_greatest 37 = .ok (.istore_n 3, 1) := by decide +kernel
theorem dX8_greatest_38 : decode cX8_greatest 38 = .ok (.iload_n 1, 1) := by decide +kernel
theorem dX8_greatest_39 : decode cX8_greatest 39 = .ok (.istore 4, 2) := by decide +kernel
theorem dX8_greatest_41 : decode cX8_greatest 41 = .ok (.iload 4, 2) := by decide +kernel
theorem dX8_greatest_43 : decode cX8_greatest 43 = .ok (.aload_n 0, 1) := by decide +kernel
theorem dX8_greatest_44 : decode cX8_greatest 44 = .ok (.getfield 13, 3) := by decide +kernel
theorem dX8_greatest_47 : decode cX8_greatest 47 = .ok (.iconst 3, 1) := by decide +kernel
theorem dX8_greatest_48 : decode cX8_greatest 48 = .ok (.iaload, 1) := by decide +kernel
theorem dX8_greatest_49 : decode cX8_greatest 49 = .ok (.if_icmp .ge 47, 3) := by decide +kernel
theorem dX8_greatest_52 : decode cX8_greatest 52 = .ok (.aload_n 0, 1) := by decide +kernel
theorem dX8_greatest_53 : decode cX8_greatest 53 = .ok (.iload 4, 2) := by decide +kernel
theorem dX8_greatest_55 : decode cX8_greatest 55 = .ok (.iload_n 1, 1) := by decide +kernel
theorem dX8_greatest_56 : decode cX8_greatest 56 = .ok (.invokevirtual 296, 3) := by decide +kernel
theorem dX8_greatest_59 : decode cX8_greatest 59 = .ok (.ifCond .eq 29, 3) := by decide +kernel
theorem dX8_greatest_62 : decode cX8_greatest 62 = .ok (.iload_n 3, 1) := by decide +kernel
theorem dX8_greatest_63 : decode cX8_greatest 63 = .ok (.iconst (-1), 1) := by decide +kernel
theorem dX8_greatest_64 : decode cX8_greatest 64 = .ok (.if_icmp .eq 19, 3) := by decide +kernel
theorem dX8_greatest_67 : decode cX8_greatest 67 = .ok (.aload_n 0, 1) := by decide +kernel
theorem dX8_greatest_68 : decode cX8_greatest 68 = .ok (.iload 4, 2) := by decide +kernel
theorem dX8_greatest_70 : decode cX8_greatest 70 = .ok (.iload_n 2, 1) := by decide +kernel
theorem dX8_greatest_71 : decode cX8_greatest 71 = .ok (.invokevirtual 203, 3) := by decide +kernel
theorem dX8_greatest_74 : decode cX8_greatest 74 = .ok (.aload_n 0, 1) := by decide +kernel
theorem dX8_greatest_75 : decode cX8_greatest 75 = .ok (.iload_n 3, 1) := by decide +kernel
theorem dX8_greatest_76 : decode cX8_greatest 76 = .ok (.iload_n 2, 1) := by decide +kernel
theorem dX8_greatest_77 : decode cX8_greatest 77 = .ok (.invokevirtual 203, 3) := by decide +kernel
theorem dX8_greatest_80 : decode cX8_greatest 80 = .ok (.if_icmp .le 8, 3) := by decide +kernel
theorem dX8_greatest_83 : decode cX8_greatest 83 = .ok (.iload 4, 2) := by decide +kernel
theorem dX8_greatest_85 : decode cX8_greatest 85 = .ok (.goto 4, 3) := by decide +kernel
theorem dX8_greatest_88 : decode cX8_greatest 88 = .ok (.iload_n 3, 1) := by decide +kernel
theorem dX8_greatest_89 : decode cX8_greatest 89 = .ok (.istore_n 3, 1) := by decide +kernel
theorem dX8_greatest_90 : decode cX8_greatest 90 = .ok (.iinc 4 1, 3) := by decide +kernel
theorem dX8_greatest_93 : decode cX8_greatest 93 = .ok (.goto (-52), 3) := by decide +kernel
theorem dX8_greatest_96 : decode cX8_greatest 96 = .ok (.aload_n 0, 1) := by decide +kernel
theorem dX8_greatest_97 : decode cX8_greatest 97 = .ok (.iload_n 3, 1) := by decide +kernel
theorem dX8_greatest_98 : decode cX8_greatest 98 = .ok (.iconst (-1), 1) := by decide +kernel
theorem dX8_greatest_99 : decode cX8_greatest 99 = .ok (.if_icmp .eq 7, 3) := by decide +kernel
theorem dX8_greatest_102 : decode cX8_greatest 102 = .ok (.iconst 1, 1) := by decide +kernel
theorem dX8_greatest_103 : decode cX8_greatest 103 = .ok (.goto 4, 3) := by decide +kernel
theorem dX8_greatest_106 : decode cX8_greatest 106 = .ok (.iconst 0, 1) := by decide +kernel
theorem dX8_greatest_107 : decode cX8_greatest 107 = .ok (.iconst 2, 1) := by decide +kernel
theorem dX8_greatest_108 : decode cX8_greatest 108 = .ok (.invokevirtual 49, 3) := by decide +kernel
theorem dX8_greatest_111 : decode cX8_greatest 111 = .ok (.ifCond .eq 7, 3) := by decide +kernel
theorem dX8_greatest_114 : decode cX8_greatest 114 = .ok (.iconst 0, 1) := by decide +kernel
theorem dX8_greatest_115 : decode cX8_greatest 115 = .ok (.goto 4, 3) := by decide +kernel
theorem dX8_greatest_118 : decode cX8_greatest 118 = .ok (.iload_n 3, 1) := by decide +kernel
theorem dX8_greatest_119 : decode cX8_greatest 119 = .ok (.ireturn, 1) := by decide +kernel
theorem dX8_leased_0 : decode cX8_leased 0 = .ok (.aload_n 0, 1) := by decide +kernel
theorem dX8_leased_1 : decode cX8_leased 1 = .ok (.iconst 0, 1) := by decide +kernel
theorem dX8_leased_2 : decode cX8_leased 2 = .ok (.putfield 38, 3) := by decide +kernel
theorem dX8_leased_5 : decode cX8_leased 5 = .ok (.aload_n 0, 1) := by decide +kernel
theorem dX8_leased_6 : decode cX8_leased 6 = .ok (.aload_n 0, 1) := by decide +kernel
theorem dX8_leased_7 : decode cX8_leased 7 = .ok (.iload_n 1, 1) := by decide +kernel
theorem dX8_leased_8 : decode cX8_leased 8 = .ok (.invokevirtual 188, 3) := by decide +kernel
theorem dX8_leased_11 : decode cX8_leased 11 = .ok (.iconst 1, 1) := by decide +kernel
theorem dX8_leased_12 : decode cX8_leased 12 = .ok (.invokevirtual 49, 3) := by decide +kernel
theorem dX8_leased_15 : decode cX8_leased 15 = .ok (.ifCond .ne 17, 3) := by decide +kernel
theorem dX8_leased_18 : decode cX8_leased 18 = .ok (.aload_n 0, 1) := by decide +kernel
theorem dX8_leased_19 : decode cX8_leased 19 = .ok (.iload_n 2, 1) := by decide +kernel
theorem dX8_leased_20 : decode cX8_leased 20 = .ok (.iconst 0, 1) := by decide +kernel
theorem dX8_leased_21 : decode cX8_leased 21 = .ok (.iconst 2, 1) := by decide +kernel
theorem dX8_leased_22 : decode cX8_leased 22 = .ok (.invokestatic 53, 3) := by decide +kernel
theorem dX8_leased_25 : decode cX8_leased 25 = .ok (.iconst 2, 1) := by decide +kernel
theorem dX8_leased_26 : decode cX8_leased 26 = .ok (.invokevirtual 49, 3) := by decide +kernel
theorem dX8_leased_29 : decode cX8_leased 29 = .ok (.ifCond .eq 5, 3) := by decide +kernel
theorem dX8_leased_32 : decode cX8_leased 32 = .ok (.iconst 0, 1) := by decide +kernel
theorem dX8_leased_33 : decode cX8_leased 33 = .ok (.ireturn, 1) := by decide +kernel
theorem dX8_leased_34 : decode cX8_leased 34 = .ok (.aload_n 0, 1) := by decide +kernel
theorem dX8_leased_35 : decode cX8_leased 35 = .ok (.iload_n 1, 1) := by decide +kernel
theorem dX8_leased_36 : decode cX8_leased 36 = .ok (.invokevirtual 177, 3) := by decide +kernel
theorem dX8_leased_39 : decode cX8_leased 39 = .ok (.ifCond .eq 20, 3) := by decide +kernel
theorem dX8_leased_42 : decode cX8_leased 42 = .ok (.aload_n 0, 1) := by decide +kernel
theorem dX8_leased_43 : decode cX8_leased 43 = .ok (.getfield 13, 3) := by decide +kernel
theorem dX8_leased_46 : decode cX8_leased 46 = .ok (.sipush 611, 3) := by decide +kernel
theorem dX8_leased_49 : decode cX8_leased 49 = .ok (.iconst 3, 1) := by decide +kernel
theorem dX8_leased_50 : decode cX8_leased 50 = .ok (.iload_n 1, 1) := by decide +kernel
theorem dX8_leased_51 : decode cX8_leased 51 = .ok (.imul, 1) := by decide +kernel
theorem dX8_leased_52 : decode cX8_leased 52 = .ok (.iadd, 1) := by decide +kernel
theorem dX8_leased_53 : decode cX8_leased 53 = .ok (.iload_n 2, 1) := by decide +kernel
theorem dX8_leased_54 : decode cX8_leased 54 = .ok (.iadd, 1) := by decide +kernel
theorem dX8_leased_55 : decode cX8_leased 55 = .ok (.iaload, 1) := by decide +kernel
theorem dX8_leased_56 : decode cX8_leased 56 = .ok (.goto 4, 3) := by decide +kernel
theorem dX8_leased_59 : decode cX8_leased 59 = .ok (.iconst (-1), 1) := by decide +kernel
theorem dX8_leased_60 : decode cX8_leased 60 = .ok (.ireturn, 1) := by decide +kernel
theorem dX8_blockers_0 : decode cX8_blockers 0 = .ok (.aload_n 0, 1) := by decide +kernel
theorem dX8_blockers_1 : decode cX8_blockers 1 = .ok (.iconst 0, 1) := by decide +kernel
theorem dX8_blockers_2 : decode cX8_blockers 2 = .ok (.putfield 38, 3) := by decide +kernel
theorem dX8_blockers_5 : decode cX8_blockers 5 = .ok (.aload_n 0, 1) := by decide +kernel
theorem dX8_blockers_6 : decode cX8_blockers 6 = .ok (.aload_n 0, 1) := by decide +kernel
theorem dX8_blockers_7 : decode cX8_blockers 7 = .ok (.iload_n 1, 1) := by decide +kernel
theorem dX8_blockers_8 : decode cX8_blockers 8 = .ok (.invokevirtual 188, 3) := by decide +kernel
theorem dX8_blockers_11 : decode cX8_blockers 11 = .ok (.ifCond .eq 15, 3) := by decide +kernel
theorem dX8_blockers_14 : decode cX8_blockers 14 = .ok (.aload_n 0, 1) := by decide +kernel
theorem dX8_blockers_15 : decode cX8_blockers 15 = .ok (.iload_n 2, 1) := by decide +kernel
theorem dX8_blockers_16 : decode cX8_blockers 16 = .ok (.invokevirtual 191, 3) := by decide +kernel
theorem dX8_blockers_19 : decode cX8_blockers 19 = .ok (.ifCond .eq 7, 3) := by decide +kernel
theorem dX8_blockers_22 : decode cX8_blockers 22 = .ok (.iconst 1, 1) := by decide +kernel
theorem dX8_blockers_23 : decode cX8_blockers 23 = .ok (.goto 4, 3) := by decide +kernel
theorem dX8_blockers_26 : decode cX8_blockers 26 = .ok (.iconst 0, 1) := by decide +kernel
theorem dX8_blockers_27 : decode cX8_blockers 27 = .ok (.iconst 1, 1) := by decide +kernel
theorem dX8_blockers_28 : decode cX8_blockers 28 = .ok (.invokevirtual 49, 3) := by decide +kernel
theorem dX8_blockers_31 : decode cX8_blockers 31 = .ok (.ifCond .eq 7, 3) := by decide +kernel
theorem dX8_blockers_34 : decode cX8_blockers 34 = .ok (.iconst 0, 1) := by decide +kernel
theorem dX8_blockers_35 : decode cX8_blockers 35 = .ok (.goto 10, 3) := by decide +kernel
theorem dX8_blockers_38 : decode cX8_blockers 38 = .ok (.aload_n 0, 1) := by decide +kernel
theorem dX8_blockers_39 : decode cX8_blockers 39 = .ok (.iload_n 1, 1) := by decide +kernel
theorem dX8_blockers_40 : decode cX8_blockers 40 = .ok (.iload_n 2, 1) := by decide +kernel
theorem dX8_blockers_41 : decode cX8_blockers 41 = .ok (.iload_n 3, 1) := by decide +kernel
theorem dX8_blockers_42 : decode cX8_blockers 42 = .ok (.invokevirtual 197, 3) := by decide +kernel
theorem dX8_blockers_45 : decode cX8_blockers 45 = .ok (.ireturn, 1) := by decide +kernel
theorem dX8_nextEnd_0 : decode cX8_nextEnd 0 = .ok (.aload_n 0, 1) := by decide +kernel
theorem dX8_nextEnd_1 : decode cX8_nextEnd 1 = .ok (.iconst 0, 1) := by decide +kernel
theorem dX8_nextEnd_2 : decode cX8_nextEnd 2 = .ok (.putfield 38, 3) := by decide +kernel
theorem dX8_nextEnd_5 : decode cX8_nextEnd 5 = .ok (.ldc_w 301, 3) := by decide +kernel
theorem dX8_nextEnd_8 : decode cX8_nextEnd 8 = .ok (.istore_n 1, 1) := by decide +kernel
theorem dX8_nextEnd_9 : decode cX8_nextEnd 9 = .ok (.iconst 0, 1) := by decide +kernel
theorem dX8_nextEnd_10 : decode cX8_nextEnd 10 = .ok (.istore_n 2, 1) := by decide +kernel
theorem dX8_nextEnd_11 : decode cX8_nextEnd 11 = .ok (.iload_n 2, 1) := by decide +kernel
theorem dX8_nextEnd_12 : decode cX8_nextEnd 12 = .ok (.aload_n 0, 1) := by decide +kernel
theorem dX8_nextEnd_13 : decode cX8_nextEnd 13 = .ok (.getfield 13, 3) := by decide +kernel
theorem dX8_nextEnd_16 : decode cX8_nextEnd 16 = .ok (.iconst 2, 1) := by decide +kernel
theorem dX8_nextEnd_17 : decode cX8_nextEnd 17 = .ok (.iaload, 1) := by decide +kernel
theorem dX8_nextEnd_18 : decode cX8_nextEnd 18 = .ok (.if_icmp .ge 40, 3) := by decide +kernel
theorem dX8_nextEnd_21 : decode cX8_nextEnd 21 = .ok (.aload_n 0, 1) := by decide +kernel
theorem dX8_nextEnd_22 : decode cX8_nextEnd 22 = .ok (.iload_n 2, 1) := by decide +kernel
theorem dX8_nextEnd_23 : decode cX8_nextEnd 23 = .ok (.invokevirtual 177, 3) := by decide +kernel
theorem dX8_nextEnd_26 : decode cX8_nextEnd 26 = .ok (.ifCond .eq 24, 3) := by decide +kernel
theorem dX8_nextEnd_29 : decode cX8_nextEnd 29 = .ok (.iload_n 1, 1) := by decide +kernel
theorem dX8_nextEnd_30 : decode cX8_nextEnd 30 = .ok (.aload_n 0, 1) := by decide +kernel
theorem dX8_nextEnd_31 : decode cX8_nextEnd 31 = .ok (.getfield 13, 3) := by decide +kernel
theorem dX8_nextEnd_34 : decode cX8_nextEnd 34 = .ok (.sipush 611, 3) := by decide +kernel
theorem dX8_nextEnd_37 : decode cX8_nextEnd 37 = .ok (.iconst 3, 1) := by decide +kernel
theorem dX8_nextEnd_38 : decode cX8_nextEnd 38 = .ok (.iload_n 2, 1) := by decide +kernel
theorem dX8_nextEnd_39 : decode cX8_nextEnd 39 = .ok (.imul, 1) := by decide +kernel
theorem dX8_nextEnd_40 : decode cX8_nextEnd 40 = .ok (.iadd, 1) := by decide +kernel
theorem dX8_nextEnd_41 : decode cX8_nextEnd 41 = .ok (.iconst 1, 1) := by decide +kernel
theorem dX8_nextEnd_42 : decode cX8_nextEnd 42 = .ok (.iadd, 1) := by decide +kernel
theorem dX8_nextEnd_43 : decode cX8_nextEnd 43 = .ok (.iaload, 1) := by decide +kernel
theorem dX8_nextEnd_44 : decode cX8_nextEnd 44 = .ok (.invokestatic 81, 3) := by decide +kernel
theorem dX8_nextEnd_47 : decode cX8_nextEnd 47 = .ok (.goto 4, 3) := by decide +kernel
theorem dX8_nextEnd_50 : decode cX8_nextEnd 50 = .ok (.iload_n 1, 1) := by decide +kernel
theorem dX8_nextEnd_51 : decode cX8_nextEnd 51 = .ok (.istore_n 1, 1) := by decide +kernel
theorem dX8_nextEnd_52 : decode cX8_nextEnd 52 = .ok (.iinc 2 1, 3) := by decide +kernel
theorem dX8_nextEnd_55 : decode cX8_nextEnd 55 = .ok (.goto (-44), 3) := by decide +kernel
theorem dX8_nextEnd_58 : decode cX8_nextEnd 58 = .ok (.aload_n 0, 1) := by decide +kernel
theorem dX8_nextEnd_59 : decode cX8_nextEnd 59 = .ok (.iload_n 1, 1) := by decide +kernel
theorem dX8_nextEnd_60 : decode cX8_nextEnd 60 = .ok (.ldc_w 301, 3) := by decide +kernel
theorem dX8_nextEnd_63 : decode cX8_nextEnd 63 = .ok (.if_icmp .eq 7, 3) := by decide +kernel
theorem dX8_nextEnd_66 : decode cX8_nextEnd 66 = .ok (.iconst 1, 1) := by decide +kernel
theorem dX8_nextEnd_67 : decode cX8_nextEnd 67 = .ok (.goto 4, 3) := by decide +kernel
theorem dX8_nextEnd_70 : decode cX8_nextEnd 70 = .ok (.iconst 0, 1) := by decide +kernel
theorem dX8_nextEnd_71 : decode cX8_nextEnd 71 = .ok (.iconst 1, 1) := by decide +kernel
theorem dX8_nextEnd_72 : decode cX8_nextEnd 72 = .ok (.invokevirtual 49, 3) := by decide +kernel
theorem dX8_nextEnd_75 : decode cX8_nextEnd 75 = .ok (.ifCond .eq 7, 3) := by decide +kernel
theorem dX8_nextEnd_78 : decode cX8_nextEnd 78 = .ok (.iconst 0, 1) := by decide +kernel
theorem dX8_nextEnd_79 : decode cX8_nextEnd 79 = .ok (.goto 4, 3) := by decide +kernel
theorem dX8_nextEnd_82 : decode cX8_nextEnd 82 = .ok (.iload_n 1, 1) := by decide +kernel
theorem dX8_nextEnd_83 : decode cX8_nextEnd 83 = .ok (.ireturn, 1) := by decide +kernel
theorem dX8_isInCopy_0 : decode cX8_isInCopy 0 = .ok (.aload_n 0, 1) := by decide +kernel
theorem dX8_isInCopy_1 : decode cX8_isInCopy 1 = .ok (.iconst 0, 1) := by decide +kernel
theorem dX8_isInCopy_2 : decode cX8_isInCopy 2 = .ok (.putfield 38, 3) := by decide +kernel
theorem dX8_isInCopy_5 : decode cX8_isInCopy 5 = .ok (.aload_n 0, 1) := by decide +kernel
theorem dX8_isInCopy_6 : decode cX8_isInCopy 6 = .ok (.aload_n 0, 1) := by decide +kernel
theorem dX8_isInCopy_7 : decode cX8_isInCopy 7 = .ok (.iload_n 1, 1) := by decide +kernel
theorem dX8_isInCopy_8 : decode cX8_isInCopy 8 = .ok (.invokevirtual 188, 3) := by decide +kernel
theorem dX8_isInCopy_11 : decode cX8_isInCopy 11 = .ok (.ifCond .eq 15, 3) := by decide +kernel
theorem dX8_isInCopy_14 : decode cX8_isInCopy 14 = .ok (.aload_n 0, 1) := by decide +kernel
theorem dX8_isInCopy_15 : decode cX8_isInCopy 15 = .ok (.iload_n 2, 1) := by decide +kernel
theorem dX8_isInCopy_16 : decode cX8_isInCopy 16 = .ok (.invokevirtual 191, 3) := by decide +kernel
theorem dX8_isInCopy_19 : decode cX8_isInCopy 19 = .ok (.ifCond .eq 7, 3) := by decide +kernel
theorem dX8_isInCopy_22 : decode cX8_isInCopy 22 = .ok (.iconst 1, 1) := by decide +kernel
theorem dX8_isInCopy_23 : decode cX8_isInCopy 23 = .ok (.goto 4, 3) := by decide +kernel
theorem dX8_isInCopy_26 : decode cX8_isInCopy 26 = .ok (.iconst 0, 1) := by decide +kernel
theorem dX8_isInCopy_27 : decode cX8_isInCopy 27 = .ok (.iconst 1, 1) := by decide +kernel
theorem dX8_isInCopy_28 : decode cX8_isInCopy 28 = .ok (.invokevirtual 49, 3) := by decide +kernel
theorem dX8_isInCopy_31 : decode cX8_isInCopy 31 = .ok (.ifCond .ne 31, 3) := by decide +kernel
theorem dX8_isInCopy_34 : decode cX8_isInCopy 34 = .ok (.aload_n 0, 1) := by decide +kernel
theorem dX8_isInCopy_35 : decode cX8_isInCopy 35 = .ok (.aload_n 0, 1) := by decide +kernel
theorem dX8_isInCopy_36 : decode cX8_isInCopy 36 = .ok (.iload_n 1, 1) := by decide +kernel
theorem dX8_isInCopy_37 : decode cX8_isInCopy 37 = .ok (.invokevirtual 177, 3) := by decide +kernel
theorem dX8_isInCopy_40 : decode cX8_isInCopy 40 = .ok (.iconst 2, 1) := by decide +kernel
theorem dX8_isInCopy_41 : decode cX8_isInCopy 41 = .ok (.invokevirtual 49, 3) := by decide +kernel
theorem dX8_isInCopy_44 : decode cX8_isInCopy 44 = .ok (.ifCond .ne 18, 3) := by decide +kernel
theorem dX8_isInCopy_47 : decode cX8_isInCopy 47 = .ok (.aload_n 0, 1) := by decide +kernel
theorem dX8_isInCopy_48 : decode cX8_isInCopy 48 = .ok (.iload_n 1, 1) := by decide +kernel
theorem dX8_isInCopy_49 : decode cX8_isInCopy 49 = .ok (.bipush 60, 2) := by decide +kernel
theorem dX8_isInCopy_51 : decode cX8_isInCopy 51 = .ok (.iload_n 2, 1) := by decide +kernel
theorem dX8_isInCopy_52 : decode cX8_isInCopy 52 = .ok (.invokevirtual 209, 3) := by decide +kernel
theorem dX8_isInCopy_55 : decode cX8_isInCopy 55 = .ok (.ifCond .eq 7, 3) := by decide +kernel
theorem dX8_isInCopy_58 : decode cX8_isInCopy 58 = .ok (.iconst 1, 1) := by decide +kernel
theorem dX8_isInCopy_59 : decode cX8_isInCopy 59 = .ok (.goto 4, 3) := by decide +kernel
theorem dX8_isInCopy_62 : decode cX8_isInCopy 62 = .ok (.iconst 0, 1) := by decide +kernel
theorem dX8_isInCopy_63 : decode cX8_isInCopy 63 = .ok (.ireturn, 1) := by decide +kernel
theorem dX8_copyField_0 : decode cX8_copyField 0 = .ok (.aload_n 0, 1) := by decide +kernel
theorem dX8_copyField_1 : decode cX8_copyField 1 = .ok (.iconst 0, 1) := by decide +kernel
theorem dX8_copyField_2 : decode cX8_copyField 2 = .ok (.putfield 38, 3) := by decide +kernel
theorem dX8_copyField_5 : decode cX8_copyField 5 = .ok (.aload_n 0, 1) := by decide +kernel
theorem dX8_copyField_6 : decode cX8_copyField 6 = .ok (.aload_n 0, 1) := by decide +kernel
theorem dX8_copyField_7 : decode cX8_copyField 7 = .ok (.iload_n 1, 1) := by decide +kernel
theorem dX8_copyField_8 : decode cX8_copyField 8 = .ok (.invokevirtual 188, 3) := by decide +kernel
theorem dX8_copyField_11 : decode cX8_copyField 11 = .ok (.ifCond .eq 23, 3) := by decide +kernel
theorem dX8_copyField_14 : decode cX8_copyField 14 = .ok (.aload_n 0, 1) := by decide +kernel
theorem dX8_copyField_15 : decode cX8_copyField 15 = .ok (.iload_n 2, 1) := by decide +kernel
theorem dX8_copyField_16 : decode cX8_copyField 16 = .ok (.invokevirtual 191, 3) := by decide +kernel
theorem dX8_copyField_19 : decode cX8_copyField 19 = .ok (.ifCond .eq 15, 3) := by decide +kernel
theorem dX8_copyField_22 : decode cX8_copyField 22 = .ok (.aload_n 0, 1) := by decide +kernel
theorem dX8_copyField_23 : decode cX8_copyField 23 = .ok (.iload_n 3, 1) := by decide +kernel
theorem dX8_copyField_24 : decode cX8_copyField 24 = .ok (.invokevirtual 205, 3) := by decide +kernel
theorem dX8_copyField_27 : decode cX8_copyField 27 = .ok (.ifCond .eq 7, 3) := by decide +kernel
theorem dX8_copyField_30 : decode cX8_copyField 30 = .ok (.iconst 1, 1) := by decide +kernel
theorem dX8_copyField_31 : decode cX8_copyField 31 = .ok (.goto 4, 3) := by decide +kernel
theorem dX8_copyField_34 : decode cX8_copyField 34 = .ok (.iconst 0, 1) := by decide +kernel
theorem dX8_copyField_35 : decode cX8_copyField 35 = .ok (.iconst 1, 1) := by decide +kernel
theorem dX8_copyField_36 : decode cX8_copyField 36 = .ok (.invokevirtual 49, 3) := by decide +kernel
theorem dX8_copyField_39 : decode cX8_copyField 39 = .ok (.ifCond .ne 35, 3) := by decide +kernel
theorem dX8_copyField_42 : decode cX8_copyField 42 = .ok (.aload_n 0, 1) := by decide +kernel
theorem dX8_copyField_43 : decode cX8_copyField 43 = .ok (.aload_n 0, 1) := by decide +kernel
theorem dX8_copyField_44 : decode cX8_copyField 44 = .ok (.iload_n 1, 1) := by decide +kernel
theorem dX8_copyField_45 : decode cX8_copyField 45 = .ok (.invokevirtual 177, 3) := by decide +kernel
theorem dX8_copyField_48 : decode cX8_copyField 48 = .ok (.ifCond .eq 18, 3) := by decide +kernel
theorem dX8_copyField_51 : decode cX8_copyField 51 = .ok (.aload_n 0, 1) := by decide +kernel
theorem dX8_copyField_52 : decode cX8_copyField 52 = .ok (.iload_n 1, 1) := by decide +kernel
theorem dX8_copyField_53 : decode cX8_copyField 53 = .ok (.bipush 60, 2) := by decide +kernel
theorem dX8_copyField_55 : decode cX8_copyField 55 = .ok (.iload_n 2, 1) := by decide +kernel
theorem dX8_copyField_56 : decode cX8_copyField 56 = .ok (.invokevirtual 209, 3) := by decide +kernel
theorem dX8_copyField_59 : decode cX8_copyField 59 = .ok (.ifCond .eq 7, 3) := by decide +kernel
theorem dX8_copyField_62 : decode cX8_copyField 62 = .ok (.iconst 1, 1) := by decide +kernel
theorem dX8_copyField_63 : decode cX8_copyField 63 = .ok (.goto 4, 3) := by decide +kernel
theorem dX8_copyField_66 : decode cX8_copyField 66 = .ok (.iconst 0, 1) := by decide +kernel
theorem dX8_copyField_67 : decode cX8_copyField 67 = .ok (.iconst 2, 1) := by decide +kernel
theorem dX8_copyField_68 : decode cX8_copyField 68 = .ok (.invokevirtual 49, 3) := by decide +kernel
theorem dX8_copyField_71 : decode cX8_copyField 71 = .ok (.ifCond .eq 5, 3) := by decide +kernel
theorem dX8_copyField_74 : decode cX8_copyField 74 = .ok (.iconst 0, 1) := by decide +kernel
theorem dX8_copyField_75 : decode cX8_copyField 75 = .ok (.ireturn, 1) := by decide +kernel
theorem dX8_copyField_76 : decode cX8_copyField 76 = .ok (.aload_n 0, 1) := by decide +kernel
theorem dX8_copyField_77 : decode cX8_copyField 77 = .ok (.iload_n 1, 1) := by decide +kernel
theorem dX8_copyField_78 : decode cX8_copyField 78 = .ok (.iload_n 2, 1) := by decide +kernel
theorem dX8_copyField_79 : decode cX8_copyField 79 = .ok (.iload_n 3, 1) := by decide +kernel
theorem dX8_copyField_80 : decode cX8_copyField 80 = .ok (.invokevirtual 212, 3) := by decide +kernel
theorem dX8_copyField_83 : decode cX8_copyField 83 = .ok (.ireturn, 1) := by decide +kernel
theorem dX8_changedCount_0 : decode cX8_changedCount 0 = .ok (.aload_n 0, 1) := by decide +kernel
theorem dX8_changedCount_1 : decode cX8_changedCount 1 = .ok (.iconst 0, 1) := by decide +kernel
theorem dX8_changedCount_2 : decode cX8_changedCount 2 = .ok (.putfield 38, 3) := by decide +kernel
theorem dX8_changedCount_5 : decode cX8_changedCount 5 = .ok (.aload_n 0, 1) := by decide +kernel
theorem dX8_changedCount_6 : decode cX8_changedCount 6 = .ok (.aload_n 0, 1) := by decide +kernel
theorem dX8_changedCount_7 : decode cX8_changedCount 7 = .ok (.iload_n 1, 1) := by decide +kernel
theorem dX8_changedCount_8 : decode cX8_changedCount 8 = .ok (.invokevirtual 188, 3) := by decide +kernel
theorem dX8_changedCount_11 : decode cX8_changedCount 11 = .ok (.iconst 1, 1) := by decide +kernel
theorem dX8_changedCount_12 : decode cX8_changedCount 12 = .ok (.invokevirtual 49, 3) := by decide +kernel
theorem dX8_changedCount_15 : decode cX8_changedCount 15 = .ok (.ifCond .ne 16, 3) := by decide +kernel
theorem dX8_changedCount_18 : decode cX8_changedCount 18 = .ok (.aload_n 0, 1) := by decide +kernel
theorem dX8_changedCount_19 : decode cX8_changedCount 19 = .ok (.aload_n 0, 1) := by decide +kernel
theorem dX8_changedCount_20 : decode cX8_changedCount 20 = .ok (.iload_n 1, 1) := by decide +kernel
theorem dX8_changedCount_21 : decode cX8_changedCount 21 = .ok (.invokevirtual 177, 3) := by decide +kernel
theorem dX8_changedCount_24 : decode cX8_changedCount 24 = .ok (.iconst 2, 1) := by decide +kernel
theorem dX8_changedCount_25 : decode cX8_changedCount 25 = .ok (.invokevirtual 49, 3) := by decide +kernel
theorem dX8_changedCount_28 : decode cX8_changedCount 28 = .ok (.ifCond .eq 7, 3) := by decide +kernel
theorem dX8_changedCount_31 : decode cX8_changedCount 31 = .ok (.iconst 0, 1) := by decide +kernel
theorem dX8_changedCount_32 : decode cX8_changedCount 32 = .ok (.goto 8, 3) := by decide +kernel
theorem dX8_changedCount_35 : decode cX8_changedCount 35 = .ok (.aload_n 0, 1) := by decide +kernel
theorem dX8_changedCount_36 : decode cX8_changedCount 36 = .ok (.iload_n 1, 1) := by decide +kernel
theorem dX8_changedCount_37 : decode cX8_changedCount 37 = .ok (.invokevirtual 281, 3) := by decide +kernel
theorem dX8_changedCount_40 : decode cX8_changedCount 40 = .ok (.ireturn, 1) := by decide +kernel
theorem dX8_preview_0 : decode cX8_preview 0 = .ok (.aload_n 0, 1) := by decide +kernel
theorem dX8_preview_1 : decode cX8_preview 1 = .ok (.iconst 0, 1) := by decide +kernel
theorem dX8_preview_2 : decode cX8_preview 2 = .ok (.putfield 38, 3) := by decide +kernel
theorem dX8_preview_5 : decode cX8_preview 5 = .ok (.aload_n 0, 1) := by decide +kernel
theorem dX8_preview_6 : decode cX8_preview 6 = .ok (.aload_n 0, 1) := by decide +kernel
theorem dX8_preview_7 : decode cX8_preview 7 = .ok (.iload_n 1, 1) := by decide +kernel
theorem dX8_preview_8 : decode cX8_preview 8 = .ok (.invokevirtual 188, 3) := by decide +kernel
theorem dX8_preview_11 : decode cX8_preview 11 = .ok (.iconst 1, 1) := by decide +kernel
theorem dX8_preview_12 : decode cX8_preview 12 = .ok (.invokevirtual 49, 3) := by decide +kernel
theorem dX8_preview_15 : decode cX8_preview 15 = .ok (.ifCond .ne 16, 3) := by decide +kernel
theorem dX8_preview_18 : decode cX8_preview 18 = .ok (.aload_n 0, 1) := by decide +kernel
theorem dX8_preview_19 : decode cX8_preview 19 = .ok (.aload_n 0, 1) := by decide +kernel
theorem dX8_preview_20 : decode cX8_preview 20 = .ok (.iload_n 1, 1) := by decide +kernel
theorem dX8_preview_21 : decode cX8_preview 21 = .ok (.invokevirtual 177, 3) := by decide +kernel
theorem dX8_preview_24 : decode cX8_preview 24 = .ok (.iconst 2, 1) := by decide +kernel
theorem dX8_preview_25 : decode cX8_preview 25 = .ok (.invokevirtual 49, 3) := by decide +kernel
theorem dX8_preview_28 : decode cX8_preview 28 = .ok (.ifCond .eq 5, 3) := by decide +kernel
theorem dX8_preview_31 : decode cX8_preview 31 = .ok (.iconst 0, 1) := by decide +kernel
theorem dX8_preview_32 : decode cX8_preview 32 = .ok (.ireturn, 1) := by decide +kernel
theorem dX8_preview_33 : decode cX8_preview 33 = .ok (.aload_n 0, 1) := by decide +kernel
theorem dX8_preview_34 : decode cX8_preview 34 = .ok (.getfield 13, 3) := by decide +kernel
theorem dX8_preview_37 : decode cX8_preview 37 = .ok (.aload_n 0, 1) := by decide +kernel
theorem dX8_preview_38 : decode cX8_preview 38 = .ok (.getfield 26, 3) := by decide +kernel
theorem dX8_preview_41 : decode cX8_preview 41 = .ok (.invokestatic 162, 3) := by decide +kernel
theorem dX8_preview_44 : decode cX8_preview 44 = .ok (.aload_n 0, 1) := by decide +kernel
theorem dX8_preview_45 : decode cX8_preview 45 = .ok (.iload_n 1, 1) := by decide +kernel
theorem dX8_preview_46 : decode cX8_preview 46 = .ok (.invokevirtual 278, 3) := by decide +kernel
theorem dX8_preview_49 : decode cX8_preview 49 = .ok (.istore_n 2, 1) := by decide +kernel
theorem dX8_preview_50 : decode cX8_preview 50 = .ok (.aload_n 0, 1) := by decide +kernel
theorem dX8_preview_51 : decode cX8_preview 51 = .ok (.getfield 26, 3) := by decide +kernel
theorem dX8_preview_54 : decode cX8_preview 54 = .ok (.aload_n 0, 1) := by decide +kernel
theorem dX8_preview_55 : decode cX8_preview 55 = .ok (.getfield 13, 3) := by decide +kernel
theorem dX8_preview_58 : decode cX8_preview 58 = .ok (.invokestatic 162, 3) := by decide +kernel
theorem dX8_preview_61 : decode cX8_preview 61 = .ok (.iload_n 2, 1) := by decide +kernel
theorem dX8_preview_62 : decode cX8_preview 62 = .ok (.ireturn, 1) := by decide +kernel
theorem dX8_wouldBe_0 : decode cX8_wouldBe 0 = .ok (.aload_n 0, 1) := by decide +kernel
theorem dX8_wouldBe_1 : decode cX8_wouldBe 1 = .ok (.iconst 0, 1) := by decide +kernel
theorem dX8_wouldBe_2 : decode cX8_wouldBe 2 = .ok (.putfield 38, 3) := by decide +kernel
theorem dX8_wouldBe_5 : decode cX8_wouldBe 5 = .ok (.aload_n 0, 1) := by decide +kernel
theorem dX8_wouldBe_6 : decode cX8_wouldBe 6 = .ok (.aload_n 0, 1) := by decide +kernel
theorem dX8_wouldBe_7 : decode cX8_wouldBe 7 = .ok (.iload_n 1, 1) := by decide +kernel
theorem dX8_wouldBe_8 : decode cX8_wouldBe 8 = .ok (.invokevirtual 188, 3) := by decide +kernel
theorem dX8_wouldBe_11 : decode cX8_wouldBe 11 = .ok (.ifCond .eq 23, 3) := by decide +kernel
theorem dX8_wouldBe_14 : decode cX8_wouldBe 14 = .ok (.aload_n 0, 1) := by decide +kernel
theorem dX8_wouldBe_15 : decode cX8_wouldBe 15 = .ok (.iload_n 2, 1) := by decide +kernel
theorem dX8_wouldBe_16 : decode cX8_wouldBe 16 = .ok (.invokevirtual 191, 3) := by decide +kernel
theorem dX8_wouldBe_19 : decode cX8_wouldBe 19 = .ok (.ifCond .eq 15, 3) := by decide +kernel
theorem dX8_wouldBe_22 : decode cX8_wouldBe 22 = .ok (.aload_n 0, 1) := by decide +kernel
theorem dX8_wouldBe_23 : decode cX8_wouldBe 23 = .ok (.iload_n 3, 1) := by decide +kernel
theorem dX8_wouldBe_24 : decode cX8_wouldBe 24 = .ok (.invokevirtual 205, 3) := by decide +kernel
theorem dX8_wouldBe_27 : decode cX8_wouldBe 27 = .ok (.ifCond .eq 7, 3) := by decide +kernel
theorem dX8_wouldBe_30 : decode cX8_wouldBe 30 = .ok (.iconst 1, 1) := by decide +kernel
theorem dX8_wouldBe_31 : decode cX8_wouldBe 31 = .ok (.goto 4, 3) := by decide +kernel
theorem dX8_wouldBe_34 : decode cX8_wouldBe 34 = .ok (.iconst 0, 1) := by decide +kernel
theorem dX8_wouldBe_35 : decode cX8_wouldBe 35 = .ok (.iconst 1, 1) := by decide +kernel
theorem dX8_wouldBe_36 : decode cX8_wouldBe 36 = .ok (.invokevirtual 49, 3) := by decide +kernel
theorem dX8_wouldBe_39 : decode cX8_wouldBe 39 = .ok (.ifCond .ne 16, 3) := by decide +kernel
theorem dX8_wouldBe_42 : decode cX8_wouldBe 42 = .ok (.aload_n 0, 1) := by decide +kernel
theorem dX8_wouldBe_43 : decode cX8_wouldBe 43 = .ok (.aload_n 0, 1) := by decide +kernel
theorem dX8_wouldBe_44 : decode cX8_wouldBe 44 = .ok (.iload_n 1, 1) := by decide +kernel
theorem dX8_wouldBe_45 : decode cX8_wouldBe 45 = .ok (.invokevirtual 177, 3) := by decide +kernel
theorem dX8_wouldBe_48 : decode cX8_wouldBe 48 = .ok (.iconst 2, 1) := by decide +kernel
theorem dX8_wouldBe_49 : decode cX8_wouldBe 49 = .ok (.invokevirtual 49, 3) := by decide +kernel
theorem dX8_wouldBe_52 : decode cX8_wouldBe 52 = .ok (.ifCond .eq 5, 3) := by decide +kernel
theorem dX8_wouldBe_55 : decode cX8_wouldBe 55 = .ok (.iconst 0, 1) := by decide +kernel
theorem dX8_wouldBe_56 : decode cX8_wouldBe 56 = .ok (.ireturn, 1) := by decide +kernel
theorem dX8_wouldBe_57 : decode cX8_wouldBe 57 = .ok (.aload_n 0, 1) := by decide +kernel
theorem dX8_wouldBe_58 : decode cX8_wouldBe 58 = .ok (.getfield 13, 3) := by decide +kernel
theorem dX8_wouldBe_61 : decode cX8_wouldBe 61 = .ok (.aload_n 0, 1) := by decide +kernel
theorem dX8_wouldBe_62 : decode cX8_wouldBe 62 = .ok (.getfield 26, 3) := by decide +kernel
theorem dX8_wouldBe_65 : decode cX8_wouldBe 65 = .ok (.invokestatic 162, 3) := by decide +kernel
theorem dX8_wouldBe_68 : decode cX8_wouldBe 68 = .ok (.aload_n 0, 1) := by decide +kernel
theorem dX8_wouldBe_69 : decode cX8_wouldBe 69 = .ok (.iload_n 1, 1) := by decide +kernel
theorem dX8_wouldBe_70 : decode cX8_wouldBe 70 = .ok (.invokevirtual 278, 3) := by decide +kernel
theorem dX8_wouldBe_73 : decode cX8_wouldBe 73 = .ok (.pop, 1) := by decide +kernel
theorem dX8_wouldBe_74 : decode cX8_wouldBe 74 = .ok (.aload_n 0, 1) := by decide +kernel
theorem dX8_wouldBe_75 : decode cX8_wouldBe 75 = .ok (.iload_n 2, 1) := by decide +kernel
theorem dX8_wouldBe_76 : decode cX8_wouldBe 76 = .ok (.invokevirtual 194, 3) := by decide +kernel
theorem dX8_wouldBe_79 : decode cX8_wouldBe 79 = .ok (.istore 4, 2) := by decide +kernel
theorem dX8_wouldBe_81 : decode cX8_wouldBe 81 = .ok (.aload_n 0, 1) := by decide +kernel
theorem dX8_wouldBe_82 : decode cX8_wouldBe 82 = .ok (.iload_n 2, 1) := by decide +kernel
theorem dX8_wouldBe_83 : decode cX8_wouldBe 83 = .ok (.iload_n 3, 1) := by decide +kernel
theorem dX8_wouldBe_84 : decode cX8_wouldBe 84 = .ok (.invokevirtual 203, 3) := by decide +kernel
theorem dX8_wouldBe_87 : decode cX8_wouldBe 87 = .ok (.istore 5, 2) := by decide +kernel
theorem dX8_wouldBe_89 : decode cX8_wouldBe 89 = .ok (.aload_n 0, 1) := by decide +kernel
theorem dX8_wouldBe_90 : decode cX8_wouldBe 90 = .ok (.getfield 26, 3) := by decide +kernel
theorem dX8_wouldBe_93 : decode cX8_wouldBe 93 = .ok (.aload_n 0, 1) := by decide +kernel
theorem dX8_wouldBe_94 : decode cX8_wouldBe 94 = .ok (.getfield 13, 3) := by decide +kernel
theorem dX8_wouldBe_97 : decode cX8_wouldBe 97 = .ok (.invokestatic 162, 3) := by decide +kernel
theorem dX8_wouldBe_100 : decode cX8_wouldBe 100 = .ok (.aload_n 0, 1) := by decide +kernel
theorem dX8_wouldBe_101 : decode cX8_wouldBe 101 = .ok (.iload 4, 2) := by decide +kernel
theorem dX8_wouldBe_103 : decode cX8_wouldBe 103 = .ok (.iconst 3, 1) := by decide +kernel
theorem dX8_wouldBe_104 : decode cX8_wouldBe 104 = .ok (.invokevirtual 49, 3) := by decide +kernel
theorem dX8_wouldBe_107 : decode cX8_wouldBe 107 = .ok (.ifCond .eq 7, 3) := by decide +kernel
theorem dX8_wouldBe_110 : decode cX8_wouldBe 110 = .ok (.iconst 0, 1) := by decide +kernel
theorem dX8_wouldBe_111 : decode cX8_wouldBe 111 = .ok (.goto 5, 3) := by decide +kernel
theorem dX8_wouldBe_114 : decode cX8_wouldBe 114 = .ok (.iload 5, 2) := by decide +kernel
theorem dX8_wouldBe_116 : decode cX8_wouldBe 116 = .ok (.ireturn, 1) := by decide +kernel
theorem dX8_isTrunkLike_0 : decode cX8_isTrunkLike 0 = .ok (.iconst 0, 1) := by decide +kernel
theorem dX8_isTrunkLike_1 : decode cX8_isTrunkLike 1 = .ok (.istore_n 2, 1) := by decide +kernel
theorem dX8_isTrunkLike_2 : decode cX8_isTrunkLike 2 = .ok (.iload_n 2, 1) := by decide +kernel
theorem dX8_isTrunkLike_3 : decode cX8_isTrunkLike 3 = .ok (.aload_n 0, 1) := by decide +kernel
theorem dX8_isTrunkLike_4 : decode cX8_isTrunkLike 4 = .ok (.getfield 13, 3) := by decide +kernel
theorem dX8_isTrunkLike_7 : decode cX8_isTrunkLike 7 = .ok (.iconst 3, 1) := by decide +kernel
theorem dX8_isTrunkLike_8 : decode cX8_isTrunkLike 8 = .ok (.iaload, 1) := by decide +kernel
theorem dX8_isTrunkLike_9 : decode cX8_isTrunkLike 9 = .ok (.if_icmp .ge 80, 3) := by decide +kernel
theorem dX8_isTrunkLike_12 : decode cX8_isTrunkLike 12 = .ok (.aload_n 0, 1) := by decide +kernel
theorem dX8_isTrunkLike_13 : decode cX8_isTrunkLike 13 = .ok (.getfield 13, 3) := by decide +kernel
theorem dX8_isTrunkLike_16 : decode cX8_isTrunkLike 16 = .ok (.sipush 191, 3) := by decide +kernel
theorem dX8_isTrunkLike_19 : decode cX8_isTrunkLike 19 = .ok (.iload_n 2, 1) := by decide +kernel
theorem dX8_isTrunkLike_20 : decode cX8_isTrunkLike 20 = .ok (.iadd, 1) := by decide +kernel
theorem dX8_isTrunkLike_21 : decode cX8_isTrunkLike 21 = .ok (.iaload, 1) := by decide +kernel
theorem dX8_isTrunkLike_22 : decode cX8_isTrunkLike 22 = .ok (.aload_n 1, 1) := by decide +kernel
theorem dX8_isTrunkLike_23 : decode cX8_isTrunkLike 23 = .ok (.sipush 191, 3) := by decide +kernel
theorem dX8_isTrunkLike_26 : decode cX8_isTrunkLike 26 = .ok (.iload_n 2, 1) := by decide +kernel
theorem dX8_isTrunkLike_27 : decode cX8_isTrunkLike 27 = .ok (.iadd, 1) := by decide +kernel
theorem dX8_isTrunkLike_28 : decode cX8_isTrunkLike 28 = .ok (.iaload, 1) := by decide +kernel
theorem dX8_isTrunkLike_29 : decode cX8_isTrunkLike 29 = .ok (.if_icmp .eq 5, 3) := by decide +kernel
theorem dX8_isTrunkLike_32 : decode cX8_isTrunkLike 32 = .ok (.iconst 0, 1) := by decide +kernel
theorem dX8_isTrunkLike_33 : decode cX8_isTrunkLike 33 = .ok (.ireturn, 1) := by decide +kernel
theorem dX8_isTrunkLike_34 : decode cX8_isTrunkLike 34 = .ok (.iconst 0, 1) := by decide +kernel
theorem dX8_isTrunkLike_35 : decode cX8_isTrunkLike 35 = .ok (.istore_n 3, 1) := by decide +kernel
theorem dX8_isTrunkLike_36 : decode cX8_isTrunkLike 36 = .ok (.iload_n 3, 1) := by decide +kernel
theorem dX8_isTrunkLike_37 : decode cX8_isTrunkLike 37 = .ok (.aload_n 0, 1) := by decide +kernel
theorem dX8_isTrunkLike_38 : decode cX8_isTrunkLike 38 = .ok (.getfield 13, 3) := by decide +kernel
theorem dX8_isTrunkLike_41 : decode cX8_isTrunkLike 41 = .ok (.iconst 1, 1) := by decide +kernel
theorem dX8_isTrunkLike_42 : decode cX8_isTrunkLike 42 = .ok (.iaload, 1) := by decide +kernel
theorem dX8_isTrunkLike_43 : decode cX8_isTrunkLike 43 = .ok (.if_icmp .ge 40, 3) := by decide +kernel
theorem dX8_isTrunkLike_46 : decode cX8_isTrunkLike 46 = .ok (.aload_n 0, 1) := by decide +kernel
theorem dX8_isTrunkLike_47 : decode cX8_isTrunkLike 47 = .ok (.iload_n 2, 1) := by decide +kernel
theorem dX8_isTrunkLike_48 : decode cX8_isTrunkLike 48 = .ok (.invokevirtual 194, 3) := by decide +kernel
theorem dX8_isTrunkLike_51 : decode cX8_isTrunkLike 51 = .ok (.ifCond .eq 32, 3) := by decide +kernel
theorem dX8_isTrunkLike_54 : decode cX8_isTrunkLike 54 = .ok (.aload_n 0, 1) := by decide +kernel
theorem dX8_isTrunkLike_55 : decode cX8_isTrunkLike 55 = .ok (.iload_n 2, 1) := by decide +kernel
theorem dX8_isTrunkLike_56 : decode cX8_isTrunkLike 56 = .ok (.iload_n 3, 1) := by decide +kernel
theorem dX8_isTrunkLike_57 : decode cX8_isTrunkLike 57 = .ok (.invokevirtual 203, 3) := by decide +kernel
theorem dX8_isTrunkLike_60 : decode cX8_isTrunkLike 60 = .ok (.aload_n 1, 1) := by decide +kernel
theorem dX8_isTrunkLike_61 : decode cX8_isTrunkLike 61 = .ok (.sipush 251, 3) := by decide +kernel
theorem dX8_isTrunkLike_64 : decode cX8_isTrunkLike 64 = .ok (.bipush 6, 2) := by decide +kernel
theorem dX8_isTrunkLike_66 : decode cX8_isTrunkLike 66 = .ok (.iload_n 2, 1) := by decide +kernel
theorem dX8_isTrunkLike_67 : decode cX8_isTrunkLike 67 = .ok (.imul, 1) := by decide +kernel
theorem dX8_isTrunkLike_68 : decode cX8_isTrunkLike 68 = .ok (.iadd, 1) := by decide +kernel
theorem dX8_isTrunkLike_69 : decode cX8_isTrunkLike 69 = .ok (.iload_n 3, 1) := by decide +kernel
theorem dX8_isTrunkLike_70 : decode cX8_isTrunkLike 70 = .ok (.iadd, 1) := by decide +kernel
theorem dX8_isTrunkLike_71 : decode cX8_isTrunkLike 71 = .ok (.iaload, 1) := by decide +kernel
theorem dX8_isTrunkLike_72 : decode cX8_isTrunkLike 72 = .ok (.if_icmp .eq 5, 3) := by decide +kernel
theorem dX8_isTrunkLike_75 : decode cX8_isTrunkLike 75 = .ok (.iconst 0, 1) := by decide +kernel
theorem dX8_isTrunkLike_76 : decode cX8_isTrunkLike 76 = .ok (.ireturn, 1) := by decide +kernel
theorem dX8_isTrunkLike_77 : decode cX8_isTrunkLike 77 = .ok (.iinc 3 1, 3) := by decide +kernel
theorem dX8_isTrunkLike_80 : decode cX8_isTrunkLike 80 = .ok (.goto (-44), 3) := by decide +kernel
theorem dX8_isTrunkLike_83 : decode cX8_isTrunkLike 83 = .ok (.iinc 2 1, 3) := by decide +kernel
theorem dX8_isTrunkLike_86 : decode cX8_isTrunkLike 86 = .ok (.goto (-84), 3) := by decide +kernel
theorem dX8_isTrunkLike_89 : decode cX8_isTrunkLike 89 = .ok (.iconst 1, 1) := by decide +kernel
theorem dX8_isTrunkLike_90 : decode cX8_isTrunkLike 90 = .ok (.ireturn, 1) := by decide +kernel
theorem dX8_isFree_0 : decode cX8_isFree 0 = .ok (.aload_n 0, 1) := by decide +kernel
theorem dX8_isFree_1 : decode cX8_isFree 1 = .ok (.iconst 0, 1) := by decide +kernel
theorem dX8_isFree_2 : decode cX8_isFree 2 = .ok (.putfield 38, 3) := by decide +kernel
theorem dX8_isFree_5 : decode cX8_isFree 5 = .ok (.aload_n 0, 1) := by decide +kernel
theorem dX8_isFree_6 : decode cX8_isFree 6 = .ok (.aload_n 0, 1) := by decide +kernel
theorem dX8_isFree_7 : decode cX8_isFree 7 = .ok (.iload_n 1, 1) := by decide +kernel
theorem dX8_isFree_8 : decode cX8_isFree 8 = .ok (.invokevirtual 188, 3) := by decide +kernel
theorem dX8_isFree_11 : decode cX8_isFree 11 = .ok (.ifCond .eq 15, 3) := by decide +kernel
theorem dX8_isFree_14 : decode cX8_isFree 14 = .ok (.aload_n 0, 1) := by decide +kernel
theorem dX8_isFree_15 : decode cX8_isFree 15 = .ok (.iload_n 2, 1) := by decide +kernel
theorem dX8_isFree_16 : decode cX8_isFree 16 = .ok (.invokevirtual 188, 3) := by decide +kernel
theorem dX8_isFree_19 : decode cX8_isFree 19 = .ok (.ifCond .eq 7, 3) := by decide +kernel
theorem dX8_isFree_22 : decode cX8_isFree 22 = .ok (.iconst 1, 1) := by decide +kernel
theorem dX8_isFree_23 : decode cX8_isFree 23 = .ok (.goto 4, 3) := by decide +kernel
theorem dX8_isFree_26 : decode cX8_isFree 26 = .ok (.iconst 0, 1) := by decide +kernel
theorem dX8_isFree_27 : decode cX8_isFree 27 = .ok (.iconst 1, 1) := by decide +kernel
theorem dX8_isFree_28 : decode cX8_isFree 28 = .ok (.invokevirtual 49, 3) := by decide +kernel
theorem dX8_isFree_31 : decode cX8_isFree 31 = .ok (.ifCond .ne 50, 3) := by decide +kernel
theorem dX8_isFree_34 : decode cX8_isFree 34 = .ok (.aload_n 0, 1) := by decide +kernel
theorem dX8_isFree_35 : decode cX8_isFree 35 = .ok (.iload_n 1, 1) := by decide +kernel
theorem dX8_isFree_36 : decode cX8_isFree 36 = .ok (.iload_n 2, 1) := by decide +kernel
theorem dX8_isFree_37 : decode cX8_isFree 37 = .ok (.if_icmp .eq 7, 3) := by decide +kernel
theorem dX8_isFree_40 : decode cX8_isFree 40 = .ok (.iconst 1, 1) := by decide +kernel
theorem dX8_isFree_41 : decode cX8_isFree 41 = .ok (.goto 4, 3) := by decide +kernel
theorem dX8_isFree_44 : decode cX8_isFree 44 = .ok (.iconst 0, 1) := by decide +kernel
theorem dX8_isFree_45 : decode cX8_isFree 45 = .ok (.iconst 2, 1) := by decide +kernel
theorem dX8_isFree_46 : decode cX8_isFree 46 = .ok (.invokevirtual 49, 3) := by decide +kernel
theorem dX8_isFree_49 : decode cX8_isFree 49 = .ok (.ifCond .ne 32, 3) := by decide +kernel
theorem dX8_isFree_52 : decode cX8_isFree 52 = .ok (.aload_n 0, 1) := by decide +kernel
theorem dX8_isFree_53 : decode cX8_isFree 53 = .ok (.aload_n 0, 1) := by decide +kernel
theorem dX8_isFree_54 : decode cX8_isFree 54 = .ok (.iload_n 1, 1) := by decide +kernel
theorem dX8_isFree_55 : decode cX8_isFree 55 = .ok (.invokevirtual 177, 3) := by decide +kernel
theorem dX8_isFree_58 : decode cX8_isFree 58 = .ok (.ifCond .eq 15, 3) := by decide +kernel
theorem dX8_isFree_61 : decode cX8_isFree 61 = .ok (.aload_n 0, 1) := by decide +kernel
theorem dX8_isFree_62 : decode cX8_isFree 62 = .ok (.iload_n 2, 1) := by decide +kernel
theorem dX8_isFree_63 : decode cX8_isFree 63 = .ok (.invokevirtual 177, 3) := by decide +kernel
theorem dX8_isFree_66 : decode cX8_isFree 66 = .ok (.ifCond .eq 7, 3) := by decide +kernel
theorem dX8_isFree_69 : decode cX8_isFree 69 = .ok (.iconst 1, 1) := by decide +kernel
theorem dX8_isFree_70 : decode cX8_isFree 70 = .ok (.goto 4, 3) := by decide +kernel
theorem dX8_isFree_73 : decode cX8_isFree 73 = .ok (.iconst 0, 1) := by decide +kernel
theorem dX8_isFree_74 : decode cX8_isFree 74 = .ok (.iconst 3, 1) := by decide +kernel
theorem dX8_isFree_75 : decode cX8_isFree 75 = .ok (.invokevirtual 49, 3) := by decide +kernel
theorem dX8_isFree_78 : decode cX8_isFree 78 = .ok (.ifCond .eq 5, 3) := by decide +kernel
theorem dX8_isFree_81 : decode cX8_isFree 81 = .ok (.iconst 0, 1) := by decide +kernel
theorem dX8_isFree_82 : decode cX8_isFree 82 = .ok (.ireturn, 1) := by decide +kernel
theorem dX8_isFree_83 : decode cX8_isFree 83 = .ok (.aload_n 0, 1) := by decide +kernel
theorem dX8_isFree_84 : decode cX8_isFree 84 = .ok (.getfield 13, 3) := by decide +kernel
theorem dX8_isFree_87 : decode cX8_isFree 87 = .ok (.aload_n 0, 1) := by decide +kernel
theorem dX8_isFree_88 : decode cX8_isFree 88 = .ok (.getfield 26, 3) := by decide +kernel
theorem dX8_isFree_91 : decode cX8_isFree 91 = .ok (.invokestatic 162, 3) := by decide +kernel
theorem dX8_isFree_94 : decode cX8_isFree 94 = .ok (.aload_n 0, 1) := by decide +kernel
theorem dX8_isFree_95 : decode cX8_isFree 95 = .ok (.iload_n 1, 1) := by decide +kernel
theorem dX8_isFree_96 : decode cX8_isFree 96 = .ok (.invokevirtual 278, 3) := by decide +kernel
theorem dX8_isFree_99 : decode cX8_isFree 99 = .ok (.istore_n 3, 1) := by decide +kernel
theorem dX8_isFree_100 : decode cX8_isFree 100 = .ok (.iload_n 3, 1) := by decide +kernel
theorem dX8_isFree_101 : decode cX8_isFree 101 = .ok (.aload_n 0, 1) := by decide +kernel
theorem dX8_isFree_102 : decode cX8_isFree 102 = .ok (.iload_n 2, 1) := by decide +kernel
theorem dX8_isFree_103 : decode cX8_isFree 103 = .ok (.invokevirtual 278, 3) := by decide +kernel
theorem dX8_isFree_106 : decode cX8_isFree 106 = .ok (.iadd, 1) := by decide +kernel
theorem dX8_isFree_107 : decode cX8_isFree 107 = .ok (.istore_n 3, 1) := by decide +kernel
theorem dX8_isFree_108 : decode cX8_isFree 108 = .ok (.aload_n 0, 1) := by decide +kernel
theorem dX8_isFree_109 : decode cX8_isFree 109 = .ok (.getfield 13, 3) := by decide +kernel
theorem dX8_isFree_112 : decode cX8_isFree 112 = .ok (.aload_n 0, 1) := by decide +kernel
theorem dX8_isFree_113 : decode cX8_isFree 113 = .ok (.getfield 29, 3) := by decide +kernel
theorem dX8_isFree_116 : decode cX8_isFree 116 = .ok (.invokestatic 162, 3) := by decide +kernel
theorem dX8_isFree_119 : decode cX8_isFree 119 = .ok (.aload_n 0, 1) := by decide +kernel
theorem dX8_isFree_120 : decode cX8_isFree 120 = .ok (.getfield 26, 3) := by decide +kernel
theorem dX8_isFree_123 : decode cX8_isFree 123 = .ok (.aload_n 0, 1) := by decide +kernel
theorem dX8_isFree_124 : decode cX8_isFree 124 = .ok (.getfield 13, 3) := by decide +kernel
theorem dX8_isFree_127 : decode cX8_isFree 127 = .ok (.invokestatic 162, 3) := by decide +kernel
theorem dX8_isFree_130 : decode cX8_isFree 130 = .ok (.aload_n 0, 1) := by decide +kernel
theorem dX8_isFree_131 : decode cX8_isFree 131 = .ok (.iload_n 2, 1) := by decide +kernel
theorem dX8_isFree_132 : decode cX8_isFree 132 = .ok (.invokevirtual 278, 3) := by decide +kernel
theorem dX8_isFree_135 : decode cX8_isFree 135 = .ok (.istore 4, 2) := by decide +kernel
theorem dX8_isFree_137 : decode cX8_isFree 137 = .ok (.iload 4, 2) := by decide +kernel
theorem dX8_isFree_139 : decode cX8_isFree 139 = .ok (.aload_n 0, 1) := by decide +kernel
theorem dX8_isFree_140 : decode cX8_isFree 140 = .ok (.iload_n 1, 1) := by decide +kernel
theorem dX8_isFree_141 : decode cX8_isFree 141 = .ok (.invokevirtual 278, 3) := by decide +kernel
theorem dX8_isFree_144 : decode cX8_isFree 144 = .ok (.iadd, 1) := by decide +kernel
theorem dX8_isFree_145 : decode cX8_isFree 145 = .ok (.istore 4, 2) := by decide +kernel
theorem dX8_isFree_147 : decode cX8_isFree 147 = .ok (.iload_n 3, 1) := by decide +kernel
theorem dX8_isFree_148 : decode cX8_isFree 148 = .ok (.iload 4, 2) := by decide +kernel
theorem dX8_isFree_150 : decode cX8_isFree 150 = .ok (.if_icmp .ne 18, 3) := by decide +kernel
theorem dX8_isFree_153 : decode cX8_isFree 153 = .ok (.aload_n 0, 1) := by decide +kernel
theorem dX8_isFree_154 : decode cX8_isFree 154 = .ok (.aload_n 0, 1) := by decide +kernel
theorem dX8_isFree_155 : decode cX8_isFree 155 = .ok (.getfield 29, 3) := by decide +kernel
theorem dX8_isFree_158 : decode cX8_isFree 158 = .ok (.invokevirtual 302, 3) := by decide +kernel
theorem dX8_isFree_161 : decode cX8_isFree 161 = .ok (.ifCond .eq 7, 3) := by decide +kernel
theorem dX8_isFree_164 : decode cX8_isFree 164 = .ok (.iconst 1, 1) := by decide +kernel
theorem dX8_isFree_165 : decode cX8_isFree 165 = .ok (.goto 4, 3) := by decide +kernel
theorem dX8_isFree_168 : decode cX8_isFree 168 = .ok (.iconst 0, 1) := by decide +kernel
theorem dX8_isFree_169 : decode cX8_isFree 169 = .ok (.istore 5, 2) := by decide +kernel
theorem dX8_isFree_171 : decode cX8_isFree 171 = .ok (.aload_n 0, 1) := by decide +kernel
theorem dX8_isFree_172 : decode cX8_isFree 172 = .ok (.getfield 26, 3) := by decide +kernel
theorem dX8_isFree_175 : decode cX8_isFree 175 = .ok (.aload_n 0, 1) := by decide +kernel
theorem dX8_isFree_176 : decode cX8_isFree 176 = .ok (.getfield 13, 3) := by decide +kernel
theorem dX8_isFree_179 : decode cX8_isFree 179 = .ok (.invokestatic 162, 3) := by decide +kernel
theorem dX8_isFree_182 : decode cX8_isFree 182 = .ok (.iload 5, 2) := by decide +kernel
theorem dX8_isFree_184 : decode cX8_isFree 184 = .ok (.ireturn, 1) := by decide +kernel
theorem dX8_conflictCount_0 : decode cX8_conflictCount 0 = .ok (.aload_n 0, 1) := by decide +kernel
theorem dX8_conflictCount_1 : decode cX8_conflictCount 1 = .ok (.iconst 0, 1) := by decide +kernel
theorem dX8_conflictCount_2 : decode cX8_conflictCount 2 = .ok (.putfield 38, 3) := by decide +kernel
theorem dX8_conflictCount_5 : decode cX8_conflictCount 5 = .ok (.aload_n 0, 1) := by decide +kernel
theorem dX8_conflictCount_6 : decode cX8_conflictCount 6 = .ok (.getfield 13, 3) := by decide +kernel
theorem dX8_conflictCount_9 : decode cX8_conflictCount 9 = .ok (.iconst 4, 1) := by decide +kernel
theorem dX8_conflictCount_10 : decode cX8_conflictCount 10 = .ok (.iaload, 1) := by decide +kernel
theorem dX8_conflictCount_11 : decode cX8_conflictCount 11 = .ok (.ireturn, 1) := by decide +kernel
theorem dX8_conflict_0 : decode cX8_conflict 0 = .ok (.aload_n 0, 1) := by decide +kernel
theorem dX8_conflict_1 : decode cX8_conflict 1 = .ok (.iconst 0, 1) := by decide +kernel
theorem dX8_conflict_2 : decode cX8_conflict 2 = .ok (.putfield 38, 3) := by decide +kernel
theorem dX8_conflict_5 : decode cX8_conflict 5 = .ok (.aload_n 0, 1) := by decide +kernel
theorem dX8_conflict_6 : decode cX8_conflict 6 = .ok (.iload_n 1, 1) := by decide +kernel
theorem dX8_conflict_7 : decode cX8_conflict 7 = .ok (.iconst 0, 1) := by decide +kernel
theorem dX8_conflict_8 : decode cX8_conflict 8 = .ok (.aload_n 0, 1) := by decide +kernel
theorem dX8_conflict_9 : decode cX8_conflict 9 = .ok (.getfield 13, 3) := by decide +kernel
theorem dX8_conflict_12 : decode cX8_conflict 12 = .ok (.iconst 4, 1) := by decide +kernel
theorem dX8_conflict_13 : decode cX8_conflict 13 = .ok (.iaload, 1) := by decide +kernel
theorem dX8_conflict_14 : decode cX8_conflict 14 = .ok (.iconst 1, 1) := by decide +kernel
theorem dX8_conflict_15 : decode cX8_conflict 15 = .ok (.isub, 1) := by decide +kernel
theorem dX8_conflict_16 : decode cX8_conflict 16 = .ok (.invokestatic 53, 3) := by decide +kernel
theorem dX8_conflict_19 : decode cX8_conflict 19 = .ok (.iconst 1, 1) := by decide +kernel
theorem dX8_conflict_20 : decode cX8_conflict 20 = .ok (.invokevirtual 49, 3) := by decide +kernel
theorem dX8_conflict_23 : decode cX8_conflict 23 = .ok (.ifCond .ne 17, 3) := by decide +kernel
theorem dX8_conflict_26 : decode cX8_conflict 26 = .ok (.aload_n 0, 1) := by decide +kernel
theorem dX8_conflict_27 : decode cX8_conflict 27 = .ok (.iload_n 2, 1) := by decide +kernel
theorem dX8_conflict_28 : decode cX8_conflict 28 = .ok (.iconst 0, 1) := by decide +kernel
theorem dX8_conflict_29 : decode cX8_conflict 29 = .ok (.iconst 5, 1) := by decide +kernel
theorem dX8_conflict_30 : decode cX8_conflict 30 = .ok (.invokestatic 53, 3) := by decide +kernel
theorem dX8_conflict_33 : decode cX8_conflict 33 = .ok (.iconst 2, 1) := by decide +kernel
theorem dX8_conflict_34 : decode cX8_conflict 34 = .ok (.invokevirtual 49, 3) := by decide +kernel
theorem dX8_conflict_37 : decode cX8_conflict 37 = .ok (.ifCond .eq 7, 3) := by decide +kernel
theorem dX8_conflict_40 : decode cX8_conflict 40 = .ok (.iconst 0, 1) := by decide +kernel
theorem dX8_conflict_41 : decode cX8_conflict 41 = .ok (.goto 18, 3) := by decide +kernel
theorem dX8_conflict_44 : decode cX8_conflict 44 = .ok (.aload_n 0, 1) := by decide +kernel
theorem dX8_conflict_45 : decode cX8_conflict 45 = .ok (.getfield 13, 3) := by decide +kernel
theorem dX8_conflict_48 : decode cX8_conflict 48 = .ok (.sipush 626, 3) := by decide +kernel
theorem dX8_conflict_51 : decode cX8_conflict 51 = .ok (.bipush 6, 2) := by decide +kernel
theorem dX8_conflict_53 : decode cX8_conflict 53 = .ok (.iload_n 1, 1) := by decide +kernel
theorem dX8_conflict_54 : decode cX8_conflict 54 = .ok (.imul, 1) := by decide +kernel
theorem dX8_conflict_55 : decode cX8_conflict 55 = .ok (.iadd, 1) := by decide +kernel
theorem dX8_conflict_56 : decode cX8_conflict 56 = .ok (.iload_n 2, 1) := by decide +kernel
theorem dX8_conflict_57 : decode cX8_conflict 57 = .ok (.iadd, 1) := by decide +kernel
theorem dX8_conflict_58 : decode cX8_conflict 58 = .ok (.iaload, 1) := by decide +kernel
theorem dX8_conflict_59 : decode cX8_conflict 59 = .ok (.ireturn, 1) := by decide +kernel
theorem dX8_conflictsOf_0 : decode cX8_conflictsOf 0 = .ok (.aload_n 0, 1) := by decide +kernel
theorem dX8_conflictsOf_1 : decode cX8_conflictsOf 1 = .ok (.iconst 0, 1) := by decide +kernel
theorem dX8_conflictsOf_2 : decode cX8_conflictsOf 2 = .ok (.putfield 38, 3) := by decide +kernel
theorem dX8_conflictsOf_5 : decode cX8_conflictsOf 5 = .ok (.aload_n 0, 1) := by decide +kernel
theorem dX8_conflictsOf_6 : decode cX8_conflictsOf 6 = .ok (.iload_n 1, 1) := by decide +kernel
theorem dX8_conflictsOf_7 : decode cX8_conflictsOf 7 = .ok (.iconst 0, 1) := by decide +kernel
theorem dX8_conflictsOf_8 : decode cX8_conflictsOf 8 = .ok (.iconst 4, 1) := by decide +kernel
theorem dX8_conflictsOf_9 : decode cX8_conflictsOf 9 = .ok (.invokestatic 53, 3) := by decide +kernel
theorem dX8_conflictsOf_12 : decode cX8_conflictsOf 12 = .ok (.iconst 1, 1) := by decide +kernel
theorem dX8_conflictsOf_13 : decode cX8_conflictsOf 13 = .ok (.invokevirtual 49, 3) := by decide +kernel
theorem dX8_conflictsOf_16 : decode cX8_conflictsOf 16 = .ok (.ifCond .eq 5, 3) := by decide +kernel
theorem dX8_conflictsOf_19 : decode cX8_conflictsOf 19 = .ok (.iconst 0, 1) := by decide +kernel
theorem dX8_conflictsOf_20 : decode cX8_conflictsOf 20 = .ok (.ireturn, 1) := by decide +kernel
theorem dX8_conflictsOf_21 : decode cX8_conflictsOf 21 = .ok (.iconst 0, 1) := by decide +kernel
theorem dX8_conflictsOf_22 : decode cX8_conflictsOf 22 = .ok (.istore_n 2, 1) := by decide +kernel
theorem dX8_conflictsOf_23 : decode cX8_conflictsOf 23 = .ok (.iconst 0, 1) := by decide +kernel
theorem dX8_conflictsOf_24 : decode cX8_conflictsOf 24 = .ok (.istore_n 3, 1) := by decide +kernel
theorem dX8_conflictsOf_25 : decode cX8_conflictsOf 25 = .ok (.iload_n 3, 1) := by decide +kernel
theorem dX8_conflictsOf_26 : decode cX8_conflictsOf 26 = .ok (.aload_n 0, 1) := by decide +kernel
theorem dX8_conflictsOf_27 : decode cX8_conflictsOf 27 = .ok (.getfield 13, 3) := by decide +kernel
theorem dX8_conflictsOf_30 : decode cX8_conflictsOf 30 = .ok (.iconst 4, 1) := by decide +kernel
theorem dX8_conflictsOf_31 : decode cX8_conflictsOf 31 = .ok (.iaload, 1) := by decide +kernel
theorem dX8_conflictsOf_32 : decode cX8_conflictsOf 32 = .ok (.if_icmp .ge 36, 3) := by decide +kernel
theorem dX8_conflictsOf_35 : decode cX8_conflictsOf 35 = .ok (.iload_n 2, 1) := by decide +kernel
theorem dX8_conflictsOf_36 : decode cX8_conflictsOf 36 = .ok (.aload_n 0, 1) := by decide +kernel
theorem dX8_conflictsOf_37 : decode cX8_conflictsOf 37 = .ok (.getfield 13, 3) := by decide +kernel
theorem dX8_conflictsOf_40 : decode cX8_conflictsOf 40 = .ok (.sipush 626, 3) := by decide +kernel
theorem dX8_conflictsOf_43 : decode cX8_conflictsOf 43 = .ok (.bipush 6, 2) := by decide +kernel
theorem dX8_conflictsOf_45 : decode cX8_conflictsOf 45 = .ok (.iload_n 3, 1) := by decide +kernel
theorem dX8_conflictsOf_46 : decode cX8_conflictsOf 46 = .ok (.imul, 1) := by decide +kernel
theorem dX8_conflictsOf_47 : decode cX8_conflictsOf 47 = .ok (.iadd, 1) := by decide +kernel
theorem dX8_conflictsOf_48 : decode cX8_conflictsOf 48 = .ok (.iconst 0, 1) := by decide +kernel
theorem dX8_conflictsOf_49 : decode cX8_conflictsOf 49 = .ok (.iadd, 1) := by decide +kernel
theorem dX8_conflictsOf_50 : decode cX8_conflictsOf 50 = .ok (.iaload, 1) := by decide +kernel
theorem dX8_conflictsOf_51 : decode cX8_conflictsOf 51 = .ok (.iload_n 1, 1) := by decide +kernel
theorem dX8_conflictsOf_52 : decode cX8_conflictsOf 52 = .ok (.if_icmp .ne 7, 3) := by decide +kernel
theorem dX8_conflictsOf_55 : decode cX8_conflictsOf 55 = .ok (.iconst 1, 1) := by decide +kernel
theorem dX8_conflictsOf_56 : decode cX8_conflictsOf 56 = .ok (.goto 4, 3) := by decide +kernel
theorem dX8_conflictsOf_59 : decode cX8_conflictsOf 59 = .ok (.iconst 0, 1) := by decide +kernel
theorem dX8_conflictsOf_60 : decode cX8_conflictsOf 60 = .ok (.iadd, 1) := by decide +kernel
theorem dX8_conflictsOf_61 : decode cX8_conflictsOf 61 = .ok (.istore_n 2, 1) := by decide +kernel
theorem dX8_conflictsOf_62 : decode cX8_conflictsOf 62 = .ok (.iinc 3 1, 3) := by decide +kernel
theorem dX8_conflictsOf_65 : decode cX8_conflictsOf 65 = .ok (.goto (-40), 3) := by decide +kernel
theorem dX8_conflictsOf_68 : decode cX8_conflictsOf 68 = .ok (.iload_n 2, 1) := by decide +kernel
theorem dX8_conflictsOf_69 : decode cX8_conflictsOf 69 = .ok (.ireturn, 1) := by decide +kernel
theorem dJ13_bitCount_95d88_0 : decode cJ13_bitCount_95d88 0 = .ok (.lload_n 0, 1) := by decide +kernel
theorem dJ13_bitCount_95d88_1 : decode cJ13_bitCount_95d88 1 = .ok (.lload_n 0, 1) := by decide +kernel
theorem dJ13_bitCount_95d88_2 : decode cJ13_bitCount_95d88 2 = .ok (.iconst 1, 1) := by decide +kernel
theorem dJ13_bitCount_95d88_3 : decode cJ13_bitCount_95d88 3 = .ok (.lushr, 1) := by decide +kernel
theorem dJ13_bitCount_95d88_4 : decode cJ13_bitCount_95d88 4 = .ok (.ldc2_w 314, 3) := by decide +kernel
theorem dJ13_bitCount_95d88_7 : decode cJ13_bitCount_95d88 7 = .ok (.land, 1) := by decide +kernel
theorem dJ13_bitCount_95d88_8 : decode cJ13_bitCount_95d88 8 = .ok (.lsub, 1) := by decide +kernel
theorem dJ13_bitCount_95d88_9 : decode cJ13_bitCount_95d88 9 = .ok (.lstore_n 0, 1) := by decide +kernel
theorem dJ13_bitCount_95d88_10 : decode cJ13_bitCount_95d88 10 = .ok (.lload_n 0, 1) := by decide +kernel
theorem dJ13_bitCount_95d88_11 : decode cJ13_bitCount_95d88 11 = .ok (.ldc2_w 316, 3) := by decide +kernel
theorem dJ13_bitCount_95d88_14 : decode cJ13_bitCount_95d88 14 = .ok (.land, 1) := by decide +kernel
theorem dJ13_bitCount_95d88_15 : decode cJ13_bitCount_95d88 15 = .ok (.lload_n 0, 1) := by decide +kernel
theorem dJ13_bitCount_95d88_16 : decode cJ13_bitCount_95d88 16 = .ok (.iconst 2, 1) := by decide +kernel
theorem dJ13_bitCount_95d88_17 : decode cJ13_bitCount_95d88 17 = .ok (.lushr, 1) := by decide +kernel
theorem dJ13_bitCount_95d88_18 : decode cJ13_bitCount_95d88 18 = .ok (.ldc2_w 316, 3) := by decide +kernel
theorem dJ13_bitCount_95d88_21 : decode cJ13_bitCount_95d88 21 = .ok (.land, 1) := by decide +kernel
theorem dJ13_bitCount_95d88_22 : decode cJ13_bitCount_95d88 22 = .ok (.ladd, 1) := by decide +kernel
theorem dJ13_bitCount_95d88_23 : decode cJ13_bitCount_95d88 23 = .ok (.lstore_n 0, 1) := by decide +kernel
theorem dJ13_bitCount_95d88_24 : decode cJ13_bitCount_95d88 24 = .ok (.lload_n 0, 1) := by decide +kernel
theorem dJ13_bitCount_95d88_25 : decode cJ13_bitCount_95d88 25 = .ok (.lload_n 0, 1) := by decide +kernel
theorem dJ13_bitCount_95d88_26 : decode cJ13_bitCount_95d88 26 = .ok (.iconst 4, 1) := by decide +kernel
theorem dJ13_bitCount_95d88_27 : decode cJ13_bitCount_95d88 27 = .ok (.lushr, 1) := by decide +kernel
theorem dJ13_bitCount_95d88_28 : decode cJ13_bitCount_95d88 28 = .ok (.ladd, 1) := by decide +kernel
theorem dJ13_bitCount_95d88_29 : decode cJ13_bitCount_95d88 29 = .ok (.ldc2_w 318, 3) := by decide +kernel
theorem dJ13_bitCount_95d88_32 : decode cJ13_bitCount_95d88 32 = .ok (.land, 1) := by decide +kernel
theorem dJ13_bitCount_95d88_33 : decode cJ13_bitCount_95d88 33 = .ok (.lstore_n 0, 1) := by decide +kernel
theorem dJ13_bitCount_95d88_34 : decode cJ13_bitCount_95d88 34 = .ok (.lload_n 0, 1) := by decide +kernel
theorem dJ13_bitCount_95d88_35 : decode cJ13_bitCount_95d88 35 = .ok (.lload_n 0, 1) := by decide +kernel
theorem dJ13_bitCount_95d88_36 : decode cJ13_bitCount_95d88 36 = .ok (.bipush 8, 2) := by decide +kernel
theorem dJ13_bitCount_95d88_38 : decode cJ13_bitCount_95d88 38 = .ok (.lushr, 1) := by decide +kernel
theorem dJ13_bitCount_95d88_39 : decode cJ13_bitCount_95d88 39 = .ok (.ladd, 1) := by decide +kernel
theorem dJ13_bitCount_95d88_40 : decode cJ13_bitCount_95d88 40 = .ok (.lstore_n 0, 1) := by decide +kernel
theorem dJ13_bitCount_95d88_41 : decode cJ13_bitCount_95d88 41 = .ok (.lload_n 0, 1) := by decide +kernel
theorem dJ13_bitCount_95d88_42 : decode cJ13_bitCount_95d88 42 = .ok (.lload_n 0, 1) := by decide +kernel
theorem dJ13_bitCount_95d88_43 : decode cJ13_bitCount_95d88 43 = .ok (.bipush 16, 2) := by decide +kernel
theorem dJ13_bitCount_95d88_45 : decode cJ13_bitCount_95d88 45 = .ok (.lushr, 1) := by decide +kernel
theorem dJ13_bitCount_95d88_46 : decode cJ13_bitCount_95d88 46 = .ok (.ladd, 1) := by decide +kernel
theorem dJ13_bitCount_95d88_47 : decode cJ13_bitCount_95d88 47 = .ok (.lstore_n 0, 1) := by decide +kernel
theorem dJ13_bitCount_95d88_48 : decode cJ13_bitCount_95d88 48 = .ok (.lload_n 0, 1) := by decide +kernel
theorem dJ13_bitCount_95d88_49 : decode cJ13_bitCount_95d88 49 = .ok (.lload_n 0, 1) := by decide +kernel
theorem dJ13_bitCount_95d88_50 : decode cJ13_bitCount_95d88 50 = .ok (.bipush 32, 2) := by decide +kernel
theorem dJ13_bitCount_95d88_52 : decode cJ13_bitCount_95d88 52 = .ok (.lushr, 1) := by decide +kernel
theorem dJ13_bitCount_95d88_53 : decode cJ13_bitCount_95d88 53 = .ok (.ladd, 1) := by decide +kernel
theorem dJ13_bitCount_95d88_54 : decode cJ13_bitCount_95d88 54 = .ok (.lstore_n 0, 1) := by decide +kernel
theorem dJ13_bitCount_95d88_55 : decode cJ13_bitCount_95d88 55 = .ok (.lload_n 0, 1) := by decide +kernel
theorem dJ13_bitCount_95d88_56 : decode cJ13_bitCount_95d88 56 = .ok (.l2i, 1) := by decide +kernel
theorem dJ13_bitCount_95d88_57 : decode cJ13_bitCount_95d88 57 = .ok (.bipush 127, 2) := by decide +kernel
theorem dJ13_bitCount_95d88_59 : decode cJ13_bitCount_95d88 59 = .ok (.iand, 1) := by decide +kernel
theorem dJ13_bitCount_95d88_60 : decode cJ13_bitCount_95d88 60 = .ok (.ireturn, 1) := by decide +kernel
theorem dJ9_max_7cf53_0 : decode cJ9_max_7cf53 0 = .ok (.iload_n 0, 1) := by decide +kernel
theorem dJ9_max_7cf53_1 : decode cJ9_max_7cf53 1 = .ok (.iload_n 1, 1) := by decide +kernel
theorem dJ9_max_7cf53_2 : decode cJ9_max_7cf53 2 = .ok (.if_icmp .lt 7, 3) := by decide +kernel
theorem dJ9_max_7cf53_5 : decode cJ9_max_7cf53 5 = .ok (.iload_n 0, 1) := by decide +kernel
theorem dJ9_max_7cf53_6 : decode cJ9_max_7cf53 6 = .ok (.goto 4, 3) := by decide +kernel
theorem dJ9_max_7cf53_9 : decode cJ9_max_7cf53 9 = .ok (.iload_n 1, 1) := by decide +kernel
theorem dJ9_max_7cf53_10 : decode cJ9_max_7cf53 10 = .ok (.ireturn, 1) := by decide +kernel
theorem dJ9_max_f86c9_0 : decode cJ9_max_f86c9 0 = .ok (.lload_n 0, 1) := by decide +kernel
theorem dJ9_max_f86c9_1 : decode cJ9_max_f86c9 1 = .ok (.lload_n 2, 1) := by decide +kernel
theorem dJ9_max_f86c9_2 : decode cJ9_max_f86c9 2 = .ok (.lcmp, 1) := by decide +kernel
theorem dJ9_max_f86c9_3 : decode cJ9_max_f86c9 3 = .ok (.ifCond .lt 7, 3) := by decide +kernel
theorem dJ9_max_f86c9_6 : decode cJ9_max_f86c9 6 = .ok (.lload_n 0, 1) := by decide +kernel
theorem dJ9_max_f86c9_7 : decode cJ9_max_f86c9 7 = .ok (.goto 4, 3) := by decide +kernel
theorem dJ9_max_f86c9_10 : decode cJ9_max_f86c9 10 = .ok (.lload_n 2, 1) := by decide +kernel
theorem dJ9_max_f86c9_11 : decode cJ9_max_f86c9 11 = .ok (.lreturn, 1) := by decide +kernel
theorem dJ9_min_7cf53_0 : decode cJ9_min_7cf53 0 = .ok (.iload_n 0, 1) := by decide +kernel
theorem dJ9_min_7cf53_1 : decode cJ9_min_7cf53 1 = .ok (.iload_n 1, 1) := by decide +kernel
theorem dJ9_min_7cf53_2 : decode cJ9_min_7cf53 2 = .ok (.if_icmp .gt 7, 3) := by decide +kernel
theorem dJ9_min_7cf53_5 : decode cJ9_min_7cf53 5 = .ok (.iload_n 0, 1) := by decide +kernel
theorem dJ9_min_7cf53_6 : decode cJ9_min_7cf53 6 = .ok (.goto 4, 3) := by decide +kernel
theorem dJ9_min_7cf53_9 : decode cJ9_min_7cf53 9 = .ok (.iload_n 1, 1) := by decide +kernel
theorem dJ9_min_7cf53_10 : decode cJ9_min_7cf53 10 = .ok (.ireturn, 1) := by decide +kernel
theorem dJ9_min_f86c9_0 : decode cJ9_min_f86c9 0 = .ok (.lload_n 0, 1) := by decide +kernel
theorem dJ9_min_f86c9_1 : decode cJ9_min_f86c9 1 = .ok (.lload_n 2, 1) := by decide +kernel
theorem dJ9_min_f86c9_2 : decode cJ9_min_f86c9 2 = .ok (.lcmp, 1) := by decide +kernel
theorem dJ9_min_f86c9_3 : decode cJ9_min_f86c9 3 = .ok (.ifCond .gt 7, 3) := by decide +kernel
theorem dJ9_min_f86c9_6 : decode cJ9_min_f86c9 6 = .ok (.lload_n 0, 1) := by decide +kernel
theorem dJ9_min_f86c9_7 : decode cJ9_min_f86c9 7 = .ok (.goto 4, 3) := by decide +kernel
theorem dJ9_min_f86c9_10 : decode cJ9_min_f86c9 10 = .ok (.lload_n 2, 1) := by decide +kernel
theorem dJ9_min_f86c9_11 : decode cJ9_min_f86c9 11 = .ok (.lreturn, 1) := by decide +kernel
theorem dJ0_length_8abf5_0 : decode cJ0_length_8abf5 0 = .ok (.aload_n 0, 1) := by decide +kernel
theorem dJ0_length_8abf5_1 : decode cJ0_length_8abf5 1 = .ok (.getfield 9, 3) := by decide +kernel
theorem dJ0_length_8abf5_4 : decode cJ0_length_8abf5 4 = .ok (.arraylength, 1) := by decide +kernel
theorem dJ0_length_8abf5_5 : decode cJ0_length_8abf5 5 = .ok (.aload_n 0, 1) := by decide +kernel
theorem dJ0_length_8abf5_6 : decode cJ0_length_8abf5 6 = .ok (.invokevirtual 335, 3) := by decide +kernel
theorem dJ0_length_8abf5_9 : decode cJ0_length_8abf5 9 = .ok (.ishr, 1) := by decide +kernel
theorem dJ0_length_8abf5_10 : decode cJ0_length_8abf5 10 = .ok (.ireturn, 1) := by decide +kernel
theorem dJ0_charAt_5068e_0 : decode cJ0_charAt_5068e 0 = .ok (.aload_n 0, 1) := by decide +kernel
theorem dJ0_charAt_5068e_1 : decode cJ0_charAt_5068e 1 = .ok (.invokevirtual 492, 3) := by decide +kernel
theorem dJ0_charAt_5068e_4 : decode cJ0_charAt_5068e 4 = .ok (.ifCond .eq 12, 3) := by decide +kernel
theorem dJ0_charAt_5068e_7 : decode cJ0_charAt_5068e 7 = .ok (.aload_n 0, 1) := by decide +kernel
theorem dJ0_charAt_5068e_8 : decode cJ0_charAt_5068e 8 = .ok (.getfield 9, 3) := by decide +kernel
theorem dJ0_charAt_5068e_11 : decode cJ0_charAt_5068e 11 = .ok (.iload_n 1, 1) := by decide +kernel
theorem dJ0_charAt_5068e_12 : decode cJ0_charAt_5068e 12 = .ok (.invokestatic 495, 3) := by decide +kernel
theorem dJ0_charAt_5068e_15 : decode cJ0_charAt_5068e 15 = .ok (.ireturn, 1) := by decide +kernel
theorem dJ0_charAt_5068e_16 : decode cJ0_charAt_5068e 16 = .ok (.aload_n 0, 1) := by decide +kernel
theorem dJ0_charAt_5068e_17 : decode cJ0_charAt_5068e 17 = .ok (.getfield 9, 3) := by decide +kernel
theorem dJ0_charAt_5068e_20 : decode cJ0_charAt_5068e 20 = .ok (.iload_n 1, 1) := by decide +kernel
theorem dJ0_charAt_5068e_21 : decode cJ0_charAt_5068e 21 = .ok (.invokestatic 498, 3) := by decide +kernel
theorem dJ0_charAt_5068e_24 : decode cJ0_charAt_5068e 24 = .ok (.ireturn, 1) := by decide +kernel
theorem dJ0_coder_7d493_0 : decode cJ0_coder_7d493 0 = .ok (.getstatic 38, 3) := by decide +kernel
theorem dJ0_coder_7d493_3 : decode cJ0_coder_7d493 3 = .ok (.ifCond .eq 10, 3) := by decide +kernel
theorem dJ0_coder_7d493_6 : decode cJ0_coder_7d493 6 = .ok (.aload_n 0, 1) := by decide +kernel
theorem dJ0_coder_7d493_7 : decode cJ0_coder_7d493 7 = .ok (.getfield 15, 3) := by decide +kernel
theorem dJ0_coder_7d493_10 : decode cJ0_coder_7d493 10 = .ok (.goto 4, 3) := by decide +kernel
theorem dJ0_coder_7d493_13 : decode cJ0_coder_7d493 13 = .ok (.iconst 1, 1) := by decide +kernel
theorem dJ0_coder_7d493_14 : decode cJ0_coder_7d493 14 = .ok (.ireturn, 1) := by decide +kernel
theorem dJ0_isLatin1_aae02_0 : decode cJ0_isLatin1_aae02 0 = .ok (.getstatic 38, 3) := by decide +kernel
theorem dJ0_isLatin1_aae02_3 : decode cJ0_isLatin1_aae02 3 = .ok (.ifCond .eq 14, 3) := by decide +kernel
theorem dJ0_isLatin1_aae02_6 : decode cJ0_isLatin1_aae02 6 = .ok (.aload_n 0, 1) := by decide +kernel
theorem dJ0_isLatin1_aae02_7 : decode cJ0_isLatin1_aae02 7 = .ok (.getfield 15, 3) := by decide +kernel
theorem dJ0_isLatin1_aae02_10 : decode cJ0_isLatin1_aae02 10 = .ok (.ifCond .ne 7, 3) := by decide +kernel
theorem dJ0_isLatin1_aae02_13 : decode cJ0_isLatin1_aae02 13 = .ok (.iconst 1, 1) := by decide +kernel
theorem dJ0_isLatin1_aae02_14 : decode cJ0_isLatin1_aae02 14 = .ok (.goto 4, 3) := by decide +kernel
theorem dJ0_isLatin1_aae02_17 : decode cJ0_isLatin1_aae02 17 = .ok (.iconst 0, 1) := by decide +kernel
theorem dJ0_isLatin1_aae02_18 : decode cJ0_isLatin1_aae02 18 = .ok (.ireturn, 1) := by decide +kernel
theorem dJ0_checkIndex_df160_0 : decode cJ0_checkIndex_df160 0 = .ok (.iload_n 0, 1) := by decide +kernel
theorem dJ0_checkIndex_df160_1 : decode cJ0_checkIndex_df160 1 = .ok (.iload_n 1, 1) := by decide +kernel
theorem dJ0_checkIndex_df160_2 : decode cJ0_checkIndex_df160 2 = .ok (.getstatic 1053, 3) := by decide +kernel
theorem dJ0_checkIndex_df160_5 : decode cJ0_checkIndex_df160 5 = .ok (.invokestatic 1059, 3) := by decide +kernel
theorem dJ0_checkIndex_df160_8 : decode cJ0_checkIndex_df160 8 = .ok (.pop, 1) := by decide +kernel
theorem dJ0_checkIndex_df160_9 : decode cJ0_checkIndex_df160 9 = .ok (.return_, 1) := by decide +kernel
theorem dJ1_charAt_3b067_0 : decode cJ1_charAt_3b067 0 = .ok (.iload_n 1, 1) := by decide +kernel
theorem dJ1_charAt_3b067_1 : decode cJ1_charAt_3b067 1 = .ok (.aload_n 0, 1) := by decide +kernel
theorem dJ1_charAt_3b067_2 : decode cJ1_charAt_3b067 2 = .ok (.arraylength, 1) := by decide +kernel
theorem dJ1_charAt_3b067_3 : decode cJ1_charAt_3b067 3 = .ok (.invokestatic 9, 3) := by decide +kernel
theorem dJ1_charAt_3b067_6 : decode cJ1_charAt_3b067 6 = .ok (.aload_n 0, 1) := by decide +kernel
theorem dJ1_charAt_3b067_7 : decode cJ1_charAt_3b067 7 = .ok (.iload_n 1, 1) := by decide +kernel
theorem dJ1_charAt_3b067_8 : decode cJ1_charAt_3b067 8 = .ok (.baload, 1) := by decide +kernel
theorem dJ1_charAt_3b067_9 : decode cJ1_charAt_3b067 9 = .ok (.sipush 255, 3) := by decide +kernel
theorem dJ1_charAt_3b067_12 : decode cJ1_charAt_3b067 12 = .ok (.iand, 1) := by decide +kernel
theorem dJ1_charAt_3b067_13 : decode cJ1_charAt_3b067 13 = .ok (.i2c, 1) := by decide +kernel
theorem dJ1_charAt_3b067_14 : decode cJ1_charAt_3b067 14 = .ok (.ireturn, 1) := by decide +kernel
theorem dJ2_getChar_3b067_0 : decode cJ2_getChar_3b067 0 = .ok (.getstatic 44, 3) := by decide +kernel
theorem dJ2_getChar_3b067_3 : decode cJ2_getChar_3b067 3 = .ok (.ifCond .ne 25, 3) := by decide +kernel
theorem dJ2_getChar_3b067_6 : decode cJ2_getChar_3b067 6 = .ok (.iload_n 1, 1) := by decide +kernel
theorem dJ2_getChar_3b067_7 : decode cJ2_getChar_3b067 7 = .ok (.ifCond .lt 11, 3) := by decide +kernel
theorem dJ2_getChar_3b067_10 : decode cJ2_getChar_3b067 10 = .ok (.iload_n 1, 1) := by decide +kernel
theorem dJ2_getChar_3b067_11 : decode cJ2_getChar_3b067 11 = .ok (.aload_n 0, 1) := by decide +kernel
theorem dJ2_getChar_3b067_12 : decode cJ2_getChar_3b067 12 = .ok (.invokestatic 48, 3) := by decide +kernel
theorem dJ2_getChar_3b067_15 : decode cJ2_getChar_3b067 15 = .ok (.if_icmp .lt 13, 3) := by decide +kernel
theorem dJ2_getChar_3b067_18 : decode cJ2_getChar_3b067 18 = .ok (.new 52, 3) := by decide +kernel
theorem dJ2_getChar_3b067_21 : decode cJ2_getChar_3b067 21 = .ok (.dup, 1) := by decide +kernel
theorem dJ2_getChar_3b067_22 : decode cJ2_getChar_3b067 22 = .ok (.ldc 54, 2) := by decide +kernel
theorem dJ2_getChar_3b067_24 : decode cJ2_getChar_3b067 24 = .ok (.invokespecial 56, 3) := by decide +kernel
theorem dJ2_getChar_3b067_27 : decode cJ2_getChar_3b067 27 = .ok (.athrow, 1) := by decide +kernel
theorem dJ2_getChar_3b067_28 : decode cJ2_getChar_3b067 28 = .ok (.iload_n 1, 1) := by decide +kernel
theorem dJ2_getChar_3b067_29 : decode cJ2_getChar_3b067 29 = .ok (.iconst 1, 1) := by decide +kernel
theorem dJ2_getChar_3b067_30 : decode cJ2_getChar_3b067 30 = .ok (.ishl, 1) := by decide +kernel
theorem dJ2_getChar_3b067_31 : decode cJ2_getChar_3b067 31 = .ok (.istore_n 1, 1) := by decide +kernel
theorem dJ2_getChar_3b067_32 : decode cJ2_getChar_3b067 32 = .ok (.aload_n 0, 1) := by decide +kernel
theorem dJ2_getChar_3b067_33 : decode cJ2_getChar_3b067 33 = .ok (.iload_n 1, 1) := by decide +kernel
theorem dJ2_getChar_3b067_34 : decode cJ2_getChar_3b067 34 = .ok (.iinc 1 1, 3) := by decide +kernel
theorem dJ2_getChar_3b067_37 : decode cJ2_getChar_3b067 37 = .ok (.baload, 1) := by decide +kernel
theorem dJ2_getChar_3b067_38 : decode cJ2_getChar_3b067 38 = .ok (.sipush 255, 3) := by decide +kernel
theorem dJ2_getChar_3b067_41 : decode cJ2_getChar_3b067 41 = .ok (.iand, 1) := by decide +kernel
theorem dJ2_getChar_3b067_42 : decode cJ2_getChar_3b067 42 = .ok (.getstatic 59, 3) := by decide +kernel
theorem dJ2_getChar_3b067_45 : decode cJ2_getChar_3b067 45 = .ok (.ishl, 1) := by decide +kernel
theorem dJ2_getChar_3b067_46 : decode cJ2_getChar_3b067 46 = .ok (.aload_n 0, 1) := by decide +kernel
theorem dJ2_getChar_3b067_47 : decode cJ2_getChar_3b067 47 = .ok (.iload_n 1, 1) := by decide +kernel
theorem dJ2_getChar_3b067_48 : decode cJ2_getChar_3b067 48 = .ok (.baload, 1) := by decide +kernel
theorem dJ2_getChar_3b067_49 : decode cJ2_getChar_3b067 49 = .ok (.sipush 255, 3) := by decide +kernel
theorem dJ2_getChar_3b067_52 : decode cJ2_getChar_3b067 52 = .ok (.iand, 1) := by decide +kernel
theorem dJ2_getChar_3b067_53 : decode cJ2_getChar_3b067 53 = .ok (.getstatic 63, 3) := by decide +kernel
theorem dJ2_getChar_3b067_56 : decode cJ2_getChar_3b067 56 = .ok (.ishl, 1) := by decide +kernel
theorem dJ2_getChar_3b067_57 : decode cJ2_getChar_3b067 57 = .ok (.ior, 1) := by decide +kernel
theorem dJ2_getChar_3b067_58 : decode cJ2_getChar_3b067 58 = .ok (.i2c, 1) := by decide +kernel
theorem dJ2_getChar_3b067_59 : decode cJ2_getChar_3b067 59 = .ok (.ireturn, 1) := by decide +kernel
theorem dJ2_length_9d52b_0 : decode cJ2_length_9d52b 0 = .ok (.aload_n 0, 1) := by decide +kernel
theorem dJ2_length_9d52b_1 : decode cJ2_length_9d52b 1 = .ok (.arraylength, 1) := by decide +kernel
theorem dJ2_length_9d52b_2 : decode cJ2_length_9d52b 2 = .ok (.iconst 1, 1) := by decide +kernel
theorem dJ2_length_9d52b_3 : decode cJ2_length_9d52b 3 = .ok (.ishr, 1) := by decide +kernel
theorem dJ2_length_9d52b_4 : decode cJ2_length_9d52b 4 = .ok (.ireturn, 1) := by decide +kernel
theorem dJ2_charAt_3b067_0 : decode cJ2_charAt_3b067 0 = .ok (.iload_n 1, 1) := by decide +kernel
theorem dJ2_charAt_3b067_1 : decode cJ2_charAt_3b067 1 = .ok (.aload_n 0, 1) := by decide +kernel
theorem dJ2_charAt_3b067_2 : decode cJ2_charAt_3b067 2 = .ok (.invokestatic 67, 3) := by decide +kernel
theorem dJ2_charAt_3b067_5 : decode cJ2_charAt_3b067 5 = .ok (.aload_n 0, 1) := by decide +kernel
theorem dJ2_charAt_3b067_6 : decode cJ2_charAt_3b067 6 = .ok (.iload_n 1, 1) := by decide +kernel
theorem dJ2_charAt_3b067_7 : decode cJ2_charAt_3b067 7 = .ok (.invokestatic 71, 3) := by decide +kernel
theorem dJ2_charAt_3b067_10 : decode cJ2_charAt_3b067 10 = .ok (.ireturn, 1) := by decide +kernel
theorem dJ2_checkIndex_2214a_0 : decode cJ2_checkIndex_2214a 0 = .ok (.iload_n 0, 1) := by decide +kernel
theorem dJ2_checkIndex_2214a_1 : decode cJ2_checkIndex_2214a 1 = .ok (.aload_n 1, 1) := by decide +kernel
theorem dJ2_checkIndex_2214a_2 : decode cJ2_checkIndex_2214a 2 = .ok (.invokestatic 48, 3) := by decide +kernel
theorem dJ2_checkIndex_2214a_5 : decode cJ2_checkIndex_2214a 5 = .ok (.invokestatic 414, 3) := by decide +kernel
theorem dJ2_checkIndex_2214a_8 : decode cJ2_checkIndex_2214a 8 = .ok (.return_, 1) := by decide +kernel
theorem dJ7_fill_53178_0 : decode cJ7_fill_53178 0 = .ok (.iconst 0, 1) := by decide +kernel
theorem dJ7_fill_53178_1 : decode cJ7_fill_53178 1 = .ok (.istore_n 2, 1) := by decide +kernel
theorem dJ7_fill_53178_2 : decode cJ7_fill_53178 2 = .ok (.aload_n 0, 1) := by decide +kernel
theorem dJ7_fill_53178_3 : decode cJ7_fill_53178 3 = .ok (.arraylength, 1) := by decide +kernel
theorem dJ7_fill_53178_4 : decode cJ7_fill_53178 4 = .ok (.istore_n 3, 1) := by decide +kernel
theorem dJ7_fill_53178_5 : decode cJ7_fill_53178 5 = .ok (.iload_n 2, 1) := by decide +kernel
theorem dJ7_fill_53178_6 : decode cJ7_fill_53178 6 = .ok (.iload_n 3, 1) := by decide +kernel
theorem dJ7_fill_53178_7 : decode cJ7_fill_53178 7 = .ok (.if_icmp .ge 13, 3) := by decide +kernel
theorem dJ7_fill_53178_10 : decode cJ7_fill_53178 10 = .ok (.aload_n 0, 1) := by decide +kernel
theorem dJ7_fill_53178_11 : decode cJ7_fill_53178 11 = .ok (.iload_n 2, 1) := by decide +kernel
theorem dJ7_fill_53178_12 : decode cJ7_fill_53178 12 = .ok (.iload_n 1, 1) := by decide +kernel
theorem dJ7_fill_53178_13 : decode cJ7_fill_53178 13 = .ok (.iastore, 1) := by decide +kernel
theorem dJ7_fill_53178_14 : decode cJ7_fill_53178 14 = .ok (.iinc 2 1, 3) := by decide +kernel
theorem dJ7_fill_53178_17 : decode cJ7_fill_53178 17 = .ok (.goto (-12), 3) := by decide +kernel
theorem dJ7_fill_53178_20 : decode cJ7_fill_53178 20 = .ok (.return_, 1) := by decide +kernel
theorem dJ3_checkIndex_8e157_0 : decode cJ3_checkIndex_8e157 0 = .ok (.iload_n 0, 1) := by decide +kernel
theorem dJ3_checkIndex_8e157_1 : decode cJ3_checkIndex_8e157 1 = .ok (.ifCond .lt 8, 3) := by decide +kernel
theorem dJ3_checkIndex_8e157_4 : decode cJ3_checkIndex_8e157 4 = .ok (.iload_n 0, 1) := by decide +kernel
theorem dJ3_checkIndex_8e157_5 : decode cJ3_checkIndex_8e157 5 = .ok (.iload_n 1, 1) := by decide +kernel
theorem dJ3_checkIndex_8e157_6 : decode cJ3_checkIndex_8e157 6 = .ok (.if_icmp .lt 10, 3) := by decide +kernel
theorem dJ3_checkIndex_8e157_9 : decode cJ3_checkIndex_8e157 9 = .ok (.aload_n 2, 1) := by decide +kernel
theorem dJ3_checkIndex_8e157_10 : decode cJ3_checkIndex_8e157 10 = .ok (.iload_n 0, 1) := by decide +kernel
theorem dJ3_checkIndex_8e157_11 : decode cJ3_checkIndex_8e157 11 = .ok (.iload_n 1, 1) := by decide +kernel
theorem dJ3_checkIndex_8e157_12 : decode cJ3_checkIndex_8e157 12 = .ok (.invokestatic 95, 3) := by decide +kernel
theorem dJ3_checkIndex_8e157_15 : decode cJ3_checkIndex_8e157 15 = .ok (.athrow, 1) := by decide +kernel
theorem dJ3_checkIndex_8e157_16 : decode cJ3_checkIndex_8e157 16 = .ok (.iload_n 0, 1) := by decide +kernel
theorem dJ3_checkIndex_8e157_17 : decode cJ3_checkIndex_8e157 17 = .ok (.ireturn, 1) := by decide +kernel
theorem dL_append_0 : decode cL_append 0 = .ok (.aload 6, 2) := by decide +kernel
theorem dL_append_2 : decode cL_append 2 = .ok (.iconst 0, 1) := by decide +kernel
theorem dL_append_3 : decode cL_append 3 = .ok (.aload_n 0, 1) := by decide +kernel
theorem dL_append_4 : decode cL_append 4 = .ok (.iload_n 1, 1) := by decide +kernel
theorem dL_append_5 : decode cL_append 5 = .ok (.iload_n 2, 1) := by decide +kernel
theorem dL_append_6 : decode cL_append 6 = .ok (.iload_n 3, 1) := by decide +kernel
theorem dL_append_7 : decode cL_append 7 = .ok (.iload 4, 2) := by decide +kernel
theorem dL_append_9 : decode cL_append 9 = .ok (.iload 5, 2) := by decide +kernel
theorem dL_append_11 : decode cL_append 11 = .ok (.invokevirtual 7, 3) := by decide +kernel
theorem dL_append_14 : decode cL_append 14 = .ok (.i2l, 1) := by decide +kernel
theorem dL_append_15 : decode cL_append 15 = .ok (.lastore, 1) := by decide +kernel
theorem dL_append_16 : decode cL_append 16 = .ok (.goto 7, 3) := by decide +kernel
theorem dL_append_19 : decode cL_append 19 = .ok (.astore 7, 2) := by decide +kernel
theorem dL_append_21 : decode cL_append 21 = .ok (.iconst 1, 1) := by decide +kernel
theorem dL_append_22 : decode cL_append 22 = .ok (.ireturn, 1) := by decide +kernel
theorem dL_append_23 : decode cL_append 23 = .ok (.iconst 0, 1) := by decide +kernel
theorem dL_append_24 : decode cL_append 24 = .ok (.ireturn, 1) := by decide +kernel
theorem dL_truncate_0 : decode cL_truncate 0 = .ok (.aload_n 2, 1) := by decide +kernel
theorem dL_truncate_1 : decode cL_truncate 1 = .ok (.iconst 0, 1) := by decide +kernel
theorem dL_truncate_2 : decode cL_truncate 2 = .ok (.aload_n 0, 1) := by decide +kernel
theorem dL_truncate_3 : decode cL_truncate 3 = .ok (.iload_n 1, 1) := by decide +kernel
theorem dL_truncate_4 : decode cL_truncate 4 = .ok (.invokevirtual 15, 3) := by decide +kernel
theorem dL_truncate_7 : decode cL_truncate 7 = .ok (.i2l, 1) := by decide +kernel
theorem dL_truncate_8 : decode cL_truncate 8 = .ok (.lastore, 1) := by decide +kernel
theorem dL_truncate_9 : decode cL_truncate 9 = .ok (.goto 6, 3) := by decide +kernel
theorem dL_truncate_12 : decode cL_truncate 12 = .ok (.astore_n 3, 1) := by decide +kernel
theorem dL_truncate_13 : decode cL_truncate 13 = .ok (.iconst 1, 1) := by decide +kernel
theorem dL_truncate_14 : decode cL_truncate 14 = .ok (.ireturn, 1) := by decide +kernel
theorem dL_truncate_15 : decode cL_truncate 15 = .ok (.iconst 0, 1) := by decide +kernel
theorem dL_truncate_16 : decode cL_truncate 16 = .ok (.ireturn, 1) := by decide +kernel
theorem dL_load_0 : decode cL_load 0 = .ok (.aload_n 1, 1) := by decide +kernel
theorem dL_load_1 : decode cL_load 1 = .ok (.iconst 0, 1) := by decide +kernel
theorem dL_load_2 : decode cL_load 2 = .ok (.aload_n 0, 1) := by decide +kernel
theorem dL_load_3 : decode cL_load 3 = .ok (.invokevirtual 21, 3) := by decide +kernel
theorem dL_load_6 : decode cL_load 6 = .ok (.i2l, 1) := by decide +kernel
theorem dL_load_7 : decode cL_load 7 = .ok (.lastore, 1) := by decide +kernel
theorem dL_load_8 : decode cL_load 8 = .ok (.goto 6, 3) := by decide +kernel
theorem dL_load_11 : decode cL_load 11 = .ok (.astore_n 2, 1) := by decide +kernel
theorem dL_load_12 : decode cL_load 12 = .ok (.iconst 1, 1) := by decide +kernel
theorem dL_load_13 : decode cL_load 13 = .ok (.ireturn, 1) := by decide +kernel
theorem dL_load_14 : decode cL_load 14 = .ok (.iconst 0, 1) := by decide +kernel
theorem dL_load_15 : decode cL_load 15 = .ok (.ireturn, 1) := by decide +kernel
theorem dL_lease_0 : decode cL_lease 0 = .ok (.aload 5, 2) := by decide +kernel
theorem dL_lease_2 : decode cL_lease 2 = .ok (.iconst 0, 1) := by decide +kernel
theorem dL_lease_3 : decode cL_lease 3 = .ok (.aload_n 0, 1) := by decide +kernel
theorem dL_lease_4 : decode cL_lease 4 = .ok (.iload_n 1, 1) := by decide +kernel
theorem dL_lease_5 : decode cL_lease 5 = .ok (.iload_n 2, 1) := by decide +kernel
theorem dL_lease_6 : decode cL_lease 6 = .ok (.iload_n 3, 1) := by decide +kernel
theorem dL_lease_7 : decode cL_lease 7 = .ok (.iload 4, 2) := by decide +kernel
theorem dL_lease_9 : decode cL_lease 9 = .ok (.invokevirtual 25, 3) := by decide +kernel
theorem dL_lease_12 : decode cL_lease 12 = .ok (.i2l, 1) := by decide +kernel
theorem dL_lease_13 : decode cL_lease 13 = .ok (.lastore, 1) := by decide +kernel
theorem dL_lease_14 : decode cL_lease 14 = .ok (.goto 15, 3) := by decide +kernel
theorem dL_lease_17 : decode cL_lease 17 = .ok (.astore 6, 2) := by decide +kernel
theorem dL_lease_19 : decode cL_lease 19 = .ok (.iconst 1, 1) := by decide +kernel
theorem dL_lease_20 : decode cL_lease 20 = .ok (.ireturn, 1) := by decide +kernel
theorem dL_lease_21 : decode cL_lease 21 = .ok (.astore 6, 2) := by decide +kernel
theorem dL_lease_23 : decode cL_lease 23 = .ok (.iconst 2, 1) := by decide +kernel
theorem dL_lease_24 : decode cL_lease 24 = .ok (.ireturn, 1) := by decide +kernel
theorem dL_lease_25 : decode cL_lease 25 = .ok (.astore 6, 2) := by decide +kernel
theorem dL_lease_27 : decode cL_lease 27 = .ok (.iconst 3, 1) := by decide +kernel
theorem dL_lease_28 : decode cL_lease 28 = .ok (.ireturn, 1) := by decide +kernel
theorem dL_lease_29 : decode cL_lease 29 = .ok (.iconst 0, 1) := by decide +kernel
theorem dL_lease_30 : decode cL_lease 30 = .ok (.ireturn, 1) := by decide +kernel
theorem dL_renew_0 : decode cL_renew 0 = .ok (.aload_n 3, 1) := by decide +kernel
theorem dL_renew_1 : decode cL_renew 1 = .ok (.iconst 0, 1) := by decide +kernel
theorem dL_renew_2 : decode cL_renew 2 = .ok (.aload_n 0, 1) := by decide +kernel
theorem dL_renew_3 : decode cL_renew 3 = .ok (.iload_n 1, 1) := by decide +kernel
theorem dL_renew_4 : decode cL_renew 4 = .ok (.iload_n 2, 1) := by decide +kernel
theorem dL_renew_5 : decode cL_renew 5 = .ok (.invokevirtual 31, 3) := by decide +kernel
theorem dL_renew_8 : decode cL_renew 8 = .ok (.i2l, 1) := by decide +kernel
theorem dL_renew_9 : decode cL_renew 9 = .ok (.lastore, 1) := by decide +kernel
theorem dL_renew_10 : decode cL_renew 10 = .ok (.goto 15, 3) := by decide +kernel
theorem dL_renew_13 : decode cL_renew 13 = .ok (.astore 4, 2) := by decide +kernel
theorem dL_renew_15 : decode cL_renew 15 = .ok (.iconst 1, 1) := by decide +kernel
theorem dL_renew_16 : decode cL_renew 16 = .ok (.ireturn, 1) := by decide +kernel
theorem dL_renew_17 : decode cL_renew 17 = .ok (.astore 4, 2) := by decide +kernel
theorem dL_renew_19 : decode cL_renew 19 = .ok (.iconst 2, 1) := by decide +kernel
theorem dL_renew_20 : decode cL_renew 20 = .ok (.ireturn, 1) := by decide +kernel
theorem dL_renew_21 : decode cL_renew 21 = .ok (.astore 4, 2) := by decide +kernel
theorem dL_renew_23 : decode cL_renew 23 = .ok (.iconst 3, 1) := by decide +kernel
theorem dL_renew_24 : decode cL_renew 24 = .ok (.ireturn, 1) := by decide +kernel
theorem dL_renew_25 : decode cL_renew 25 = .ok (.iconst 0, 1) := by decide +kernel
theorem dL_renew_26 : decode cL_renew 26 = .ok (.ireturn, 1) := by decide +kernel
theorem dL_setField_0 : decode cL_setField 0 = .ok (.aload 5, 2) := by decide +kernel
theorem dL_setField_2 : decode cL_setField 2 = .ok (.iconst 0, 1) := by decide +kernel
theorem dL_setField_3 : decode cL_setField 3 = .ok (.aload_n 0, 1) := by decide +kernel
theorem dL_setField_4 : decode cL_setField 4 = .ok (.iload_n 1, 1) := by decide +kernel
theorem dL_setField_5 : decode cL_setField 5 = .ok (.iload_n 2, 1) := by decide +kernel
theorem dL_setField_6 : decode cL_setField 6 = .ok (.iload_n 3, 1) := by decide +kernel
theorem dL_setField_7 : decode cL_setField 7 = .ok (.iload 4, 2) := by decide +kernel
theorem dL_setField_9 : decode cL_setField 9 = .ok (.invokevirtual 35, 3) := by decide +kernel
theorem dL_setField_12 : decode cL_setField 12 = .ok (.i2l, 1) := by decide +kernel
theorem dL_setField_13 : decode cL_setField 13 = .ok (.lastore, 1) := by decide +kernel
theorem dL_setField_14 : decode cL_setField 14 = .ok (.goto 15, 3) := by decide +kernel
theorem dL_setField_17 : decode cL_setField 17 = .ok (.astore 6, 2) := by decide +kernel
theorem dL_setField_19 : decode cL_setField 19 = .ok (.iconst 1, 1) := by decide +kernel
theorem dL_setField_20 : decode cL_setField 20 = .ok (.ireturn, 1) := by decide +kernel
theorem dL_setField_21 : decode cL_setField 21 = .ok (.astore 6, 2) := by decide +kernel
theorem dL_setField_23 : decode cL_setField 23 = .ok (.iconst 2, 1) := by decide +kernel
theorem dL_setField_24 : decode cL_setField 24 = .ok (.ireturn, 1) := by decide +kernel
theorem dL_setField_25 : decode cL_setField 25 = .ok (.astore 6, 2) := by decide +kernel
theorem dL_setField_27 : decode cL_setField 27 = .ok (.iconst 3, 1) := by decide +kernel
theorem dL_setField_28 : decode cL_setField 28 = .ok (.ireturn, 1) := by decide +kernel
theorem dL_setField_29 : decode cL_setField 29 = .ok (.iconst 0, 1) := by decide +kernel
theorem dL_setField_30 : decode cL_setField 30 = .ok (.ireturn, 1) := by decide +kernel
theorem dL_addNode_0 : decode cL_addNode 0 = .ok (.aload 5, 2) := by decide +kernel
theorem dL_addNode_2 : decode cL_addNode 2 = .ok (.iconst 0, 1) := by decide +kernel
theorem dL_addNode_3 : decode cL_addNode 3 = .ok (.aload_n 0, 1) := by decide +kernel
theorem dL_addNode_4 : decode cL_addNode 4 = .ok (.iload_n 1, 1) := by decide +kernel
theorem dL_addNode_5 : decode cL_addNode 5 = .ok (.iload_n 2, 1) := by decide +kernel
theorem dL_addNode_6 : decode cL_addNode 6 = .ok (.iload_n 3, 1) := by decide +kernel
theorem dL_addNode_7 : decode cL_addNode 7 = .ok (.iload 4, 2) := by decide +kernel
theorem dL_addNode_9 : decode cL_addNode 9 = .ok (.invokevirtual 39, 3) := by decide +kernel
theorem dL_addNode_12 : decode cL_addNode 12 = .ok (.i2l, 1) := by decide +kernel
theorem dL_addNode_13 : decode cL_addNode 13 = .ok (.lastore, 1) := by decide +kernel
theorem dL_addNode_14 : decode cL_addNode 14 = .ok (.goto 15, 3) := by decide +kernel
theorem dL_addNode_17 : decode cL_addNode 17 = .ok (.astore 6, 2) := by decide +kernel
theorem dL_addNode_19 : decode cL_addNode 19 = .ok (.iconst 1, 1) := by decide +kernel
theorem dL_addNode_20 : decode cL_addNode 20 = .ok (.ireturn, 1) := by decide +kernel
theorem dL_addNode_21 : decode cL_addNode 21 = .ok (.astore 6, 2) := by decide +kernel
theorem dL_addNode_23 : decode cL_addNode 23 = .ok (.iconst 2, 1) := by decide +kernel
theorem dL_addNode_24 : decode cL_addNode 24 = .ok (.ireturn, 1) := by decide +kernel
theorem dL_addNode_25 : decode cL_addNode 25 = .ok (.astore 6, 2) := by decide +kernel
theorem dL_addNode_27 : decode cL_addNode 27 = .ok (.iconst 3, 1) := by decide +kernel
theorem dL_addNode_28 : decode cL_addNode 28 = .ok (.ireturn, 1) := by decide +kernel
theorem dL_addNode_29 : decode cL_addNode 29 = .ok (.iconst 0, 1) := by decide +kernel
theorem dL_addNode_30 : decode cL_addNode 30 = .ok (.ireturn, 1) := by decide +kernel
theorem dL_removeNode_0 : decode cL_removeNode 0 = .ok (.aload_n 3, 1) := by decide +kernel
theorem dL_removeNode_1 : decode cL_removeNode 1 = .ok (.iconst 0, 1) := by decide +kernel
theorem dL_removeNode_2 : decode cL_removeNode 2 = .ok (.aload_n 0, 1) := by decide +kernel
theorem dL_removeNode_3 : decode cL_removeNode 3 = .ok (.iload_n 1, 1) := by decide +kernel
theorem dL_removeNode_4 : decode cL_removeNode 4 = .ok (.iload_n 2, 1) := by decide +kernel
theorem dL_removeNode_5 : decode cL_removeNode 5 = .ok (.invokevirtual 42, 3) := by decide +kernel
theorem dL_removeNode_8 : decode cL_removeNode 8 = .ok (.i2l, 1) := by decide +kernel
theorem dL_removeNode_9 : decode cL_removeNode 9 = .ok (.lastore, 1) := by decide +kernel
theorem dL_removeNode_10 : decode cL_removeNode 10 = .ok (.goto 11, 3) := by decide +kernel
theorem dL_removeNode_13 : decode cL_removeNode 13 = .ok (.astore 4, 2) := by decide +kernel
theorem dL_removeNode_15 : decode cL_removeNode 15 = .ok (.iconst 1, 1) := by decide +kernel
theorem dL_removeNode_16 : decode cL_removeNode 16 = .ok (.ireturn, 1) := by decide +kernel
theorem dL_removeNode_17 : decode cL_removeNode 17 = .ok (.astore 4, 2) := by decide +kernel
theorem dL_removeNode_19 : decode cL_removeNode 19 = .ok (.iconst 2, 1) := by decide +kernel
theorem dL_removeNode_20 : decode cL_removeNode 20 = .ok (.ireturn, 1) := by decide +kernel
theorem dL_removeNode_21 : decode cL_removeNode 21 = .ok (.iconst 0, 1) := by decide +kernel
theorem dL_removeNode_22 : decode cL_removeNode 22 = .ok (.ireturn, 1) := by decide +kernel
theorem dL_commit_0 : decode cL_commit 0 = .ok (.aload_n 2, 1) := by decide +kernel
theorem dL_commit_1 : decode cL_commit 1 = .ok (.iconst 0, 1) := by decide +kernel
theorem dL_commit_2 : decode cL_commit 2 = .ok (.aload_n 0, 1) := by decide +kernel
theorem dL_commit_3 : decode cL_commit 3 = .ok (.iload_n 1, 1) := by decide +kernel
theorem dL_commit_4 : decode cL_commit 4 = .ok (.invokevirtual 45, 3) := by decide +kernel
theorem dL_commit_7 : decode cL_commit 7 = .ok (.i2l, 1) := by decide +kernel
theorem dL_commit_8 : decode cL_commit 8 = .ok (.lastore, 1) := by decide +kernel
theorem dL_commit_9 : decode cL_commit 9 = .ok (.goto 9, 3) := by decide +kernel
theorem dL_commit_12 : decode cL_commit 12 = .ok (.astore_n 3, 1) := by decide +kernel
theorem dL_commit_13 : decode cL_commit 13 = .ok (.iconst 1, 1) := by decide +kernel
theorem dL_commit_14 : decode cL_commit 14 = .ok (.ireturn, 1) := by decide +kernel
theorem dL_commit_15 : decode cL_commit 15 = .ok (.astore_n 3, 1) := by decide +kernel
theorem dL_commit_16 : decode cL_commit 16 = .ok (.iconst 2, 1) := by decide +kernel
theorem dL_commit_17 : decode cL_commit 17 = .ok (.ireturn, 1) := by decide +kernel
theorem dL_commit_18 : decode cL_commit 18 = .ok (.iconst 0, 1) := by decide +kernel
theorem dL_commit_19 : decode cL_commit 19 = .ok (.ireturn, 1) := by decide +kernel
theorem dL_abandon_0 : decode cL_abandon 0 = .ok (.aload_n 2, 1) := by decide +kernel
theorem dL_abandon_1 : decode cL_abandon 1 = .ok (.iconst 0, 1) := by decide +kernel
theorem dL_abandon_2 : decode cL_abandon 2 = .ok (.aload_n 0, 1) := by decide +kernel
theorem dL_abandon_3 : decode cL_abandon 3 = .ok (.iload_n 1, 1) := by decide +kernel
theorem dL_abandon_4 : decode cL_abandon 4 = .ok (.invokevirtual 48, 3) := by decide +kernel
theorem dL_abandon_7 : decode cL_abandon 7 = .ok (.i2l, 1) := by decide +kernel
theorem dL_abandon_8 : decode cL_abandon 8 = .ok (.lastore, 1) := by decide +kernel
theorem dL_abandon_9 : decode cL_abandon 9 = .ok (.goto 9, 3) := by decide +kernel
theorem dL_abandon_12 : decode cL_abandon 12 = .ok (.astore_n 3, 1) := by decide +kernel
theorem dL_abandon_13 : decode cL_abandon 13 = .ok (.iconst 1, 1) := by decide +kernel
