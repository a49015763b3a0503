theorem dX7_undo_32 : decode cX7_undo 32 = .ok (.aload_n 0, 1) := by decide +kernel
theorem dX7_undo_33 : decode cX7_undo 33 = .ok (.getfield 22, 3) := by decide +kernel
theorem dX7_undo_36 : decode cX7_undo 36 = .ok (.getfield 256, 3) := by decide +kernel
theorem dX7_undo_39 : decode cX7_undo 39 = .ok (.ireturn, 1) := by decide +kernel
theorem dX7_undoCount_0 : decode cX7_undoCount 0 = .ok (.aload_n 0, 1) := by decide +kernel
theorem dX7_undoCount_1 : decode cX7_undoCount 1 = .ok (.getfield 22, 3) := by decide +kernel
theorem dX7_undoCount_4 : decode cX7_undoCount 4 = .ok (.getfield 256, 3) := by decide +kernel
theorem dX7_undoCount_7 : decode cX7_undoCount 7 = .ok (.ireturn, 1) := by decide +kernel
theorem dX7_save_0 : decode cX7_save 0 = .ok (.aload_n 0, 1) := by decide +kernel
theorem dX7_save_1 : decode cX7_save 1 = .ok (.getfield 16, 3) := by decide +kernel
theorem dX7_save_4 : decode cX7_save 4 = .ok (.aload_n 0, 1) := by decide +kernel
theorem dX7_save_5 : decode cX7_save 5 = .ok (.getfield 10, 3) := by decide +kernel
theorem dX7_save_8 : decode cX7_save 8 = .ok (.invokevirtual 86, 3) := by decide +kernel
theorem dX7_save_11 : decode cX7_save 11 = .ok (.aload_n 0, 1) := by decide +kernel
theorem dX7_save_12 : decode cX7_save 12 = .ok (.iconst 1, 1) := by decide +kernel
theorem dX7_save_13 : decode cX7_save 13 = .ok (.putfield 93, 3) := by decide +kernel
theorem dX7_save_16 : decode cX7_save 16 = .ok (.aload_n 0, 1) := by decide +kernel
theorem dX7_save_17 : decode cX7_save 17 = .ok (.getfield 10, 3) := by decide +kernel
theorem dX7_save_20 : decode cX7_save 20 = .ok (.getfield 151, 3) := by decide +kernel
theorem dX7_save_23 : decode cX7_save 23 = .ok (.ireturn, 1) := by decide +kernel
theorem dX7_restore_0 : decode cX7_restore 0 = .ok (.aload_n 0, 1) := by decide +kernel
theorem dX7_restore_1 : decode cX7_restore 1 = .ok (.getfield 93, 3) := by decide +kernel
theorem dX7_restore_4 : decode cX7_restore 4 = .ok (.ifCond .ne 14, 3) := by decide +kernel
theorem dX7_restore_7 : decode cX7_restore 7 = .ok (.new 61, 3) := by decide +kernel
theorem dX7_restore_10 : decode cX7_restore 10 = .ok (.dup, 1) := by decide +kernel
theorem dX7_restore_11 : decode cX7_restore 11 = .ok (.ldc_w 262, 3) := by decide +kernel
theorem dX7_restore_14 : decode cX7_restore 14 = .ok (.invokespecial 65, 3) := by decide +kernel
theorem dX7_restore_17 : decode cX7_restore 17 = .ok (.athrow, 1) := by decide +kernel
theorem dX7_restore_18 : decode cX7_restore 18 = .ok (.aload_n 0, 1) := by decide +kernel
theorem dX7_restore_19 : decode cX7_restore 19 = .ok (.getfield 10, 3) := by decide +kernel
theorem dX7_restore_22 : decode cX7_restore 22 = .ok (.aload_n 0, 1) := by decide +kernel
theorem dX7_restore_23 : decode cX7_restore 23 = .ok (.getfield 16, 3) := by decide +kernel
theorem dX7_restore_26 : decode cX7_restore 26 = .ok (.invokevirtual 86, 3) := by decide +kernel
theorem dX7_restore_29 : decode cX7_restore 29 = .ok (.aload_n 0, 1) := by decide +kernel
theorem dX7_restore_30 : decode cX7_restore 30 = .ok (.getfield 22, 3) := by decide +kernel
theorem dX7_restore_33 : decode cX7_restore 33 = .ok (.invokevirtual 90, 3) := by decide +kernel
theorem dX7_restore_36 : decode cX7_restore 36 = .ok (.aload_n 0, 1) := by decide +kernel
theorem dX7_restore_37 : decode cX7_restore 37 = .ok (.getfield 10, 3) := by decide +kernel
theorem dX7_restore_40 : decode cX7_restore 40 = .ok (.getfield 151, 3) := by decide +kernel
theorem dX7_restore_43 : decode cX7_restore 43 = .ok (.ireturn, 1) := by decide +kernel
theorem dX7_tick_0 : decode cX7_tick 0 = .ok (.aload_n 0, 1) := by decide +kernel
theorem dX7_tick_1 : decode cX7_tick 1 = .ok (.getfield 10, 3) := by decide +kernel
theorem dX7_tick_4 : decode cX7_tick 4 = .ok (.getfield 151, 3) := by decide +kernel
theorem dX7_tick_7 : decode cX7_tick 7 = .ok (.ireturn, 1) := by decide +kernel
theorem dX7_setup_0 : decode cX7_setup 0 = .ok (.iload_n 1, 1) := by decide +kernel
theorem dX7_setup_1 : decode cX7_setup 1 = .ok (.lookupswitch 43 #[(0, 27), (1, 35)], 27) := by decide +kernel
theorem dX7_setup_28 : decode cX7_setup 28 = .ok (.aload_n 0, 1) := by decide +kernel
theorem dX7_setup_29 : decode cX7_setup 29 = .ok (.getfield 10, 3) := by decide +kernel
theorem dX7_setup_32 : decode cX7_setup 32 = .ok (.getfield 264, 3) := by decide +kernel
theorem dX7_setup_35 : decode cX7_setup 35 = .ok (.ireturn, 1) := by decide +kernel
theorem dX7_setup_36 : decode cX7_setup 36 = .ok (.aload_n 0, 1) := by decide +kernel
theorem dX7_setup_37 : decode cX7_setup 37 = .ok (.getfield 10, 3) := by decide +kernel
theorem dX7_setup_40 : decode cX7_setup 40 = .ok (.getfield 267, 3) := by decide +kernel
theorem dX7_setup_43 : decode cX7_setup 43 = .ok (.ireturn, 1) := by decide +kernel
theorem dX7_setup_44 : decode cX7_setup 44 = .ok (.new 72, 3) := by decide +kernel
theorem dX7_setup_47 : decode cX7_setup 47 = .ok (.dup, 1) := by decide +kernel
theorem dX7_setup_48 : decode cX7_setup 48 = .ok (.ldc_w 270, 3) := by decide +kernel
theorem dX7_setup_51 : decode cX7_setup 51 = .ok (.invokespecial 76, 3) := by decide +kernel
theorem dX7_setup_54 : decode cX7_setup 54 = .ok (.athrow, 1) := by decide +kernel
theorem dX7_rule_0 : decode cX7_rule 0 = .ok (.aload_n 0, 1) := by decide +kernel
theorem dX7_rule_1 : decode cX7_rule 1 = .ok (.iload_n 1, 1) := by decide +kernel
theorem dX7_rule_2 : decode cX7_rule 2 = .ok (.invokevirtual 159, 3) := by decide +kernel
theorem dX7_rule_5 : decode cX7_rule 5 = .ok (.aload_n 0, 1) := by decide +kernel
theorem dX7_rule_6 : decode cX7_rule 6 = .ok (.getfield 10, 3) := by decide +kernel
theorem dX7_rule_9 : decode cX7_rule 9 = .ok (.getfield 272, 3) := by decide +kernel
theorem dX7_rule_12 : decode cX7_rule 12 = .ok (.iload_n 1, 1) := by decide +kernel
theorem dX7_rule_13 : decode cX7_rule 13 = .ok (.iaload, 1) := by decide +kernel
theorem dX7_rule_14 : decode cX7_rule 14 = .ok (.ireturn, 1) := by decide +kernel
theorem dX7_nodeCount_0 : decode cX7_nodeCount 0 = .ok (.aload_n 0, 1) := by decide +kernel
theorem dX7_nodeCount_1 : decode cX7_nodeCount 1 = .ok (.getfield 10, 3) := by decide +kernel
theorem dX7_nodeCount_4 : decode cX7_nodeCount 4 = .ok (.getfield 97, 3) := by decide +kernel
theorem dX7_nodeCount_7 : decode cX7_nodeCount 7 = .ok (.getfield 101, 3) := by decide +kernel
theorem dX7_nodeCount_10 : decode cX7_nodeCount 10 = .ok (.ireturn, 1) := by decide +kernel
theorem dX7_node_0 : decode cX7_node 0 = .ok (.aload_n 0, 1) := by decide +kernel
theorem dX7_node_1 : decode cX7_node 1 = .ok (.iload_n 1, 1) := by decide +kernel
theorem dX7_node_2 : decode cX7_node 2 = .ok (.invokevirtual 109, 3) := by decide +kernel
theorem dX7_node_5 : decode cX7_node 5 = .ok (.iload_n 2, 1) := by decide +kernel
theorem dX7_node_6 : decode cX7_node 6 = .ok (.tableswitch 121 0 4 #[34, 47, 60, 83, 103], 34) := by decide +kernel
theorem dX7_node_40 : decode cX7_node 40 = .ok (.aload_n 0, 1) := by decide +kernel
theorem dX7_node_41 : decode cX7_node 41 = .ok (.getfield 10, 3) := by decide +kernel
theorem dX7_node_44 : decode cX7_node 44 = .ok (.getfield 97, 3) := by decide +kernel
theorem dX7_node_47 : decode cX7_node 47 = .ok (.getfield 276, 3) := by decide +kernel
theorem dX7_node_50 : decode cX7_node 50 = .ok (.iload_n 1, 1) := by decide +kernel
theorem dX7_node_51 : decode cX7_node 51 = .ok (.iaload, 1) := by decide +kernel
theorem dX7_node_52 : decode cX7_node 52 = .ok (.ireturn, 1) := by decide +kernel
theorem dX7_node_53 : decode cX7_node 53 = .ok (.aload_n 0, 1) := by decide +kernel
theorem dX7_node_54 : decode cX7_node 54 = .ok (.getfield 10, 3) := by decide +kernel
theorem dX7_node_57 : decode cX7_node 57 = .ok (.getfield 97, 3) := by decide +kernel
theorem dX7_node_60 : decode cX7_node 60 = .ok (.getfield 279, 3) := by decide +kernel
theorem dX7_node_63 : decode cX7_node 63 = .ok (.iload_n 1, 1) := by decide +kernel
theorem dX7_node_64 : decode cX7_node 64 = .ok (.iaload, 1) := by decide +kernel
theorem dX7_node_65 : decode cX7_node 65 = .ok (.ireturn, 1) := by decide +kernel
theorem dX7_node_66 : decode cX7_node 66 = .ok (.aload_n 0, 1) := by decide +kernel
theorem dX7_node_67 : decode cX7_node 67 = .ok (.getfield 10, 3) := by decide +kernel
theorem dX7_node_70 : decode cX7_node 70 = .ok (.getfield 97, 3) := by decide +kernel
theorem dX7_node_73 : decode cX7_node 73 = .ok (.getfield 170, 3) := by decide +kernel
theorem dX7_node_76 : decode cX7_node 76 = .ok (.iload_n 1, 1) := by decide +kernel
theorem dX7_node_77 : decode cX7_node 77 = .ok (.invokestatic 174, 3) := by decide +kernel
theorem dX7_node_80 : decode cX7_node 80 = .ok (.ifCond .eq 7, 3) := by decide +kernel
theorem dX7_node_83 : decode cX7_node 83 = .ok (.iconst 1, 1) := by decide +kernel
theorem dX7_node_84 : decode cX7_node 84 = .ok (.goto 4, 3) := by decide +kernel
theorem dX7_node_87 : decode cX7_node 87 = .ok (.iconst 0, 1) := by decide +kernel
theorem dX7_node_88 : decode cX7_node 88 = .ok (.ireturn, 1) := by decide +kernel
theorem dX7_node_89 : decode cX7_node 89 = .ok (.aload_n 0, 1) := by decide +kernel
theorem dX7_node_90 : decode cX7_node 90 = .ok (.getfield 10, 3) := by decide +kernel
theorem dX7_node_93 : decode cX7_node 93 = .ok (.getfield 126, 3) := by decide +kernel
theorem dX7_node_96 : decode cX7_node 96 = .ok (.iload_n 1, 1) := by decide +kernel
theorem dX7_node_97 : decode cX7_node 97 = .ok (.invokevirtual 129, 3) := by decide +kernel
theorem dX7_node_100 : decode cX7_node 100 = .ok (.ifCond .eq 7, 3) := by decide +kernel
theorem dX7_node_103 : decode cX7_node 103 = .ok (.iconst 1, 1) := by decide +kernel
theorem dX7_node_104 : decode cX7_node 104 = .ok (.goto 4, 3) := by decide +kernel
theorem dX7_node_107 : decode cX7_node 107 = .ok (.iconst 0, 1) := by decide +kernel
theorem dX7_node_108 : decode cX7_node 108 = .ok (.ireturn, 1) := by decide +kernel
theorem dX7_node_109 : decode cX7_node 109 = .ok (.aload_n 0, 1) := by decide +kernel
theorem dX7_node_110 : decode cX7_node 110 = .ok (.getfield 10, 3) := by decide +kernel
theorem dX7_node_113 : decode cX7_node 113 = .ok (.getfield 97, 3) := by decide +kernel
theorem dX7_node_116 : decode cX7_node 116 = .ok (.getfield 282, 3) := by decide +kernel
theorem dX7_node_119 : decode cX7_node 119 = .ok (.iload_n 1, 1) := by decide +kernel
theorem dX7_node_120 : decode cX7_node 120 = .ok (.laload, 1) := by decide +kernel
theorem dX7_node_121 : decode cX7_node 121 = .ok (.invokestatic 220, 3) := by decide +kernel
theorem dX7_node_124 : decode cX7_node 124 = .ok (.iconst 1, 1) := by decide +kernel
theorem dX7_node_125 : decode cX7_node 125 = .ok (.isub, 1) := by decide +kernel
theorem dX7_node_126 : decode cX7_node 126 = .ok (.ireturn, 1) := by decide +kernel
theorem dX7_node_127 : decode cX7_node 127 = .ok (.new 72, 3) := by decide +kernel
theorem dX7_node_130 : decode cX7_node 130 = .ok (.dup, 1) := by decide +kernel
theorem dX7_node_131 : decode cX7_node 131 = .ok (.ldc_w 286, 3) := by decide +kernel
theorem dX7_node_134 : decode cX7_node 134 = .ok (.invokespecial 76, 3) := by decide +kernel
theorem dX7_node_137 : decode cX7_node 137 = .ok (.athrow, 1) := by decide +kernel
theorem dX7_field_0 : decode cX7_field 0 = .ok (.aload_n 0, 1) := by decide +kernel
theorem dX7_field_1 : decode cX7_field 1 = .ok (.iload_n 1, 1) := by decide +kernel
theorem dX7_field_2 : decode cX7_field 2 = .ok (.invokevirtual 109, 3) := by decide +kernel
theorem dX7_field_5 : decode cX7_field 5 = .ok (.aload_n 0, 1) := by decide +kernel
theorem dX7_field_6 : decode cX7_field 6 = .ok (.iload_n 2, 1) := by decide +kernel
theorem dX7_field_7 : decode cX7_field 7 = .ok (.invokevirtual 159, 3) := by decide +kernel
theorem dX7_field_10 : decode cX7_field 10 = .ok (.aload_n 0, 1) := by decide +kernel
theorem dX7_field_11 : decode cX7_field 11 = .ok (.getfield 10, 3) := by decide +kernel
theorem dX7_field_14 : decode cX7_field 14 = .ok (.getfield 126, 3) := by decide +kernel
theorem dX7_field_17 : decode cX7_field 17 = .ok (.iload_n 1, 1) := by decide +kernel
theorem dX7_field_18 : decode cX7_field 18 = .ok (.iload_n 2, 1) := by decide +kernel
theorem dX7_field_19 : decode cX7_field 19 = .ok (.invokevirtual 183, 3) := by decide +kernel
theorem dX7_field_22 : decode cX7_field 22 = .ok (.ireturn, 1) := by decide +kernel
theorem dX7_childCount_0 : decode cX7_childCount 0 = .ok (.aload_n 0, 1) := by decide +kernel
theorem dX7_childCount_1 : decode cX7_childCount 1 = .ok (.iload_n 1, 1) := by decide +kernel
theorem dX7_childCount_2 : decode cX7_childCount 2 = .ok (.invokevirtual 109, 3) := by decide +kernel
theorem dX7_childCount_5 : decode cX7_childCount 5 = .ok (.aload_n 0, 1) := by decide +kernel
theorem dX7_childCount_6 : decode cX7_childCount 6 = .ok (.getfield 10, 3) := by decide +kernel
theorem dX7_childCount_9 : decode cX7_childCount 9 = .ok (.getfield 97, 3) := by decide +kernel
theorem dX7_childCount_12 : decode cX7_childCount 12 = .ok (.aload_n 0, 1) := by decide +kernel
theorem dX7_childCount_13 : decode cX7_childCount 13 = .ok (.getfield 10, 3) := by decide +kernel
theorem dX7_childCount_16 : decode cX7_childCount 16 = .ok (.getfield 126, 3) := by decide +kernel
theorem dX7_childCount_19 : decode cX7_childCount 19 = .ok (.getfield 195, 3) := by decide +kernel
theorem dX7_childCount_22 : decode cX7_childCount 22 = .ok (.iload_n 1, 1) := by decide +kernel
theorem dX7_childCount_23 : decode cX7_childCount 23 = .ok (.invokevirtual 288, 3) := by decide +kernel
theorem dX7_childCount_26 : decode cX7_childCount 26 = .ok (.ireturn, 1) := by decide +kernel
theorem dX7_child_0 : decode cX7_child 0 = .ok (.aload_n 0, 1) := by decide +kernel
theorem dX7_child_1 : decode cX7_child 1 = .ok (.iload_n 1, 1) := by decide +kernel
theorem dX7_child_2 : decode cX7_child 2 = .ok (.invokevirtual 109, 3) := by decide +kernel
theorem dX7_child_5 : decode cX7_child 5 = .ok (.iload_n 2, 1) := by decide +kernel
theorem dX7_child_6 : decode cX7_child 6 = .ok (.ifCond .lt 28, 3) := by decide +kernel
theorem dX7_child_9 : decode cX7_child 9 = .ok (.iload_n 2, 1) := by decide +kernel
theorem dX7_child_10 : decode cX7_child 10 = .ok (.aload_n 0, 1) := by decide +kernel
theorem dX7_child_11 : decode cX7_child 11 = .ok (.getfield 10, 3) := by decide +kernel
theorem dX7_child_14 : decode cX7_child 14 = .ok (.getfield 97, 3) := by decide +kernel
theorem dX7_child_17 : decode cX7_child 17 = .ok (.aload_n 0, 1) := by decide +kernel
theorem dX7_child_18 : decode cX7_child 18 = .ok (.getfield 10, 3) := by decide +kernel
theorem dX7_child_21 : decode cX7_child 21 = .ok (.getfield 126, 3) := by decide +kernel
theorem dX7_child_24 : decode cX7_child 24 = .ok (.getfield 195, 3) := by decide +kernel
theorem dX7_child_27 : decode cX7_child 27 = .ok (.iload_n 1, 1) := by decide +kernel
theorem dX7_child_28 : decode cX7_child 28 = .ok (.invokevirtual 288, 3) := by decide +kernel
theorem dX7_child_31 : decode cX7_child 31 = .ok (.if_icmp .lt 14, 3) := by decide +kernel
theorem dX7_child_34 : decode cX7_child 34 = .ok (.new 292, 3) := by decide +kernel
theorem dX7_child_37 : decode cX7_child 37 = .ok (.dup, 1) := by decide +kernel
theorem dX7_child_38 : decode cX7_child 38 = .ok (.ldc_w 294, 3) := by decide +kernel
theorem dX7_child_41 : decode cX7_child 41 = .ok (.invokespecial 296, 3) := by decide +kernel
theorem dX7_child_44 : decode cX7_child 44 = .ok (.athrow, 1) := by decide +kernel
theorem dX7_child_45 : decode cX7_child 45 = .ok (.aload_n 0, 1) := by decide +kernel
theorem dX7_child_46 : decode cX7_child 46 = .ok (.getfield 10, 3) := by decide +kernel
theorem dX7_child_49 : decode cX7_child 49 = .ok (.getfield 97, 3) := by decide +kernel
theorem dX7_child_52 : decode cX7_child 52 = .ok (.aload_n 0, 1) := by decide +kernel
theorem dX7_child_53 : decode cX7_child 53 = .ok (.getfield 10, 3) := by decide +kernel
theorem dX7_child_56 : decode cX7_child 56 = .ok (.getfield 126, 3) := by decide +kernel
theorem dX7_child_59 : decode cX7_child 59 = .ok (.getfield 195, 3) := by decide +kernel
theorem dX7_child_62 : decode cX7_child 62 = .ok (.iload_n 1, 1) := by decide +kernel
theorem dX7_child_63 : decode cX7_child 63 = .ok (.iconst (-1), 1) := by decide +kernel
theorem dX7_child_64 : decode cX7_child 64 = .ok (.invokevirtual 297, 3) := by decide +kernel
theorem dX7_child_67 : decode cX7_child 67 = .ok (.istore_n 3, 1) := by decide +kernel
theorem dX7_child_68 : decode cX7_child 68 = .ok (.iconst 0, 1) := by decide +kernel
theorem dX7_child_69 : decode cX7_child 69 = .ok (.istore 4, 2) := by decide +kernel
theorem dX7_child_71 : decode cX7_child 71 = .ok (.iload 4, 2) := by decide +kernel
theorem dX7_child_73 : decode cX7_child 73 = .ok (.iload_n 2, 1) := by decide +kernel
theorem dX7_child_74 : decode cX7_child 74 = .ok (.if_icmp .ge 48, 3) := by decide +kernel
theorem dX7_child_77 : decode cX7_child 77 = .ok (.iload_n 3, 1) := by decide +kernel
theorem dX7_child_78 : decode cX7_child 78 = .ok (.iconst (-1), 1) := by decide +kernel
theorem dX7_child_79 : decode cX7_child 79 = .ok (.if_icmp .eq 43, 3) := by decide +kernel
theorem dX7_child_82 : decode cX7_child 82 = .ok (.aload_n 0, 1) := by decide +kernel
theorem dX7_child_83 : decode cX7_child 83 = .ok (.getfield 10, 3) := by decide +kernel
theorem dX7_child_86 : decode cX7_child 86 = .ok (.getfield 97, 3) := by decide +kernel
theorem dX7_child_89 : decode cX7_child 89 = .ok (.aload_n 0, 1) := by decide +kernel
theorem dX7_child_90 : decode cX7_child 90 = .ok (.getfield 10, 3) := by decide +kernel
theorem dX7_child_93 : decode cX7_child 93 = .ok (.getfield 126, 3) := by decide +kernel
theorem dX7_child_96 : decode cX7_child 96 = .ok (.getfield 195, 3) := by decide +kernel
theorem dX7_child_99 : decode cX7_child 99 = .ok (.iload_n 1, 1) := by decide +kernel
theorem dX7_child_100 : decode cX7_child 100 = .ok (.aload_n 0, 1) := by decide +kernel
theorem dX7_child_101 : decode cX7_child 101 = .ok (.getfield 10, 3) := by decide +kernel
theorem dX7_child_104 : decode cX7_child 104 = .ok (.getfield 97, 3) := by decide +kernel
theorem dX7_child_107 : decode cX7_child 107 = .ok (.getfield 279, 3) := by decide +kernel
theorem dX7_child_110 : decode cX7_child 110 = .ok (.iload_n 3, 1) := by decide +kernel
theorem dX7_child_111 : decode cX7_child 111 = .ok (.iaload, 1) := by decide +kernel
theorem dX7_child_112 : decode cX7_child 112 = .ok (.invokevirtual 297, 3) := by decide +kernel
theorem dX7_child_115 : decode cX7_child 115 = .ok (.istore_n 3, 1) := by decide +kernel
theorem dX7_child_116 : decode cX7_child 116 = .ok (.iinc 4 1, 3) := by decide +kernel
theorem dX7_child_119 : decode cX7_child 119 = .ok (.goto (-48), 3) := by decide +kernel
theorem dX7_child_122 : decode cX7_child 122 = .ok (.iload_n 3, 1) := by decide +kernel
theorem dX7_child_123 : decode cX7_child 123 = .ok (.ireturn, 1) := by decide +kernel
theorem dX7_find_0 : decode cX7_find 0 = .ok (.aload_n 0, 1) := by decide +kernel
theorem dX7_find_1 : decode cX7_find 1 = .ok (.iload_n 1, 1) := by decide +kernel
theorem dX7_find_2 : decode cX7_find 2 = .ok (.invokevirtual 109, 3) := by decide +kernel
theorem dX7_find_5 : decode cX7_find 5 = .ok (.aload_n 0, 1) := by decide +kernel
theorem dX7_find_6 : decode cX7_find 6 = .ok (.getfield 10, 3) := by decide +kernel
theorem dX7_find_9 : decode cX7_find 9 = .ok (.getfield 97, 3) := by decide +kernel
theorem dX7_find_12 : decode cX7_find 12 = .ok (.aload_n 0, 1) := by decide +kernel
theorem dX7_find_13 : decode cX7_find 13 = .ok (.getfield 10, 3) := by decide +kernel
theorem dX7_find_16 : decode cX7_find 16 = .ok (.getfield 126, 3) := by decide +kernel
theorem dX7_find_19 : decode cX7_find 19 = .ok (.getfield 195, 3) := by decide +kernel
theorem dX7_find_22 : decode cX7_find 22 = .ok (.iload_n 1, 1) := by decide +kernel
theorem dX7_find_23 : decode cX7_find 23 = .ok (.iload_n 2, 1) := by decide +kernel
theorem dX7_find_24 : decode cX7_find 24 = .ok (.invokevirtual 198, 3) := by decide +kernel
theorem dX7_find_27 : decode cX7_find 27 = .ok (.istore_n 3, 1) := by decide +kernel
theorem dX7_find_28 : decode cX7_find 28 = .ok (.iload_n 3, 1) := by decide +kernel
theorem dX7_find_29 : decode cX7_find 29 = .ok (.iconst (-1), 1) := by decide +kernel
theorem dX7_find_30 : decode cX7_find 30 = .ok (.if_icmp .ne 14, 3) := by decide +kernel
theorem dX7_find_33 : decode cX7_find 33 = .ok (.new 300, 3) := by decide +kernel
theorem dX7_find_36 : decode cX7_find 36 = .ok (.dup, 1) := by decide +kernel
theorem dX7_find_37 : decode cX7_find 37 = .ok (.ldc_w 294, 3) := by decide +kernel
theorem dX7_find_40 : decode cX7_find 40 = .ok (.invokespecial 302, 3) := by decide +kernel
theorem dX7_find_43 : decode cX7_find 43 = .ok (.athrow, 1) := by decide +kernel
theorem dX7_find_44 : decode cX7_find 44 = .ok (.iload_n 3, 1) := by decide +kernel
theorem dX7_find_45 : decode cX7_find 45 = .ok (.ireturn, 1) := by decide +kernel
theorem dX7_walk_0 : decode cX7_walk 0 = .ok (.aload_n 0, 1) := by decide +kernel
theorem dX7_walk_1 : decode cX7_walk 1 = .ok (.iload_n 1, 1) := by decide +kernel
theorem dX7_walk_2 : decode cX7_walk 2 = .ok (.invokevirtual 109, 3) := by decide +kernel
theorem dX7_walk_5 : decode cX7_walk 5 = .ok (.iload_n 2, 1) := by decide +kernel
theorem dX7_walk_6 : decode cX7_walk 6 = .ok (.ifCond .lt 28, 3) := by decide +kernel
theorem dX7_walk_9 : decode cX7_walk 9 = .ok (.iload_n 2, 1) := by decide +kernel
theorem dX7_walk_10 : decode cX7_walk 10 = .ok (.aload_n 0, 1) := by decide +kernel
theorem dX7_walk_11 : decode cX7_walk 11 = .ok (.getfield 10, 3) := by decide +kernel
theorem dX7_walk_14 : decode cX7_walk 14 = .ok (.getfield 97, 3) := by decide +kernel
theorem dX7_walk_17 : decode cX7_walk 17 = .ok (.aload_n 0, 1) := by decide +kernel
theorem dX7_walk_18 : decode cX7_walk 18 = .ok (.getfield 10, 3) := by decide +kernel
theorem dX7_walk_21 : decode cX7_walk 21 = .ok (.getfield 126, 3) := by decide +kernel
theorem dX7_walk_24 : decode cX7_walk 24 = .ok (.getfield 195, 3) := by decide +kernel
theorem dX7_walk_27 : decode cX7_walk 27 = .ok (.iload_n 1, 1) := by decide +kernel
theorem dX7_walk_28 : decode cX7_walk 28 = .ok (.invokevirtual 303, 3) := by decide +kernel
theorem dX7_walk_31 : decode cX7_walk 31 = .ok (.if_icmp .lt 14, 3) := by decide +kernel
theorem dX7_walk_34 : decode cX7_walk 34 = .ok (.new 292, 3) := by decide +kernel
theorem dX7_walk_37 : decode cX7_walk 37 = .ok (.dup, 1) := by decide +kernel
theorem dX7_walk_38 : decode cX7_walk 38 = .ok (.ldc_w 306, 3) := by decide +kernel
theorem dX7_walk_41 : decode cX7_walk 41 = .ok (.invokespecial 296, 3) := by decide +kernel
theorem dX7_walk_44 : decode cX7_walk 44 = .ok (.athrow, 1) := by decide +kernel
theorem dX7_walk_45 : decode cX7_walk 45 = .ok (.aload_n 0, 1) := by decide +kernel
theorem dX7_walk_46 : decode cX7_walk 46 = .ok (.getfield 10, 3) := by decide +kernel
theorem dX7_walk_49 : decode cX7_walk 49 = .ok (.getfield 97, 3) := by decide +kernel
theorem dX7_walk_52 : decode cX7_walk 52 = .ok (.aload_n 0, 1) := by decide +kernel
theorem dX7_walk_53 : decode cX7_walk 53 = .ok (.getfield 10, 3) := by decide +kernel
theorem dX7_walk_56 : decode cX7_walk 56 = .ok (.getfield 126, 3) := by decide +kernel
theorem dX7_walk_59 : decode cX7_walk 59 = .ok (.getfield 195, 3) := by decide +kernel
theorem dX7_walk_62 : decode cX7_walk 62 = .ok (.iload_n 1, 1) := by decide +kernel
theorem dX7_walk_63 : decode cX7_walk 63 = .ok (.iload_n 2, 1) := by decide +kernel
theorem dX7_walk_64 : decode cX7_walk 64 = .ok (.invokevirtual 308, 3) := by decide +kernel
theorem dX7_walk_67 : decode cX7_walk 67 = .ok (.ireturn, 1) := by decide +kernel
theorem dX7_size_0 : decode cX7_size 0 = .ok (.aload_n 0, 1) := by decide +kernel
theorem dX7_size_1 : decode cX7_size 1 = .ok (.iload_n 1, 1) := by decide +kernel
theorem dX7_size_2 : decode cX7_size 2 = .ok (.invokevirtual 109, 3) := by decide +kernel
theorem dX7_size_5 : decode cX7_size 5 = .ok (.aload_n 0, 1) := by decide +kernel
theorem dX7_size_6 : decode cX7_size 6 = .ok (.getfield 10, 3) := by decide +kernel
theorem dX7_size_9 : decode cX7_size 9 = .ok (.getfield 97, 3) := by decide +kernel
theorem dX7_size_12 : decode cX7_size 12 = .ok (.aload_n 0, 1) := by decide +kernel
theorem dX7_size_13 : decode cX7_size 13 = .ok (.getfield 10, 3) := by decide +kernel
theorem dX7_size_16 : decode cX7_size 16 = .ok (.getfield 126, 3) := by decide +kernel
theorem dX7_size_19 : decode cX7_size 19 = .ok (.getfield 195, 3) := by decide +kernel
theorem dX7_size_22 : decode cX7_size 22 = .ok (.iload_n 1, 1) := by decide +kernel
theorem dX7_size_23 : decode cX7_size 23 = .ok (.invokevirtual 303, 3) := by decide +kernel
theorem dX7_size_26 : decode cX7_size 26 = .ok (.ireturn, 1) := by decide +kernel
theorem dX7_total_0 : decode cX7_total 0 = .ok (.aload_n 0, 1) := by decide +kernel
theorem dX7_total_1 : decode cX7_total 1 = .ok (.iload_n 1, 1) := by decide +kernel
theorem dX7_total_2 : decode cX7_total 2 = .ok (.invokevirtual 109, 3) := by decide +kernel
theorem dX7_total_5 : decode cX7_total 5 = .ok (.aload_n 0, 1) := by decide +kernel
theorem dX7_total_6 : decode cX7_total 6 = .ok (.iload_n 2, 1) := by decide +kernel
theorem dX7_total_7 : decode cX7_total 7 = .ok (.invokevirtual 159, 3) := by decide +kernel
theorem dX7_total_10 : decode cX7_total 10 = .ok (.aload_n 0, 1) := by decide +kernel
theorem dX7_total_11 : decode cX7_total 11 = .ok (.getfield 10, 3) := by decide +kernel
theorem dX7_total_14 : decode cX7_total 14 = .ok (.iload_n 1, 1) := by decide +kernel
theorem dX7_total_15 : decode cX7_total 15 = .ok (.invokevirtual 311, 3) := by decide +kernel
theorem dX7_total_18 : decode cX7_total 18 = .ok (.lstore_n 3, 1) := by decide +kernel
theorem dX7_total_19 : decode cX7_total 19 = .ok (.lconst 0, 1) := by decide +kernel
theorem dX7_total_20 : decode cX7_total 20 = .ok (.lstore 5, 2) := by decide +kernel
theorem dX7_total_22 : decode cX7_total 22 = .ok (.iconst 0, 1) := by decide +kernel
theorem dX7_total_23 : decode cX7_total 23 = .ok (.istore 7, 2) := by decide +kernel
theorem dX7_total_25 : decode cX7_total 25 = .ok (.iload 7, 2) := by decide +kernel
theorem dX7_total_27 : decode cX7_total 27 = .ok (.aload_n 0, 1) := by decide +kernel
theorem dX7_total_28 : decode cX7_total 28 = .ok (.getfield 10, 3) := by decide +kernel
theorem dX7_total_31 : decode cX7_total 31 = .ok (.getfield 97, 3) := by decide +kernel
theorem dX7_total_34 : decode cX7_total 34 = .ok (.getfield 101, 3) := by decide +kernel
theorem dX7_total_37 : decode cX7_total 37 = .ok (.if_icmp .ge 37, 3) := by decide +kernel
theorem dX7_total_40 : decode cX7_total 40 = .ok (.lload_n 3, 1) := by decide +kernel
theorem dX7_total_41 : decode cX7_total 41 = .ok (.iload 7, 2) := by decide +kernel
theorem dX7_total_43 : decode cX7_total 43 = .ok (.invokestatic 174, 3) := by decide +kernel
theorem dX7_total_46 : decode cX7_total 46 = .ok (.ifCond .eq 22, 3) := by decide +kernel
theorem dX7_total_49 : decode cX7_total 49 = .ok (.lload 5, 2) := by decide +kernel
theorem dX7_total_51 : decode cX7_total 51 = .ok (.aload_n 0, 1) := by decide +kernel
theorem dX7_total_52 : decode cX7_total 52 = .ok (.getfield 10, 3) := by decide +kernel
theorem dX7_total_55 : decode cX7_total 55 = .ok (.getfield 126, 3) := by decide +kernel
theorem dX7_total_58 : decode cX7_total 58 = .ok (.iload 7, 2) := by decide +kernel
theorem dX7_total_60 : decode cX7_total 60 = .ok (.iload_n 2, 1) := by decide +kernel
theorem dX7_total_61 : decode cX7_total 61 = .ok (.invokevirtual 183, 3) := by decide +kernel
theorem dX7_total_64 : decode cX7_total 64 = .ok (.i2l, 1) := by decide +kernel
theorem dX7_total_65 : decode cX7_total 65 = .ok (.ladd, 1) := by decide +kernel
theorem dX7_total_66 : decode cX7_total 66 = .ok (.lstore 5, 2) := by decide +kernel
theorem dX7_total_68 : decode cX7_total 68 = .ok (.iinc 7 1, 3) := by decide +kernel
theorem dX7_total_71 : decode cX7_total 71 = .ok (.goto (-46), 3) := by decide +kernel
theorem dX7_total_74 : decode cX7_total 74 = .ok (.lload 5, 2) := by decide +kernel
theorem dX7_total_76 : decode cX7_total 76 = .ok (.lreturn, 1) := by decide +kernel
theorem dX7_greatest_0 : decode cX7_greatest 0 = .ok (.aload_n 0, 1) := by decide +kernel
theorem dX7_greatest_1 : decode cX7_greatest 1 = .ok (.iload_n 1, 1) := by decide +kernel
theorem dX7_greatest_2 : decode cX7_greatest 2 = .ok (.invokevirtual 109, 3) := by decide +kernel
theorem dX7_greatest_5 : decode cX7_greatest 5 = .ok (.aload_n 0, 1) := by decide +kernel
theorem dX7_greatest_6 : decode cX7_greatest 6 = .ok (.iload_n 2, 1) := by decide +kernel
theorem dX7_greatest_7 : decode cX7_greatest 7 = .ok (.invokevirtual 159, 3) := by decide +kernel
theorem dX7_greatest_10 : decode cX7_greatest 10 = .ok (.aload_n 0, 1) := by decide +kernel
theorem dX7_greatest_11 : decode cX7_greatest 11 = .ok (.getfield 10, 3) := by decide +kernel
theorem dX7_greatest_14 : decode cX7_greatest 14 = .ok (.iload_n 1, 1) := by decide +kernel
theorem dX7_greatest_15 : decode cX7_greatest 15 = .ok (.invokevirtual 311, 3) := by decide +kernel
theorem dX7_greatest_18 : decode cX7_greatest 18 = .ok (.lstore_n 3, 1) := by decide +kernel
theorem dX7_greatest_19 : decode cX7_greatest 19 = .ok (.iconst (-1), 1) := by decide +kernel
theorem dX7_greatest_20 : decode cX7_greatest 20 = .ok (.istore 5, 2) := by decide +kernel
theorem dX7_greatest_22 : decode cX7_greatest 22 = .ok (.iconst 0, 1) := by decide +kernel
theorem dX7_greatest_23 : decode cX7_greatest 23 = .ok (.istore 6, 2) := by decide +kernel
theorem dX7_greatest_25 : decode cX7_greatest 25 = .ok (.iload 6, 2) := by decide +kernel
theorem dX7_greatest_27 : decode cX7_greatest 27 = .ok (.aload_n 0, 1) := by decide +kernel
theorem dX7_greatest_28 : decode cX7_greatest 28 = .ok (.getfield 10, 3) := by decide +kernel
theorem dX7_greatest_31 : decode cX7_greatest 31 = .ok (.getfield 97, 3) := by decide +kernel
theorem dX7_greatest_34 : decode cX7_greatest 34 = .ok (.getfield 101, 3) := by decide +kernel
theorem dX7_greatest_37 : decode cX7_greatest 37 = .ok (.if_icmp .ge 57, 3) := by decide +kernel
theorem dX7_greatest_40 : decode cX7_greatest 40 = .ok (.lload_n 3, 1) := by decide +kernel
theorem dX7_greatest_41 : decode cX7_greatest 41 = .ok (.iload 6, 2) := by decide +kernel
theorem dX7_greatest_43 : decode cX7_greatest 43 = .ok (.invokestatic 174, 3) := by decide +kernel
theorem dX7_greatest_46 : decode cX7_greatest 46 = .ok (.ifCond .eq 42, 3) := by decide +kernel
theorem dX7_greatest_49 : decode cX7_greatest 49 = .ok (.iload 5, 2) := by decide +kernel
theorem dX7_greatest_51 : decode cX7_greatest 51 = .ok (.iconst (-1), 1) := by decide +kernel
theorem dX7_greatest_52 : decode cX7_greatest 52 = .ok (.if_icmp .eq 32, 3) := by decide +kernel
theorem dX7_greatest_55 : decode cX7_greatest 55 = .ok (.aload_n 0, 1) := by decide +kernel
theorem dX7_greatest_56 : decode cX7_greatest 56 = .ok (.getfield 10, 3) := by decide +kernel
theorem dX7_greatest_59 : decode cX7_greatest 59 = .ok (.getfield 126, 3) := by decide +kernel
theorem dX7_greatest_62 : decode cX7_greatest 62 = .ok (.iload 6, 2) := by decide +kernel
theorem dX7_greatest_64 : decode cX7_greatest 64 = .ok (.iload_n 2, 1) := by decide +kernel
theorem dX7_greatest_65 : decode cX7_greatest 65 = .ok (.invokevirtual 183, 3) := by decide +kernel
theorem dX7_greatest_68 : decode cX7_greatest 68 = .ok (.aload_n 0, 1) := by decide +kernel
theorem dX7_greatest_69 : decode cX7_greatest 69 = .ok (.getfield 10, 3) := by decide +kernel
theorem dX7_greatest_72 : decode cX7_greatest 72 = .ok (.getfield 126, 3) := by decide +kernel
theorem dX7_greatest_75 : decode cX7_greatest 75 = .ok (.iload 5, 2) := by decide +kernel
theorem dX7_greatest_77 : decode cX7_greatest 77 = .ok (.iload_n 2, 1) := by decide +kernel
theorem dX7_greatest_78 : decode cX7_greatest 78 = .ok (.invokevirtual 183, 3) := by decide +kernel
theorem dX7_greatest_81 : decode cX7_greatest 81 = .ok (.if_icmp .le 7, 3) := by decide +kernel
theorem dX7_greatest_84 : decode cX7_greatest 84 = .ok (.iload 6, 2) := by decide +kernel
theorem dX7_greatest_86 : decode cX7_greatest 86 = .ok (.istore 5, 2) := by decide +kernel
theorem dX7_greatest_88 : decode cX7_greatest 88 = .ok (.iinc 6 1, 3) := by decide +kernel
theorem dX7_greatest_91 : decode cX7_greatest 91 = .ok (.goto (-66), 3) := by decide +kernel
theorem dX7_greatest_94 : decode cX7_greatest 94 = .ok (.iload 5, 2) := by decide +kernel
theorem dX7_greatest_96 : decode cX7_greatest 96 = .ok (.iconst (-1), 1) := by decide +kernel
theorem dX7_greatest_97 : decode cX7_greatest 97 = .ok (.if_icmp .ne 14, 3) := by decide +kernel
theorem dX7_greatest_100 : decode cX7_greatest 100 = .ok (.new 300, 3) := by decide +kernel
theorem dX7_greatest_103 : decode cX7_greatest 103 = .ok (.dup, 1) := by decide +kernel
theorem dX7_greatest_104 : decode cX7_greatest 104 = .ok (.ldc_w 314, 3) := by decide +kernel
theorem dX7_greatest_107 : decode cX7_greatest 107 = .ok (.invokespecial 302, 3) := by decide +kernel
theorem dX7_greatest_110 : decode cX7_greatest 110 = .ok (.athrow, 1) := by decide +kernel
theorem dX7_greatest_111 : decode cX7_greatest 111 = .ok (.iload 5, 2) := by decide +kernel
theorem dX7_greatest_113 : decode cX7_greatest 113 = .ok (.ireturn, 1) := by decide +kernel
theorem dX7_leased_0 : decode cX7_leased 0 = .ok (.aload_n 0, 1) := by decide +kernel
theorem dX7_leased_1 : decode cX7_leased 1 = .ok (.iload_n 1, 1) := by decide +kernel
theorem dX7_leased_2 : decode cX7_leased 2 = .ok (.invokevirtual 106, 3) := by decide +kernel
theorem dX7_leased_5 : decode cX7_leased 5 = .ok (.iload_n 2, 1) := by decide +kernel
theorem dX7_leased_6 : decode cX7_leased 6 = .ok (.ifCond .lt 8, 3) := by decide +kernel
theorem dX7_leased_9 : decode cX7_leased 9 = .ok (.iload_n 2, 1) := by decide +kernel
theorem dX7_leased_10 : decode cX7_leased 10 = .ok (.iconst 2, 1) := by decide +kernel
theorem dX7_leased_11 : decode cX7_leased 11 = .ok (.if_icmp .le 14, 3) := by decide +kernel
theorem dX7_leased_14 : decode cX7_leased 14 = .ok (.new 72, 3) := by decide +kernel
theorem dX7_leased_17 : decode cX7_leased 17 = .ok (.dup, 1) := by decide +kernel
theorem dX7_leased_18 : decode cX7_leased 18 = .ok (.ldc_w 316, 3) := by decide +kernel
theorem dX7_leased_21 : decode cX7_leased 21 = .ok (.invokespecial 76, 3) := by decide +kernel
theorem dX7_leased_24 : decode cX7_leased 24 = .ok (.athrow, 1) := by decide +kernel
theorem dX7_leased_25 : decode cX7_leased 25 = .ok (.aload_n 0, 1) := by decide +kernel
theorem dX7_leased_26 : decode cX7_leased 26 = .ok (.getfield 10, 3) := by decide +kernel
theorem dX7_leased_29 : decode cX7_leased 29 = .ok (.getfield 115, 3) := by decide +kernel
theorem dX7_leased_32 : decode cX7_leased 32 = .ok (.iload_n 1, 1) := by decide +kernel
theorem dX7_leased_33 : decode cX7_leased 33 = .ok (.aaload, 1) := by decide +kernel
theorem dX7_leased_34 : decode cX7_leased 34 = .ok (.astore_n 3, 1) := by decide +kernel
theorem dX7_leased_35 : decode cX7_leased 35 = .ok (.aload_n 3, 1) := by decide +kernel
theorem dX7_leased_36 : decode cX7_leased 36 = .ok (.getfield 119, 3) := by decide +kernel
theorem dX7_leased_39 : decode cX7_leased 39 = .ok (.ifCond .ne 5, 3) := by decide +kernel
theorem dX7_leased_42 : decode cX7_leased 42 = .ok (.iconst (-1), 1) := by decide +kernel
theorem dX7_leased_43 : decode cX7_leased 43 = .ok (.ireturn, 1) := by decide +kernel
theorem dX7_leased_44 : decode cX7_leased 44 = .ok (.iload_n 2, 1) := by decide +kernel
theorem dX7_leased_45 : decode cX7_leased 45 = .ok (.ifCond .ne 8, 3) := by decide +kernel
theorem dX7_leased_48 : decode cX7_leased 48 = .ok (.aload_n 3, 1) := by decide +kernel
theorem dX7_leased_49 : decode cX7_leased 49 = .ok (.getfield 209, 3) := by decide +kernel
theorem dX7_leased_52 : decode cX7_leased 52 = .ok (.ireturn, 1) := by decide +kernel
theorem dX7_leased_53 : decode cX7_leased 53 = .ok (.iload_n 2, 1) := by decide +kernel
theorem dX7_leased_54 : decode cX7_leased 54 = .ok (.iconst 1, 1) := by decide +kernel
theorem dX7_leased_55 : decode cX7_leased 55 = .ok (.if_icmp .ne 8, 3) := by decide +kernel
theorem dX7_leased_58 : decode cX7_leased 58 = .ok (.aload_n 3, 1) := by decide +kernel
theorem dX7_leased_59 : decode cX7_leased 59 = .ok (.getfield 154, 3) := by decide +kernel
theorem dX7_leased_62 : decode cX7_leased 62 = .ok (.ireturn, 1) := by decide +kernel
theorem dX7_leased_63 : decode cX7_leased 63 = .ok (.aload_n 3, 1) := by decide +kernel
theorem dX7_leased_64 : decode cX7_leased 64 = .ok (.getfield 318, 3) := by decide +kernel
theorem dX7_leased_67 : decode cX7_leased 67 = .ok (.ifCond .eq 7, 3) := by decide +kernel
theorem dX7_leased_70 : decode cX7_leased 70 = .ok (.iconst 1, 1) := by decide +kernel
theorem dX7_leased_71 : decode cX7_leased 71 = .ok (.goto 4, 3) := by decide +kernel
theorem dX7_leased_74 : decode cX7_leased 74 = .ok (.iconst 0, 1) := by decide +kernel
theorem dX7_leased_75 : decode cX7_leased 75 = .ok (.ireturn, 1) := by decide +kernel
theorem dX7_blockers_0 : decode cX7_blockers 0 = .ok (.aload_n 0, 1) := by decide +kernel
theorem dX7_blockers_1 : decode cX7_blockers 1 = .ok (.iload_n 1, 1) := by decide +kernel
theorem dX7_blockers_2 : decode cX7_blockers 2 = .ok (.invokevirtual 106, 3) := by decide +kernel
theorem dX7_blockers_5 : decode cX7_blockers 5 = .ok (.aload_n 0, 1) := by decide +kernel
theorem dX7_blockers_6 : decode cX7_blockers 6 = .ok (.iload_n 2, 1) := by decide +kernel
theorem dX7_blockers_7 : decode cX7_blockers 7 = .ok (.invokevirtual 109, 3) := by decide +kernel
theorem dX7_blockers_10 : decode cX7_blockers 10 = .ok (.aload_n 0, 1) := by decide +kernel
theorem dX7_blockers_11 : decode cX7_blockers 11 = .ok (.getfield 10, 3) := by decide +kernel
theorem dX7_blockers_14 : decode cX7_blockers 14 = .ok (.iload_n 1, 1) := by decide +kernel
theorem dX7_blockers_15 : decode cX7_blockers 15 = .ok (.iload_n 2, 1) := by decide +kernel
theorem dX7_blockers_16 : decode cX7_blockers 16 = .ok (.iload_n 3, 1) := by decide +kernel
theorem dX7_blockers_17 : decode cX7_blockers 17 = .ok (.invokevirtual 135, 3) := by decide +kernel
theorem dX7_blockers_20 : decode cX7_blockers 20 = .ok (.ireturn, 1) := by decide +kernel
theorem dX7_nextEnd_0 : decode cX7_nextEnd 0 = .ok (.iconst (-1), 1) := by decide +kernel
theorem dX7_nextEnd_1 : decode cX7_nextEnd 1 = .ok (.istore_n 1, 1) := by decide +kernel
theorem dX7_nextEnd_2 : decode cX7_nextEnd 2 = .ok (.iconst 0, 1) := by decide +kernel
theorem dX7_nextEnd_3 : decode cX7_nextEnd 3 = .ok (.istore_n 2, 1) := by decide +kernel
theorem dX7_nextEnd_4 : decode cX7_nextEnd 4 = .ok (.iload_n 2, 1) := by decide +kernel
theorem dX7_nextEnd_5 : decode cX7_nextEnd 5 = .ok (.aload_n 0, 1) := by decide +kernel
theorem dX7_nextEnd_6 : decode cX7_nextEnd 6 = .ok (.getfield 10, 3) := by decide +kernel
theorem dX7_nextEnd_9 : decode cX7_nextEnd 9 = .ok (.getfield 267, 3) := by decide +kernel
theorem dX7_nextEnd_12 : decode cX7_nextEnd 12 = .ok (.if_icmp .ge 44, 3) := by decide +kernel
theorem dX7_nextEnd_15 : decode cX7_nextEnd 15 = .ok (.aload_n 0, 1) := by decide +kernel
theorem dX7_nextEnd_16 : decode cX7_nextEnd 16 = .ok (.getfield 10, 3) := by decide +kernel
theorem dX7_nextEnd_19 : decode cX7_nextEnd 19 = .ok (.getfield 115, 3) := by decide +kernel
theorem dX7_nextEnd_22 : decode cX7_nextEnd 22 = .ok (.iload_n 2, 1) := by decide +kernel
theorem dX7_nextEnd_23 : decode cX7_nextEnd 23 = .ok (.aaload, 1) := by decide +kernel
theorem dX7_nextEnd_24 : decode cX7_nextEnd 24 = .ok (.astore_n 3, 1) := by decide +kernel
theorem dX7_nextEnd_25 : decode cX7_nextEnd 25 = .ok (.aload_n 3, 1) := by decide +kernel
theorem dX7_nextEnd_26 : decode cX7_nextEnd 26 = .ok (.getfield 119, 3) := by decide +kernel
theorem dX7_nextEnd_29 : decode cX7_nextEnd 29 = .ok (.ifCond .eq 21, 3) := by decide +kernel
theorem dX7_nextEnd_32 : decode cX7_nextEnd 32 = .ok (.iload_n 1, 1) := by decide +kernel
theorem dX7_nextEnd_33 : decode cX7_nextEnd 33 = .ok (.iconst (-1), 1) := by decide +kernel
theorem dX7_nextEnd_34 : decode cX7_nextEnd 34 = .ok (.if_icmp .eq 11, 3) := by decide +kernel
theorem dX7_nextEnd_37 : decode cX7_nextEnd 37 = .ok (.aload_n 3, 1) := by decide +kernel
theorem dX7_nextEnd_38 : decode cX7_nextEnd 38 = .ok (.getfield 154, 3) := by decide +kernel
theorem dX7_nextEnd_41 : decode cX7_nextEnd 41 = .ok (.iload_n 1, 1) := by decide +kernel
theorem dX7_nextEnd_42 : decode cX7_nextEnd 42 = .ok (.if_icmp .ge 8, 3) := by decide +kernel
theorem dX7_nextEnd_45 : decode cX7_nextEnd 45 = .ok (.aload_n 3, 1) := by decide +kernel
theorem dX7_nextEnd_46 : decode cX7_nextEnd 46 = .ok (.getfield 154, 3) := by decide +kernel
theorem dX7_nextEnd_49 : decode cX7_nextEnd 49 = .ok (.istore_n 1, 1) := by decide +kernel
theorem dX7_nextEnd_50 : decode cX7_nextEnd 50 = .ok (.iinc 2 1, 3) := by decide +kernel
theorem dX7_nextEnd_53 : decode cX7_nextEnd 53 = .ok (.goto (-49), 3) := by decide +kernel
theorem dX7_nextEnd_56 : decode cX7_nextEnd 56 = .ok (.iload_n 1, 1) := by decide +kernel
theorem dX7_nextEnd_57 : decode cX7_nextEnd 57 = .ok (.iconst (-1), 1) := by decide +kernel
theorem dX7_nextEnd_58 : decode cX7_nextEnd 58 = .ok (.if_icmp .ne 14, 3) := by decide +kernel
theorem dX7_nextEnd_61 : decode cX7_nextEnd 61 = .ok (.new 300, 3) := by decide +kernel
theorem dX7_nextEnd_64 : decode cX7_nextEnd 64 = .ok (.dup, 1) := by decide +kernel
theorem dX7_nextEnd_65 : decode cX7_nextEnd 65 = .ok (.ldc_w 321, 3) := by decide +kernel
theorem dX7_nextEnd_68 : decode cX7_nextEnd 68 = .ok (.invokespecial 302, 3) := by decide +kernel
theorem dX7_nextEnd_71 : decode cX7_nextEnd 71 = .ok (.athrow, 1) := by decide +kernel
theorem dX7_nextEnd_72 : decode cX7_nextEnd 72 = .ok (.iload_n 1, 1) := by decide +kernel
theorem dX7_nextEnd_73 : decode cX7_nextEnd 73 = .ok (.ireturn, 1) := by decide +kernel
theorem dX7_isInCopy_0 : decode cX7_isInCopy 0 = .ok (.aload_n 0, 1) := by decide +kernel
theorem dX7_isInCopy_1 : decode cX7_isInCopy 1 = .ok (.iload_n 1, 1) := by decide +kernel
theorem dX7_isInCopy_2 : decode cX7_isInCopy 2 = .ok (.invokevirtual 106, 3) := by decide +kernel
theorem dX7_isInCopy_5 : decode cX7_isInCopy 5 = .ok (.aload_n 0, 1) := by decide +kernel
theorem dX7_isInCopy_6 : decode cX7_isInCopy 6 = .ok (.iload_n 2, 1) := by decide +kernel
theorem dX7_isInCopy_7 : decode cX7_isInCopy 7 = .ok (.invokevirtual 109, 3) := by decide +kernel
theorem dX7_isInCopy_10 : decode cX7_isInCopy 10 = .ok (.aload_n 0, 1) := by decide +kernel
theorem dX7_isInCopy_11 : decode cX7_isInCopy 11 = .ok (.iload_n 1, 1) := by decide +kernel
theorem dX7_isInCopy_12 : decode cX7_isInCopy 12 = .ok (.invokevirtual 148, 3) := by decide +kernel
theorem dX7_isInCopy_15 : decode cX7_isInCopy 15 = .ok (.aload_n 0, 1) := by decide +kernel
theorem dX7_isInCopy_16 : decode cX7_isInCopy 16 = .ok (.getfield 10, 3) := by decide +kernel
theorem dX7_isInCopy_19 : decode cX7_isInCopy 19 = .ok (.getfield 115, 3) := by decide +kernel
theorem dX7_isInCopy_22 : decode cX7_isInCopy 22 = .ok (.iload_n 1, 1) := by decide +kernel
theorem dX7_isInCopy_23 : decode cX7_isInCopy 23 = .ok (.aaload, 1) := by decide +kernel
theorem dX7_isInCopy_24 : decode cX7_isInCopy 24 = .ok (.getfield 180, 3) := by decide +kernel
theorem dX7_isInCopy_27 : decode cX7_isInCopy 27 = .ok (.iload_n 2, 1) := by decide +kernel
theorem dX7_isInCopy_28 : decode cX7_isInCopy 28 = .ok (.invokevirtual 129, 3) := by decide +kernel
theorem dX7_isInCopy_31 : decode cX7_isInCopy 31 = .ok (.ireturn, 1) := by decide +kernel
theorem dX7_copyField_0 : decode cX7_copyField 0 = .ok (.aload_n 0, 1) := by decide +kernel
theorem dX7_copyField_1 : decode cX7_copyField 1 = .ok (.iload_n 1, 1) := by decide +kernel
theorem dX7_copyField_2 : decode cX7_copyField 2 = .ok (.invokevirtual 106, 3) := by decide +kernel
theorem dX7_copyField_5 : decode cX7_copyField 5 = .ok (.aload_n 0, 1) := by decide +kernel
theorem dX7_copyField_6 : decode cX7_copyField 6 = .ok (.iload_n 2, 1) := by decide +kernel
theorem dX7_copyField_7 : decode cX7_copyField 7 = .ok (.invokevirtual 109, 3) := by decide +kernel
theorem dX7_copyField_10 : decode cX7_copyField 10 = .ok (.aload_n 0, 1) := by decide +kernel
theorem dX7_copyField_11 : decode cX7_copyField 11 = .ok (.iload_n 3, 1) := by decide +kernel
theorem dX7_copyField_12 : decode cX7_copyField 12 = .ok (.invokevirtual 159, 3) := by decide +kernel
theorem dX7_copyField_15 : decode cX7_copyField 15 = .ok (.aload_n 0, 1) := by decide +kernel
theorem dX7_copyField_16 : decode cX7_copyField 16 = .ok (.iload_n 1, 1) := by decide +kernel
theorem dX7_copyField_17 : decode cX7_copyField 17 = .ok (.invokevirtual 148, 3) := by decide +kernel
theorem dX7_copyField_20 : decode cX7_copyField 20 = .ok (.aload_n 0, 1) := by decide +kernel
theorem dX7_copyField_21 : decode cX7_copyField 21 = .ok (.iload_n 1, 1) := by decide +kernel
theorem dX7_copyField_22 : decode cX7_copyField 22 = .ok (.iload_n 2, 1) := by decide +kernel
theorem dX7_copyField_23 : decode cX7_copyField 23 = .ok (.invokevirtual 166, 3) := by decide +kernel
theorem dX7_copyField_26 : decode cX7_copyField 26 = .ok (.aload_n 0, 1) := by decide +kernel
theorem dX7_copyField_27 : decode cX7_copyField 27 = .ok (.getfield 10, 3) := by decide +kernel
theorem dX7_copyField_30 : decode cX7_copyField 30 = .ok (.getfield 115, 3) := by decide +kernel
theorem dX7_copyField_33 : decode cX7_copyField 33 = .ok (.iload_n 1, 1) := by decide +kernel
theorem dX7_copyField_34 : decode cX7_copyField 34 = .ok (.aaload, 1) := by decide +kernel
theorem dX7_copyField_35 : decode cX7_copyField 35 = .ok (.getfield 180, 3) := by decide +kernel
theorem dX7_copyField_38 : decode cX7_copyField 38 = .ok (.iload_n 2, 1) := by decide +kernel
theorem dX7_copyField_39 : decode cX7_copyField 39 = .ok (.iload_n 3, 1) := by decide +kernel
theorem dX7_copyField_40 : decode cX7_copyField 40 = .ok (.invokevirtual 183, 3) := by decide +kernel
theorem dX7_copyField_43 : decode cX7_copyField 43 = .ok (.ireturn, 1) := by decide +kernel
theorem dX7_changedCount_0 : decode cX7_changedCount 0 = .ok (.aload_n 0, 1) := by decide +kernel
theorem dX7_changedCount_1 : decode cX7_changedCount 1 = .ok (.iload_n 1, 1) := by decide +kernel
theorem dX7_changedCount_2 : decode cX7_changedCount 2 = .ok (.invokevirtual 106, 3) := by decide +kernel
theorem dX7_changedCount_5 : decode cX7_changedCount 5 = .ok (.aload_n 0, 1) := by decide +kernel
theorem dX7_changedCount_6 : decode cX7_changedCount 6 = .ok (.iload_n 1, 1) := by decide +kernel
theorem dX7_changedCount_7 : decode cX7_changedCount 7 = .ok (.invokevirtual 148, 3) := by decide +kernel
theorem dX7_changedCount_10 : decode cX7_changedCount 10 = .ok (.aload_n 0, 1) := by decide +kernel
theorem dX7_changedCount_11 : decode cX7_changedCount 11 = .ok (.getfield 10, 3) := by decide +kernel
theorem dX7_changedCount_14 : decode cX7_changedCount 14 = .ok (.iload_n 1, 1) := by decide +kernel
theorem dX7_changedCount_15 : decode cX7_changedCount 15 = .ok (.invokevirtual 233, 3) := by decide +kernel
theorem dX7_changedCount_18 : decode cX7_changedCount 18 = .ok (.ireturn, 1) := by decide +kernel
theorem dX7_preview_0 : decode cX7_preview 0 = .ok (.aload_n 0, 1) := by decide +kernel
theorem dX7_preview_1 : decode cX7_preview 1 = .ok (.iload_n 1, 1) := by decide +kernel
theorem dX7_preview_2 : decode cX7_preview 2 = .ok (.invokevirtual 106, 3) := by decide +kernel
theorem dX7_preview_5 : decode cX7_preview 5 = .ok (.aload_n 0, 1) := by decide +kernel
theorem dX7_preview_6 : decode cX7_preview 6 = .ok (.iload_n 1, 1) := by decide +kernel
theorem dX7_preview_7 : decode cX7_preview 7 = .ok (.invokevirtual 148, 3) := by decide +kernel
theorem dX7_preview_10 : decode cX7_preview 10 = .ok (.aload_n 0, 1) := by decide +kernel
theorem dX7_preview_11 : decode cX7_preview 11 = .ok (.getfield 36, 3) := by decide +kernel
theorem dX7_preview_14 : decode cX7_preview 14 = .ok (.aload_n 0, 1) := by decide +kernel
theorem dX7_preview_15 : decode cX7_preview 15 = .ok (.getfield 10, 3) := by decide +kernel
theorem dX7_preview_18 : decode cX7_preview 18 = .ok (.getfield 126, 3) := by decide +kernel
theorem dX7_preview_21 : decode cX7_preview 21 = .ok (.invokevirtual 323, 3) := by decide +kernel
theorem dX7_preview_24 : decode cX7_preview 24 = .ok (.aload_n 0, 1) := by decide +kernel
theorem dX7_preview_25 : decode cX7_preview 25 = .ok (.getfield 10, 3) := by decide +kernel
theorem dX7_preview_28 : decode cX7_preview 28 = .ok (.iload_n 1, 1) := by decide +kernel
theorem dX7_preview_29 : decode cX7_preview 29 = .ok (.aload_n 0, 1) := by decide +kernel
theorem dX7_preview_30 : decode cX7_preview 30 = .ok (.getfield 36, 3) := by decide +kernel
theorem dX7_preview_33 : decode cX7_preview 33 = .ok (.aload_n 0, 1) := by decide +kernel
theorem dX7_preview_34 : decode cX7_preview 34 = .ok (.getfield 46, 3) := by decide +kernel
theorem dX7_preview_37 : decode cX7_preview 37 = .ok (.invokevirtual 229, 3) := by decide +kernel
theorem dX7_preview_40 : decode cX7_preview 40 = .ok (.ireturn, 1) := by decide +kernel
theorem dX7_wouldBe_0 : decode cX7_wouldBe 0 = .ok (.aload_n 0, 1) := by decide +kernel
theorem dX7_wouldBe_1 : decode cX7_wouldBe 1 = .ok (.iload_n 1, 1) := by decide +kernel
theorem dX7_wouldBe_2 : decode cX7_wouldBe 2 = .ok (.invokevirtual 106, 3) := by decide +kernel
theorem dX7_wouldBe_5 : decode cX7_wouldBe 5 = .ok (.aload_n 0, 1) := by decide +kernel
theorem dX7_wouldBe_6 : decode cX7_wouldBe 6 = .ok (.iload_n 2, 1) := by decide +kernel
theorem dX7_wouldBe_7 : decode cX7_wouldBe 7 = .ok (.invokevirtual 109, 3) := by decide +kernel
theorem dX7_wouldBe_10 : decode cX7_wouldBe 10 = .ok (.aload_n 0, 1) := by decide +kernel
theorem dX7_wouldBe_11 : decode cX7_wouldBe 11 = .ok (.iload_n 3, 1) := by decide +kernel
theorem dX7_wouldBe_12 : decode cX7_wouldBe 12 = .ok (.invokevirtual 159, 3) := by decide +kernel
theorem dX7_wouldBe_15 : decode cX7_wouldBe 15 = .ok (.aload_n 0, 1) := by decide +kernel
theorem dX7_wouldBe_16 : decode cX7_wouldBe 16 = .ok (.iload_n 1, 1) := by decide +kernel
theorem dX7_wouldBe_17 : decode cX7_wouldBe 17 = .ok (.invokevirtual 148, 3) := by decide +kernel
theorem dX7_wouldBe_20 : decode cX7_wouldBe 20 = .ok (.aload_n 0, 1) := by decide +kernel
theorem dX7_wouldBe_21 : decode cX7_wouldBe 21 = .ok (.getfield 36, 3) := by decide +kernel
theorem dX7_wouldBe_24 : decode cX7_wouldBe 24 = .ok (.aload_n 0, 1) := by decide +kernel
theorem dX7_wouldBe_25 : decode cX7_wouldBe 25 = .ok (.getfield 10, 3) := by decide +kernel
theorem dX7_wouldBe_28 : decode cX7_wouldBe 28 = .ok (.getfield 126, 3) := by decide +kernel
theorem dX7_wouldBe_31 : decode cX7_wouldBe 31 = .ok (.invokevirtual 323, 3) := by decide +kernel
theorem dX7_wouldBe_34 : decode cX7_wouldBe 34 = .ok (.aload_n 0, 1) := by decide +kernel
theorem dX7_wouldBe_35 : decode cX7_wouldBe 35 = .ok (.getfield 10, 3) := by decide +kernel
theorem dX7_wouldBe_38 : decode cX7_wouldBe 38 = .ok (.iload_n 1, 1) := by decide +kernel
theorem dX7_wouldBe_39 : decode cX7_wouldBe 39 = .ok (.aload_n 0, 1) := by decide +kernel
theorem dX7_wouldBe_40 : decode cX7_wouldBe 40 = .ok (.getfield 36, 3) := by decide +kernel
theorem dX7_wouldBe_43 : decode cX7_wouldBe 43 = .ok (.aload_n 0, 1) := by decide +kernel
theorem dX7_wouldBe_44 : decode cX7_wouldBe 44 = .ok (.getfield 46, 3) := by decide +kernel
theorem dX7_wouldBe_47 : decode cX7_wouldBe 47 = .ok (.invokevirtual 229, 3) := by decide +kernel
theorem dX7_wouldBe_50 : decode cX7_wouldBe 50 = .ok (.pop, 1) := by decide +kernel
theorem dX7_wouldBe_51 : decode cX7_wouldBe 51 = .ok (.aload_n 0, 1) := by decide +kernel
theorem dX7_wouldBe_52 : decode cX7_wouldBe 52 = .ok (.getfield 36, 3) := by decide +kernel
theorem dX7_wouldBe_55 : decode cX7_wouldBe 55 = .ok (.iload_n 2, 1) := by decide +kernel
theorem dX7_wouldBe_56 : decode cX7_wouldBe 56 = .ok (.invokevirtual 129, 3) := by decide +kernel
theorem dX7_wouldBe_59 : decode cX7_wouldBe 59 = .ok (.ifCond .ne 14, 3) := by decide +kernel
theorem dX7_wouldBe_62 : decode cX7_wouldBe 62 = .ok (.new 300, 3) := by decide +kernel
theorem dX7_wouldBe_65 : decode cX7_wouldBe 65 = .ok (.dup, 1) := by decide +kernel
theorem dX7_wouldBe_66 : decode cX7_wouldBe 66 = .ok (.ldc_w 326, 3) := by decide +kernel
theorem dX7_wouldBe_69 : decode cX7_wouldBe 69 = .ok (.invokespecial 302, 3) := by decide +kernel
theorem dX7_wouldBe_72 : decode cX7_wouldBe 72 = .ok (.athrow, 1) := by decide +kernel
theorem dX7_wouldBe_73 : decode cX7_wouldBe 73 = .ok (.aload_n 0, 1) := by decide +kernel
theorem dX7_wouldBe_74 : decode cX7_wouldBe 74 = .ok (.getfield 36, 3) := by decide +kernel
theorem dX7_wouldBe_77 : decode cX7_wouldBe 77 = .ok (.iload_n 2, 1) := by decide +kernel
theorem dX7_wouldBe_78 : decode cX7_wouldBe 78 = .ok (.iload_n 3, 1) := by decide +kernel
theorem dX7_wouldBe_79 : decode cX7_wouldBe 79 = .ok (.invokevirtual 183, 3) := by decide +kernel
theorem dX7_wouldBe_82 : decode cX7_wouldBe 82 = .ok (.ireturn, 1) := by decide +kernel
theorem dX7_isFree_0 : decode cX7_isFree 0 = .ok (.aload_n 0, 1) := by decide +kernel
theorem dX7_isFree_1 : decode cX7_isFree 1 = .ok (.iload_n 1, 1) := by decide +kernel
theorem dX7_isFree_2 : decode cX7_isFree 2 = .ok (.invokevirtual 106, 3) := by decide +kernel
theorem dX7_isFree_5 : decode cX7_isFree 5 = .ok (.aload_n 0, 1) := by decide +kernel
theorem dX7_isFree_6 : decode cX7_isFree 6 = .ok (.iload_n 2, 1) := by decide +kernel
theorem dX7_isFree_7 : decode cX7_isFree 7 = .ok (.invokevirtual 106, 3) := by decide +kernel
theorem dX7_isFree_10 : decode cX7_isFree 10 = .ok (.iload_n 1, 1) := by decide +kernel
theorem dX7_isFree_11 : decode cX7_isFree 11 = .ok (.iload_n 2, 1) := by decide +kernel
theorem dX7_isFree_12 : decode cX7_isFree 12 = .ok (.if_icmp .ne 14, 3) := by decide +kernel
theorem dX7_isFree_15 : decode cX7_isFree 15 = .ok (.new 72, 3) := by decide +kernel
theorem dX7_isFree_18 : decode cX7_isFree 18 = .ok (.dup, 1) := by decide +kernel
theorem dX7_isFree_19 : decode cX7_isFree 19 = .ok (.ldc_w 328, 3) := by decide +kernel
theorem dX7_isFree_22 : decode cX7_isFree 22 = .ok (.invokespecial 76, 3) := by decide +kernel
theorem dX7_isFree_25 : decode cX7_isFree 25 = .ok (.athrow, 1) := by decide +kernel
theorem dX7_isFree_26 : decode cX7_isFree 26 = .ok (.aload_n 0, 1) := by decide +kernel
theorem dX7_isFree_27 : decode cX7_isFree 27 = .ok (.iload_n 1, 1) := by decide +kernel
theorem dX7_isFree_28 : decode cX7_isFree 28 = .ok (.invokevirtual 148, 3) := by decide +kernel
theorem dX7_isFree_31 : decode cX7_isFree 31 = .ok (.aload_n 0, 1) := by decide +kernel
theorem dX7_isFree_32 : decode cX7_isFree 32 = .ok (.iload_n 2, 1) := by decide +kernel
theorem dX7_isFree_33 : decode cX7_isFree 33 = .ok (.invokevirtual 148, 3) := by decide +kernel
theorem dX7_isFree_36 : decode cX7_isFree 36 = .ok (.aload_n 0, 1) := by decide +kernel
theorem dX7_isFree_37 : decode cX7_isFree 37 = .ok (.iload_n 1, 1) := by decide +kernel
theorem dX7_isFree_38 : decode cX7_isFree 38 = .ok (.iload_n 2, 1) := by decide +kernel
theorem dX7_isFree_39 : decode cX7_isFree 39 = .ok (.aload_n 0, 1) := by decide +kernel
theorem dX7_isFree_40 : decode cX7_isFree 40 = .ok (.getfield 36, 3) := by decide +kernel
theorem dX7_isFree_43 : decode cX7_isFree 43 = .ok (.invokevirtual 330, 3) := by decide +kernel
theorem dX7_isFree_46 : decode cX7_isFree 46 = .ok (.aload_n 0, 1) := by decide +kernel
theorem dX7_isFree_47 : decode cX7_isFree 47 = .ok (.iload_n 2, 1) := by decide +kernel
theorem dX7_isFree_48 : decode cX7_isFree 48 = .ok (.iload_n 1, 1) := by decide +kernel
theorem dX7_isFree_49 : decode cX7_isFree 49 = .ok (.aload_n 0, 1) := by decide +kernel
theorem dX7_isFree_50 : decode cX7_isFree 50 = .ok (.getfield 40, 3) := by decide +kernel
theorem dX7_isFree_53 : decode cX7_isFree 53 = .ok (.invokevirtual 330, 3) := by decide +kernel
theorem dX7_isFree_56 : decode cX7_isFree 56 = .ok (.if_icmp .ne 21, 3) := by decide +kernel
theorem dX7_isFree_59 : decode cX7_isFree 59 = .ok (.aload_n 0, 1) := by decide +kernel
theorem dX7_isFree_60 : decode cX7_isFree 60 = .ok (.getfield 36, 3) := by decide +kernel
theorem dX7_isFree_63 : decode cX7_isFree 63 = .ok (.aload_n 0, 1) := by decide +kernel
theorem dX7_isFree_64 : decode cX7_isFree 64 = .ok (.getfield 40, 3) := by decide +kernel
theorem dX7_isFree_67 : decode cX7_isFree 67 = .ok (.invokevirtual 334, 3) := by decide +kernel
theorem dX7_isFree_70 : decode cX7_isFree 70 = .ok (.ifCond .eq 7, 3) := by decide +kernel
theorem dX7_isFree_73 : decode cX7_isFree 73 = .ok (.iconst 1, 1) := by decide +kernel
theorem dX7_isFree_74 : decode cX7_isFree 74 = .ok (.goto 4, 3) := by decide +kernel
theorem dX7_isFree_77 : decode cX7_isFree 77 = .ok (.iconst 0, 1) := by decide +kernel
theorem dX7_isFree_78 : decode cX7_isFree 78 = .ok (.ireturn, 1) := by decide +kernel
theorem dX7_conflictCount_0 : decode cX7_conflictCount 0 = .ok (.aload_n 0, 1) := by decide +kernel
theorem dX7_conflictCount_1 : decode cX7_conflictCount 1 = .ok (.getfield 10, 3) := by decide +kernel
theorem dX7_conflictCount_4 : decode cX7_conflictCount 4 = .ok (.getfield 226, 3) := by decide +kernel
theorem dX7_conflictCount_7 : decode cX7_conflictCount 7 = .ok (.getfield 250, 3) := by decide +kernel
theorem dX7_conflictCount_10 : decode cX7_conflictCount 10 = .ok (.ireturn, 1) := by decide +kernel
theorem dX7_conflict_0 : decode cX7_conflict 0 = .ok (.aload_n 0, 1) := by decide +kernel
theorem dX7_conflict_1 : decode cX7_conflict 1 = .ok (.iload_n 1, 1) := by decide +kernel
theorem dX7_conflict_2 : decode cX7_conflict 2 = .ok (.invokevirtual 236, 3) := by decide +kernel
theorem dX7_conflict_5 : decode cX7_conflict 5 = .ok (.iload_n 2, 1) := by decide +kernel
theorem dX7_conflict_6 : decode cX7_conflict 6 = .ok (.ifCond .lt 9, 3) := by decide +kernel
theorem dX7_conflict_9 : decode cX7_conflict 9 = .ok (.iload_n 2, 1) := by decide +kernel
theorem dX7_conflict_10 : decode cX7_conflict 10 = .ok (.bipush 6, 2) := by decide +kernel
theorem dX7_conflict_12 : decode cX7_conflict 12 = .ok (.if_icmp .lt 14, 3) := by decide +kernel
theorem dX7_conflict_15 : decode cX7_conflict 15 = .ok (.new 72, 3) := by decide +kernel
theorem dX7_conflict_18 : decode cX7_conflict 18 = .ok (.dup, 1) := by decide +kernel
theorem dX7_conflict_19 : decode cX7_conflict 19 = .ok (.ldc_w 338, 3) := by decide +kernel
theorem dX7_conflict_22 : decode cX7_conflict 22 = .ok (.invokespecial 76, 3) := by decide +kernel
theorem dX7_conflict_25 : decode cX7_conflict 25 = .ok (.athrow, 1) := by decide +kernel
theorem dX7_conflict_26 : decode cX7_conflict 26 = .ok (.aload_n 0, 1) := by decide +kernel
theorem dX7_conflict_27 : decode cX7_conflict 27 = .ok (.getfield 10, 3) := by decide +kernel
theorem dX7_conflict_30 : decode cX7_conflict 30 = .ok (.getfield 226, 3) := by decide +kernel
theorem dX7_conflict_33 : decode cX7_conflict 33 = .ok (.iload_n 1, 1) := by decide +kernel
theorem dX7_conflict_34 : decode cX7_conflict 34 = .ok (.iload_n 2, 1) := by decide +kernel
theorem dX7_conflict_35 : decode cX7_conflict 35 = .ok (.invokevirtual 340, 3) := by decide +kernel
theorem dX7_conflict_38 : decode cX7_conflict 38 = .ok (.ireturn, 1) := by decide +kernel
theorem dX7_conflictsOf_0 : decode cX7_conflictsOf 0 = .ok (.iload_n 1, 1) := by decide +kernel
theorem dX7_conflictsOf_1 : decode cX7_conflictsOf 1 = .ok (.ifCond .lt 8, 3) := by decide +kernel
theorem dX7_conflictsOf_4 : decode cX7_conflictsOf 4 = .ok (.iload_n 1, 1) := by decide +kernel
theorem dX7_conflictsOf_5 : decode cX7_conflictsOf 5 = .ok (.iconst 5, 1) := by decide +kernel
theorem dX7_conflictsOf_6 : decode cX7_conflictsOf 6 = .ok (.if_icmp .lt 14, 3) := by decide +kernel
theorem dX7_conflictsOf_9 : decode cX7_conflictsOf 9 = .ok (.new 72, 3) := by decide +kernel
theorem dX7_conflictsOf_12 : decode cX7_conflictsOf 12 = .ok (.dup, 1) := by decide +kernel
theorem dX7_conflictsOf_13 : decode cX7_conflictsOf 13 = .ok (.ldc_w 343, 3) := by decide +kernel
theorem dX7_conflictsOf_16 : decode cX7_conflictsOf 16 = .ok (.invokespecial 76, 3) := by decide +kernel
theorem dX7_conflictsOf_19 : decode cX7_conflictsOf 19 = .ok (.athrow, 1) := by decide +kernel
theorem dX7_conflictsOf_20 : decode cX7_conflictsOf 20 = .ok (.aload_n 0, 1) := by decide +kernel
theorem dX7_conflictsOf_21 : decode cX7_conflictsOf 21 = .ok (.getfield 10, 3) := by decide +kernel
theorem dX7_conflictsOf_24 : decode cX7_conflictsOf 24 = .ok (.getfield 226, 3) := by decide +kernel
theorem dX7_conflictsOf_27 : decode cX7_conflictsOf 27 = .ok (.iload_n 1, 1) := by decide +kernel
theorem dX7_conflictsOf_28 : decode cX7_conflictsOf 28 = .ok (.invokevirtual 345, 3) := by decide +kernel
theorem dX7_conflictsOf_31 : decode cX7_conflictsOf 31 = .ok (.ireturn, 1) := by decide +kernel
theorem dX7_requireClient_0 : decode cX7_requireClient 0 = .ok (.iload_n 1, 1) := by decide +kernel
theorem dX7_requireClient_1 : decode cX7_requireClient 1 = .ok (.ifCond .lt 14, 3) := by decide +kernel
theorem dX7_requireClient_4 : decode cX7_requireClient 4 = .ok (.iload_n 1, 1) := by decide +kernel
theorem dX7_requireClient_5 : decode cX7_requireClient 5 = .ok (.aload_n 0, 1) := by decide +kernel
theorem dX7_requireClient_6 : decode cX7_requireClient 6 = .ok (.getfield 10, 3) := by decide +kernel
theorem dX7_requireClient_9 : decode cX7_requireClient 9 = .ok (.getfield 267, 3) := by decide +kernel
theorem dX7_requireClient_12 : decode cX7_requireClient 12 = .ok (.if_icmp .lt 14, 3) := by decide +kernel
theorem dX7_requireClient_15 : decode cX7_requireClient 15 = .ok (.new 292, 3) := by decide +kernel
theorem dX7_requireClient_18 : decode cX7_requireClient 18 = .ok (.dup, 1) := by decide +kernel
theorem dX7_requireClient_19 : decode cX7_requireClient 19 = .ok (.ldc_w 348, 3) := by decide +kernel
theorem dX7_requireClient_22 : decode cX7_requireClient 22 = .ok (.invokespecial 296, 3) := by decide +kernel
theorem dX7_requireClient_25 : decode cX7_requireClient 25 = .ok (.athrow, 1) := by decide +kernel
theorem dX7_requireClient_26 : decode cX7_requireClient 26 = .ok (.return_, 1) := by decide +kernel
theorem dX7_requireNode_0 : decode cX7_requireNode 0 = .ok (.iload_n 1, 1) := by decide +kernel
theorem dX7_requireNode_1 : decode cX7_requireNode 1 = .ok (.ifCond .lt 17, 3) := by decide +kernel
theorem dX7_requireNode_4 : decode cX7_requireNode 4 = .ok (.iload_n 1, 1) := by decide +kernel
theorem dX7_requireNode_5 : decode cX7_requireNode 5 = .ok (.aload_n 0, 1) := by decide +kernel
theorem dX7_requireNode_6 : decode cX7_requireNode 6 = .ok (.getfield 10, 3) := by decide +kernel
theorem dX7_requireNode_9 : decode cX7_requireNode 9 = .ok (.getfield 97, 3) := by decide +kernel
theorem dX7_requireNode_12 : decode cX7_requireNode 12 = .ok (.getfield 101, 3) := by decide +kernel
theorem dX7_requireNode_15 : decode cX7_requireNode 15 = .ok (.if_icmp .lt 14, 3) := by decide +kernel
theorem dX7_requireNode_18 : decode cX7_requireNode 18 = .ok (.new 292, 3) := by decide +kernel
theorem dX7_requireNode_21 : decode cX7_requireNode 21 = .ok (.dup, 1) := by decide +kernel
theorem dX7_requireNode_22 : decode cX7_requireNode 22 = .ok (.ldc_w 350, 3) := by decide +kernel
theorem dX7_requireNode_25 : decode cX7_requireNode 25 = .ok (.invokespecial 296, 3) := by decide +kernel
theorem dX7_requireNode_28 : decode cX7_requireNode 28 = .ok (.athrow, 1) := by decide +kernel
theorem dX7_requireNode_29 : decode cX7_requireNode 29 = .ok (.return_, 1) := by decide +kernel
theorem dX7_requireField_0 : decode cX7_requireField 0 = .ok (.iload_n 1, 1) := by decide +kernel
theorem dX7_requireField_1 : decode cX7_requireField 1 = .ok (.ifCond .lt 14, 3) := by decide +kernel
theorem dX7_requireField_4 : decode cX7_requireField 4 = .ok (.iload_n 1, 1) := by decide +kernel
theorem dX7_requireField_5 : decode cX7_requireField 5 = .ok (.aload_n 0, 1) := by decide +kernel
theorem dX7_requireField_6 : decode cX7_requireField 6 = .ok (.getfield 10, 3) := by decide +kernel
theorem dX7_requireField_9 : decode cX7_requireField 9 = .ok (.getfield 264, 3) := by decide +kernel
theorem dX7_requireField_12 : decode cX7_requireField 12 = .ok (.if_icmp .lt 14, 3) := by decide +kernel
theorem dX7_requireField_15 : decode cX7_requireField 15 = .ok (.new 292, 3) := by decide +kernel
theorem dX7_requireField_18 : decode cX7_requireField 18 = .ok (.dup, 1) := by decide +kernel
theorem dX7_requireField_19 : decode cX7_requireField 19 = .ok (.ldc_w 352, 3) := by decide +kernel
theorem dX7_requireField_22 : decode cX7_requireField 22 = .ok (.invokespecial 296, 3) := by decide +kernel
theorem dX7_requireField_25 : decode cX7_requireField 25 = .ok (.athrow, 1) := by decide +kernel
theorem dX7_requireField_26 : decode cX7_requireField 26 = .ok (.return_, 1) := by decide +kernel
theorem dX7_requireConflict_0 : decode cX7_requireConflict 0 = .ok (.iload_n 1, 1) := by decide +kernel
theorem dX7_requireConflict_1 : decode cX7_requireConflict 1 = .ok (.ifCond .lt 17, 3) := by decide +kernel
theorem dX7_requireConflict_4 : decode cX7_requireConflict 4 = .ok (.iload_n 1, 1) := by decide +kernel
theorem dX7_requireConflict_5 : decode cX7_requireConflict 5 = .ok (.aload_n 0, 1) := by decide +kernel
theorem dX7_requireConflict_6 : decode cX7_requireConflict 6 = .ok (.getfield 10, 3) := by decide +kernel
theorem dX7_requireConflict_9 : decode cX7_requireConflict 9 = .ok (.getfield 226, 3) := by decide +kernel
theorem dX7_requireConflict_12 : decode cX7_requireConflict 12 = .ok (.getfield 250, 3) := by decide +kernel
theorem dX7_requireConflict_15 : decode cX7_requireConflict 15 = .ok (.if_icmp .lt 14, 3) := by decide +kernel
theorem dX7_requireConflict_18 : decode cX7_requireConflict 18 = .ok (.new 292, 3) := by decide +kernel
theorem dX7_requireConflict_21 : decode cX7_requireConflict 21 = .ok (.dup, 1) := by decide +kernel
theorem dX7_requireConflict_22 : decode cX7_requireConflict 22 = .ok (.ldc_w 354, 3) := by decide +kernel
theorem dX7_requireConflict_25 : decode cX7_requireConflict 25 = .ok (.invokespecial 296, 3) := by decide +kernel
theorem dX7_requireConflict_28 : decode cX7_requireConflict 28 = .ok (.athrow, 1) := by decide +kernel
theorem dX7_requireConflict_29 : decode cX7_requireConflict 29 = .ok (.return_, 1) := by decide +kernel
theorem dX7_requireLeaseTicks_0 : decode cX7_requireLeaseTicks 0 = .ok (.iload_n 1, 1) := by decide +kernel
theorem dX7_requireLeaseTicks_1 : decode cX7_requireLeaseTicks 1 = .ok (.iconst 1, 1) := by decide +kernel
theorem dX7_requireLeaseTicks_2 : decode cX7_requireLeaseTicks 2 = .ok (.if_icmp .lt 9, 3) := by decide +kernel
theorem dX7_requireLeaseTicks_5 : decode cX7_requireLeaseTicks 5 = .ok (.iload_n 1, 1) := by decide +kernel
theorem dX7_requireLeaseTicks_6 : decode cX7_requireLeaseTicks 6 = .ok (.bipush 100, 2) := by decide +kernel
theorem dX7_requireLeaseTicks_8 : decode cX7_requireLeaseTicks 8 = .ok (.if_icmp .le 13, 3) := by decide +kernel
theorem dX7_requireLeaseTicks_11 : decode cX7_requireLeaseTicks 11 = .ok (.new 72, 3) := by decide +kernel
theorem dX7_requireLeaseTicks_14 : decode cX7_requireLeaseTicks 14 = .ok (.dup, 1) := by decide +kernel
theorem dX7_requireLeaseTicks_15 : decode cX7_requireLeaseTicks 15 = .ok (.ldc 251, 2) := by decide +kernel
theorem dX7_requireLeaseTicks_17 : decode cX7_requireLeaseTicks 17 = .ok (.invokespecial 76, 3) := by decide +kernel
theorem dX7_requireLeaseTicks_20 : decode cX7_requireLeaseTicks 20 = .ok (.athrow, 1) := by decide +kernel
theorem dX7_requireLeaseTicks_21 : decode cX7_requireLeaseTicks 21 = .ok (.return_, 1) := by decide +kernel
theorem dX7_requireLease_0 : decode cX7_requireLease 0 = .ok (.aload_n 0, 1) := by decide +kernel
theorem dX7_requireLease_1 : decode cX7_requireLease 1 = .ok (.getfield 10, 3) := by decide +kernel
theorem dX7_requireLease_4 : decode cX7_requireLease 4 = .ok (.getfield 115, 3) := by decide +kernel
theorem dX7_requireLease_7 : decode cX7_requireLease 7 = .ok (.iload_n 1, 1) := by decide +kernel
theorem dX7_requireLease_8 : decode cX7_requireLease 8 = .ok (.aaload, 1) := by decide +kernel
theorem dX7_requireLease_9 : decode cX7_requireLease 9 = .ok (.getfield 119, 3) := by decide +kernel
theorem dX7_requireLease_12 : decode cX7_requireLease 12 = .ok (.ifCond .ne 14, 3) := by decide +kernel
theorem dX7_requireLease_15 : decode cX7_requireLease 15 = .ok (.new 61, 3) := by decide +kernel
theorem dX7_requireLease_18 : decode cX7_requireLease 18 = .ok (.dup, 1) := by decide +kernel
theorem dX7_requireLease_19 : decode cX7_requireLease 19 = .ok (.ldc_w 356, 3) := by decide +kernel
theorem dX7_requireLease_22 : decode cX7_requireLease 22 = .ok (.invokespecial 65, 3) := by decide +kernel
theorem dX7_requireLease_25 : decode cX7_requireLease 25 = .ok (.athrow, 1) := by decide +kernel
theorem dX7_requireLease_26 : decode cX7_requireLease 26 = .ok (.return_, 1) := by decide +kernel
theorem dX7_requireInCopy_0 : decode cX7_requireInCopy 0 = .ok (.aload_n 0, 1) := by decide +kernel
theorem dX7_requireInCopy_1 : decode cX7_requireInCopy 1 = .ok (.getfield 10, 3) := by decide +kernel
theorem dX7_requireInCopy_4 : decode cX7_requireInCopy 4 = .ok (.getfield 115, 3) := by decide +kernel
theorem dX7_requireInCopy_7 : decode cX7_requireInCopy 7 = .ok (.iload_n 1, 1) := by decide +kernel
theorem dX7_requireInCopy_8 : decode cX7_requireInCopy 8 = .ok (.aaload, 1) := by decide +kernel
theorem dX7_requireInCopy_9 : decode cX7_requireInCopy 9 = .ok (.getfield 180, 3) := by decide +kernel
theorem dX7_requireInCopy_12 : decode cX7_requireInCopy 12 = .ok (.iload_n 2, 1) := by decide +kernel
theorem dX7_requireInCopy_13 : decode cX7_requireInCopy 13 = .ok (.invokevirtual 129, 3) := by decide +kernel
theorem dX7_requireInCopy_16 : decode cX7_requireInCopy 16 = .ok (.ifCond .ne 14, 3) := by decide +kernel
theorem dX7_requireInCopy_19 : decode cX7_requireInCopy 19 = .ok (.new 61, 3) := by decide +kernel
theorem dX7_requireInCopy_22 : decode cX7_requireInCopy 22 = .ok (.dup, 1) := by decide +kernel
theorem dX7_requireInCopy_23 : decode cX7_requireInCopy 23 = .ok (.ldc_w 358, 3) := by decide +kernel
theorem dX7_requireInCopy_26 : decode cX7_requireInCopy 26 = .ok (.invokespecial 65, 3) := by decide +kernel
theorem dX7_requireInCopy_29 : decode cX7_requireInCopy 29 = .ok (.athrow, 1) := by decide +kernel
theorem dX7_requireInCopy_30 : decode cX7_requireInCopy 30 = .ok (.return_, 1) := by decide +kernel
theorem dX7_mergeBoth_0 : decode cX7_mergeBoth 0 = .ok (.aload_n 3, 1) := by decide +kernel
theorem dX7_mergeBoth_1 : decode cX7_mergeBoth 1 = .ok (.aload_n 0, 1) := by decide +kernel
theorem dX7_mergeBoth_2 : decode cX7_mergeBoth 2 = .ok (.getfield 10, 3) := by decide +kernel
theorem dX7_mergeBoth_5 : decode cX7_mergeBoth 5 = .ok (.getfield 126, 3) := by decide +kernel
theorem dX7_mergeBoth_8 : decode cX7_mergeBoth 8 = .ok (.invokevirtual 323, 3) := by decide +kernel
theorem dX7_mergeBoth_11 : decode cX7_mergeBoth 11 = .ok (.aload_n 0, 1) := by decide +kernel
theorem dX7_mergeBoth_12 : decode cX7_mergeBoth 12 = .ok (.getfield 10, 3) := by decide +kernel
theorem dX7_mergeBoth_15 : decode cX7_mergeBoth 15 = .ok (.iload_n 1, 1) := by decide +kernel
theorem dX7_mergeBoth_16 : decode cX7_mergeBoth 16 = .ok (.aload_n 3, 1) := by decide +kernel
theorem dX7_mergeBoth_17 : decode cX7_mergeBoth 17 = .ok (.aload_n 0, 1) := by decide +kernel
theorem dX7_mergeBoth_18 : decode cX7_mergeBoth 18 = .ok (.getfield 46, 3) := by decide +kernel
theorem dX7_mergeBoth_21 : decode cX7_mergeBoth 21 = .ok (.invokevirtual 229, 3) := by decide +kernel
theorem dX7_mergeBoth_24 : decode cX7_mergeBoth 24 = .ok (.aload_n 0, 1) := by decide +kernel
theorem dX7_mergeBoth_25 : decode cX7_mergeBoth 25 = .ok (.getfield 10, 3) := by decide +kernel
theorem dX7_mergeBoth_28 : decode cX7_mergeBoth 28 = .ok (.iload_n 2, 1) := by decide +kernel
theorem dX7_mergeBoth_29 : decode cX7_mergeBoth 29 = .ok (.aload_n 3, 1) := by decide +kernel
theorem dX7_mergeBoth_30 : decode cX7_mergeBoth 30 = .ok (.aload_n 0, 1) := by decide +kernel
theorem dX7_mergeBoth_31 : decode cX7_mergeBoth 31 = .ok (.getfield 46, 3) := by decide +kernel
theorem dX7_mergeBoth_34 : decode cX7_mergeBoth 34 = .ok (.invokevirtual 229, 3) := by decide +kernel
theorem dX7_mergeBoth_37 : decode cX7_mergeBoth 37 = .ok (.iadd, 1) := by decide +kernel
theorem dX7_mergeBoth_38 : decode cX7_mergeBoth 38 = .ok (.ireturn, 1) := by decide +kernel
theorem dX7_bit_0 : decode cX7_bit 0 = .ok (.lconst 1, 1) := by decide +kernel
theorem dX7_bit_1 : decode cX7_bit 1 = .ok (.iload_n 0, 1) := by decide +kernel
theorem dX7_bit_2 : decode cX7_bit 2 = .ok (.lshl, 1) := by decide +kernel
theorem dX7_bit_3 : decode cX7_bit 3 = .ok (.lreturn, 1) := by decide +kernel
theorem dX7_contains_0 : decode cX7_contains 0 = .ok (.lload_n 0, 1) := by decide +kernel
theorem dX7_contains_1 : decode cX7_contains 1 = .ok (.iload_n 2, 1) := by decide +kernel
theorem dX7_contains_2 : decode cX7_contains 2 = .ok (.lushr, 1) := by decide +kernel
theorem dX7_contains_3 : decode cX7_contains 3 = .ok (.lconst 1, 1) := by decide +kernel
theorem dX7_contains_4 : decode cX7_contains 4 = .ok (.land, 1) := by decide +kernel
theorem dX7_contains_5 : decode cX7_contains 5 = .ok (.lconst 0, 1) := by decide +kernel
theorem dX7_contains_6 : decode cX7_contains 6 = .ok (.lcmp, 1) := by decide +kernel
theorem dX7_contains_7 : decode cX7_contains 7 = .ok (.ifCond .eq 7, 3) := by decide +kernel
theorem dX7_contains_10 : decode cX7_contains 10 = .ok (.iconst 1, 1) := by decide +kernel
theorem dX7_contains_11 : decode cX7_contains 11 = .ok (.goto 4, 3) := by decide +kernel
theorem dX7_contains_14 : decode cX7_contains 14 = .ok (.iconst 0, 1) := by decide +kernel
theorem dX7_contains_15 : decode cX7_contains 15 = .ok (.ireturn, 1) := by decide +kernel
theorem dX7_countBytes_0 : decode cX7_countBytes 0 = .ok (.iconst 0, 1) := by decide +kernel
theorem dX7_countBytes_1 : decode cX7_countBytes 1 = .ok (.istore_n 1, 1) := by decide +kernel
theorem dX7_countBytes_2 : decode cX7_countBytes 2 = .ok (.bipush 24, 2) := by decide +kernel
theorem dX7_countBytes_4 : decode cX7_countBytes 4 = .ok (.istore_n 2, 1) := by decide +kernel
theorem dX7_countBytes_5 : decode cX7_countBytes 5 = .ok (.iload_n 2, 1) := by decide +kernel
theorem dX7_countBytes_6 : decode cX7_countBytes 6 = .ok (.ifCond .lt 22, 3) := by decide +kernel
theorem dX7_countBytes_9 : decode cX7_countBytes 9 = .ok (.iload_n 0, 1) := by decide +kernel
theorem dX7_countBytes_10 : decode cX7_countBytes 10 = .ok (.iload_n 2, 1) := by decide +kernel
theorem dX7_countBytes_11 : decode cX7_countBytes 11 = .ok (.iushr, 1) := by decide +kernel
theorem dX7_countBytes_12 : decode cX7_countBytes 12 = .ok (.sipush 255, 3) := by decide +kernel
theorem dX7_countBytes_15 : decode cX7_countBytes 15 = .ok (.iand, 1) := by decide +kernel
theorem dX7_countBytes_16 : decode cX7_countBytes 16 = .ok (.ifCond .eq 6, 3) := by decide +kernel
theorem dX7_countBytes_19 : decode cX7_countBytes 19 = .ok (.iinc 1 1, 3) := by decide +kernel
theorem dX7_countBytes_22 : decode cX7_countBytes 22 = .ok (.iinc 2 (-8), 3) := by decide +kernel
theorem dX7_countBytes_25 : decode cX7_countBytes 25 = .ok (.goto (-20), 3) := by decide +kernel
theorem dX7_countBytes_28 : decode cX7_countBytes 28 = .ok (.iload_n 1, 1) := by decide +kernel
theorem dX7_countBytes_29 : decode cX7_countBytes 29 = .ok (.ireturn, 1) := by decide +kernel
theorem dX7_mergedValue_0 : decode cX7_mergedValue 0 = .ok (.iload_n 0, 1) := by decide +kernel
theorem dX7_mergedValue_1 : decode cX7_mergedValue 1 = .ok (.tableswitch 96 0 4 #[35, 57, 63, 69, 85], 35) := by decide +kernel
theorem dX7_mergedValue_36 : decode cX7_mergedValue 36 = .ok (.ldc2_w 360, 3) := by decide +kernel
theorem dX7_mergedValue_39 : decode cX7_mergedValue 39 = .ok (.ldc2_w 362, 3) := by decide +kernel
theorem dX7_mergedValue_42 : decode cX7_mergedValue 42 = .ok (.iload_n 3, 1) := by decide +kernel
theorem dX7_mergedValue_43 : decode cX7_mergedValue 43 = .ok (.i2l, 1) := by decide +kernel
theorem dX7_mergedValue_44 : decode cX7_mergedValue 44 = .ok (.iload_n 2, 1) := by decide +kernel
theorem dX7_mergedValue_45 : decode cX7_mergedValue 45 = .ok (.i2l, 1) := by decide +kernel
theorem dX7_mergedValue_46 : decode cX7_mergedValue 46 = .ok (.ladd, 1) := by decide +kernel
theorem dX7_mergedValue_47 : decode cX7_mergedValue 47 = .ok (.iload_n 1, 1) := by decide +kernel
theorem dX7_mergedValue_48 : decode cX7_mergedValue 48 = .ok (.i2l, 1) := by decide +kernel
theorem dX7_mergedValue_49 : decode cX7_mergedValue 49 = .ok (.lsub, 1) := by decide +kernel
theorem dX7_mergedValue_50 : decode cX7_mergedValue 50 = .ok (.invokestatic 364, 3) := by decide +kernel
theorem dX7_mergedValue_53 : decode cX7_mergedValue 53 = .ok (.invokestatic 370, 3) := by decide +kernel
theorem dX7_mergedValue_56 : decode cX7_mergedValue 56 = .ok (.l2i, 1) := by decide +kernel
theorem dX7_mergedValue_57 : decode cX7_mergedValue 57 = .ok (.ireturn, 1) := by decide +kernel
theorem dX7_mergedValue_58 : decode cX7_mergedValue 58 = .ok (.iload_n 3, 1) := by decide +kernel
theorem dX7_mergedValue_59 : decode cX7_mergedValue 59 = .ok (.iload_n 2, 1) := by decide +kernel
theorem dX7_mergedValue_60 : decode cX7_mergedValue 60 = .ok (.invokestatic 373, 3) := by decide +kernel
theorem dX7_mergedValue_63 : decode cX7_mergedValue 63 = .ok (.ireturn, 1) := by decide +kernel
theorem dX7_mergedValue_64 : decode cX7_mergedValue 64 = .ok (.iload_n 3, 1) := by decide +kernel
theorem dX7_mergedValue_65 : decode cX7_mergedValue 65 = .ok (.iload_n 2, 1) := by decide +kernel
theorem dX7_mergedValue_66 : decode cX7_mergedValue 66 = .ok (.invokestatic 375, 3) := by decide +kernel
theorem dX7_mergedValue_69 : decode cX7_mergedValue 69 = .ok (.ireturn, 1) := by decide +kernel
theorem dX7_mergedValue_70 : decode cX7_mergedValue 70 = .ok (.iload_n 3, 1) := by decide +kernel
theorem dX7_mergedValue_71 : decode cX7_mergedValue 71 = .ok (.iload_n 1, 1) := by decide +kernel
theorem dX7_mergedValue_72 : decode cX7_mergedValue 72 = .ok (.iload_n 2, 1) := by decide +kernel
theorem dX7_mergedValue_73 : decode cX7_mergedValue 73 = .ok (.iconst (-1), 1) := by decide +kernel
theorem dX7_mergedValue_74 : decode cX7_mergedValue 74 = .ok (.ixor, 1) := by decide +kernel
theorem dX7_mergedValue_75 : decode cX7_mergedValue 75 = .ok (.iand, 1) := by decide +kernel
theorem dX7_mergedValue_76 : decode cX7_mergedValue 76 = .ok (.iconst (-1), 1) := by decide +kernel
theorem dX7_mergedValue_77 : decode cX7_mergedValue 77 = .ok (.ixor, 1) := by decide +kernel
theorem dX7_mergedValue_78 : decode cX7_mergedValue 78 = .ok (.iand, 1) := by decide +kernel
theorem dX7_mergedValue_79 : decode cX7_mergedValue 79 = .ok (.iload_n 2, 1) := by decide +kernel
theorem dX7_mergedValue_80 : decode cX7_mergedValue 80 = .ok (.iload_n 1, 1) := by decide +kernel
theorem dX7_mergedValue_81 : decode cX7_mergedValue 81 = .ok (.iconst (-1), 1) := by decide +kernel
theorem dX7_mergedValue_82 : decode cX7_mergedValue 82 = .ok (.ixor, 1) := by decide +kernel
theorem dX7_mergedValue_83 : decode cX7_mergedValue 83 = .ok (.iand, 1) := by decide +kernel
theorem dX7_mergedValue_84 : decode cX7_mergedValue 84 = .ok (.ior, 1) := by decide +kernel
theorem dX7_mergedValue_85 : decode cX7_mergedValue 85 = .ok (.ireturn, 1) := by decide +kernel
theorem dX7_mergedValue_86 : decode cX7_mergedValue 86 = .ok (.iload_n 3, 1) := by decide +kernel
theorem dX7_mergedValue_87 : decode cX7_mergedValue 87 = .ok (.iload_n 1, 1) := by decide +kernel
theorem dX7_mergedValue_88 : decode cX7_mergedValue 88 = .ok (.if_icmp .ne 7, 3) := by decide +kernel
theorem dX7_mergedValue_91 : decode cX7_mergedValue 91 = .ok (.iload_n 2, 1) := by decide +kernel
theorem dX7_mergedValue_92 : decode cX7_mergedValue 92 = .ok (.goto 4, 3) := by decide +kernel
theorem dX7_mergedValue_95 : decode cX7_mergedValue 95 = .ok (.iload_n 3, 1) := by decide +kernel
theorem dX7_mergedValue_96 : decode cX7_mergedValue 96 = .ok (.ireturn, 1) := by decide +kernel
theorem dX7_mergedValue_97 : decode cX7_mergedValue 97 = .ok (.iload_n 2, 1) := by decide +kernel
theorem dX7_mergedValue_98 : decode cX7_mergedValue 98 = .ok (.ireturn, 1) := by decide +kernel
theorem dX8_init_0 : decode cX8_init 0 = .ok (.aload_n 0, 1) := by decide +kernel
theorem dX8_init_1 : decode cX8_init 1 = .ok (.invokespecial 3, 3) := by decide +kernel
theorem dX8_init_4 : decode cX8_init 4 = .ok (.aload_n 0, 1) := by decide +kernel
theorem dX8_init_5 : decode cX8_init 5 = .ok (.sipush 600, 3) := by decide +kernel
theorem dX8_init_8 : decode cX8_init 8 = .ok (.newarray .int, 2) := by decide +kernel
theorem dX8_init_10 : decode cX8_init 10 = .ok (.putfield 9, 3) := by decide +kernel
theorem dX8_init_13 : decode cX8_init 13 = .ok (.aload_n 0, 1) := by decide +kernel
theorem dX8_init_14 : decode cX8_init 14 = .ok (.sipush 5366, 3) := by decide +kernel
theorem dX8_init_17 : decode cX8_init 17 = .ok (.newarray .int, 2) := by decide +kernel
theorem dX8_init_19 : decode cX8_init 19 = .ok (.putfield 13, 3) := by decide +kernel
theorem dX8_init_22 : decode cX8_init 22 = .ok (.aload_n 0, 1) := by decide +kernel
theorem dX8_init_23 : decode cX8_init 23 = .ok (.sipush 5366, 3) := by decide +kernel
theorem dX8_init_26 : decode cX8_init 26 = .ok (.newarray .int, 2) := by decide +kernel
theorem dX8_init_28 : decode cX8_init 28 = .ok (.putfield 16, 3) := by decide +kernel
theorem dX8_init_31 : decode cX8_init 31 = .ok (.aload_n 0, 1) := by decide +kernel
theorem dX8_init_32 : decode cX8_init 32 = .ok (.ldc 19, 2) := by decide +kernel
theorem dX8_init_34 : decode cX8_init 34 = .ok (.newarray .int, 2) := by decide +kernel
theorem dX8_init_36 : decode cX8_init 36 = .ok (.putfield 20, 3) := by decide +kernel
theorem dX8_init_39 : decode cX8_init 39 = .ok (.aload_n 0, 1) := by decide +kernel
theorem dX8_init_40 : decode cX8_init 40 = .ok (.sipush 5366, 3) := by decide +kernel
theorem dX8_init_43 : decode cX8_init 43 = .ok (.newarray .int, 2) := by decide +kernel
theorem dX8_init_45 : decode cX8_init 45 = .ok (.putfield 23, 3) := by decide +kernel
theorem dX8_init_48 : decode cX8_init 48 = .ok (.aload_n 0, 1) := by decide +kernel
theorem dX8_init_49 : decode cX8_init 49 = .ok (.sipush 5366, 3) := by decide +kernel
theorem dX8_init_52 : decode cX8_init 52 = .ok (.newarray .int, 2) := by decide +kernel
theorem dX8_init_54 : decode cX8_init 54 = .ok (.putfield 26, 3) := by decide +kernel
theorem dX8_init_57 : decode cX8_init 57 = .ok (.aload_n 0, 1) := by decide +kernel
theorem dX8_init_58 : decode cX8_init 58 = .ok (.sipush 5366, 3) := by decide +kernel
theorem dX8_init_61 : decode cX8_init 61 = .ok (.newarray .int, 2) := by decide +kernel
theorem dX8_init_63 : decode cX8_init 63 = .ok (.putfield 29, 3) := by decide +kernel
theorem dX8_init_66 : decode cX8_init 66 = .ok (.aload_n 0, 1) := by decide +kernel
theorem dX8_init_67 : decode cX8_init 67 = .ok (.invokevirtual 32, 3) := by decide +kernel
theorem dX8_init_70 : decode cX8_init 70 = .ok (.aload_n 0, 1) := by decide +kernel
theorem dX8_init_71 : decode cX8_init 71 = .ok (.invokevirtual 35, 3) := by decide +kernel
theorem dX8_init_74 : decode cX8_init 74 = .ok (.return_, 1) := by decide +kernel
theorem dX8_thrown_0 : decode cX8_thrown 0 = .ok (.aload_n 0, 1) := by decide +kernel
theorem dX8_thrown_1 : decode cX8_thrown 1 = .ok (.getfield 38, 3) := by decide +kernel
theorem dX8_thrown_4 : decode cX8_thrown 4 = .ok (.ireturn, 1) := by decide +kernel
theorem dX8_in_0 : decode cX8_in 0 = .ok (.iload_n 0, 1) := by decide +kernel
theorem dX8_in_1 : decode cX8_in 1 = .ok (.iload_n 1, 1) := by decide +kernel
theorem dX8_in_2 : decode cX8_in 2 = .ok (.if_icmp .lt 12, 3) := by decide +kernel
theorem dX8_in_5 : decode cX8_in 5 = .ok (.iload_n 0, 1) := by decide +kernel
theorem dX8_in_6 : decode cX8_in 6 = .ok (.iload_n 2, 1) := by decide +kernel
theorem dX8_in_7 : decode cX8_in 7 = .ok (.if_icmp .gt 7, 3) := by decide +kernel
theorem dX8_in_10 : decode cX8_in 10 = .ok (.iconst 1, 1) := by decide +kernel
theorem dX8_in_11 : decode cX8_in 11 = .ok (.goto 4, 3) := by decide +kernel
theorem dX8_in_14 : decode cX8_in 14 = .ok (.iconst 0, 1) := by decide +kernel
theorem dX8_in_15 : decode cX8_in 15 = .ok (.ireturn, 1) := by decide +kernel
theorem dX8_fails_0 : decode cX8_fails 0 = .ok (.iload_n 1, 1) := by decide +kernel
theorem dX8_fails_1 : decode cX8_fails 1 = .ok (.ifCond .ne 8, 3) := by decide +kernel
theorem dX8_fails_4 : decode cX8_fails 4 = .ok (.aload_n 0, 1) := by decide +kernel
theorem dX8_fails_5 : decode cX8_fails 5 = .ok (.iload_n 2, 1) := by decide +kernel
theorem dX8_fails_6 : decode cX8_fails 6 = .ok (.putfield 38, 3) := by decide +kernel
theorem dX8_fails_9 : decode cX8_fails 9 = .ok (.iload_n 1, 1) := by decide +kernel
theorem dX8_fails_10 : decode cX8_fails 10 = .ok (.ifCond .ne 7, 3) := by decide +kernel
theorem dX8_fails_13 : decode cX8_fails 13 = .ok (.iconst 1, 1) := by decide +kernel
theorem dX8_fails_14 : decode cX8_fails 14 = .ok (.goto 4, 3) := by decide +kernel
theorem dX8_fails_17 : decode cX8_fails 17 = .ok (.iconst 0, 1) := by decide +kernel
theorem dX8_fails_18 : decode cX8_fails 18 = .ok (.ireturn, 1) := by decide +kernel
theorem dX8_byteOf_0 : decode cX8_byteOf 0 = .ok (.iload 5, 2) := by decide +kernel
theorem dX8_byteOf_2 : decode cX8_byteOf 2 = .ok (.iconst 4, 1) := by decide +kernel
theorem dX8_byteOf_3 : decode cX8_byteOf 3 = .ok (.if_icmp .ge 7, 3) := by decide +kernel
theorem dX8_byteOf_6 : decode cX8_byteOf 6 = .ok (.iload_n 0, 1) := by decide +kernel
theorem dX8_byteOf_7 : decode cX8_byteOf 7 = .ok (.goto 38, 3) := by decide +kernel
theorem dX8_byteOf_10 : decode cX8_byteOf 10 = .ok (.iload 5, 2) := by decide +kernel
theorem dX8_byteOf_12 : decode cX8_byteOf 12 = .ok (.bipush 8, 2) := by decide +kernel
theorem dX8_byteOf_14 : decode cX8_byteOf 14 = .ok (.if_icmp .ge 7, 3) := by decide +kernel
theorem dX8_byteOf_17 : decode cX8_byteOf 17 = .ok (.iload_n 1, 1) := by decide +kernel
theorem dX8_byteOf_18 : decode cX8_byteOf 18 = .ok (.goto 27, 3) := by decide +kernel
theorem dX8_byteOf_21 : decode cX8_byteOf 21 = .ok (.iload 5, 2) := by decide +kernel
theorem dX8_byteOf_23 : decode cX8_byteOf 23 = .ok (.bipush 12, 2) := by decide +kernel
theorem dX8_byteOf_25 : decode cX8_byteOf 25 = .ok (.if_icmp .ge 7, 3) := by decide +kernel
theorem dX8_byteOf_28 : decode cX8_byteOf 28 = .ok (.iload_n 2, 1) := by decide +kernel
theorem dX8_byteOf_29 : decode cX8_byteOf 29 = .ok (.goto 16, 3) := by decide +kernel
theorem dX8_byteOf_32 : decode cX8_byteOf 32 = .ok (.iload 5, 2) := by decide +kernel
theorem dX8_byteOf_34 : decode cX8_byteOf 34 = .ok (.bipush 16, 2) := by decide +kernel
theorem dX8_byteOf_36 : decode cX8_byteOf 36 = .ok (.if_icmp .ge 7, 3) := by decide +kernel
theorem dX8_byteOf_39 : decode cX8_byteOf 39 = .ok (.iload_n 3, 1) := by decide +kernel
theorem dX8_byteOf_40 : decode cX8_byteOf 40 = .ok (.goto 5, 3) := by decide +kernel
theorem dX8_byteOf_43 : decode cX8_byteOf 43 = .ok (.iload 4, 2) := by decide +kernel
theorem dX8_byteOf_45 : decode cX8_byteOf 45 = .ok (.istore 6, 2) := by decide +kernel
theorem dX8_byteOf_47 : decode cX8_byteOf 47 = .ok (.iload 6, 2) := by decide +kernel
theorem dX8_byteOf_49 : decode cX8_byteOf 49 = .ok (.bipush 24, 2) := by decide +kernel
theorem dX8_byteOf_51 : decode cX8_byteOf 51 = .ok (.bipush 8, 2) := by decide +kernel
theorem dX8_byteOf_53 : decode cX8_byteOf 53 = .ok (.iload 5, 2) := by decide +kernel
theorem dX8_byteOf_55 : decode cX8_byteOf 55 = .ok (.iconst 4, 1) := by decide +kernel
theorem dX8_byteOf_56 : decode cX8_byteOf 56 = .ok (.irem, 1) := by decide +kernel
theorem dX8_byteOf_57 : decode cX8_byteOf 57 = .ok (.imul, 1) := by decide +kernel
theorem dX8_byteOf_58 : decode cX8_byteOf 58 = .ok (.isub, 1) := by decide +kernel
theorem dX8_byteOf_59 : decode cX8_byteOf 59 = .ok (.ishr, 1) := by decide +kernel
theorem dX8_byteOf_60 : decode cX8_byteOf 60 = .ok (.sipush 255, 3) := by decide +kernel
theorem dX8_byteOf_63 : decode cX8_byteOf 63 = .ok (.iand, 1) := by decide +kernel
theorem dX8_byteOf_64 : decode cX8_byteOf 64 = .ok (.ireturn, 1) := by decide +kernel
theorem dX8_append_0 : decode cX8_append 0 = .ok (.aload_n 0, 1) := by decide +kernel
theorem dX8_append_1 : decode cX8_append 1 = .ok (.iconst 0, 1) := by decide +kernel
theorem dX8_append_2 : decode cX8_append 2 = .ok (.putfield 38, 3) := by decide +kernel
theorem dX8_append_5 : decode cX8_append 5 = .ok (.iconst 0, 1) := by decide +kernel
theorem dX8_append_6 : decode cX8_append 6 = .ok (.istore 6, 2) := by decide +kernel
theorem dX8_append_8 : decode cX8_append 8 = .ok (.iconst 0, 1) := by decide +kernel
theorem dX8_append_9 : decode cX8_append 9 = .ok (.istore 7, 2) := by decide +kernel
theorem dX8_append_11 : decode cX8_append 11 = .ok (.iload 7, 2) := by decide +kernel
theorem dX8_append_13 : decode cX8_append 13 = .ok (.bipush 20, 2) := by decide +kernel
theorem dX8_append_15 : decode cX8_append 15 = .ok (.if_icmp .ge 34, 3) := by decide +kernel
theorem dX8_append_18 : decode cX8_append 18 = .ok (.iload 6, 2) := by decide +kernel
theorem dX8_append_20 : decode cX8_append 20 = .ok (.iload_n 1, 1) := by decide +kernel
theorem dX8_append_21 : decode cX8_append 21 = .ok (.iload_n 2, 1) := by decide +kernel
theorem dX8_append_22 : decode cX8_append 22 = .ok (.iload_n 3, 1) := by decide +kernel
theorem dX8_append_23 : decode cX8_append 23 = .ok (.iload 4, 2) := by decide +kernel
theorem dX8_append_25 : decode cX8_append 25 = .ok (.iload 5, 2) := by decide +kernel
theorem dX8_append_27 : decode cX8_append 27 = .ok (.iload 7, 2) := by decide +kernel
theorem dX8_append_29 : decode cX8_append 29 = .ok (.invokestatic 42, 3) := by decide +kernel
theorem dX8_append_32 : decode cX8_append 32 = .ok (.ifCond .eq 7, 3) := by decide +kernel
theorem dX8_append_35 : decode cX8_append 35 = .ok (.iconst 1, 1) := by decide +kernel
theorem dX8_append_36 : decode cX8_append 36 = .ok (.goto 4, 3) := by decide +kernel
theorem dX8_append_39 : decode cX8_append 39 = .ok (.iconst 0, 1) := by decide +kernel
theorem dX8_append_40 : decode cX8_append 40 = .ok (.iadd, 1) := by decide +kernel
theorem dX8_append_41 : decode cX8_append 41 = .ok (.istore 6, 2) := by decide +kernel
theorem dX8_append_43 : decode cX8_append 43 = .ok (.iinc 7 1, 3) := by decide +kernel
theorem dX8_append_46 : decode cX8_append 46 = .ok (.goto (-35), 3) := by decide +kernel
theorem dX8_append_49 : decode cX8_append 49 = .ok (.aload_n 0, 1) := by decide +kernel
theorem dX8_append_50 : decode cX8_append 50 = .ok (.aload_n 0, 1) := by decide +kernel
theorem dX8_append_51 : decode cX8_append 51 = .ok (.getfield 46, 3) := by decide +kernel
theorem dX8_append_54 : decode cX8_append 54 = .ok (.iload 6, 2) := by decide +kernel
theorem dX8_append_56 : decode cX8_append 56 = .ok (.iadd, 1) := by decide +kernel
theorem dX8_append_57 : decode cX8_append 57 = .ok (.sipush 600, 3) := by decide +kernel
theorem dX8_append_60 : decode cX8_append 60 = .ok (.if_icmp .gt 7, 3) := by decide +kernel
theorem dX8_append_63 : decode cX8_append 63 = .ok (.iconst 1, 1) := by decide +kernel
theorem dX8_append_64 : decode cX8_append 64 = .ok (.goto 4, 3) := by decide +kernel
theorem dX8_append_67 : decode cX8_append 67 = .ok (.iconst 0, 1) := by decide +kernel
theorem dX8_append_68 : decode cX8_append 68 = .ok (.iconst 1, 1) := by decide +kernel
theorem dX8_append_69 : decode cX8_append 69 = .ok (.invokevirtual 49, 3) := by decide +kernel
theorem dX8_append_72 : decode cX8_append 72 = .ok (.ifCond .eq 5, 3) := by decide +kernel
theorem dX8_append_75 : decode cX8_append 75 = .ok (.iconst 0, 1) := by decide +kernel
theorem dX8_append_76 : decode cX8_append 76 = .ok (.ireturn, 1) := by decide +kernel
theorem dX8_append_77 : decode cX8_append 77 = .ok (.iconst 0, 1) := by decide +kernel
theorem dX8_append_78 : decode cX8_append 78 = .ok (.istore 7, 2) := by decide +kernel
theorem dX8_append_80 : decode cX8_append 80 = .ok (.iload 7, 2) := by decide +kernel
theorem dX8_append_82 : decode cX8_append 82 = .ok (.bipush 20, 2) := by decide +kernel
theorem dX8_append_84 : decode cX8_append 84 = .ok (.if_icmp .ge 49, 3) := by decide +kernel
theorem dX8_append_87 : decode cX8_append 87 = .ok (.iload_n 1, 1) := by decide +kernel
theorem dX8_append_88 : decode cX8_append 88 = .ok (.iload_n 2, 1) := by decide +kernel
theorem dX8_append_89 : decode cX8_append 89 = .ok (.iload_n 3, 1) := by decide +kernel
theorem dX8_append_90 : decode cX8_append 90 = .ok (.iload 4, 2) := by decide +kernel
theorem dX8_append_92 : decode cX8_append 92 = .ok (.iload 5, 2) := by decide +kernel
theorem dX8_append_94 : decode cX8_append 94 = .ok (.iload 7, 2) := by decide +kernel
theorem dX8_append_96 : decode cX8_append 96 = .ok (.invokestatic 42, 3) := by decide +kernel
theorem dX8_append_99 : decode cX8_append 99 = .ok (.istore 8, 2) := by decide +kernel
theorem dX8_append_101 : decode cX8_append 101 = .ok (.iload 8, 2) := by decide +kernel
theorem dX8_append_103 : decode cX8_append 103 = .ok (.ifCond .eq 24, 3) := by decide +kernel
theorem dX8_append_106 : decode cX8_append 106 = .ok (.aload_n 0, 1) := by decide +kernel
theorem dX8_append_107 : decode cX8_append 107 = .ok (.getfield 9, 3) := by decide +kernel
theorem dX8_append_110 : decode cX8_append 110 = .ok (.aload_n 0, 1) := by decide +kernel
theorem dX8_append_111 : decode cX8_append 111 = .ok (.getfield 46, 3) := by decide +kernel
theorem dX8_append_114 : decode cX8_append 114 = .ok (.iload 8, 2) := by decide +kernel
theorem dX8_append_116 : decode cX8_append 116 = .ok (.iastore, 1) := by decide +kernel
theorem dX8_append_117 : decode cX8_append 117 = .ok (.aload_n 0, 1) := by decide +kernel
theorem dX8_append_118 : decode cX8_append 118 = .ok (.dup, 1) := by decide +kernel
theorem dX8_append_119 : decode cX8_append 119 = .ok (.getfield 46, 3) := by decide +kernel
theorem dX8_append_122 : decode cX8_append 122 = .ok (.iconst 1, 1) := by decide +kernel
theorem dX8_append_123 : decode cX8_append 123 = .ok (.iadd, 1) := by decide +kernel
theorem dX8_append_124 : decode cX8_append 124 = .ok (.putfield 46, 3) := by decide +kernel
theorem dX8_append_127 : decode cX8_append 127 = .ok (.iinc 7 1, 3) := by decide +kernel
theorem dX8_append_130 : decode cX8_append 130 = .ok (.goto (-50), 3) := by decide +kernel
theorem dX8_append_133 : decode cX8_append 133 = .ok (.aload_n 0, 1) := by decide +kernel
theorem dX8_append_134 : decode cX8_append 134 = .ok (.getfield 46, 3) := by decide +kernel
theorem dX8_append_137 : decode cX8_append 137 = .ok (.ireturn, 1) := by decide +kernel
theorem dX8_truncate_0 : decode cX8_truncate 0 = .ok (.aload_n 0, 1) := by decide +kernel
theorem dX8_truncate_1 : decode cX8_truncate 1 = .ok (.iconst 0, 1) := by decide +kernel
theorem dX8_truncate_2 : decode cX8_truncate 2 = .ok (.putfield 38, 3) := by decide +kernel
theorem dX8_truncate_5 : decode cX8_truncate 5 = .ok (.aload_n 0, 1) := by decide +kernel
theorem dX8_truncate_6 : decode cX8_truncate 6 = .ok (.iload_n 1, 1) := by decide +kernel
theorem dX8_truncate_7 : decode cX8_truncate 7 = .ok (.iconst 0, 1) := by decide +kernel
theorem dX8_truncate_8 : decode cX8_truncate 8 = .ok (.aload_n 0, 1) := by decide +kernel
theorem dX8_truncate_9 : decode cX8_truncate 9 = .ok (.getfield 46, 3) := by decide +kernel
theorem dX8_truncate_12 : decode cX8_truncate 12 = .ok (.invokestatic 53, 3) := by decide +kernel
theorem dX8_truncate_15 : decode cX8_truncate 15 = .ok (.iconst 1, 1) := by decide +kernel
theorem dX8_truncate_16 : decode cX8_truncate 16 = .ok (.invokevirtual 49, 3) := by decide +kernel
theorem dX8_truncate_19 : decode cX8_truncate 19 = .ok (.ifCond .eq 5, 3) := by decide +kernel
theorem dX8_truncate_22 : decode cX8_truncate 22 = .ok (.iconst 0, 1) := by decide +kernel
theorem dX8_truncate_23 : decode cX8_truncate 23 = .ok (.ireturn, 1) := by decide +kernel
theorem dX8_truncate_24 : decode cX8_truncate 24 = .ok (.aload_n 0, 1) := by decide +kernel
theorem dX8_truncate_25 : decode cX8_truncate 25 = .ok (.iload_n 1, 1) := by decide +kernel
theorem dX8_truncate_26 : decode cX8_truncate 26 = .ok (.putfield 46, 3) := by decide +kernel
theorem dX8_truncate_29 : decode cX8_truncate 29 = .ok (.iload_n 1, 1) := by decide +kernel
theorem dX8_truncate_30 : decode cX8_truncate 30 = .ok (.ireturn, 1) := by decide +kernel
theorem dX8_peek_0 : decode cX8_peek 0 = .ok (.iload_n 1, 1) := by decide +kernel
theorem dX8_peek_1 : decode cX8_peek 1 = .ok (.aload_n 0, 1) := by decide +kernel
theorem dX8_peek_2 : decode cX8_peek 2 = .ok (.getfield 46, 3) := by decide +kernel
theorem dX8_peek_5 : decode cX8_peek 5 = .ok (.if_icmp .ge 12, 3) := by decide +kernel
theorem dX8_peek_8 : decode cX8_peek 8 = .ok (.aload_n 0, 1) := by decide +kernel
theorem dX8_peek_9 : decode cX8_peek 9 = .ok (.getfield 9, 3) := by decide +kernel
theorem dX8_peek_12 : decode cX8_peek 12 = .ok (.iload_n 1, 1) := by decide +kernel
theorem dX8_peek_13 : decode cX8_peek 13 = .ok (.iaload, 1) := by decide +kernel
theorem dX8_peek_14 : decode cX8_peek 14 = .ok (.goto 4, 3) := by decide +kernel
theorem dX8_peek_17 : decode cX8_peek 17 = .ok (.iconst (-1), 1) := by decide +kernel
theorem dX8_peek_18 : decode cX8_peek 18 = .ok (.ireturn, 1) := by decide +kernel
theorem dX8_isLetter_0 : decode cX8_isLetter 0 = .ok (.iload_n 0, 1) := by decide +kernel
theorem dX8_isLetter_1 : decode cX8_isLetter 1 = .ok (.bipush 97, 2) := by decide +kernel
theorem dX8_isLetter_3 : decode cX8_isLetter 3 = .ok (.if_icmp .lt 13, 3) := by decide +kernel
theorem dX8_isLetter_6 : decode cX8_isLetter 6 = .ok (.iload_n 0, 1) := by decide +kernel
theorem dX8_isLetter_7 : decode cX8_isLetter 7 = .ok (.bipush 122, 2) := by decide +kernel
theorem dX8_isLetter_9 : decode cX8_isLetter 9 = .ok (.if_icmp .gt 7, 3) := by decide +kernel
theorem dX8_isLetter_12 : decode cX8_isLetter 12 = .ok (.iconst 1, 1) := by decide +kernel
theorem dX8_isLetter_13 : decode cX8_isLetter 13 = .ok (.goto 4, 3) := by decide +kernel
theorem dX8_isLetter_16 : decode cX8_isLetter 16 = .ok (.iconst 0, 1) := by decide +kernel
theorem dX8_isLetter_17 : decode cX8_isLetter 17 = .ok (.ireturn, 1) := by decide +kernel
theorem dX8_isDigit_0 : decode cX8_isDigit 0 = .ok (.iload_n 0, 1) := by decide +kernel
theorem dX8_isDigit_1 : decode cX8_isDigit 1 = .ok (.bipush 48, 2) := by decide +kernel
theorem dX8_isDigit_3 : decode cX8_isDigit 3 = .ok (.if_icmp .lt 13, 3) := by decide +kernel
theorem dX8_isDigit_6 : decode cX8_isDigit 6 = .ok (.iload_n 0, 1) := by decide +kernel
theorem dX8_isDigit_7 : decode cX8_isDigit 7 = .ok (.bipush 57, 2) := by decide +kernel
theorem dX8_isDigit_9 : decode cX8_isDigit 9 = .ok (.if_icmp .gt 7, 3) := by decide +kernel
theorem dX8_isDigit_12 : decode cX8_isDigit 12 = .ok (.iconst 1, 1) := by decide +kernel
theorem dX8_isDigit_13 : decode cX8_isDigit 13 = .ok (.goto 4, 3) := by decide +kernel
theorem dX8_isDigit_16 : decode cX8_isDigit 16 = .ok (.iconst 0, 1) := by decide +kernel
theorem dX8_isDigit_17 : decode cX8_isDigit 17 = .ok (.ireturn, 1) := by decide +kernel
theorem dX8_step_0 : decode cX8_step 0 = .ok (.aload_n 0, 1) := by decide +kernel
theorem dX8_step_1 : decode cX8_step 1 = .ok (.aload_n 0, 1) := by decide +kernel
theorem dX8_step_2 : decode cX8_step 2 = .ok (.getfield 57, 3) := by decide +kernel
theorem dX8_step_5 : decode cX8_step 5 = .ok (.invokevirtual 60, 3) := by decide +kernel
theorem dX8_step_8 : decode cX8_step 8 = .ok (.bipush 32, 2) := by decide +kernel
theorem dX8_step_10 : decode cX8_step 10 = .ok (.if_icmp .ne 16, 3) := by decide +kernel
theorem dX8_step_13 : decode cX8_step 13 = .ok (.aload_n 0, 1) := by decide +kernel
theorem dX8_step_14 : decode cX8_step 14 = .ok (.dup, 1) := by decide +kernel
theorem dX8_step_15 : decode cX8_step 15 = .ok (.getfield 57, 3) := by decide +kernel
theorem dX8_step_18 : decode cX8_step 18 = .ok (.iconst 1, 1) := by decide +kernel
theorem dX8_step_19 : decode cX8_step 19 = .ok (.iadd, 1) := by decide +kernel
theorem dX8_step_20 : decode cX8_step 20 = .ok (.putfield 57, 3) := by decide +kernel
theorem dX8_step_23 : decode cX8_step 23 = .ok (.goto (-23), 3) := by decide +kernel
theorem dX8_step_26 : decode cX8_step 26 = .ok (.aload_n 0, 1) := by decide +kernel
theorem dX8_step_27 : decode cX8_step 27 = .ok (.aload_n 0, 1) := by decide +kernel
theorem dX8_step_28 : decode cX8_step 28 = .ok (.getfield 57, 3) := by decide +kernel
theorem dX8_step_31 : decode cX8_step 31 = .ok (.putfield 64, 3) := by decide +kernel
theorem dX8_step_34 : decode cX8_step 34 = .ok (.aload_n 0, 1) := by decide +kernel
theorem dX8_step_35 : decode cX8_step 35 = .ok (.aload_n 0, 1) := by decide +kernel
theorem dX8_step_36 : decode cX8_step 36 = .ok (.getfield 57, 3) := by decide +kernel
theorem dX8_step_39 : decode cX8_step 39 = .ok (.invokevirtual 60, 3) := by decide +kernel
theorem dX8_step_42 : decode cX8_step 42 = .ok (.istore_n 1, 1) := by decide +kernel
theorem dX8_step_43 : decode cX8_step 43 = .ok (.aload_n 0, 1) := by decide +kernel
theorem dX8_step_44 : decode cX8_step 44 = .ok (.iload_n 1, 1) := by decide +kernel
theorem dX8_step_45 : decode cX8_step 45 = .ok (.ifCond .ge 7, 3) := by decide +kernel
theorem dX8_step_48 : decode cX8_step 48 = .ok (.iconst 0, 1) := by decide +kernel
theorem dX8_step_49 : decode cX8_step 49 = .ok (.goto 26, 3) := by decide +kernel
theorem dX8_step_52 : decode cX8_step 52 = .ok (.iload_n 1, 1) := by decide +kernel
theorem dX8_step_53 : decode cX8_step 53 = .ok (.invokestatic 67, 3) := by decide +kernel
theorem dX8_step_56 : decode cX8_step 56 = .ok (.ifCond .eq 7, 3) := by decide +kernel
theorem dX8_step_59 : decode cX8_step 59 = .ok (.iconst 1, 1) := by decide +kernel
theorem dX8_step_60 : decode cX8_step 60 = .ok (.goto 15, 3) := by decide +kernel
theorem dX8_step_63 : decode cX8_step 63 = .ok (.iload_n 1, 1) := by decide +kernel
theorem dX8_step_64 : decode cX8_step 64 = .ok (.invokestatic 71, 3) := by decide +kernel
theorem dX8_step_67 : decode cX8_step 67 = .ok (.ifCond .eq 7, 3) := by decide +kernel
theorem dX8_step_70 : decode cX8_step 70 = .ok (.iconst 2, 1) := by decide +kernel
theorem dX8_step_71 : decode cX8_step 71 = .ok (.goto 4, 3) := by decide +kernel
theorem dX8_step_74 : decode cX8_step 74 = .ok (.iconst 3, 1) := by decide +kernel
theorem dX8_step_75 : decode cX8_step 75 = .ok (.putfield 74, 3) := by decide +kernel
theorem dX8_step_78 : decode cX8_step 78 = .ok (.aload_n 0, 1) := by decide +kernel
theorem dX8_step_79 : decode cX8_step 79 = .ok (.iconst 0, 1) := by decide +kernel
theorem dX8_step_80 : decode cX8_step 80 = .ok (.putfield 77, 3) := by decide +kernel
theorem dX8_step_83 : decode cX8_step 83 = .ok (.aload_n 0, 1) := by decide +kernel
theorem dX8_step_84 : decode cX8_step 84 = .ok (.getfield 74, 3) := by decide +kernel
theorem dX8_step_87 : decode cX8_step 87 = .ok (.iconst 3, 1) := by decide +kernel
theorem dX8_step_88 : decode cX8_step 88 = .ok (.if_icmp .ne 13, 3) := by decide +kernel
theorem dX8_step_91 : decode cX8_step 91 = .ok (.aload_n 0, 1) := by decide +kernel
theorem dX8_step_92 : decode cX8_step 92 = .ok (.dup, 1) := by decide +kernel
theorem dX8_step_93 : decode cX8_step 93 = .ok (.getfield 57, 3) := by decide +kernel
theorem dX8_step_96 : decode cX8_step 96 = .ok (.iconst 1, 1) := by decide +kernel
theorem dX8_step_97 : decode cX8_step 97 = .ok (.iadd, 1) := by decide +kernel
theorem dX8_step_98 : decode cX8_step 98 = .ok (.putfield 57, 3) := by decide +kernel
theorem dX8_step_101 : decode cX8_step 101 = .ok (.aload_n 0, 1) := by decide +kernel
theorem dX8_step_102 : decode cX8_step 102 = .ok (.getfield 74, 3) := by decide +kernel
theorem dX8_step_105 : decode cX8_step 105 = .ok (.iconst 1, 1) := by decide +kernel
theorem dX8_step_106 : decode cX8_step 106 = .ok (.if_icmp .ne 30, 3) := by decide +kernel
theorem dX8_step_109 : decode cX8_step 109 = .ok (.aload_n 0, 1) := by decide +kernel
theorem dX8_step_110 : decode cX8_step 110 = .ok (.aload_n 0, 1) := by decide +kernel
theorem dX8_step_111 : decode cX8_step 111 = .ok (.getfield 57, 3) := by decide +kernel
theorem dX8_step_114 : decode cX8_step 114 = .ok (.invokevirtual 60, 3) := by decide +kernel
theorem dX8_step_117 : decode cX8_step 117 = .ok (.invokestatic 67, 3) := by decide +kernel
theorem dX8_step_120 : decode cX8_step 120 = .ok (.ifCond .eq 16, 3) := by decide +kernel
theorem dX8_step_123 : decode cX8_step 123 = .ok (.aload_n 0, 1) := by decide +kernel
theorem dX8_step_124 : decode cX8_step 124 = .ok (.dup, 1) := by decide +kernel
theorem dX8_step_125 : decode cX8_step 125 = .ok (.getfield 57, 3) := by decide +kernel
theorem dX8_step_128 : decode cX8_step 128 = .ok (.iconst 1, 1) := by decide +kernel
theorem dX8_step_129 : decode cX8_step 129 = .ok (.iadd, 1) := by decide +kernel
theorem dX8_step_130 : decode cX8_step 130 = .ok (.putfield 57, 3) := by decide +kernel
theorem dX8_step_133 : decode cX8_step 133 = .ok (.goto (-32), 3) := by decide +kernel
theorem dX8_step_136 : decode cX8_step 136 = .ok (.aload_n 0, 1) := by decide +kernel
theorem dX8_step_137 : decode cX8_step 137 = .ok (.getfield 74, 3) := by decide +kernel
theorem dX8_step_140 : decode cX8_step 140 = .ok (.iconst 2, 1) := by decide +kernel
theorem dX8_step_141 : decode cX8_step 141 = .ok (.if_icmp .ne 58, 3) := by decide +kernel
theorem dX8_step_144 : decode cX8_step 144 = .ok (.aload_n 0, 1) := by decide +kernel
theorem dX8_step_145 : decode cX8_step 145 = .ok (.aload_n 0, 1) := by decide +kernel
theorem dX8_step_146 : decode cX8_step 146 = .ok (.getfield 57, 3) := by decide +kernel
theorem dX8_step_149 : decode cX8_step 149 = .ok (.invokevirtual 60, 3) := by decide +kernel
theorem dX8_step_152 : decode cX8_step 152 = .ok (.invokestatic 71, 3) := by decide +kernel
theorem dX8_step_155 : decode cX8_step 155 = .ok (.ifCond .eq 44, 3) := by decide +kernel
theorem dX8_step_158 : decode cX8_step 158 = .ok (.aload_n 0, 1) := by decide +kernel
theorem dX8_step_159 : decode cX8_step 159 = .ok (.ldc 80, 2) := by decide +kernel
theorem dX8_step_161 : decode cX8_step 161 = .ok (.bipush 10, 2) := by decide +kernel
theorem dX8_step_163 : decode cX8_step 163 = .ok (.aload_n 0, 1) := by decide +kernel
theorem dX8_step_164 : decode cX8_step 164 = .ok (.getfield 77, 3) := by decide +kernel
theorem dX8_step_167 : decode cX8_step 167 = .ok (.imul, 1) := by decide +kernel
theorem dX8_step_168 : decode cX8_step 168 = .ok (.aload_n 0, 1) := by decide +kernel
theorem dX8_step_169 : decode cX8_step 169 = .ok (.aload_n 0, 1) := by decide +kernel
theorem dX8_step_170 : decode cX8_step 170 = .ok (.getfield 57, 3) := by decide +kernel
theorem dX8_step_173 : decode cX8_step 173 = .ok (.invokevirtual 60, 3) := by decide +kernel
theorem dX8_step_176 : decode cX8_step 176 = .ok (.iadd, 1) := by decide +kernel
theorem dX8_step_177 : decode cX8_step 177 = .ok (.bipush 48, 2) := by decide +kernel
theorem dX8_step_179 : decode cX8_step 179 = .ok (.isub, 1) := by decide +kernel
theorem dX8_step_180 : decode cX8_step 180 = .ok (.invokestatic 81, 3) := by decide +kernel
theorem dX8_step_183 : decode cX8_step 183 = .ok (.putfield 77, 3) := by decide +kernel
theorem dX8_step_186 : decode cX8_step 186 = .ok (.aload_n 0, 1) := by decide +kernel
theorem dX8_step_187 : decode cX8_step 187 = .ok (.dup, 1) := by decide +kernel
theorem dX8_step_188 : decode cX8_step 188 = .ok (.getfield 57, 3) := by decide +kernel
theorem dX8_step_191 : decode cX8_step 191 = .ok (.iconst 1, 1) := by decide +kernel
theorem dX8_step_192 : decode cX8_step 192 = .ok (.iadd, 1) := by decide +kernel
theorem dX8_step_193 : decode cX8_step 193 = .ok (.putfield 57, 3) := by decide +kernel
theorem dX8_step_196 : decode cX8_step 196 = .ok (.goto (-60), 3) := by decide +kernel
theorem dX8_step_199 : decode cX8_step 199 = .ok (.return_, 1) := by decide +kernel
theorem dX8_fail_0 : decode cX8_fail 0 = .ok (.aload_n 0, 1) := by decide +kernel
theorem dX8_fail_1 : decode cX8_fail 1 = .ok (.aload_n 0, 1) := by decide +kernel
theorem dX8_fail_2 : decode cX8_fail 2 = .ok (.getfield 87, 3) := by decide +kernel
theorem dX8_fail_5 : decode cX8_fail 5 = .ok (.ifCond .ge 10, 3) := by decide +kernel
theorem dX8_fail_8 : decode cX8_fail 8 = .ok (.aload_n 0, 1) := by decide +kernel
theorem dX8_fail_9 : decode cX8_fail 9 = .ok (.getfield 64, 3) := by decide +kernel
theorem dX8_fail_12 : decode cX8_fail 12 = .ok (.goto 7, 3) := by decide +kernel
theorem dX8_fail_15 : decode cX8_fail 15 = .ok (.aload_n 0, 1) := by decide +kernel
theorem dX8_fail_16 : decode cX8_fail 16 = .ok (.getfield 87, 3) := by decide +kernel
theorem dX8_fail_19 : decode cX8_fail 19 = .ok (.putfield 87, 3) := by decide +kernel
theorem dX8_fail_22 : decode cX8_fail 22 = .ok (.return_, 1) := by decide +kernel
theorem dX8_isGood_0 : decode cX8_isGood 0 = .ok (.aload_n 0, 1) := by decide +kernel
theorem dX8_isGood_1 : decode cX8_isGood 1 = .ok (.getfield 87, 3) := by decide +kernel
theorem dX8_isGood_4 : decode cX8_isGood 4 = .ok (.ifCond .ge 7, 3) := by decide +kernel
theorem dX8_isGood_7 : decode cX8_isGood 7 = .ok (.iconst 1, 1) := by decide +kernel
theorem dX8_isGood_8 : decode cX8_isGood 8 = .ok (.goto 4, 3) := by decide +kernel
theorem dX8_isGood_11 : decode cX8_isGood 11 = .ok (.iconst 0, 1) := by decide +kernel
theorem dX8_isGood_12 : decode cX8_isGood 12 = .ok (.ireturn, 1) := by decide +kernel
theorem dX8_isWord_0 : decode cX8_isWord 0 = .ok (.aload_n 0, 1) := by decide +kernel
theorem dX8_isWord_1 : decode cX8_isWord 1 = .ok (.invokevirtual 90, 3) := by decide +kernel
theorem dX8_isWord_4 : decode cX8_isWord 4 = .ok (.ifCond .eq 31, 3) := by decide +kernel
theorem dX8_isWord_7 : decode cX8_isWord 7 = .ok (.aload_n 0, 1) := by decide +kernel
theorem dX8_isWord_8 : decode cX8_isWord 8 = .ok (.getfield 74, 3) := by decide +kernel
theorem dX8_isWord_11 : decode cX8_isWord 11 = .ok (.iconst 1, 1) := by decide +kernel
theorem dX8_isWord_12 : decode cX8_isWord 12 = .ok (.if_icmp .ne 23, 3) := by decide +kernel
theorem dX8_isWord_15 : decode cX8_isWord 15 = .ok (.aload_n 0, 1) := by decide +kernel
theorem dX8_isWord_16 : decode cX8_isWord 16 = .ok (.getfield 57, 3) := by decide +kernel
theorem dX8_isWord_19 : decode cX8_isWord 19 = .ok (.aload_n 0, 1) := by decide +kernel
theorem dX8_isWord_20 : decode cX8_isWord 20 = .ok (.getfield 64, 3) := by decide +kernel
theorem dX8_isWord_23 : decode cX8_isWord 23 = .ok (.isub, 1) := by decide +kernel
theorem dX8_isWord_24 : decode cX8_isWord 24 = .ok (.aload_n 1, 1) := by decide +kernel
theorem dX8_isWord_25 : decode cX8_isWord 25 = .ok (.invokevirtual 94, 3) := by decide +kernel
theorem dX8_isWord_28 : decode cX8_isWord 28 = .ok (.if_icmp .ne 7, 3) := by decide +kernel
theorem dX8_isWord_31 : decode cX8_isWord 31 = .ok (.iconst 1, 1) := by decide +kernel
theorem dX8_isWord_32 : decode cX8_isWord 32 = .ok (.goto 4, 3) := by decide +kernel
theorem dX8_isWord_35 : decode cX8_isWord 35 = .ok (.iconst 0, 1) := by decide +kernel
theorem dX8_isWord_36 : decode cX8_isWord 36 = .ok (.istore_n 2, 1) := by decide +kernel
theorem dX8_isWord_37 : decode cX8_isWord 37 = .ok (.iconst 0, 1) := by decide +kernel
theorem dX8_isWord_38 : decode cX8_isWord 38 = .ok (.istore_n 3, 1) := by decide +kernel
theorem dX8_isWord_39 : decode cX8_isWord 39 = .ok (.iload_n 2, 1) := by decide +kernel
theorem dX8_isWord_40 : decode cX8_isWord 40 = .ok (.ifCond .eq 42, 3) := by decide +kernel
theorem dX8_isWord_43 : decode cX8_isWord 43 = .ok (.iload_n 3, 1) := by decide +kernel
theorem dX8_isWord_44 : decode cX8_isWord 44 = .ok (.aload_n 1, 1) := by decide +kernel
theorem dX8_isWord_45 : decode cX8_isWord 45 = .ok (.invokevirtual 94, 3) := by decide +kernel
theorem dX8_isWord_48 : decode cX8_isWord 48 = .ok (.if_icmp .ge 34, 3) := by decide +kernel
theorem dX8_isWord_51 : decode cX8_isWord 51 = .ok (.aload_n 0, 1) := by decide +kernel
theorem dX8_isWord_52 : decode cX8_isWord 52 = .ok (.getfield 9, 3) := by decide +kernel
theorem dX8_isWord_55 : decode cX8_isWord 55 = .ok (.aload_n 0, 1) := by decide +kernel
theorem dX8_isWord_56 : decode cX8_isWord 56 = .ok (.getfield 64, 3) := by decide +kernel
theorem dX8_isWord_59 : decode cX8_isWord 59 = .ok (.iload_n 3, 1) := by decide +kernel
theorem dX8_isWord_60 : decode cX8_isWord 60 = .ok (.iadd, 1) := by decide +kernel
theorem dX8_isWord_61 : decode cX8_isWord 61 = .ok (.iaload, 1) := by decide +kernel
theorem dX8_isWord_62 : decode cX8_isWord 62 = .ok (.aload_n 1, 1) := by decide +kernel
theorem dX8_isWord_63 : decode cX8_isWord 63 = .ok (.iload_n 3, 1) := by decide +kernel
theorem dX8_isWord_64 : decode cX8_isWord 64 = .ok (.invokevirtual 99, 3) := by decide +kernel
theorem dX8_isWord_67 : decode cX8_isWord 67 = .ok (.if_icmp .ne 7, 3) := by decide +kernel
theorem dX8_isWord_70 : decode cX8_isWord 70 = .ok (.iconst 1, 1) := by decide +kernel
theorem dX8_isWord_71 : decode cX8_isWord 71 = .ok (.goto 4, 3) := by decide +kernel
theorem dX8_isWord_74 : decode cX8_isWord 74 = .ok (.iconst 0, 1) := by decide +kernel
theorem dX8_isWord_75 : decode cX8_isWord 75 = .ok (.istore_n 2, 1) := by decide +kernel
theorem dX8_isWord_76 : decode cX8_isWord 76 = .ok (.iinc 3 1, 3) := by decide +kernel
theorem dX8_isWord_79 : decode cX8_isWord 79 = .ok (.goto (-40), 3) := by decide +kernel
theorem dX8_isWord_82 : decode cX8_isWord 82 = .ok (.iload_n 2, 1) := by decide +kernel
theorem dX8_isWord_83 : decode cX8_isWord 83 = .ok (.ireturn, 1) := by decide +kernel
theorem dX8_isSign_0 : decode cX8_isSign 0 = .ok (.aload_n 0, 1) := by decide +kernel
theorem dX8_isSign_1 : decode cX8_isSign 1 = .ok (.invokevirtual 90, 3) := by decide +kernel
theorem dX8_isSign_4 : decode cX8_isSign 4 = .ok (.ifCond .eq 28, 3) := by decide +kernel
theorem dX8_isSign_7 : decode cX8_isSign 7 = .ok (.aload_n 0, 1) := by decide +kernel
theorem dX8_isSign_8 : decode cX8_isSign 8 = .ok (.getfield 74, 3) := by decide +kernel
theorem dX8_isSign_11 : decode cX8_isSign 11 = .ok (.iconst 3, 1) := by decide +kernel
theorem dX8_isSign_12 : decode cX8_isSign 12 = .ok (.if_icmp .ne 20, 3) := by decide +kernel
theorem dX8_isSign_15 : decode cX8_isSign 15 = .ok (.aload_n 0, 1) := by decide +kernel
theorem dX8_isSign_16 : decode cX8_isSign 16 = .ok (.getfield 9, 3) := by decide +kernel
theorem dX8_isSign_19 : decode cX8_isSign 19 = .ok (.aload_n 0, 1) := by decide +kernel
theorem dX8_isSign_20 : decode cX8_isSign 20 = .ok (.getfield 64, 3) := by decide +kernel
theorem dX8_isSign_23 : decode cX8_isSign 23 = .ok (.iaload, 1) := by decide +kernel
theorem dX8_isSign_24 : decode cX8_isSign 24 = .ok (.iload_n 1, 1) := by decide +kernel
theorem dX8_isSign_25 : decode cX8_isSign 25 = .ok (.if_icmp .ne 7, 3) := by decide +kernel
theorem dX8_isSign_28 : decode cX8_isSign 28 = .ok (.iconst 1, 1) := by decide +kernel
theorem dX8_isSign_29 : decode cX8_isSign 29 = .ok (.goto 4, 3) := by decide +kernel
theorem dX8_isSign_32 : decode cX8_isSign 32 = .ok (.iconst 0, 1) := by decide +kernel
theorem dX8_isSign_33 : decode cX8_isSign 33 = .ok (.ireturn, 1) := by decide +kernel
theorem dX8_takeNumber_0 : decode cX8_takeNumber 0 = .ok (.aload_n 0, 1) := by decide +kernel
theorem dX8_takeNumber_1 : decode cX8_takeNumber 1 = .ok (.invokevirtual 90, 3) := by decide +kernel
theorem dX8_takeNumber_4 : decode cX8_takeNumber 4 = .ok (.ifCond .eq 37, 3) := by decide +kernel
theorem dX8_takeNumber_7 : decode cX8_takeNumber 7 = .ok (.aload_n 0, 1) := by decide +kernel
theorem dX8_takeNumber_8 : decode cX8_takeNumber 8 = .ok (.getfield 74, 3) := by decide +kernel
theorem dX8_takeNumber_11 : decode cX8_takeNumber 11 = .ok (.iconst 2, 1) := by decide +kernel
theorem dX8_takeNumber_12 : decode cX8_takeNumber 12 = .ok (.if_icmp .ne 29, 3) := by decide +kernel
theorem dX8_takeNumber_15 : decode cX8_takeNumber 15 = .ok (.aload_n 0, 1) := by decide +kernel
theorem dX8_takeNumber_16 : decode cX8_takeNumber 16 = .ok (.getfield 57, 3) := by decide +kernel
theorem dX8_takeNumber_19 : decode cX8_takeNumber 19 = .ok (.aload_n 0, 1) := by decide +kernel
theorem dX8_takeNumber_20 : decode cX8_takeNumber 20 = .ok (.getfield 64, 3) := by decide +kernel
theorem dX8_takeNumber_23 : decode cX8_takeNumber 23 = .ok (.isub, 1) := by decide +kernel
theorem dX8_takeNumber_24 : decode cX8_takeNumber 24 = .ok (.bipush 7, 2) := by decide +kernel
theorem dX8_takeNumber_26 : decode cX8_takeNumber 26 = .ok (.if_icmp .gt 15, 3) := by decide +kernel
theorem dX8_takeNumber_29 : decode cX8_takeNumber 29 = .ok (.aload_n 0, 1) := by decide +kernel
theorem dX8_takeNumber_30 : decode cX8_takeNumber 30 = .ok (.getfield 77, 3) := by decide +kernel
theorem dX8_takeNumber_33 : decode cX8_takeNumber 33 = .ok (.iload_n 1, 1) := by decide +kernel
theorem dX8_takeNumber_34 : decode cX8_takeNumber 34 = .ok (.iload_n 2, 1) := by decide +kernel
theorem dX8_takeNumber_35 : decode cX8_takeNumber 35 = .ok (.invokestatic 53, 3) := by decide +kernel
theorem dX8_takeNumber_38 : decode cX8_takeNumber 38 = .ok (.ifCond .ne 9, 3) := by decide +kernel
theorem dX8_takeNumber_41 : decode cX8_takeNumber 41 = .ok (.aload_n 0, 1) := by decide +kernel
theorem dX8_takeNumber_42 : decode cX8_takeNumber 42 = .ok (.invokevirtual 103, 3) := by decide +kernel
theorem dX8_takeNumber_45 : decode cX8_takeNumber 45 = .ok (.iload_n 1, 1) := by decide +kernel
theorem dX8_takeNumber_46 : decode cX8_takeNumber 46 = .ok (.ireturn, 1) := by decide +kernel
theorem dX8_takeNumber_47 : decode cX8_takeNumber 47 = .ok (.aload_n 0, 1) := by decide +kernel
theorem dX8_takeNumber_48 : decode cX8_takeNumber 48 = .ok (.getfield 77, 3) := by decide +kernel
theorem dX8_takeNumber_51 : decode cX8_takeNumber 51 = .ok (.istore_n 3, 1) := by decide +kernel
theorem dX8_takeNumber_52 : decode cX8_takeNumber 52 = .ok (.aload_n 0, 1) := by decide +kernel
theorem dX8_takeNumber_53 : decode cX8_takeNumber 53 = .ok (.invokevirtual 106, 3) := by decide +kernel
theorem dX8_takeNumber_56 : decode cX8_takeNumber 56 = .ok (.iload_n 3, 1) := by decide +kernel
theorem dX8_takeNumber_57 : decode cX8_takeNumber 57 = .ok (.ireturn, 1) := by decide +kernel
theorem dX8_forgetRead_0 : decode cX8_forgetRead 0 = .ok (.iconst 0, 1) := by decide +kernel
theorem dX8_forgetRead_1 : decode cX8_forgetRead 1 = .ok (.istore_n 1, 1) := by decide +kernel
theorem dX8_forgetRead_2 : decode cX8_forgetRead 2 = .ok (.iload_n 1, 1) := by decide +kernel
theorem dX8_forgetRead_3 : decode cX8_forgetRead 3 = .ok (.sipush 5366, 3) := by decide +kernel
theorem dX8_forgetRead_6 : decode cX8_forgetRead 6 = .ok (.if_icmp .ge 16, 3) := by decide +kernel
theorem dX8_forgetRead_9 : decode cX8_forgetRead 9 = .ok (.aload_n 0, 1) := by decide +kernel
theorem dX8_forgetRead_10 : decode cX8_forgetRead 10 = .ok (.getfield 16, 3) := by decide +kernel
theorem dX8_forgetRead_13 : decode cX8_forgetRead 13 = .ok (.iload_n 1, 1) := by decide +kernel
theorem dX8_forgetRead_14 : decode cX8_forgetRead 14 = .ok (.iconst 0, 1) := by decide +kernel
theorem dX8_forgetRead_15 : decode cX8_forgetRead 15 = .ok (.iastore, 1) := by decide +kernel
theorem dX8_forgetRead_16 : decode cX8_forgetRead 16 = .ok (.iinc 1 1, 3) := by decide +kernel
theorem dX8_forgetRead_19 : decode cX8_forgetRead 19 = .ok (.goto (-17), 3) := by decide +kernel
theorem dX8_forgetRead_22 : decode cX8_forgetRead 22 = .ok (.aload_n 0, 1) := by decide +kernel
theorem dX8_forgetRead_23 : decode cX8_forgetRead 23 = .ok (.getfield 16, 3) := by decide +kernel
theorem dX8_forgetRead_26 : decode cX8_forgetRead 26 = .ok (.iconst 3, 1) := by decide +kernel
theorem dX8_forgetRead_27 : decode cX8_forgetRead 27 = .ok (.iconst 1, 1) := by decide +kernel
theorem dX8_forgetRead_28 : decode cX8_forgetRead 28 = .ok (.iastore, 1) := by decide +kernel
theorem dX8_forgetRead_29 : decode cX8_forgetRead 29 = .ok (.aload_n 0, 1) := by decide +kernel
theorem dX8_forgetRead_30 : decode cX8_forgetRead 30 = .ok (.getfield 16, 3) := by decide +kernel
theorem dX8_forgetRead_33 : decode cX8_forgetRead 33 = .ok (.bipush 11, 2) := by decide +kernel
theorem dX8_forgetRead_35 : decode cX8_forgetRead 35 = .ok (.iconst (-1), 1) := by decide +kernel
theorem dX8_forgetRead_36 : decode cX8_forgetRead 36 = .ok (.iastore, 1) := by decide +kernel
theorem dX8_forgetRead_37 : decode cX8_forgetRead 37 = .ok (.aload_n 0, 1) := by decide +kernel
theorem dX8_forgetRead_38 : decode cX8_forgetRead 38 = .ok (.getfield 16, 3) := by decide +kernel
theorem dX8_forgetRead_41 : decode cX8_forgetRead 41 = .ok (.bipush 71, 2) := by decide +kernel
theorem dX8_forgetRead_43 : decode cX8_forgetRead 43 = .ok (.iconst (-1), 1) := by decide +kernel
theorem dX8_forgetRead_44 : decode cX8_forgetRead 44 = .ok (.iastore, 1) := by decide +kernel
theorem dX8_forgetRead_45 : decode cX8_forgetRead 45 = .ok (.aload_n 0, 1) := by decide +kernel
theorem dX8_forgetRead_46 : decode cX8_forgetRead 46 = .ok (.getfield 16, 3) := by decide +kernel
theorem dX8_forgetRead_49 : decode cX8_forgetRead 49 = .ok (.sipush 191, 3) := by decide +kernel
theorem dX8_forgetRead_52 : decode cX8_forgetRead 52 = .ok (.iconst 1, 1) := by decide +kernel
theorem dX8_forgetRead_53 : decode cX8_forgetRead 53 = .ok (.iastore, 1) := by decide +kernel
theorem dX8_forgetRead_54 : decode cX8_forgetRead 54 = .ok (.iconst 0, 1) := by decide +kernel
theorem dX8_forgetRead_55 : decode cX8_forgetRead 55 = .ok (.istore_n 1, 1) := by decide +kernel
theorem dX8_forgetRead_56 : decode cX8_forgetRead 56 = .ok (.iload_n 1, 1) := by decide +kernel
theorem dX8_forgetRead_57 : decode cX8_forgetRead 57 = .ok (.iconst 5, 1) := by decide +kernel
theorem dX8_forgetRead_58 : decode cX8_forgetRead 58 = .ok (.if_icmp .ge 22, 3) := by decide +kernel
theorem dX8_forgetRead_61 : decode cX8_forgetRead 61 = .ok (.aload_n 0, 1) := by decide +kernel
theorem dX8_forgetRead_62 : decode cX8_forgetRead 62 = .ok (.getfield 16, 3) := by decide +kernel
theorem dX8_forgetRead_65 : decode cX8_forgetRead 65 = .ok (.sipush 611, 3) := by decide +kernel
theorem dX8_forgetRead_68 : decode cX8_forgetRead 68 = .ok (.iconst 3, 1) := by decide +kernel
theorem dX8_forgetRead_69 : decode cX8_forgetRead 69 = .ok (.iload_n 1, 1) := by decide +kernel
theorem dX8_forgetRead_70 : decode cX8_forgetRead 70 = .ok (.imul, 1) := by decide +kernel
theorem dX8_forgetRead_71 : decode cX8_forgetRead 71 = .ok (.iadd, 1) := by decide +kernel
theorem dX8_forgetRead_72 : decode cX8_forgetRead 72 = .ok (.iconst (-1), 1) := by decide +kernel
theorem dX8_forgetRead_73 : decode cX8_forgetRead 73 = .ok (.iastore, 1) := by decide +kernel
theorem dX8_forgetRead_74 : decode cX8_forgetRead 74 = .ok (.iinc 1 1, 3) := by decide +kernel
theorem dX8_forgetRead_77 : decode cX8_forgetRead 77 = .ok (.goto (-21), 3) := by decide +kernel
theorem dX8_forgetRead_80 : decode cX8_forgetRead 80 = .ok (.return_, 1) := by decide +kernel
theorem dX8_begins_0 : decode cX8_begins 0 = .ok (.iload_n 1, 1) := by decide +kernel
theorem dX8_begins_1 : decode cX8_begins 1 = .ok (.ifCond .eq 9, 3) := by decide +kernel
theorem dX8_begins_4 : decode cX8_begins 4 = .ok (.aload_n 0, 1) := by decide +kernel
theorem dX8_begins_5 : decode cX8_begins 5 = .ok (.invokevirtual 103, 3) := by decide +kernel
theorem dX8_begins_8 : decode cX8_begins 8 = .ok (.iconst 0, 1) := by decide +kernel
theorem dX8_begins_9 : decode cX8_begins 9 = .ok (.ireturn, 1) := by decide +kernel
theorem dX8_begins_10 : decode cX8_begins 10 = .ok (.aload_n 0, 1) := by decide +kernel
theorem dX8_begins_11 : decode cX8_begins 11 = .ok (.invokevirtual 106, 3) := by decide +kernel
theorem dX8_begins_14 : decode cX8_begins 14 = .ok (.iconst 1, 1) := by decide +kernel
theorem dX8_begins_15 : decode cX8_begins 15 = .ok (.ireturn, 1) := by decide +kernel
theorem dX8_readField_0 : decode cX8_readField 0 = .ok (.aload_n 0, 1) := by decide +kernel
theorem dX8_readField_1 : decode cX8_readField 1 = .ok (.aload_n 0, 1) := by decide +kernel
theorem dX8_readField_2 : decode cX8_readField 2 = .ok (.getfield 16, 3) := by decide +kernel
theorem dX8_readField_5 : decode cX8_readField 5 = .ok (.iconst 1, 1) := by decide +kernel
theorem dX8_readField_6 : decode cX8_readField 6 = .ok (.iaload, 1) := by decide +kernel
theorem dX8_readField_7 : decode cX8_readField 7 = .ok (.bipush 6, 2) := by decide +kernel
theorem dX8_readField_9 : decode cX8_readField 9 = .ok (.if_icmp .ne 7, 3) := by decide +kernel
theorem dX8_readField_12 : decode cX8_readField 12 = .ok (.iconst 1, 1) := by decide +kernel
theorem dX8_readField_13 : decode cX8_readField 13 = .ok (.goto 4, 3) := by decide +kernel
theorem dX8_readField_16 : decode cX8_readField 16 = .ok (.iconst 0, 1) := by decide +kernel
theorem dX8_readField_17 : decode cX8_readField 17 = .ok (.invokevirtual 109, 3) := by decide +kernel
theorem dX8_readField_20 : decode cX8_readField 20 = .ok (.ifCond .eq 121, 3) := by decide +kernel
theorem dX8_readField_23 : decode cX8_readField 23 = .ok (.aload_n 0, 1) := by decide +kernel
theorem dX8_readField_24 : decode cX8_readField 24 = .ok (.ldc 113, 2) := by decide +kernel
theorem dX8_readField_26 : decode cX8_readField 26 = .ok (.invokevirtual 115, 3) := by decide +kernel
theorem dX8_readField_29 : decode cX8_readField 29 = .ok (.ifCond .eq 7, 3) := by decide +kernel
theorem dX8_readField_32 : decode cX8_readField 32 = .ok (.iconst 0, 1) := by decide +kernel
theorem dX8_readField_33 : decode cX8_readField 33 = .ok (.goto 69, 3) := by decide +kernel
theorem dX8_readField_36 : decode cX8_readField 36 = .ok (.aload_n 0, 1) := by decide +kernel
theorem dX8_readField_37 : decode cX8_readField 37 = .ok (.ldc 119, 2) := by decide +kernel
theorem dX8_readField_39 : decode cX8_readField 39 = .ok (.invokevirtual 115, 3) := by decide +kernel
theorem dX8_readField_42 : decode cX8_readField 42 = .ok (.ifCond .eq 7, 3) := by decide +kernel
theorem dX8_readField_45 : decode cX8_readField 45 = .ok (.iconst 1, 1) := by decide +kernel
theorem dX8_readField_46 : decode cX8_readField 46 = .ok (.goto 56, 3) := by decide +kernel
theorem dX8_readField_49 : decode cX8_readField 49 = .ok (.aload_n 0, 1) := by decide +kernel
theorem dX8_readField_50 : decode cX8_readField 50 = .ok (.ldc 121, 2) := by decide +kernel
theorem dX8_readField_52 : decode cX8_readField 52 = .ok (.invokevirtual 115, 3) := by decide +kernel
theorem dX8_readField_55 : decode cX8_readField 55 = .ok (.ifCond .eq 7, 3) := by decide +kernel
theorem dX8_readField_58 : decode cX8_readField 58 = .ok (.iconst 2, 1) := by decide +kernel
theorem dX8_readField_59 : decode cX8_readField 59 = .ok (.goto 43, 3) := by decide +kernel
theorem dX8_readField_62 : decode cX8_readField 62 = .ok (.aload_n 0, 1) := by decide +kernel
theorem dX8_readField_63 : decode cX8_readField 63 = .ok (.ldc 122, 2) := by decide +kernel
theorem dX8_readField_65 : decode cX8_readField 65 = .ok (.invokevirtual 115, 3) := by decide +kernel
theorem dX8_readField_68 : decode cX8_readField 68 = .ok (.ifCond .eq 7, 3) := by decide +kernel
theorem dX8_readField_71 : decode cX8_readField 71 = .ok (.iconst 3, 1) := by decide +kernel
theorem dX8_readField_72 : decode cX8_readField 72 = .ok (.goto 30, 3) := by decide +kernel
theorem dX8_readField_75 : decode cX8_readField 75 = .ok (.aload_n 0, 1) := by decide +kernel
theorem dX8_readField_76 : decode cX8_readField 76 = .ok (.ldc 124, 2) := by decide +kernel
theorem dX8_readField_78 : decode cX8_readField 78 = .ok (.invokevirtual 115, 3) := by decide +kernel
theorem dX8_readField_81 : decode cX8_readField 81 = .ok (.ifCond .eq 7, 3) := by decide +kernel
theorem dX8_readField_84 : decode cX8_readField 84 = .ok (.iconst 4, 1) := by decide +kernel
theorem dX8_readField_85 : decode cX8_readField 85 = .ok (.goto 17, 3) := by decide +kernel
theorem dX8_readField_88 : decode cX8_readField 88 = .ok (.aload_n 0, 1) := by decide +kernel
theorem dX8_readField_89 : decode cX8_readField 89 = .ok (.ldc 126, 2) := by decide +kernel
theorem dX8_readField_91 : decode cX8_readField 91 = .ok (.invokevirtual 115, 3) := by decide +kernel
theorem dX8_readField_94 : decode cX8_readField 94 = .ok (.ifCond .eq 7, 3) := by decide +kernel
theorem dX8_readField_97 : decode cX8_readField 97 = .ok (.iconst 5, 1) := by decide +kernel
theorem dX8_readField_98 : decode cX8_readField 98 = .ok (.goto 4, 3) := by decide +kernel
theorem dX8_readField_101 : decode cX8_readField 101 = .ok (.iconst (-1), 1) := by decide +kernel
theorem dX8_readField_102 : decode cX8_readField 102 = .ok (.istore_n 1, 1) := by decide +kernel
theorem dX8_readField_103 : decode cX8_readField 103 = .ok (.iload_n 1, 1) := by decide +kernel
theorem dX8_readField_104 : decode cX8_readField 104 = .ok (.iconst (-1), 1) := by decide +kernel
theorem dX8_readField_105 : decode cX8_readField 105 = .ok (.if_icmp .ne 8, 3) := by decide +kernel
theorem dX8_readField_108 : decode cX8_readField 108 = .ok (.aload_n 0, 1) := by decide +kernel
theorem dX8_readField_109 : decode cX8_readField 109 = .ok (.invokevirtual 103, 3) := by decide +kernel
theorem dX8_readField_112 : decode cX8_readField 112 = .ok (.return_, 1) := by decide +kernel
theorem dX8_readField_113 : decode cX8_readField 113 = .ok (.aload_n 0, 1) := by decide +kernel
theorem dX8_readField_114 : decode cX8_readField 114 = .ok (.invokevirtual 106, 3) := by decide +kernel
theorem dX8_readField_117 : decode cX8_readField 117 = .ok (.aload_n 0, 1) := by decide +kernel
theorem dX8_readField_118 : decode cX8_readField 118 = .ok (.getfield 16, 3) := by decide +kernel
theorem dX8_readField_121 : decode cX8_readField 121 = .ok (.iconst 5, 1) := by decide +kernel
theorem dX8_readField_122 : decode cX8_readField 122 = .ok (.aload_n 0, 1) := by decide +kernel
theorem dX8_readField_123 : decode cX8_readField 123 = .ok (.getfield 16, 3) := by decide +kernel
theorem dX8_readField_126 : decode cX8_readField 126 = .ok (.iconst 1, 1) := by decide +kernel
theorem dX8_readField_127 : decode cX8_readField 127 = .ok (.iaload, 1) := by decide +kernel
theorem dX8_readField_128 : decode cX8_readField 128 = .ok (.iadd, 1) := by decide +kernel
theorem dX8_readField_129 : decode cX8_readField 129 = .ok (.iload_n 1, 1) := by decide +kernel
theorem dX8_readField_130 : decode cX8_readField 130 = .ok (.iastore, 1) := by decide +kernel
theorem dX8_readField_131 : decode cX8_readField 131 = .ok (.aload_n 0, 1) := by decide +kernel
theorem dX8_readField_132 : decode cX8_readField 132 = .ok (.getfield 16, 3) := by decide +kernel
theorem dX8_readField_135 : decode cX8_readField 135 = .ok (.iconst 1, 1) := by decide +kernel
theorem dX8_readField_136 : decode cX8_readField 136 = .ok (.dup2, 1) := by decide +kernel
theorem dX8_readField_137 : decode cX8_readField 137 = .ok (.iaload, 1) := by decide +kernel
theorem dX8_readField_138 : decode cX8_readField 138 = .ok (.iconst 1, 1) := by decide +kernel
theorem dX8_readField_139 : decode cX8_readField 139 = .ok (.iadd, 1) := by decide +kernel
theorem dX8_readField_140 : decode cX8_readField 140 = .ok (.iastore, 1) := by decide +kernel
theorem dX8_readField_141 : decode cX8_readField 141 = .ok (.return_, 1) := by decide +kernel
theorem dX8_readNode_0 : decode cX8_readNode 0 = .ok (.aload_n 0, 1) := by decide +kernel
theorem dX8_readNode_1 : decode cX8_readNode 1 = .ok (.getfield 16, 3) := by decide +kernel
theorem dX8_readNode_4 : decode cX8_readNode 4 = .ok (.iconst 3, 1) := by decide +kernel
theorem dX8_readNode_5 : decode cX8_readNode 5 = .ok (.iaload, 1) := by decide +kernel
theorem dX8_readNode_6 : decode cX8_readNode 6 = .ok (.istore_n 2, 1) := by decide +kernel
theorem dX8_readNode_7 : decode cX8_readNode 7 = .ok (.aload_n 0, 1) := by decide +kernel
theorem dX8_readNode_8 : decode cX8_readNode 8 = .ok (.iload_n 2, 1) := by decide +kernel
theorem dX8_readNode_9 : decode cX8_readNode 9 = .ok (.bipush 60, 2) := by decide +kernel
theorem dX8_readNode_11 : decode cX8_readNode 11 = .ok (.if_icmp .ne 7, 3) := by decide +kernel
theorem dX8_readNode_14 : decode cX8_readNode 14 = .ok (.iconst 1, 1) := by decide +kernel
theorem dX8_readNode_15 : decode cX8_readNode 15 = .ok (.goto 4, 3) := by decide +kernel
theorem dX8_readNode_18 : decode cX8_readNode 18 = .ok (.iconst 0, 1) := by decide +kernel
theorem dX8_readNode_19 : decode cX8_readNode 19 = .ok (.invokevirtual 109, 3) := by decide +kernel
theorem dX8_readNode_22 : decode cX8_readNode 22 = .ok (.ifCond .ne 4, 3) := by decide +kernel
theorem dX8_readNode_25 : decode cX8_readNode 25 = .ok (.return_, 1) := by decide +kernel
theorem dX8_readNode_26 : decode cX8_readNode 26 = .ok (.aload_n 0, 1) := by decide +kernel
theorem dX8_readNode_27 : decode cX8_readNode 27 = .ok (.invokevirtual 90, 3) := by decide +kernel
theorem dX8_readNode_30 : decode cX8_readNode 30 = .ok (.ifCond .eq 46, 3) := by decide +kernel
theorem dX8_readNode_33 : decode cX8_readNode 33 = .ok (.aload_n 0, 1) := by decide +kernel
theorem dX8_readNode_34 : decode cX8_readNode 34 = .ok (.getfield 74, 3) := by decide +kernel
theorem dX8_readNode_37 : decode cX8_readNode 37 = .ok (.iconst 2, 1) := by decide +kernel
theorem dX8_readNode_38 : decode cX8_readNode 38 = .ok (.if_icmp .ne 38, 3) := by decide +kernel
theorem dX8_readNode_41 : decode cX8_readNode 41 = .ok (.aload_n 0, 1) := by decide +kernel
theorem dX8_readNode_42 : decode cX8_readNode 42 = .ok (.getfield 77, 3) := by decide +kernel
theorem dX8_readNode_45 : decode cX8_readNode 45 = .ok (.iconst 0, 1) := by decide +kernel
theorem dX8_readNode_46 : decode cX8_readNode 46 = .ok (.iload_n 2, 1) := by decide +kernel
theorem dX8_readNode_47 : decode cX8_readNode 47 = .ok (.iconst 1, 1) := by decide +kernel
theorem dX8_readNode_48 : decode cX8_readNode 48 = .ok (.isub, 1) := by decide +kernel
theorem dX8_readNode_49 : decode cX8_readNode 49 = .ok (.invokestatic 53, 3) := by decide +kernel
theorem dX8_readNode_52 : decode cX8_readNode 52 = .ok (.ifCond .eq 24, 3) := by decide +kernel
theorem dX8_readNode_55 : decode cX8_readNode 55 = .ok (.aload_n 0, 1) := by decide +kernel
theorem dX8_readNode_56 : decode cX8_readNode 56 = .ok (.getfield 16, 3) := by decide +kernel
theorem dX8_readNode_59 : decode cX8_readNode 59 = .ok (.sipush 131, 3) := by decide +kernel
theorem dX8_readNode_62 : decode cX8_readNode 62 = .ok (.aload_n 0, 1) := by decide +kernel
theorem dX8_readNode_63 : decode cX8_readNode 63 = .ok (.getfield 77, 3) := by decide +kernel
theorem dX8_readNode_66 : decode cX8_readNode 66 = .ok (.iadd, 1) := by decide +kernel
theorem dX8_readNode_67 : decode cX8_readNode 67 = .ok (.iaload, 1) := by decide +kernel
theorem dX8_readNode_68 : decode cX8_readNode 68 = .ok (.iconst 1, 1) := by decide +kernel
theorem dX8_readNode_69 : decode cX8_readNode 69 = .ok (.if_icmp .ne 7, 3) := by decide +kernel
theorem dX8_readNode_72 : decode cX8_readNode 72 = .ok (.aload_n 0, 1) := by decide +kernel
theorem dX8_readNode_73 : decode cX8_readNode 73 = .ok (.invokevirtual 103, 3) := by decide +kernel
theorem dX8_readNode_76 : decode cX8_readNode 76 = .ok (.aload_n 0, 1) := by decide +kernel
theorem dX8_readNode_77 : decode cX8_readNode 77 = .ok (.iconst 0, 1) := by decide +kernel
theorem dX8_readNode_78 : decode cX8_readNode 78 = .ok (.iload_n 2, 1) := by decide +kernel
theorem dX8_readNode_79 : decode cX8_readNode 79 = .ok (.iconst 1, 1) := by decide +kernel
theorem dX8_readNode_80 : decode cX8_readNode 80 = .ok (.isub, 1) := by decide +kernel
theorem dX8_readNode_81 : decode cX8_readNode 81 = .ok (.invokevirtual 128, 3) := by decide +kernel
theorem dX8_readNode_84 : decode cX8_readNode 84 = .ok (.istore_n 3, 1) := by decide +kernel
theorem dX8_readNode_85 : decode cX8_readNode 85 = .ok (.iconst 1, 1) := by decide +kernel
theorem dX8_readNode_86 : decode cX8_readNode 86 = .ok (.istore 4, 2) := by decide +kernel
theorem dX8_readNode_88 : decode cX8_readNode 88 = .ok (.iload 4, 2) := by decide +kernel
theorem dX8_readNode_90 : decode cX8_readNode 90 = .ok (.iload_n 2, 1) := by decide +kernel
theorem dX8_readNode_91 : decode cX8_readNode 91 = .ok (.if_icmp .ge 59, 3) := by decide +kernel
theorem dX8_readNode_94 : decode cX8_readNode 94 = .ok (.aload_n 0, 1) := by decide +kernel
theorem dX8_readNode_95 : decode cX8_readNode 95 = .ok (.invokevirtual 90, 3) := by decide +kernel
theorem dX8_readNode_98 : decode cX8_readNode 98 = .ok (.ifCond .eq 46, 3) := by decide +kernel
theorem dX8_readNode_101 : decode cX8_readNode 101 = .ok (.aload_n 0, 1) := by decide +kernel
theorem dX8_readNode_102 : decode cX8_readNode 102 = .ok (.getfield 74, 3) := by decide +kernel
theorem dX8_readNode_105 : decode cX8_readNode 105 = .ok (.iconst 2, 1) := by decide +kernel
theorem dX8_readNode_106 : decode cX8_readNode 106 = .ok (.if_icmp .ne 38, 3) := by decide +kernel
theorem dX8_readNode_109 : decode cX8_readNode 109 = .ok (.aload_n 0, 1) := by decide +kernel
theorem dX8_readNode_110 : decode cX8_readNode 110 = .ok (.getfield 16, 3) := by decide +kernel
theorem dX8_readNode_113 : decode cX8_readNode 113 = .ok (.bipush 11, 2) := by decide +kernel
theorem dX8_readNode_115 : decode cX8_readNode 115 = .ok (.iload 4, 2) := by decide +kernel
theorem dX8_readNode_117 : decode cX8_readNode 117 = .ok (.iadd, 1) := by decide +kernel
theorem dX8_readNode_118 : decode cX8_readNode 118 = .ok (.iaload, 1) := by decide +kernel
theorem dX8_readNode_119 : decode cX8_readNode 119 = .ok (.iload_n 3, 1) := by decide +kernel
theorem dX8_readNode_120 : decode cX8_readNode 120 = .ok (.if_icmp .ne 24, 3) := by decide +kernel
theorem dX8_readNode_123 : decode cX8_readNode 123 = .ok (.aload_n 0, 1) := by decide +kernel
theorem dX8_readNode_124 : decode cX8_readNode 124 = .ok (.getfield 16, 3) := by decide +kernel
theorem dX8_readNode_127 : decode cX8_readNode 127 = .ok (.bipush 71, 2) := by decide +kernel
theorem dX8_readNode_129 : decode cX8_readNode 129 = .ok (.iload 4, 2) := by decide +kernel
theorem dX8_readNode_131 : decode cX8_readNode 131 = .ok (.iadd, 1) := by decide +kernel
theorem dX8_readNode_132 : decode cX8_readNode 132 = .ok (.iaload, 1) := by decide +kernel
theorem dX8_readNode_133 : decode cX8_readNode 133 = .ok (.aload_n 0, 1) := by decide +kernel
theorem dX8_readNode_134 : decode cX8_readNode 134 = .ok (.getfield 77, 3) := by decide +kernel
theorem dX8_readNode_137 : decode cX8_readNode 137 = .ok (.if_icmp .ne 7, 3) := by decide +kernel
theorem dX8_readNode_140 : decode cX8_readNode 140 = .ok (.aload_n 0, 1) := by decide +kernel
theorem dX8_readNode_141 : decode cX8_readNode 141 = .ok (.invokevirtual 103, 3) := by decide +kernel
theorem dX8_readNode_144 : decode cX8_readNode 144 = .ok (.iinc 4 1, 3) := by decide +kernel
theorem dX8_readNode_147 : decode cX8_readNode 147 = .ok (.goto (-59), 3) := by decide +kernel
theorem dX8_readNode_150 : decode cX8_readNode 150 = .ok (.aload_n 0, 1) := by decide +kernel
theorem dX8_readNode_151 : decode cX8_readNode 151 = .ok (.iconst 0, 1) := by decide +kernel
theorem dX8_readNode_152 : decode cX8_readNode 152 = .ok (.sipush 999, 3) := by decide +kernel
theorem dX8_readNode_155 : decode cX8_readNode 155 = .ok (.invokevirtual 128, 3) := by decide +kernel
theorem dX8_readNode_158 : decode cX8_readNode 158 = .ok (.istore 4, 2) := by decide +kernel
theorem dX8_readNode_160 : decode cX8_readNode 160 = .ok (.aload_n 0, 1) := by decide +kernel
theorem dX8_readNode_161 : decode cX8_readNode 161 = .ok (.invokevirtual 90, 3) := by decide +kernel
theorem dX8_readNode_164 : decode cX8_readNode 164 = .ok (.ifCond .eq 64, 3) := by decide +kernel
theorem dX8_readNode_167 : decode cX8_readNode 167 = .ok (.aload_n 0, 1) := by decide +kernel
theorem dX8_readNode_168 : decode cX8_readNode 168 = .ok (.getfield 16, 3) := by decide +kernel
theorem dX8_readNode_171 : decode cX8_readNode 171 = .ok (.bipush 11, 2) := by decide +kernel
theorem dX8_readNode_173 : decode cX8_readNode 173 = .ok (.iload_n 2, 1) := by decide +kernel
theorem dX8_readNode_174 : decode cX8_readNode 174 = .ok (.iadd, 1) := by decide +kernel
theorem dX8_readNode_175 : decode cX8_readNode 175 = .ok (.iload_n 3, 1) := by decide +kernel
theorem dX8_readNode_176 : decode cX8_readNode 176 = .ok (.iastore, 1) := by decide +kernel
theorem dX8_readNode_177 : decode cX8_readNode 177 = .ok (.aload_n 0, 1) := by decide +kernel
theorem dX8_readNode_178 : decode cX8_readNode 178 = .ok (.getfield 16, 3) := by decide +kernel
theorem dX8_readNode_181 : decode cX8_readNode 181 = .ok (.bipush 71, 2) := by decide +kernel
theorem dX8_readNode_183 : decode cX8_readNode 183 = .ok (.iload_n 2, 1) := by decide +kernel
theorem dX8_readNode_184 : decode cX8_readNode 184 = .ok (.iadd, 1) := by decide +kernel
theorem dX8_readNode_185 : decode cX8_readNode 185 = .ok (.iload 4, 2) := by decide +kernel
theorem dX8_readNode_187 : decode cX8_readNode 187 = .ok (.iastore, 1) := by decide +kernel
theorem dX8_readNode_188 : decode cX8_readNode 188 = .ok (.aload_n 0, 1) := by decide +kernel
theorem dX8_readNode_189 : decode cX8_readNode 189 = .ok (.getfield 16, 3) := by decide +kernel
theorem dX8_readNode_192 : decode cX8_readNode 192 = .ok (.sipush 131, 3) := by decide +kernel
theorem dX8_readNode_195 : decode cX8_readNode 195 = .ok (.iload_n 2, 1) := by decide +kernel
theorem dX8_readNode_196 : decode cX8_readNode 196 = .ok (.iadd, 1) := by decide +kernel
theorem dX8_readNode_197 : decode cX8_readNode 197 = .ok (.iload_n 1, 1) := by decide +kernel
theorem dX8_readNode_198 : decode cX8_readNode 198 = .ok (.ifCond .eq 7, 3) := by decide +kernel
theorem dX8_readNode_201 : decode cX8_readNode 201 = .ok (.iconst 1, 1) := by decide +kernel
theorem dX8_readNode_202 : decode cX8_readNode 202 = .ok (.goto 4, 3) := by decide +kernel
theorem dX8_readNode_205 : decode cX8_readNode 205 = .ok (.iconst 0, 1) := by decide +kernel
theorem dX8_readNode_206 : decode cX8_readNode 206 = .ok (.iastore, 1) := by decide +kernel
theorem dX8_readNode_207 : decode cX8_readNode 207 = .ok (.aload_n 0, 1) := by decide +kernel
theorem dX8_readNode_208 : decode cX8_readNode 208 = .ok (.getfield 16, 3) := by decide +kernel
theorem dX8_readNode_211 : decode cX8_readNode 211 = .ok (.sipush 191, 3) := by decide +kernel
theorem dX8_readNode_214 : decode cX8_readNode 214 = .ok (.iload_n 2, 1) := by decide +kernel
theorem dX8_readNode_215 : decode cX8_readNode 215 = .ok (.iadd, 1) := by decide +kernel
theorem dX8_readNode_216 : decode cX8_readNode 216 = .ok (.iconst 1, 1) := by decide +kernel
theorem dX8_readNode_217 : decode cX8_readNode 217 = .ok (.iastore, 1) := by decide +kernel
theorem dX8_readNode_218 : decode cX8_readNode 218 = .ok (.aload_n 0, 1) := by decide +kernel
theorem dX8_readNode_219 : decode cX8_readNode 219 = .ok (.getfield 16, 3) := by decide +kernel
theorem dX8_readNode_222 : decode cX8_readNode 222 = .ok (.iconst 3, 1) := by decide +kernel
theorem dX8_readNode_223 : decode cX8_readNode 223 = .ok (.dup2, 1) := by decide +kernel
theorem dX8_readNode_224 : decode cX8_readNode 224 = .ok (.iaload, 1) := by decide +kernel
theorem dX8_readNode_225 : decode cX8_readNode 225 = .ok (.iconst 1, 1) := by decide +kernel
theorem dX8_readNode_226 : decode cX8_readNode 226 = .ok (.iadd, 1) := by decide +kernel
theorem dX8_readNode_227 : decode cX8_readNode 227 = .ok (.iastore, 1) := by decide +kernel
theorem dX8_readNode_228 : decode cX8_readNode 228 = .ok (.return_, 1) := by decide +kernel
theorem dX8_readValue_0 : decode cX8_readValue 0 = .ok (.aload_n 0, 1) := by decide +kernel
theorem dX8_readValue_1 : decode cX8_readValue 1 = .ok (.invokevirtual 106, 3) := by decide +kernel
theorem dX8_readValue_4 : decode cX8_readValue 4 = .ok (.aload_n 0, 1) := by decide +kernel
theorem dX8_readValue_5 : decode cX8_readValue 5 = .ok (.invokevirtual 90, 3) := by decide +kernel
theorem dX8_readValue_8 : decode cX8_readValue 8 = .ok (.ifCond .eq 50, 3) := by decide +kernel
theorem dX8_readValue_11 : decode cX8_readValue 11 = .ok (.aload_n 0, 1) := by decide +kernel
theorem dX8_readValue_12 : decode cX8_readValue 12 = .ok (.getfield 74, 3) := by decide +kernel
theorem dX8_readValue_15 : decode cX8_readValue 15 = .ok (.iconst 2, 1) := by decide +kernel
theorem dX8_readValue_16 : decode cX8_readValue 16 = .ok (.if_icmp .ne 42, 3) := by decide +kernel
theorem dX8_readValue_19 : decode cX8_readValue 19 = .ok (.aload_n 0, 1) := by decide +kernel
theorem dX8_readValue_20 : decode cX8_readValue 20 = .ok (.getfield 77, 3) := by decide +kernel
theorem dX8_readValue_23 : decode cX8_readValue 23 = .ok (.iconst 0, 1) := by decide +kernel
theorem dX8_readValue_24 : decode cX8_readValue 24 = .ok (.aload_n 0, 1) := by decide +kernel
theorem dX8_readValue_25 : decode cX8_readValue 25 = .ok (.getfield 16, 3) := by decide +kernel
theorem dX8_readValue_28 : decode cX8_readValue 28 = .ok (.iconst 3, 1) := by decide +kernel
theorem dX8_readValue_29 : decode cX8_readValue 29 = .ok (.iaload, 1) := by decide +kernel
theorem dX8_readValue_30 : decode cX8_readValue 30 = .ok (.iconst 1, 1) := by decide +kernel
theorem dX8_readValue_31 : decode cX8_readValue 31 = .ok (.isub, 1) := by decide +kernel
theorem dX8_readValue_32 : decode cX8_readValue 32 = .ok (.invokestatic 53, 3) := by decide +kernel
theorem dX8_readValue_35 : decode cX8_readValue 35 = .ok (.ifCond .eq 23, 3) := by decide +kernel
theorem dX8_readValue_38 : decode cX8_readValue 38 = .ok (.aload_n 0, 1) := by decide +kernel
theorem dX8_readValue_39 : decode cX8_readValue 39 = .ok (.getfield 16, 3) := by decide +kernel
theorem dX8_readValue_42 : decode cX8_readValue 42 = .ok (.sipush 131, 3) := by decide +kernel
theorem dX8_readValue_45 : decode cX8_readValue 45 = .ok (.aload_n 0, 1) := by decide +kernel
theorem dX8_readValue_46 : decode cX8_readValue 46 = .ok (.getfield 77, 3) := by decide +kernel
theorem dX8_readValue_49 : decode cX8_readValue 49 = .ok (.iadd, 1) := by decide +kernel
theorem dX8_readValue_50 : decode cX8_readValue 50 = .ok (.iaload, 1) := by decide +kernel
theorem dX8_readValue_51 : decode cX8_readValue 51 = .ok (.ifCond .ne 7, 3) := by decide +kernel
theorem dX8_readValue_54 : decode cX8_readValue 54 = .ok (.aload_n 0, 1) := by decide +kernel
theorem dX8_readValue_55 : decode cX8_readValue 55 = .ok (.invokevirtual 103, 3) := by decide +kernel
theorem dX8_readValue_58 : decode cX8_readValue 58 = .ok (.aload_n 0, 1) := by decide +kernel
theorem dX8_readValue_59 : decode cX8_readValue 59 = .ok (.iconst 0, 1) := by decide +kernel
theorem dX8_readValue_60 : decode cX8_readValue 60 = .ok (.aload_n 0, 1) := by decide +kernel
theorem dX8_readValue_61 : decode cX8_readValue 61 = .ok (.getfield 16, 3) := by decide +kernel
theorem dX8_readValue_64 : decode cX8_readValue 64 = .ok (.iconst 3, 1) := by decide +kernel
theorem dX8_readValue_65 : decode cX8_readValue 65 = .ok (.iaload, 1) := by decide +kernel
theorem dX8_readValue_66 : decode cX8_readValue 66 = .ok (.iconst 1, 1) := by decide +kernel
theorem dX8_readValue_67 : decode cX8_readValue 67 = .ok (.isub, 1) := by decide +kernel
theorem dX8_readValue_68 : decode cX8_readValue 68 = .ok (.invokevirtual 128, 3) := by decide +kernel
theorem dX8_readValue_71 : decode cX8_readValue 71 = .ok (.istore_n 1, 1) := by decide +kernel
theorem dX8_readValue_72 : decode cX8_readValue 72 = .ok (.aload_n 0, 1) := by decide +kernel
theorem dX8_readValue_73 : decode cX8_readValue 73 = .ok (.iconst 0, 1) := by decide +kernel
theorem dX8_readValue_74 : decode cX8_readValue 74 = .ok (.aload_n 0, 1) := by decide +kernel
theorem dX8_readValue_75 : decode cX8_readValue 75 = .ok (.getfield 16, 3) := by decide +kernel
theorem dX8_readValue_78 : decode cX8_readValue 78 = .ok (.iconst 1, 1) := by decide +kernel
theorem dX8_readValue_79 : decode cX8_readValue 79 = .ok (.iaload, 1) := by decide +kernel
theorem dX8_readValue_80 : decode cX8_readValue 80 = .ok (.iconst 1, 1) := by decide +kernel
theorem dX8_readValue_81 : decode cX8_readValue 81 = .ok (.isub, 1) := by decide +kernel
theorem dX8_readValue_82 : decode cX8_readValue 82 = .ok (.invokevirtual 128, 3) := by decide +kernel
theorem dX8_readValue_85 : decode cX8_readValue 85 = .ok (.istore_n 2, 1) := by decide +kernel
theorem dX8_readValue_86 : decode cX8_readValue 86 = .ok (.aload_n 0, 1) := by decide +kernel
theorem dX8_readValue_87 : decode cX8_readValue 87 = .ok (.bipush 45, 2) := by decide +kernel
theorem dX8_readValue_89 : decode cX8_readValue 89 = .ok (.invokevirtual 131, 3) := by decide +kernel
theorem dX8_readValue_92 : decode cX8_readValue 92 = .ok (.istore_n 3, 1) := by decide +kernel
theorem dX8_readValue_93 : decode cX8_readValue 93 = .ok (.iload_n 3, 1) := by decide +kernel
theorem dX8_readValue_94 : decode cX8_readValue 94 = .ok (.ifCond .eq 7, 3) := by decide +kernel
theorem dX8_readValue_97 : decode cX8_readValue 97 = .ok (.aload_n 0, 1) := by decide +kernel
theorem dX8_readValue_98 : decode cX8_readValue 98 = .ok (.invokevirtual 106, 3) := by decide +kernel
theorem dX8_readValue_101 : decode cX8_readValue 101 = .ok (.aload_n 0, 1) := by decide +kernel
theorem dX8_readValue_102 : decode cX8_readValue 102 = .ok (.iconst 0, 1) := by decide +kernel
theorem dX8_readValue_103 : decode cX8_readValue 103 = .ok (.ldc 135, 2) := by decide +kernel
theorem dX8_readValue_105 : decode cX8_readValue 105 = .ok (.invokevirtual 128, 3) := by decide +kernel
theorem dX8_readValue_108 : decode cX8_readValue 108 = .ok (.istore 4, 2) := by decide +kernel
theorem dX8_readValue_110 : decode cX8_readValue 110 = .ok (.aload_n 0, 1) := by decide +kernel
theorem dX8_readValue_111 : decode cX8_readValue 111 = .ok (.invokevirtual 90, 3) := by decide +kernel
theorem dX8_readValue_114 : decode cX8_readValue 114 = .ok (.ifCond .eq 30, 3) := by decide +kernel
theorem dX8_readValue_117 : decode cX8_readValue 117 = .ok (.aload_n 0, 1) := by decide +kernel
theorem dX8_readValue_118 : decode cX8_readValue 118 = .ok (.getfield 16, 3) := by decide +kernel
theorem dX8_readValue_121 : decode cX8_readValue 121 = .ok (.sipush 251, 3) := by decide +kernel
theorem dX8_readValue_124 : decode cX8_readValue 124 = .ok (.bipush 6, 2) := by decide +kernel
theorem dX8_readValue_126 : decode cX8_readValue 126 = .ok (.iload_n 1, 1) := by decide +kernel
theorem dX8_readValue_127 : decode cX8_readValue 127 = .ok (.imul, 1) := by decide +kernel
theorem dX8_readValue_128 : decode cX8_readValue 128 = .ok (.iadd, 1) := by decide +kernel
theorem dX8_readValue_129 : decode cX8_readValue 129 = .ok (.iload_n 2, 1) := by decide +kernel
theorem dX8_readValue_130 : decode cX8_readValue 130 = .ok (.iadd, 1) := by decide +kernel
theorem dX8_readValue_131 : decode cX8_readValue 131 = .ok (.iload_n 3, 1) := by decide +kernel
theorem dX8_readValue_132 : decode cX8_readValue 132 = .ok (.ifCond .eq 9, 3) := by decide +kernel
theorem dX8_readValue_135 : decode cX8_readValue 135 = .ok (.iload 4, 2) := by decide +kernel
theorem dX8_readValue_137 : decode cX8_readValue 137 = .ok (.ineg, 1) := by decide +kernel
theorem dX8_readValue_138 : decode cX8_readValue 138 = .ok (.goto 5, 3) := by decide +kernel
theorem dX8_readValue_141 : decode cX8_readValue 141 = .ok (.iload 4, 2) := by decide +kernel
theorem dX8_readValue_143 : decode cX8_readValue 143 = .ok (.iastore, 1) := by decide +kernel
theorem dX8_readValue_144 : decode cX8_readValue 144 = .ok (.return_, 1) := by decide +kernel
theorem dX8_readStatement_0 : decode cX8_readStatement 0 = .ok (.aload_n 0, 1) := by decide +kernel
theorem dX8_readStatement_1 : decode cX8_readStatement 1 = .ok (.ldc 136, 2) := by decide +kernel
theorem dX8_readStatement_3 : decode cX8_readStatement 3 = .ok (.invokevirtual 115, 3) := by decide +kernel
theorem dX8_readStatement_6 : decode cX8_readStatement 6 = .ok (.ifCond .eq 10, 3) := by decide +kernel
theorem dX8_readStatement_9 : decode cX8_readStatement 9 = .ok (.aload_n 0, 1) := by decide +kernel
theorem dX8_readStatement_10 : decode cX8_readStatement 10 = .ok (.invokevirtual 138, 3) := by decide +kernel
theorem dX8_readStatement_13 : decode cX8_readStatement 13 = .ok (.goto 101, 3) := by decide +kernel
theorem dX8_readStatement_16 : decode cX8_readStatement 16 = .ok (.aload_n 0, 1) := by decide +kernel
theorem dX8_readStatement_17 : decode cX8_readStatement 17 = .ok (.ldc 141, 2) := by decide +kernel
theorem dX8_readStatement_19 : decode cX8_readStatement 19 = .ok (.invokevirtual 115, 3) := by decide +kernel
theorem dX8_readStatement_22 : decode cX8_readStatement 22 = .ok (.ifCond .eq 38, 3) := by decide +kernel
theorem dX8_readStatement_25 : decode cX8_readStatement 25 = .ok (.aload_n 0, 1) := by decide +kernel
theorem dX8_readStatement_26 : decode cX8_readStatement 26 = .ok (.aload_n 0, 1) := by decide +kernel
theorem dX8_readStatement_27 : decode cX8_readStatement 27 = .ok (.getfield 16, 3) := by decide +kernel
theorem dX8_readStatement_30 : decode cX8_readStatement 30 = .ok (.iconst 2, 1) := by decide +kernel
theorem dX8_readStatement_31 : decode cX8_readStatement 31 = .ok (.iaload, 1) := by decide +kernel
theorem dX8_readStatement_32 : decode cX8_readStatement 32 = .ok (.iconst 5, 1) := by decide +kernel
theorem dX8_readStatement_33 : decode cX8_readStatement 33 = .ok (.if_icmp .ne 7, 3) := by decide +kernel
theorem dX8_readStatement_36 : decode cX8_readStatement 36 = .ok (.iconst 1, 1) := by decide +kernel
theorem dX8_readStatement_37 : decode cX8_readStatement 37 = .ok (.goto 4, 3) := by decide +kernel
theorem dX8_readStatement_40 : decode cX8_readStatement 40 = .ok (.iconst 0, 1) := by decide +kernel
theorem dX8_readStatement_41 : decode cX8_readStatement 41 = .ok (.invokevirtual 109, 3) := by decide +kernel
theorem dX8_readStatement_44 : decode cX8_readStatement 44 = .ok (.ifCond .eq 70, 3) := by decide +kernel
theorem dX8_readStatement_47 : decode cX8_readStatement 47 = .ok (.aload_n 0, 1) := by decide +kernel
theorem dX8_readStatement_48 : decode cX8_readStatement 48 = .ok (.getfield 16, 3) := by decide +kernel
theorem dX8_readStatement_51 : decode cX8_readStatement 51 = .ok (.iconst 2, 1) := by decide +kernel
theorem dX8_readStatement_52 : decode cX8_readStatement 52 = .ok (.dup2, 1) := by decide +kernel
theorem dX8_readStatement_53 : decode cX8_readStatement 53 = .ok (.iaload, 1) := by decide +kernel
theorem dX8_readStatement_54 : decode cX8_readStatement 54 = .ok (.iconst 1, 1) := by decide +kernel
theorem dX8_readStatement_55 : decode cX8_readStatement 55 = .ok (.iadd, 1) := by decide +kernel
theorem dX8_readStatement_56 : decode cX8_readStatement 56 = .ok (.iastore, 1) := by decide +kernel
theorem dX8_readStatement_57 : decode cX8_readStatement 57 = .ok (.goto 57, 3) := by decide +kernel
theorem dX8_readStatement_60 : decode cX8_readStatement 60 = .ok (.aload_n 0, 1) := by decide +kernel
theorem dX8_readStatement_61 : decode cX8_readStatement 61 = .ok (.ldc 143, 2) := by decide +kernel
theorem dX8_readStatement_63 : decode cX8_readStatement 63 = .ok (.invokevirtual 115, 3) := by decide +kernel
theorem dX8_readStatement_66 : decode cX8_readStatement 66 = .ok (.ifCond .eq 11, 3) := by decide +kernel
theorem dX8_readStatement_69 : decode cX8_readStatement 69 = .ok (.aload_n 0, 1) := by decide +kernel
theorem dX8_readStatement_70 : decode cX8_readStatement 70 = .ok (.iconst 0, 1) := by decide +kernel
theorem dX8_readStatement_71 : decode cX8_readStatement 71 = .ok (.invokevirtual 145, 3) := by decide +kernel
theorem dX8_readStatement_74 : decode cX8_readStatement 74 = .ok (.goto 40, 3) := by decide +kernel
theorem dX8_readStatement_77 : decode cX8_readStatement 77 = .ok (.aload_n 0, 1) := by decide +kernel
theorem dX8_readStatement_78 : decode cX8_readStatement 78 = .ok (.ldc 149, 2) := by decide +kernel
theorem dX8_readStatement_80 : decode cX8_readStatement 80 = .ok (.invokevirtual 115, 3) := by decide +kernel
theorem dX8_readStatement_83 : decode cX8_readStatement 83 = .ok (.ifCond .eq 11, 3) := by decide +kernel
theorem dX8_readStatement_86 : decode cX8_readStatement 86 = .ok (.aload_n 0, 1) := by decide +kernel
theorem dX8_readStatement_87 : decode cX8_readStatement 87 = .ok (.iconst 1, 1) := by decide +kernel
theorem dX8_readStatement_88 : decode cX8_readStatement 88 = .ok (.invokevirtual 145, 3) := by decide +kernel
theorem dX8_readStatement_91 : decode cX8_readStatement 91 = .ok (.goto 23, 3) := by decide +kernel
theorem dX8_readStatement_94 : decode cX8_readStatement 94 = .ok (.aload_n 0, 1) := by decide +kernel
theorem dX8_readStatement_95 : decode cX8_readStatement 95 = .ok (.ldc 151, 2) := by decide +kernel
theorem dX8_readStatement_97 : decode cX8_readStatement 97 = .ok (.invokevirtual 115, 3) := by decide +kernel
theorem dX8_readStatement_100 : decode cX8_readStatement 100 = .ok (.ifCond .eq 10, 3) := by decide +kernel
theorem dX8_readStatement_103 : decode cX8_readStatement 103 = .ok (.aload_n 0, 1) := by decide +kernel
theorem dX8_readStatement_104 : decode cX8_readStatement 104 = .ok (.invokevirtual 153, 3) := by decide +kernel
theorem dX8_readStatement_107 : decode cX8_readStatement 107 = .ok (.goto 7, 3) := by decide +kernel
theorem dX8_readStatement_110 : decode cX8_readStatement 110 = .ok (.aload_n 0, 1) := by decide +kernel
theorem dX8_readStatement_111 : decode cX8_readStatement 111 = .ok (.invokevirtual 103, 3) := by decide +kernel
theorem dX8_readStatement_114 : decode cX8_readStatement 114 = .ok (.return_, 1) := by decide +kernel
theorem dX8_parse_0 : decode cX8_parse 0 = .ok (.aload_n 0, 1) := by decide +kernel
theorem dX8_parse_1 : decode cX8_parse 1 = .ok (.iconst 0, 1) := by decide +kernel
theorem dX8_parse_2 : decode cX8_parse 2 = .ok (.putfield 57, 3) := by decide +kernel
theorem dX8_parse_5 : decode cX8_parse 5 = .ok (.aload_n 0, 1) := by decide +kernel
theorem dX8_parse_6 : decode cX8_parse 6 = .ok (.iconst (-1), 1) := by decide +kernel
theorem dX8_parse_7 : decode cX8_parse 7 = .ok (.putfield 87, 3) := by decide +kernel
theorem dX8_parse_10 : decode cX8_parse 10 = .ok (.aload_n 0, 1) := by decide +kernel
theorem dX8_parse_11 : decode cX8_parse 11 = .ok (.invokevirtual 32, 3) := by decide +kernel
theorem dX8_parse_14 : decode cX8_parse 14 = .ok (.aload_n 0, 1) := by decide +kernel
theorem dX8_parse_15 : decode cX8_parse 15 = .ok (.invokevirtual 106, 3) := by decide +kernel
theorem dX8_parse_18 : decode cX8_parse 18 = .ok (.aload_n 0, 1) := by decide +kernel
theorem dX8_parse_19 : decode cX8_parse 19 = .ok (.invokevirtual 156, 3) := by decide +kernel
theorem dX8_parse_22 : decode cX8_parse 22 = .ok (.aload_n 0, 1) := by decide +kernel
theorem dX8_parse_23 : decode cX8_parse 23 = .ok (.bipush 59, 2) := by decide +kernel
theorem dX8_parse_25 : decode cX8_parse 25 = .ok (.invokevirtual 131, 3) := by decide +kernel
theorem dX8_parse_28 : decode cX8_parse 28 = .ok (.ifCond .eq 14, 3) := by decide +kernel
theorem dX8_parse_31 : decode cX8_parse 31 = .ok (.aload_n 0, 1) := by decide +kernel
theorem dX8_parse_32 : decode cX8_parse 32 = .ok (.invokevirtual 106, 3) := by decide +kernel
theorem dX8_parse_35 : decode cX8_parse 35 = .ok (.aload_n 0, 1) := by decide +kernel
theorem dX8_parse_36 : decode cX8_parse 36 = .ok (.invokevirtual 156, 3) := by decide +kernel
theorem dX8_parse_39 : decode cX8_parse 39 = .ok (.goto (-17), 3) := by decide +kernel
theorem dX8_parse_42 : decode cX8_parse 42 = .ok (.aload_n 0, 1) := by decide +kernel
theorem dX8_parse_43 : decode cX8_parse 43 = .ok (.invokevirtual 90, 3) := by decide +kernel
theorem dX8_parse_46 : decode cX8_parse 46 = .ok (.ifCond .eq 14, 3) := by decide +kernel
theorem dX8_parse_49 : decode cX8_parse 49 = .ok (.aload_n 0, 1) := by decide +kernel
theorem dX8_parse_50 : decode cX8_parse 50 = .ok (.getfield 74, 3) := by decide +kernel
theorem dX8_parse_53 : decode cX8_parse 53 = .ok (.ifCond .eq 7, 3) := by decide +kernel
theorem dX8_parse_56 : decode cX8_parse 56 = .ok (.aload_n 0, 1) := by decide +kernel
theorem dX8_parse_57 : decode cX8_parse 57 = .ok (.invokevirtual 103, 3) := by decide +kernel
theorem dX8_parse_60 : decode cX8_parse 60 = .ok (.aload_n 0, 1) := by decide +kernel
theorem dX8_parse_61 : decode cX8_parse 61 = .ok (.getfield 87, 3) := by decide +kernel
theorem dX8_parse_64 : decode cX8_parse 64 = .ok (.ireturn, 1) := by decide +kernel
theorem dX8_errorPosition_0 : decode cX8_errorPosition 0 = .ok (.aload_n 0, 1) := by decide +kernel
theorem dX8_errorPosition_1 : decode cX8_errorPosition 1 = .ok (.iconst 0, 1) := by decide +kernel
theorem dX8_errorPosition_2 : decode cX8_errorPosition 2 = .ok (.putfield 38, 3) := by decide +kernel
theorem dX8_errorPosition_5 : decode cX8_errorPosition 5 = .ok (.aload_n 0, 1) := by decide +kernel
theorem dX8_errorPosition_6 : decode cX8_errorPosition 6 = .ok (.invokevirtual 159, 3) := by decide +kernel
theorem dX8_errorPosition_9 : decode cX8_errorPosition 9 = .ok (.ireturn, 1) := by decide +kernel
theorem dX8_copy_0 : decode cX8_copy 0 = .ok (.iconst 0, 1) := by decide +kernel
theorem dX8_copy_1 : decode cX8_copy 1 = .ok (.istore_n 2, 1) := by decide +kernel
theorem dX8_copy_2 : decode cX8_copy 2 = .ok (.iload_n 2, 1) := by decide +kernel
theorem dX8_copy_3 : decode cX8_copy 3 = .ok (.sipush 5366, 3) := by decide +kernel
theorem dX8_copy_6 : decode cX8_copy 6 = .ok (.if_icmp .ge 15, 3) := by decide +kernel
theorem dX8_copy_9 : decode cX8_copy 9 = .ok (.aload_n 1, 1) := by decide +kernel
theorem dX8_copy_10 : decode cX8_copy 10 = .ok (.iload_n 2, 1) := by decide +kernel
theorem dX8_copy_11 : decode cX8_copy 11 = .ok (.aload_n 0, 1) := by decide +kernel
theorem dX8_copy_12 : decode cX8_copy 12 = .ok (.iload_n 2, 1) := by decide +kernel
theorem dX8_copy_13 : decode cX8_copy 13 = .ok (.iaload, 1) := by decide +kernel
theorem dX8_copy_14 : decode cX8_copy 14 = .ok (.iastore, 1) := by decide +kernel
theorem dX8_copy_15 : decode cX8_copy 15 = .ok (.iinc 2 1, 3) := by decide +kernel
theorem dX8_copy_18 : decode cX8_copy 18 = .ok (.goto (-16), 3) := by decide +kernel
theorem dX8_copy_21 : decode cX8_copy 21 = .ok (.return_, 1) := by decide +kernel
theorem dX8_takeRead_0 : decode cX8_takeRead 0 = .ok (.aload_n 0, 1) := by decide +kernel
theorem dX8_takeRead_1 : decode cX8_takeRead 1 = .ok (.getfield 16, 3) := by decide +kernel
theorem dX8_takeRead_4 : decode cX8_takeRead 4 = .ok (.aload_n 0, 1) := by decide +kernel
theorem dX8_takeRead_5 : decode cX8_takeRead 5 = .ok (.getfield 13, 3) := by decide +kernel
theorem dX8_takeRead_8 : decode cX8_takeRead 8 = .ok (.invokestatic 162, 3) := by decide +kernel
theorem dX8_takeRead_11 : decode cX8_takeRead 11 = .ok (.aload_n 0, 1) := by decide +kernel
theorem dX8_takeRead_12 : decode cX8_takeRead 12 = .ok (.iconst 0, 1) := by decide +kernel
theorem dX8_takeRead_13 : decode cX8_takeRead 13 = .ok (.putfield 166, 3) := by decide +kernel
theorem dX8_takeRead_16 : decode cX8_takeRead 16 = .ok (.aload_n 0, 1) := by decide +kernel
theorem dX8_takeRead_17 : decode cX8_takeRead 17 = .ok (.iconst 0, 1) := by decide +kernel
theorem dX8_takeRead_18 : decode cX8_takeRead 18 = .ok (.putfield 169, 3) := by decide +kernel
theorem dX8_takeRead_21 : decode cX8_takeRead 21 = .ok (.return_, 1) := by decide +kernel
theorem dX8_load_0 : decode cX8_load 0 = .ok (.aload_n 0, 1) := by decide +kernel
theorem dX8_load_1 : decode cX8_load 1 = .ok (.iconst 0, 1) := by decide +kernel
theorem dX8_load_2 : decode cX8_load 2 = .ok (.putfield 38, 3) := by decide +kernel
theorem dX8_load_5 : decode cX8_load 5 = .ok (.aload_n 0, 1) := by decide +kernel
theorem dX8_load_6 : decode cX8_load 6 = .ok (.aload_n 0, 1) := by decide +kernel
theorem dX8_load_7 : decode cX8_load 7 = .ok (.invokevirtual 159, 3) := by decide +kernel
theorem dX8_load_10 : decode cX8_load 10 = .ok (.ifCond .ge 7, 3) := by decide +kernel
theorem dX8_load_13 : decode cX8_load 13 = .ok (.iconst 1, 1) := by decide +kernel
theorem dX8_load_14 : decode cX8_load 14 = .ok (.goto 4, 3) := by decide +kernel
theorem dX8_load_17 : decode cX8_load 17 = .ok (.iconst 0, 1) := by decide +kernel
theorem dX8_load_18 : decode cX8_load 18 = .ok (.iconst 1, 1) := by decide +kernel
theorem dX8_load_19 : decode cX8_load 19 = .ok (.invokevirtual 49, 3) := by decide +kernel
theorem dX8_load_22 : decode cX8_load 22 = .ok (.ifCond .eq 5, 3) := by decide +kernel
theorem dX8_load_25 : decode cX8_load 25 = .ok (.iconst 0, 1) := by decide +kernel
theorem dX8_load_26 : decode cX8_load 26 = .ok (.ireturn, 1) := by decide +kernel
theorem dX8_load_27 : decode cX8_load 27 = .ok (.aload_n 0, 1) := by decide +kernel
theorem dX8_load_28 : decode cX8_load 28 = .ok (.invokevirtual 35, 3) := by decide +kernel
theorem dX8_load_31 : decode cX8_load 31 = .ok (.aload_n 0, 1) := by decide +kernel
theorem dX8_load_32 : decode cX8_load 32 = .ok (.iconst 0, 1) := by decide +kernel
theorem dX8_load_33 : decode cX8_load 33 = .ok (.putfield 46, 3) := by decide +kernel
theorem dX8_load_36 : decode cX8_load 36 = .ok (.aload_n 0, 1) := by decide +kernel
theorem dX8_load_37 : decode cX8_load 37 = .ok (.getfield 13, 3) := by decide +kernel
theorem dX8_load_40 : decode cX8_load 40 = .ok (.iconst 3, 1) := by decide +kernel
theorem dX8_load_41 : decode cX8_load 41 = .ok (.iaload, 1) := by decide +kernel
theorem dX8_load_42 : decode cX8_load 42 = .ok (.ireturn, 1) := by decide +kernel
theorem dX8_record_0 : decode cX8_record 0 = .ok (.aload_n 0, 1) := by decide +kernel
theorem dX8_record_1 : decode cX8_record 1 = .ok (.getfield 166, 3) := by decide +kernel
theorem dX8_record_4 : decode cX8_record 4 = .ok (.bipush 8, 2) := by decide +kernel
theorem dX8_record_6 : decode cX8_record 6 = .ok (.if_icmp .ne 45, 3) := by decide +kernel
theorem dX8_record_9 : decode cX8_record 9 = .ok (.sipush 5366, 3) := by decide +kernel
theorem dX8_record_12 : decode cX8_record 12 = .ok (.istore_n 1, 1) := by decide +kernel
theorem dX8_record_13 : decode cX8_record 13 = .ok (.iload_n 1, 1) := by decide +kernel
theorem dX8_record_14 : decode cX8_record 14 = .ok (.ldc 19, 2) := by decide +kernel
theorem dX8_record_16 : decode cX8_record 16 = .ok (.if_icmp .ge 25, 3) := by decide +kernel
theorem dX8_record_19 : decode cX8_record 19 = .ok (.aload_n 0, 1) := by decide +kernel
theorem dX8_record_20 : decode cX8_record 20 = .ok (.getfield 20, 3) := by decide +kernel
theorem dX8_record_23 : decode cX8_record 23 = .ok (.iload_n 1, 1) := by decide +kernel
theorem dX8_record_24 : decode cX8_record 24 = .ok (.sipush 5366, 3) := by decide +kernel
theorem dX8_record_27 : decode cX8_record 27 = .ok (.isub, 1) := by decide +kernel
theorem dX8_record_28 : decode cX8_record 28 = .ok (.aload_n 0, 1) := by decide +kernel
theorem dX8_record_29 : decode cX8_record 29 = .ok (.getfield 20, 3) := by decide +kernel
theorem dX8_record_32 : decode cX8_record 32 = .ok (.iload_n 1, 1) := by decide +kernel
theorem dX8_record_33 : decode cX8_record 33 = .ok (.iaload, 1) := by decide +kernel
theorem dX8_record_34 : decode cX8_record 34 = .ok (.iastore, 1) := by decide +kernel
theorem dX8_record_35 : decode cX8_record 35 = .ok (.iinc 1 1, 3) := by decide +kernel
theorem dX8_record_38 : decode cX8_record 38 = .ok (.goto (-25), 3) := by decide +kernel
theorem dX8_record_41 : decode cX8_record 41 = .ok (.aload_n 0, 1) := by decide +kernel
theorem dX8_record_42 : decode cX8_record 42 = .ok (.dup, 1) := by decide +kernel
theorem dX8_record_43 : decode cX8_record 43 = .ok (.getfield 166, 3) := by decide +kernel
theorem dX8_record_46 : decode cX8_record 46 = .ok (.iconst 1, 1) := by decide +kernel
theorem dX8_record_47 : decode cX8_record 47 = .ok (.isub, 1) := by decide +kernel
theorem dX8_record_48 : decode cX8_record 48 = .ok (.putfield 166, 3) := by decide +kernel
theorem dX8_record_51 : decode cX8_record 51 = .ok (.iconst 0, 1) := by decide +kernel
theorem dX8_record_52 : decode cX8_record 52 = .ok (.istore_n 1, 1) := by decide +kernel
theorem dX8_record_53 : decode cX8_record 53 = .ok (.iload_n 1, 1) := by decide +kernel
theorem dX8_record_54 : decode cX8_record 54 = .ok (.sipush 5366, 3) := by decide +kernel
theorem dX8_record_57 : decode cX8_record 57 = .ok (.if_icmp .ge 30, 3) := by decide +kernel
theorem dX8_record_60 : decode cX8_record 60 = .ok (.aload_n 0, 1) := by decide +kernel
theorem dX8_record_61 : decode cX8_record 61 = .ok (.getfield 20, 3) := by decide +kernel
theorem dX8_record_64 : decode cX8_record 64 = .ok (.sipush 5366, 3) := by decide +kernel
theorem dX8_record_67 : decode cX8_record 67 = .ok (.aload_n 0, 1) := by decide +kernel
theorem dX8_record_68 : decode cX8_record 68 = .ok (.getfield 166, 3) := by decide +kernel
theorem dX8_record_71 : decode cX8_record 71 = .ok (.imul, 1) := by decide +kernel
theorem dX8_record_72 : decode cX8_record 72 = .ok (.iload_n 1, 1) := by decide +kernel
theorem dX8_record_73 : decode cX8_record 73 = .ok (.iadd, 1) := by decide +kernel
theorem dX8_record_74 : decode cX8_record 74 = .ok (.aload_n 0, 1) := by decide +kernel
theorem dX8_record_75 : decode cX8_record 75 = .ok (.getfield 13, 3) := by decide +kernel
theorem dX8_record_78 : decode cX8_record 78 = .ok (.iload_n 1, 1) := by decide +kernel
theorem dX8_record_79 : decode cX8_record 79 = .ok (.iaload, 1) := by decide +kernel
theorem dX8_record_80 : decode cX8_record 80 = .ok (.iastore, 1) := by decide +kernel
theorem dX8_record_81 : decode cX8_record 81 = .ok (.iinc 1 1, 3) := by decide +kernel
theorem dX8_record_84 : decode cX8_record 84 = .ok (.goto (-31), 3) := by decide +kernel
theorem dX8_record_87 : decode cX8_record 87 = .ok (.aload_n 0, 1) := by decide +kernel
theorem dX8_record_88 : decode cX8_record 88 = .ok (.dup, 1) := by decide +kernel
theorem dX8_record_89 : decode cX8_record 89 = .ok (.getfield 166, 3) := by decide +kernel
theorem dX8_record_92 : decode cX8_record 92 = .ok (.iconst 1, 1) := by decide +kernel
theorem dX8_record_93 : decode cX8_record 93 = .ok (.iadd, 1) := by decide +kernel
theorem dX8_record_94 : decode cX8_record 94 = .ok (.putfield 166, 3) := by decide +kernel
theorem dX8_record_97 : decode cX8_record 97 = .ok (.return_, 1) := by decide +kernel
theorem dX8_undo_0 : decode cX8_undo 0 = .ok (.aload_n 0, 1) := by decide +kernel
theorem dX8_undo_1 : decode cX8_undo 1 = .ok (.iconst 0, 1) := by decide +kernel
theorem dX8_undo_2 : decode cX8_undo 2 = .ok (.putfield 38, 3) := by decide +kernel
theorem dX8_undo_5 : decode cX8_undo 5 = .ok (.aload_n 0, 1) := by decide +kernel
theorem dX8_undo_6 : decode cX8_undo 6 = .ok (.aload_n 0, 1) := by decide +kernel
theorem dX8_undo_7 : decode cX8_undo 7 = .ok (.getfield 166, 3) := by decide +kernel
theorem dX8_undo_10 : decode cX8_undo 10 = .ok (.ifCond .le 7, 3) := by decide +kernel
theorem dX8_undo_13 : decode cX8_undo 13 = .ok (.iconst 1, 1) := by decide +kernel
theorem dX8_undo_14 : decode cX8_undo 14 = .ok (.goto 4, 3) := by decide +kernel
theorem dX8_undo_17 : decode cX8_undo 17 = .ok (.iconst 0, 1) := by decide +kernel
theorem dX8_undo_18 : decode cX8_undo 18 = .ok (.iconst 1, 1) := by decide +kernel
theorem dX8_undo_19 : decode cX8_undo 19 = .ok (.invokevirtual 49, 3) := by decide +kernel
theorem dX8_undo_22 : decode cX8_undo 22 = .ok (.ifCond .eq 5, 3) := by decide +kernel
theorem dX8_undo_25 : decode cX8_undo 25 = .ok (.iconst 0, 1) := by decide +kernel
theorem dX8_undo_26 : decode cX8_undo 26 = .ok (.ireturn, 1) := by decide +kernel
theorem dX8_undo_27 : decode cX8_undo 27 = .ok (.aload_n 0, 1) := by decide +kernel
theorem dX8_undo_28 : decode cX8_undo 28 = .ok (.dup, 1) := by decide +kernel
theorem dX8_undo_29 : decode cX8_undo 29 = .ok (.getfield 166, 3) := by decide +kernel
theorem dX8_undo_32 : decode cX8_undo 32 = .ok (.iconst 1, 1) := by decide +kernel
theorem dX8_undo_33 : decode cX8_undo 33 = .ok (.isub, 1) := by decide +kernel
theorem dX8_undo_34 : decode cX8_undo 34 = .ok (.putfield 166, 3) := by decide +kernel
theorem dX8_undo_37 : decode cX8_undo 37 = .ok (.iconst 0, 1) := by decide +kernel
theorem dX8_undo_38 : decode cX8_undo 38 = .ok (.istore_n 1, 1) := by decide +kernel
theorem dX8_undo_39 : decode cX8_undo 39 = .ok (.iload_n 1, 1) := by decide +kernel
theorem dX8_undo_40 : decode cX8_undo 40 = .ok (.sipush 5366, 3) := by decide +kernel
theorem dX8_undo_43 : decode cX8_undo 43 = .ok (.if_icmp .ge 30, 3) := by decide +kernel
theorem dX8_undo_46 : decode cX8_undo 46 = .ok (.aload_n 0, 1) := by decide +kernel
theorem dX8_undo_47 : decode cX8_undo 47 = .ok (.getfield 13, 3) := by decide +kernel
theorem dX8_undo_50 : decode cX8_undo 50 = .ok (.iload_n 1, 1) := by decide +kernel
theorem dX8_undo_51 : decode cX8_undo 51 = .ok (.aload_n 0, 1) := by decide +kernel
theorem dX8_undo_52 : decode cX8_undo 52 = .ok (.getfield 20, 3) := by decide +kernel
theorem dX8_undo_55 : decode cX8_undo 55 = .ok (.sipush 5366, 3) := by decide +kernel
theorem dX8_undo_58 : decode cX8_undo 58 = .ok (.aload_n 0, 1) := by decide +kernel
theorem dX8_undo_59 : decode cX8_undo 59 = .ok (.getfield 166, 3) := by decide +kernel
theorem dX8_undo_62 : decode cX8_undo 62 = .ok (.imul, 1) := by decide +kernel
theorem dX8_undo_63 : decode cX8_undo 63 = .ok (.iload_n 1, 1) := by decide +kernel
theorem dX8_undo_64 : decode cX8_undo 64 = .ok (.iadd, 1) := by decide +kernel
theorem dX8_undo_65 : decode cX8_undo 65 = .ok (.iaload, 1) := by decide +kernel
theorem dX8_undo_66 : decode cX8_undo 66 = .ok (.iastore, 1) := by decide +kernel
theorem dX8_undo_67 : decode cX8_undo 67 = .ok (.iinc 1 1, 3) := by decide +kernel
theorem dX8_undo_70 : decode cX8_undo 70 = .ok (.goto (-31), 3) := by decide +kernel
theorem dX8_undo_73 : decode cX8_undo 73 = .ok (.aload_n 0, 1) := by decide +kernel
theorem dX8_undo_74 : decode cX8_undo 74 = .ok (.getfield 166, 3) := by decide +kernel
theorem dX8_undo_77 : decode cX8_undo 77 = .ok (.ireturn, 1) := by decide +kernel
theorem dX8_undoCount_0 : decode cX8_undoCount 0 = .ok (.aload_n 0, 1) := by decide +kernel
theorem dX8_undoCount_1 : decode cX8_undoCount 1 = .ok (.iconst 0, 1) := by decide +kernel
theorem dX8_undoCount_2 : decode cX8_undoCount 2 = .ok (.putfield 38, 3) := by decide +kernel
theorem dX8_undoCount_5 : decode cX8_undoCount 5 = .ok (.aload_n 0, 1) := by decide +kernel
theorem dX8_undoCount_6 : decode cX8_undoCount 6 = .ok (.getfield 166, 3) := by decide +kernel
theorem dX8_undoCount_9 : decode cX8_undoCount 9 = .ok (.ireturn, 1) := by decide +kernel
theorem dX8_save_0 : decode cX8_save 0 = .ok (.aload_n 0, 1) := by decide +kernel
theorem dX8_save_1 : decode cX8_save 1 = .ok (.iconst 0, 1) := by decide +kernel
theorem dX8_save_2 : decode cX8_save 2 = .ok (.putfield 38, 3) := by decide +kernel
theorem dX8_save_5 : decode cX8_save 5 = .ok (.aload_n 0, 1) := by decide +kernel
theorem dX8_save_6 : decode cX8_save 6 = .ok (.getfield 13, 3) := by decide +kernel
theorem dX8_save_9 : decode cX8_save 9 = .ok (.aload_n 0, 1) := by decide +kernel
theorem dX8_save_10 : decode cX8_save 10 = .ok (.getfield 23, 3) := by decide +kernel
theorem dX8_save_13 : decode cX8_save 13 = .ok (.invokestatic 162, 3) := by decide +kernel
theorem dX8_save_16 : decode cX8_save 16 = .ok (.aload_n 0, 1) := by decide +kernel
theorem dX8_save_17 : decode cX8_save 17 = .ok (.iconst 1, 1) := by decide +kernel
theorem dX8_save_18 : decode cX8_save 18 = .ok (.putfield 169, 3) := by decide +kernel
theorem dX8_save_21 : decode cX8_save 21 = .ok (.aload_n 0, 1) := by decide +kernel
theorem dX8_save_22 : decode cX8_save 22 = .ok (.getfield 13, 3) := by decide +kernel
theorem dX8_save_25 : decode cX8_save 25 = .ok (.iconst 0, 1) := by decide +kernel
theorem dX8_save_26 : decode cX8_save 26 = .ok (.iaload, 1) := by decide +kernel
theorem dX8_save_27 : decode cX8_save 27 = .ok (.ireturn, 1) := by decide +kernel
theorem dX8_restore_0 : decode cX8_restore 0 = .ok (.aload_n 0, 1) := by decide +kernel
theorem dX8_restore_1 : decode cX8_restore 1 = .ok (.iconst 0, 1) := by decide +kernel
theorem dX8_restore_2 : decode cX8_restore 2 = .ok (.putfield 38, 3) := by decide +kernel
theorem dX8_restore_5 : decode cX8_restore 5 = .ok (.aload_n 0, 1) := by decide +kernel
theorem dX8_restore_6 : decode cX8_restore 6 = .ok (.aload_n 0, 1) := by decide +kernel
theorem dX8_restore_7 : decode cX8_restore 7 = .ok (.getfield 169, 3) := by decide +kernel
theorem dX8_restore_10 : decode cX8_restore 10 = .ok (.iconst 1, 1) := by decide +kernel
theorem dX8_restore_11 : decode cX8_restore 11 = .ok (.invokevirtual 49, 3) := by decide +kernel
theorem dX8_restore_14 : decode cX8_restore 14 = .ok (.ifCond .eq 5, 3) := by decide +kernel
theorem dX8_restore_17 : decode cX8_restore 17 = .ok (.iconst 0, 1) := by decide +kernel
theorem dX8_restore_18 : decode cX8_restore 18 = .ok (.ireturn, 1) := by decide +kernel
theorem dX8_restore_19 : decode cX8_restore 19 = .ok (.aload_n 0, 1) := by decide +kernel
theorem dX8_restore_20 : decode cX8_restore 20 = .ok (.getfield 23, 3) := by decide +kernel
theorem dX8_restore_23 : decode cX8_restore 23 = .ok (.aload_n 0, 1) := by decide +kernel
theorem dX8_restore_24 : decode cX8_restore 24 = .ok (.getfield 13, 3) := by decide +kernel
theorem dX8_restore_27 : decode cX8_restore 27 = .ok (.invokestatic 162, 3) := by decide +kernel
theorem dX8_restore_30 : decode cX8_restore 30 = .ok (.aload_n 0, 1) := by decide +kernel
theorem dX8_restore_31 : decode cX8_restore 31 = .ok (.iconst 0, 1) := by decide +kernel
theorem dX8_restore_32 : decode cX8_restore 32 = .ok (.putfield 166, 3) := by decide +kernel
theorem dX8_restore_35 : decode cX8_restore 35 = .ok (.aload_n 0, 1) := by decide +kernel
theorem dX8_restore_36 : decode cX8_restore 36 = .ok (.getfield 13, 3) := by decide +kernel
theorem dX8_restore_39 : decode cX8_restore 39 = .ok (.iconst 0, 1) := by decide +kernel
theorem dX8_restore_40 : decode cX8_restore 40 = .ok (.iaload, 1) := by decide +kernel
theorem dX8_restore_41 : decode cX8_restore 41 = .ok (.ireturn, 1) := by decide +kernel
theorem dX8_isClient_0 : decode cX8_isClient 0 = .ok (.iload_n 1, 1) := by decide +kernel
theorem dX8_isClient_1 : decode cX8_isClient 1 = .ok (.iconst 0, 1) := by decide +kernel
theorem dX8_isClient_2 : decode cX8_isClient 2 = .ok (.aload_n 0, 1) := by decide +kernel
theorem dX8_isClient_3 : decode cX8_isClient 3 = .ok (.getfield 13, 3) := by decide +kernel
theorem dX8_isClient_6 : decode cX8_isClient 6 = .ok (.iconst 2, 1) := by decide +kernel
theorem dX8_isClient_7 : decode cX8_isClient 7 = .ok (.iaload, 1) := by decide +kernel
theorem dX8_isClient_8 : decode cX8_isClient 8 = .ok (.iconst 1, 1) := by decide +kernel
theorem dX8_isClient_9 : decode cX8_isClient 9 = .ok (.isub, 1) := by decide +kernel
theorem dX8_isClient_10 : decode cX8_isClient 10 = .ok (.invokestatic 53, 3) := by decide +kernel
theorem dX8_isClient_13 : decode cX8_isClient 13 = .ok (.ireturn, 1) := by decide +kernel
theorem dX8_isNode_0 : decode cX8_isNode 0 = .ok (.iload_n 1, 1) := by decide +kernel
theorem dX8_isNode_1 : decode cX8_isNode 1 = .ok (.iconst 0, 1) := by decide +kernel
theorem dX8_isNode_2 : decode cX8_isNode 2 = .ok (.aload_n 0, 1) := by decide +kernel
theorem dX8_isNode_3 : decode cX8_isNode 3 = .ok (.getfield 13, 3) := by decide +kernel
theorem dX8_isNode_6 : decode cX8_isNode 6 = .ok (.iconst 3, 1) := by decide +kernel
theorem dX8_isNode_7 : decode cX8_isNode 7 = .ok (.iaload, 1) := by decide +kernel
theorem dX8_isNode_8 : decode cX8_isNode 8 = .ok (.iconst 1, 1) := by decide +kernel
theorem dX8_isNode_9 : decode cX8_isNode 9 = .ok (.isub, 1) := by decide +kernel
theorem dX8_isNode_10 : decode cX8_isNode 10 = .ok (.invokestatic 53, 3) := by decide +kernel
theorem dX8_isNode_13 : decode cX8_isNode 13 = .ok (.ireturn, 1) := by decide +kernel
theorem dX8_isField_0 : decode cX8_isField 0 = .ok (.iload_n 1, 1) := by decide +kernel
theorem dX8_isField_1 : decode cX8_isField 1 = .ok (.iconst 0, 1) := by decide +kernel
theorem dX8_isField_2 : decode cX8_isField 2 = .ok (.aload_n 0, 1) := by decide +kernel
theorem dX8_isField_3 : decode cX8_isField 3 = .ok (.getfield 13, 3) := by decide +kernel
theorem dX8_isField_6 : decode cX8_isField 6 = .ok (.iconst 1, 1) := by decide +kernel
theorem dX8_isField_7 : decode cX8_isField 7 = .ok (.iaload, 1) := by decide +kernel
theorem dX8_isField_8 : decode cX8_isField 8 = .ok (.iconst 1, 1) := by decide +kernel
theorem dX8_isField_9 : decode cX8_isField 9 = .ok (.isub, 1) := by decide +kernel
theorem dX8_isField_10 : decode cX8_isField 10 = .ok (.invokestatic 53, 3) := by decide +kernel
theorem dX8_isField_13 : decode cX8_isField 13 = .ok (.ireturn, 1) := by decide +kernel
theorem dX8_hasLease_0 : decode cX8_hasLease 0 = .ok (.aload_n 0, 1) := by decide +kernel
theorem dX8_hasLease_1 : decode cX8_hasLease 1 = .ok (.getfield 13, 3) := by decide +kernel
theorem dX8_hasLease_4 : decode cX8_hasLease 4 = .ok (.sipush 611, 3) := by decide +kernel
theorem dX8_hasLease_7 : decode cX8_hasLease 7 = .ok (.iconst 3, 1) := by decide +kernel
theorem dX8_hasLease_8 : decode cX8_hasLease 8 = .ok (.iload_n 1, 1) := by decide +kernel
theorem dX8_hasLease_9 : decode cX8_hasLease 9 = .ok (.imul, 1) := by decide +kernel
theorem dX8_hasLease_10 : decode cX8_hasLease 10 = .ok (.iadd, 1) := by decide +kernel
theorem dX8_hasLease_11 : decode cX8_hasLease 11 = .ok (.iaload, 1) := by decide +kernel
theorem dX8_hasLease_12 : decode cX8_hasLease 12 = .ok (.iconst (-1), 1) := by decide +kernel
theorem dX8_hasLease_13 : decode cX8_hasLease 13 = .ok (.if_icmp .eq 7, 3) := by decide +kernel
theorem dX8_hasLease_16 : decode cX8_hasLease 16 = .ok (.iconst 1, 1) := by decide +kernel
theorem dX8_hasLease_17 : decode cX8_hasLease 17 = .ok (.goto 4, 3) := by decide +kernel
theorem dX8_hasLease_20 : decode cX8_hasLease 20 = .ok (.iconst 0, 1) := by decide +kernel
theorem dX8_hasLease_21 : decode cX8_hasLease 21 = .ok (.ireturn, 1) := by decide +kernel
theorem dX8_isAlive_0 : decode cX8_isAlive 0 = .ok (.aload_n 0, 1) := by decide +kernel
theorem dX8_isAlive_1 : decode cX8_isAlive 1 = .ok (.getfield 13, 3) := by decide +kernel
theorem dX8_isAlive_4 : decode cX8_isAlive 4 = .ok (.sipush 191, 3) := by decide +kernel
theorem dX8_isAlive_7 : decode cX8_isAlive 7 = .ok (.iload_n 1, 1) := by decide +kernel
theorem dX8_isAlive_8 : decode cX8_isAlive 8 = .ok (.iadd, 1) := by decide +kernel
theorem dX8_isAlive_9 : decode cX8_isAlive 9 = .ok (.iaload, 1) := by decide +kernel
theorem dX8_isAlive_10 : decode cX8_isAlive 10 = .ok (.iconst 1, 1) := by decide +kernel
theorem dX8_isAlive_11 : decode cX8_isAlive 11 = .ok (.if_icmp .ne 7, 3) := by decide +kernel
theorem dX8_isAlive_14 : decode cX8_isAlive 14 = .ok (.iconst 1, 1) := by decide +kernel
theorem dX8_isAlive_15 : decode cX8_isAlive 15 = .ok (.goto 4, 3) := by decide +kernel
theorem dX8_isAlive_18 : decode cX8_isAlive 18 = .ok (.iconst 0, 1) := by decide +kernel
theorem dX8_isAlive_19 : decode cX8_isAlive 19 = .ok (.ireturn, 1) := by decide +kernel
theorem dX8_partOf_0 : decode cX8_partOf 0 = .ok (.sipush 866, 3) := by decide +kernel
theorem dX8_partOf_3 : decode cX8_partOf 3 = .ok (.sipush 900, 3) := by decide +kernel
theorem dX8_partOf_6 : decode cX8_partOf 6 = .ok (.iload_n 0, 1) := by decide +kernel
theorem dX8_partOf_7 : decode cX8_partOf 7 = .ok (.imul, 1) := by decide +kernel
theorem dX8_partOf_8 : decode cX8_partOf 8 = .ok (.iadd, 1) := by decide +kernel
theorem dX8_partOf_9 : decode cX8_partOf 9 = .ok (.iload_n 1, 1) := by decide +kernel
theorem dX8_partOf_10 : decode cX8_partOf 10 = .ok (.iadd, 1) := by decide +kernel
theorem dX8_partOf_11 : decode cX8_partOf 11 = .ok (.iload_n 2, 1) := by decide +kernel
theorem dX8_partOf_12 : decode cX8_partOf 12 = .ok (.iadd, 1) := by decide +kernel
theorem dX8_partOf_13 : decode cX8_partOf 13 = .ok (.ireturn, 1) := by decide +kernel
theorem dX8_is_0 : decode cX8_is 0 = .ok (.aload_n 0, 1) := by decide +kernel
theorem dX8_is_1 : decode cX8_is 1 = .ok (.getfield 13, 3) := by decide +kernel
theorem dX8_is_4 : decode cX8_is 4 = .ok (.iload_n 1, 1) := by decide +kernel
theorem dX8_is_5 : decode cX8_is 5 = .ok (.iload_n 2, 1) := by decide +kernel
theorem dX8_is_6 : decode cX8_is 6 = .ok (.iload_n 3, 1) := by decide +kernel
theorem dX8_is_7 : decode cX8_is 7 = .ok (.invokestatic 173, 3) := by decide +kernel
theorem dX8_is_10 : decode cX8_is 10 = .ok (.iaload, 1) := by decide +kernel
theorem dX8_is_11 : decode cX8_is 11 = .ok (.iconst 1, 1) := by decide +kernel
theorem dX8_is_12 : decode cX8_is 12 = .ok (.if_icmp .ne 7, 3) := by decide +kernel
theorem dX8_is_15 : decode cX8_is 15 = .ok (.iconst 1, 1) := by decide +kernel
theorem dX8_is_16 : decode cX8_is 16 = .ok (.goto 4, 3) := by decide +kernel
theorem dX8_is_19 : decode cX8_is 19 = .ok (.iconst 0, 1) := by decide +kernel
theorem dX8_is_20 : decode cX8_is 20 = .ok (.ireturn, 1) := by decide +kernel
theorem dX8_old_0 : decode cX8_old 0 = .ok (.aload_n 0, 1) := by decide +kernel
theorem dX8_old_1 : decode cX8_old 1 = .ok (.getfield 13, 3) := by decide +kernel
theorem dX8_old_4 : decode cX8_old 4 = .ok (.iload_n 1, 1) := by decide +kernel
theorem dX8_old_5 : decode cX8_old 5 = .ok (.sipush 180, 3) := by decide +kernel
theorem dX8_old_8 : decode cX8_old 8 = .ok (.bipush 6, 2) := by decide +kernel
theorem dX8_old_10 : decode cX8_old 10 = .ok (.iload_n 2, 1) := by decide +kernel
theorem dX8_old_11 : decode cX8_old 11 = .ok (.imul, 1) := by decide +kernel
theorem dX8_old_12 : decode cX8_old 12 = .ok (.iload_n 3, 1) := by decide +kernel
theorem dX8_old_13 : decode cX8_old 13 = .ok (.iadd, 1) := by decide +kernel
theorem dX8_old_14 : decode cX8_old 14 = .ok (.invokestatic 173, 3) := by decide +kernel
theorem dX8_old_17 : decode cX8_old 17 = .ok (.iaload, 1) := by decide +kernel
theorem dX8_old_18 : decode cX8_old 18 = .ok (.ireturn, 1) := by decide +kernel
theorem dX8_fresh_0 : decode cX8_fresh 0 = .ok (.aload_n 0, 1) := by decide +kernel
theorem dX8_fresh_1 : decode cX8_fresh 1 = .ok (.getfield 13, 3) := by decide +kernel
theorem dX8_fresh_4 : decode cX8_fresh 4 = .ok (.iload_n 1, 1) := by decide +kernel
theorem dX8_fresh_5 : decode cX8_fresh 5 = .ok (.sipush 540, 3) := by decide +kernel
theorem dX8_fresh_8 : decode cX8_fresh 8 = .ok (.bipush 6, 2) := by decide +kernel
theorem dX8_fresh_10 : decode cX8_fresh 10 = .ok (.iload_n 2, 1) := by decide +kernel
theorem dX8_fresh_11 : decode cX8_fresh 11 = .ok (.imul, 1) := by decide +kernel
theorem dX8_fresh_12 : decode cX8_fresh 12 = .ok (.iload_n 3, 1) := by decide +kernel
theorem dX8_fresh_13 : decode cX8_fresh 13 = .ok (.iadd, 1) := by decide +kernel
theorem dX8_fresh_14 : decode cX8_fresh 14 = .ok (.invokestatic 173, 3) := by decide +kernel
theorem dX8_fresh_17 : decode cX8_fresh 17 = .ok (.iaload, 1) := by decide +kernel
theorem dX8_fresh_18 : decode cX8_fresh 18 = .ok (.ireturn, 1) := by decide +kernel
theorem dX8_value_0 : decode cX8_value 0 = .ok (.aload_n 0, 1) := by decide +kernel
theorem dX8_value_1 : decode cX8_value 1 = .ok (.getfield 13, 3) := by decide +kernel
theorem dX8_value_4 : decode cX8_value 4 = .ok (.sipush 251, 3) := by decide +kernel
theorem dX8_value_7 : decode cX8_value 7 = .ok (.bipush 6, 2) := by decide +kernel
theorem dX8_value_9 : decode cX8_value 9 = .ok (.iload_n 1, 1) := by decide +kernel
theorem dX8_value_10 : decode cX8_value 10 = .ok (.imul, 1) := by decide +kernel
theorem dX8_value_11 : decode cX8_value 11 = .ok (.iadd, 1) := by decide +kernel
theorem dX8_value_12 : decode cX8_value 12 = .ok (.iload_n 2, 1) := by decide +kernel
theorem dX8_value_13 : decode cX8_value 13 = .ok (.iadd, 1) := by decide +kernel
theorem dX8_value_14 : decode cX8_value 14 = .ok (.iaload, 1) := by decide +kernel
theorem dX8_value_15 : decode cX8_value 15 = .ok (.ireturn, 1) := by decide +kernel
theorem dX8_isWithin_0 : decode cX8_isWithin 0 = .ok (.iload_n 1, 1) := by decide +kernel
theorem dX8_isWithin_1 : decode cX8_isWithin 1 = .ok (.istore_n 3, 1) := by decide +kernel
theorem dX8_isWithin_2 : decode cX8_isWithin 2 = .ok (.iload_n 3, 1) := by decide +kernel
theorem dX8_isWithin_3 : decode cX8_isWithin 3 = .ok (.iload_n 2, 1) := by decide +kernel
theorem dX8_isWithin_4 : decode cX8_isWithin 4 = .ok (.if_icmp .le 16, 3) := by decide +kernel
theorem dX8_isWithin_7 : decode cX8_isWithin 7 = .ok (.aload_n 0, 1) := by decide +kernel
theorem dX8_isWithin_8 : decode cX8_isWithin 8 = .ok (.getfield 13, 3) := by decide +kernel
theorem dX8_isWithin_11 : decode cX8_isWithin 11 = .ok (.bipush 11, 2) := by decide +kernel
theorem dX8_isWithin_13 : decode cX8_isWithin 13 = .ok (.iload_n 3, 1) := by decide +kernel
theorem dX8_isWithin_14 : decode cX8_isWithin 14 = .ok (.iadd, 1) := by decide +kernel
theorem dX8_isWithin_15 : decode cX8_isWithin 15 = .ok (.iaload, 1) := by decide +kernel
theorem dX8_isWithin_16 : decode cX8_isWithin 16 = .ok (.istore_n 3, 1) := by decide +kernel
theorem dX8_isWithin_17 : decode cX8_isWithin 17 = .ok (.goto (-15), 3) := by decide +kernel
theorem dX8_isWithin_20 : decode cX8_isWithin 20 = .ok (.iload_n 3, 1) := by decide +kernel
theorem dX8_isWithin_21 : decode cX8_isWithin 21 = .ok (.iload_n 2, 1) := by decide +kernel
theorem dX8_isWithin_22 : decode cX8_isWithin 22 = .ok (.if_icmp .ne 7, 3) := by decide +kernel
theorem dX8_isWithin_25 : decode cX8_isWithin 25 = .ok (.iconst 1, 1) := by decide +kernel
theorem dX8_isWithin_26 : decode cX8_isWithin 26 = .ok (.goto 4, 3) := by decide +kernel
theorem dX8_isWithin_29 : decode cX8_isWithin 29 = .ok (.iconst 0, 1) := by decide +kernel
theorem dX8_isWithin_30 : decode cX8_isWithin 30 = .ok (.ireturn, 1) := by decide +kernel
theorem dX8_isBlocker_0 : decode cX8_isBlocker 0 = .ok (.iload_n 1, 1) := by decide +kernel
theorem dX8_isBlocker_1 : decode cX8_isBlocker 1 = .ok (.iload_n 2, 1) := by decide +kernel
theorem dX8_isBlocker_2 : decode cX8_isBlocker 2 = .ok (.if_icmp .eq 11, 3) := by decide +kernel
theorem dX8_isBlocker_5 : decode cX8_isBlocker 5 = .ok (.aload_n 0, 1) := by decide +kernel
theorem dX8_isBlocker_6 : decode cX8_isBlocker 6 = .ok (.iload_n 1, 1) := by decide +kernel
theorem dX8_isBlocker_7 : decode cX8_isBlocker 7 = .ok (.invokevirtual 177, 3) := by decide +kernel
theorem dX8_isBlocker_10 : decode cX8_isBlocker 10 = .ok (.ifCond .ne 5, 3) := by decide +kernel
theorem dX8_isBlocker_13 : decode cX8_isBlocker 13 = .ok (.iconst 0, 1) := by decide +kernel
theorem dX8_isBlocker_14 : decode cX8_isBlocker 14 = .ok (.ireturn, 1) := by decide +kernel
theorem dX8_isBlocker_15 : decode cX8_isBlocker 15 = .ok (.aload_n 0, 1) := by decide +kernel
theorem dX8_isBlocker_16 : decode cX8_isBlocker 16 = .ok (.getfield 13, 3) := by decide +kernel
theorem dX8_isBlocker_19 : decode cX8_isBlocker 19 = .ok (.sipush 611, 3) := by decide +kernel
theorem dX8_isBlocker_22 : decode cX8_isBlocker 22 = .ok (.iconst 3, 1) := by decide +kernel
theorem dX8_isBlocker_23 : decode cX8_isBlocker 23 = .ok (.iload_n 1, 1) := by decide +kernel
theorem dX8_isBlocker_24 : decode cX8_isBlocker 24 = .ok (.imul, 1) := by decide +kernel
theorem dX8_isBlocker_25 : decode cX8_isBlocker 25 = .ok (.iadd, 1) := by decide +kernel
theorem dX8_isBlocker_26 : decode cX8_isBlocker 26 = .ok (.iaload, 1) := by decide +kernel
theorem dX8_isBlocker_27 : decode cX8_isBlocker 27 = .ok (.istore 5, 2) := by decide +kernel
theorem dX8_isBlocker_29 : decode cX8_isBlocker 29 = .ok (.iload 4, 2) := by decide +kernel
theorem dX8_isBlocker_31 : decode cX8_isBlocker 31 = .ok (.ifCond .ne 21, 3) := by decide +kernel
theorem dX8_isBlocker_34 : decode cX8_isBlocker 34 = .ok (.aload_n 0, 1) := by decide +kernel
theorem dX8_isBlocker_35 : decode cX8_isBlocker 35 = .ok (.getfield 13, 3) := by decide +kernel
theorem dX8_isBlocker_38 : decode cX8_isBlocker 38 = .ok (.sipush 611, 3) := by decide +kernel
theorem dX8_isBlocker_41 : decode cX8_isBlocker 41 = .ok (.iconst 3, 1) := by decide +kernel
theorem dX8_isBlocker_42 : decode cX8_isBlocker 42 = .ok (.iload_n 1, 1) := by decide +kernel
theorem dX8_isBlocker_43 : decode cX8_isBlocker 43 = .ok (.imul, 1) := by decide +kernel
theorem dX8_isBlocker_44 : decode cX8_isBlocker 44 = .ok (.iadd, 1) := by decide +kernel
theorem dX8_isBlocker_45 : decode cX8_isBlocker 45 = .ok (.iconst 2, 1) := by decide +kernel
theorem dX8_isBlocker_46 : decode cX8_isBlocker 46 = .ok (.iadd, 1) := by decide +kernel
theorem dX8_isBlocker_47 : decode cX8_isBlocker 47 = .ok (.iaload, 1) := by decide +kernel
theorem dX8_isBlocker_48 : decode cX8_isBlocker 48 = .ok (.iconst 1, 1) := by decide +kernel
theorem dX8_isBlocker_49 : decode cX8_isBlocker 49 = .ok (.if_icmp .ne 27, 3) := by decide +kernel
theorem dX8_isBlocker_52 : decode cX8_isBlocker 52 = .ok (.aload_n 0, 1) := by decide +kernel
theorem dX8_isBlocker_53 : decode cX8_isBlocker 53 = .ok (.iload 5, 2) := by decide +kernel
theorem dX8_isBlocker_55 : decode cX8_isBlocker 55 = .ok (.iload_n 3, 1) := by decide +kernel
theorem dX8_isBlocker_56 : decode cX8_isBlocker 56 = .ok (.invokevirtual 180, 3) := by decide +kernel
theorem dX8_isBlocker_59 : decode cX8_isBlocker 59 = .ok (.ifCond .ne 13, 3) := by decide +kernel
theorem dX8_isBlocker_62 : decode cX8_isBlocker 62 = .ok (.aload_n 0, 1) := by decide +kernel
theorem dX8_isBlocker_63 : decode cX8_isBlocker 63 = .ok (.iload_n 3, 1) := by decide +kernel
theorem dX8_isBlocker_64 : decode cX8_isBlocker 64 = .ok (.iload 5, 2) := by decide +kernel
theorem dX8_isBlocker_66 : decode cX8_isBlocker 66 = .ok (.invokevirtual 180, 3) := by decide +kernel
theorem dX8_isBlocker_69 : decode cX8_isBlocker 69 = .ok (.ifCond .eq 7, 3) := by decide +kernel
theorem dX8_isBlocker_72 : decode cX8_isBlocker 72 = .ok (.iconst 1, 1) := by decide +kernel
theorem dX8_isBlocker_73 : decode cX8_isBlocker 73 = .ok (.goto 4, 3) := by decide +kernel
theorem dX8_isBlocker_76 : decode cX8_isBlocker 76 = .ok (.iconst 0, 1) := by decide +kernel
theorem dX8_isBlocker_77 : decode cX8_isBlocker 77 = .ok (.ireturn, 1) := by decide +kernel
theorem dX8_blockersOf_0 : decode cX8_blockersOf 0 = .ok (.iconst 0, 1) := by decide +kernel
theorem dX8_blockersOf_1 : decode cX8_blockersOf 1 = .ok (.istore 4, 2) := by decide +kernel
theorem dX8_blockersOf_3 : decode cX8_blockersOf 3 = .ok (.iconst 0, 1) := by decide +kernel
theorem dX8_blockersOf_4 : decode cX8_blockersOf 4 = .ok (.istore 5, 2) := by decide +kernel
theorem dX8_blockersOf_6 : decode cX8_blockersOf 6 = .ok (.iload 5, 2) := by decide +kernel
theorem dX8_blockersOf_8 : decode cX8_blockersOf 8 = .ok (.aload_n 0, 1) := by decide +kernel
theorem dX8_blockersOf_9 : decode cX8_blockersOf 9 = .ok (.getfield 13, 3) := by decide +kernel
theorem dX8_blockersOf_12 : decode cX8_blockersOf 12 = .ok (.iconst 2, 1) := by decide +kernel
theorem dX8_blockersOf_13 : decode cX8_blockersOf 13 = .ok (.iaload, 1) := by decide +kernel
theorem dX8_blockersOf_14 : decode cX8_blockersOf 14 = .ok (.if_icmp .ge 34, 3) := by decide +kernel
theorem dX8_blockersOf_17 : decode cX8_blockersOf 17 = .ok (.iload 4, 2) := by decide +kernel
theorem dX8_blockersOf_19 : decode cX8_blockersOf 19 = .ok (.aload_n 0, 1) := by decide +kernel
theorem dX8_blockersOf_20 : decode cX8_blockersOf 20 = .ok (.iload 5, 2) := by decide +kernel
theorem dX8_blockersOf_22 : decode cX8_blockersOf 22 = .ok (.iload_n 1, 1) := by decide +kernel
theorem dX8_blockersOf_23 : decode cX8_blockersOf 23 = .ok (.iload_n 2, 1) := by decide +kernel
theorem dX8_blockersOf_24 : decode cX8_blockersOf 24 = .ok (.iload_n 3, 1) := by decide +kernel
theorem dX8_blockersOf_25 : decode cX8_blockersOf 25 = .ok (.invokevirtual 184, 3) := by decide +kernel
theorem dX8_blockersOf_28 : decode cX8_blockersOf 28 = .ok (.ifCond .eq 10, 3) := by decide +kernel
theorem dX8_blockersOf_31 : decode cX8_blockersOf 31 = .ok (.iconst 1, 1) := by decide +kernel
theorem dX8_blockersOf_32 : decode cX8_blockersOf 32 = .ok (.iload 5, 2) := by decide +kernel
theorem dX8_blockersOf_34 : decode cX8_blockersOf 34 = .ok (.ishl, 1) := by decide +kernel
theorem dX8_blockersOf_35 : decode cX8_blockersOf 35 = .ok (.goto 4, 3) := by decide +kernel
theorem dX8_blockersOf_38 : decode cX8_blockersOf 38 = .ok (.iconst 0, 1) := by decide +kernel
theorem dX8_blockersOf_39 : decode cX8_blockersOf 39 = .ok (.ior, 1) := by decide +kernel
theorem dX8_blockersOf_40 : decode cX8_blockersOf 40 = .ok (.istore 4, 2) := by decide +kernel
theorem dX8_blockersOf_42 : decode cX8_blockersOf 42 = .ok (.iinc 5 1, 3) := by decide +kernel
theorem dX8_blockersOf_45 : decode cX8_blockersOf 45 = .ok (.goto (-39), 3) := by decide +kernel
theorem dX8_blockersOf_48 : decode cX8_blockersOf 48 = .ok (.iload 4, 2) := by decide +kernel
theorem dX8_blockersOf_50 : decode cX8_blockersOf 50 = .ok (.ireturn, 1) := by decide +kernel
theorem dX8_lease_0 : decode cX8_lease 0 = .ok (.aload_n 0, 1) := by decide +kernel
theorem dX8_lease_1 : decode cX8_lease 1 = .ok (.iconst 0, 1) := by decide +kernel
theorem dX8_lease_2 : decode cX8_lease 2 = .ok (.putfield 38, 3) := by decide +kernel
theorem dX8_lease_5 : decode cX8_lease 5 = .ok (.aload_n 0, 1) := by decide +kernel
theorem dX8_lease_6 : decode cX8_lease 6 = .ok (.aload_n 0, 1) := by decide +kernel
theorem dX8_lease_7 : decode cX8_lease 7 = .ok (.iload_n 1, 1) := by decide +kernel
theorem dX8_lease_8 : decode cX8_lease 8 = .ok (.invokevirtual 188, 3) := by decide +kernel
theorem dX8_lease_11 : decode cX8_lease 11 = .ok (.ifCond .eq 15, 3) := by decide +kernel
theorem dX8_lease_14 : decode cX8_lease 14 = .ok (.aload_n 0, 1) := by decide +kernel
theorem dX8_lease_15 : decode cX8_lease 15 = .ok (.iload_n 2, 1) := by decide +kernel
theorem dX8_lease_16 : decode cX8_lease 16 = .ok (.invokevirtual 191, 3) := by decide +kernel
theorem dX8_lease_19 : decode cX8_lease 19 = .ok (.ifCond .eq 7, 3) := by decide +kernel
theorem dX8_lease_22 : decode cX8_lease 22 = .ok (.iconst 1, 1) := by decide +kernel
theorem dX8_lease_23 : decode cX8_lease 23 = .ok (.goto 4, 3) := by decide +kernel
theorem dX8_lease_26 : decode cX8_lease 26 = .ok (.iconst 0, 1) := by decide +kernel
theorem dX8_lease_27 : decode cX8_lease 27 = .ok (.iconst 1, 1) := by decide +kernel
theorem dX8_lease_28 : decode cX8_lease 28 = .ok (.invokevirtual 49, 3) := by decide +kernel
theorem dX8_lease_31 : decode cX8_lease 31 = .ok (.ifCond .ne 58, 3) := by decide +kernel
theorem dX8_lease_34 : decode cX8_lease 34 = .ok (.aload_n 0, 1) := by decide +kernel
theorem dX8_lease_35 : decode cX8_lease 35 = .ok (.iload_n 3, 1) := by decide +kernel
theorem dX8_lease_36 : decode cX8_lease 36 = .ok (.iconst 1, 1) := by decide +kernel
theorem dX8_lease_37 : decode cX8_lease 37 = .ok (.bipush 100, 2) := by decide +kernel
theorem dX8_lease_39 : decode cX8_lease 39 = .ok (.invokestatic 53, 3) := by decide +kernel
theorem dX8_lease_42 : decode cX8_lease 42 = .ok (.iconst 2, 1) := by decide +kernel
theorem dX8_lease_43 : decode cX8_lease 43 = .ok (.invokevirtual 49, 3) := by decide +kernel
theorem dX8_lease_46 : decode cX8_lease 46 = .ok (.ifCond .ne 43, 3) := by decide +kernel
theorem dX8_lease_49 : decode cX8_lease 49 = .ok (.aload_n 0, 1) := by decide +kernel
theorem dX8_lease_50 : decode cX8_lease 50 = .ok (.aload_n 0, 1) := by decide +kernel
theorem dX8_lease_51 : decode cX8_lease 51 = .ok (.iload_n 1, 1) := by decide +kernel
theorem dX8_lease_52 : decode cX8_lease 52 = .ok (.invokevirtual 177, 3) := by decide +kernel
theorem dX8_lease_55 : decode cX8_lease 55 = .ok (.ifCond .ne 26, 3) := by decide +kernel
theorem dX8_lease_58 : decode cX8_lease 58 = .ok (.aload_n 0, 1) := by decide +kernel
theorem dX8_lease_59 : decode cX8_lease 59 = .ok (.iload_n 2, 1) := by decide +kernel
theorem dX8_lease_60 : decode cX8_lease 60 = .ok (.invokevirtual 194, 3) := by decide +kernel
theorem dX8_lease_63 : decode cX8_lease 63 = .ok (.ifCond .eq 18, 3) := by decide +kernel
theorem dX8_lease_66 : decode cX8_lease 66 = .ok (.aload_n 0, 1) := by decide +kernel
theorem dX8_lease_67 : decode cX8_lease 67 = .ok (.iload_n 1, 1) := by decide +kernel
theorem dX8_lease_68 : decode cX8_lease 68 = .ok (.iload_n 2, 1) := by decide +kernel
theorem dX8_lease_69 : decode cX8_lease 69 = .ok (.iload 4, 2) := by decide +kernel
theorem dX8_lease_71 : decode cX8_lease 71 = .ok (.invokevirtual 197, 3) := by decide +kernel
theorem dX8_lease_74 : decode cX8_lease 74 = .ok (.ifCond .ne 7, 3) := by decide +kernel
theorem dX8_lease_77 : decode cX8_lease 77 = .ok (.iconst 1, 1) := by decide +kernel
theorem dX8_lease_78 : decode cX8_lease 78 = .ok (.goto 4, 3) := by decide +kernel
theorem dX8_lease_81 : decode cX8_lease 81 = .ok (.iconst 0, 1) := by decide +kernel
theorem dX8_lease_82 : decode cX8_lease 82 = .ok (.iconst 3, 1) := by decide +kernel
theorem dX8_lease_83 : decode cX8_lease 83 = .ok (.invokevirtual 49, 3) := by decide +kernel
theorem dX8_lease_86 : decode cX8_lease 86 = .ok (.ifCond .eq 5, 3) := by decide +kernel
theorem dX8_lease_89 : decode cX8_lease 89 = .ok (.iconst 0, 1) := by decide +kernel
theorem dX8_lease_90 : decode cX8_lease 90 = .ok (.ireturn, 1) := by decide +kernel
theorem dX8_lease_91 : decode cX8_lease 91 = .ok (.aload_n 0, 1) := by decide +kernel
theorem dX8_lease_92 : decode cX8_lease 92 = .ok (.invokevirtual 201, 3) := by decide +kernel
theorem dX8_lease_95 : decode cX8_lease 95 = .ok (.aload_n 0, 1) := by decide +kernel
theorem dX8_lease_96 : decode cX8_lease 96 = .ok (.getfield 13, 3) := by decide +kernel
theorem dX8_lease_99 : decode cX8_lease 99 = .ok (.sipush 611, 3) := by decide +kernel
theorem dX8_lease_102 : decode cX8_lease 102 = .ok (.iconst 3, 1) := by decide +kernel
theorem dX8_lease_103 : decode cX8_lease 103 = .ok (.iload_n 1, 1) := by decide +kernel
theorem dX8_lease_104 : decode cX8_lease 104 = .ok (.imul, 1) := by decide +kernel
theorem dX8_lease_105 : decode cX8_lease 105 = .ok (.iadd, 1) := by decide +kernel
theorem dX8_lease_106 : decode cX8_lease 106 = .ok (.iload_n 2, 1) := by decide +kernel
theorem dX8_lease_107 : decode cX8_lease 107 = .ok (.iastore, 1) := by decide +kernel
theorem dX8_lease_108 : decode cX8_lease 108 = .ok (.aload_n 0, 1) := by decide +kernel
theorem dX8_lease_109 : decode cX8_lease 109 = .ok (.getfield 13, 3) := by decide +kernel
theorem dX8_lease_112 : decode cX8_lease 112 = .ok (.sipush 611, 3) := by decide +kernel
theorem dX8_lease_115 : decode cX8_lease 115 = .ok (.iconst 3, 1) := by decide +kernel
theorem dX8_lease_116 : decode cX8_lease 116 = .ok (.iload_n 1, 1) := by decide +kernel
theorem dX8_lease_117 : decode cX8_lease 117 = .ok (.imul, 1) := by decide +kernel
theorem dX8_lease_118 : decode cX8_lease 118 = .ok (.iadd, 1) := by decide +kernel
theorem dX8_lease_119 : decode cX8_lease 119 = .ok (.iconst 1, 1) := by decide +kernel
theorem dX8_lease_120 : decode cX8_lease 120 = .ok (.iadd, 1) := by decide +kernel
theorem dX8_lease_121 : decode cX8_lease 121 = .ok (.aload_n 0, 1) := by decide +kernel
theorem dX8_lease_122 : decode cX8_lease 122 = .ok (.getfield 13, 3) := by decide +kernel
theorem dX8_lease_125 : decode cX8_lease 125 = .ok (.iconst 0, 1) := by decide +kernel
theorem dX8_lease_126 : decode cX8_lease 126 = .ok (.iaload, 1) := by decide +kernel
theorem dX8_lease_127 : decode cX8_lease 127 = .ok (.iload_n 3, 1) := by decide +kernel
theorem dX8_lease_128 : decode cX8_lease 128 = .ok (.iadd, 1) := by decide +kernel
theorem dX8_lease_129 : decode cX8_lease 129 = .ok (.iastore, 1) := by decide +kernel
theorem dX8_lease_130 : decode cX8_lease 130 = .ok (.aload_n 0, 1) := by decide +kernel
theorem dX8_lease_131 : decode cX8_lease 131 = .ok (.getfield 13, 3) := by decide +kernel
theorem dX8_lease_134 : decode cX8_lease 134 = .ok (.sipush 611, 3) := by decide +kernel
theorem dX8_lease_137 : decode cX8_lease 137 = .ok (.iconst 3, 1) := by decide +kernel
theorem dX8_lease_138 : decode cX8_lease 138 = .ok (.iload_n 1, 1) := by decide +kernel
theorem dX8_lease_139 : decode cX8_lease 139 = .ok (.imul, 1) := by decide +kernel
theorem dX8_lease_140 : decode cX8_lease 140 = .ok (.iadd, 1) := by decide +kernel
theorem dX8_lease_141 : decode cX8_lease 141 = .ok (.iconst 2, 1) := by decide +kernel
theorem dX8_lease_142 : decode cX8_lease 142 = .ok (.iadd, 1) := by decide +kernel
theorem dX8_lease_143 : decode cX8_lease 143 = .ok (.iload 4, 2) := by decide +kernel
theorem dX8_lease_145 : decode cX8_lease 145 = .ok (.ifCond .eq 7, 3) := by decide +kernel
theorem dX8_lease_148 : decode cX8_lease 148 = .ok (.iconst 1, 1) := by decide +kernel
theorem dX8_lease_149 : decode cX8_lease 149 = .ok (.goto 4, 3) := by decide +kernel
theorem dX8_lease_152 : decode cX8_lease 152 = .ok (.iconst 0, 1) := by decide +kernel
theorem dX8_lease_153 : decode cX8_lease 153 = .ok (.iastore, 1) := by decide +kernel
theorem dX8_lease_154 : decode cX8_lease 154 = .ok (.iconst 0, 1) := by decide +kernel
theorem dX8_lease_155 : decode cX8_lease 155 = .ok (.istore 5, 2) := by decide +kernel
theorem dX8_lease_157 : decode cX8_lease 157 = .ok (.iload 5, 2) := by decide +kernel
theorem dX8_lease_159 : decode cX8_lease 159 = .ok (.bipush 60, 2) := by decide +kernel
theorem dX8_lease_161 : decode cX8_lease 161 = .ok (.if_icmp .ge 167, 3) := by decide +kernel
theorem dX8_lease_164 : decode cX8_lease 164 = .ok (.iload 5, 2) := by decide +kernel
theorem dX8_lease_166 : decode cX8_lease 166 = .ok (.aload_n 0, 1) := by decide +kernel
theorem dX8_lease_167 : decode cX8_lease 167 = .ok (.getfield 13, 3) := by decide +kernel
theorem dX8_lease_170 : decode cX8_lease 170 = .ok (.iconst 3, 1) := by decide +kernel
theorem dX8_lease_171 : decode cX8_lease 171 = .ok (.iaload, 1) := by decide +kernel
theorem dX8_lease_172 : decode cX8_lease 172 = .ok (.if_icmp .ge 26, 3) := by decide +kernel
theorem dX8_lease_175 : decode cX8_lease 175 = .ok (.aload_n 0, 1) := by decide +kernel
theorem dX8_lease_176 : decode cX8_lease 176 = .ok (.iload 5, 2) := by decide +kernel
theorem dX8_lease_178 : decode cX8_lease 178 = .ok (.invokevirtual 194, 3) := by decide +kernel
theorem dX8_lease_181 : decode cX8_lease 181 = .ok (.ifCond .eq 17, 3) := by decide +kernel
theorem dX8_lease_184 : decode cX8_lease 184 = .ok (.aload_n 0, 1) := by decide +kernel
theorem dX8_lease_185 : decode cX8_lease 185 = .ok (.iload 5, 2) := by decide +kernel
theorem dX8_lease_187 : decode cX8_lease 187 = .ok (.iload_n 2, 1) := by decide +kernel
theorem dX8_lease_188 : decode cX8_lease 188 = .ok (.invokevirtual 180, 3) := by decide +kernel
theorem dX8_lease_191 : decode cX8_lease 191 = .ok (.ifCond .eq 7, 3) := by decide +kernel
theorem dX8_lease_194 : decode cX8_lease 194 = .ok (.iconst 1, 1) := by decide +kernel
theorem dX8_lease_195 : decode cX8_lease 195 = .ok (.goto 4, 3) := by decide +kernel
theorem dX8_lease_198 : decode cX8_lease 198 = .ok (.iconst 0, 1) := by decide +kernel
theorem dX8_lease_199 : decode cX8_lease 199 = .ok (.istore 6, 2) := by decide +kernel
theorem dX8_lease_201 : decode cX8_lease 201 = .ok (.aload_n 0, 1) := by decide +kernel
theorem dX8_lease_202 : decode cX8_lease 202 = .ok (.getfield 13, 3) := by decide +kernel
theorem dX8_lease_205 : decode cX8_lease 205 = .ok (.iload_n 1, 1) := by decide +kernel
theorem dX8_lease_206 : decode cX8_lease 206 = .ok (.iconst 0, 1) := by decide +kernel
theorem dX8_lease_207 : decode cX8_lease 207 = .ok (.iload 5, 2) := by decide +kernel
theorem dX8_lease_209 : decode cX8_lease 209 = .ok (.invokestatic 173, 3) := by decide +kernel
theorem dX8_lease_212 : decode cX8_lease 212 = .ok (.iload 6, 2) := by decide +kernel
theorem dX8_lease_214 : decode cX8_lease 214 = .ok (.iastore, 1) := by decide +kernel
theorem dX8_lease_215 : decode cX8_lease 215 = .ok (.aload_n 0, 1) := by decide +kernel
theorem dX8_lease_216 : decode cX8_lease 216 = .ok (.getfield 13, 3) := by decide +kernel
theorem dX8_lease_219 : decode cX8_lease 219 = .ok (.iload_n 1, 1) := by decide +kernel
theorem dX8_lease_220 : decode cX8_lease 220 = .ok (.bipush 60, 2) := by decide +kernel
theorem dX8_lease_222 : decode cX8_lease 222 = .ok (.iload 5, 2) := by decide +kernel
theorem dX8_lease_224 : decode cX8_lease 224 = .ok (.invokestatic 173, 3) := by decide +kernel
theorem dX8_lease_227 : decode cX8_lease 227 = .ok (.iload 6, 2) := by decide +kernel
theorem dX8_lease_229 : decode cX8_lease 229 = .ok (.iastore, 1) := by decide +kernel
theorem dX8_lease_230 : decode cX8_lease 230 = .ok (.aload_n 0, 1) := by decide +kernel
theorem dX8_lease_231 : decode cX8_lease 231 = .ok (.getfield 13, 3) := by decide +kernel
theorem dX8_lease_234 : decode cX8_lease 234 = .ok (.iload_n 1, 1) := by decide +kernel
theorem dX8_lease_235 : decode cX8_lease 235 = .ok (.bipush 120, 2) := by decide +kernel
theorem dX8_lease_237 : decode cX8_lease 237 = .ok (.iload 5, 2) := by decide +kernel
theorem dX8_lease_239 : decode cX8_lease 239 = .ok (.invokestatic 173, 3) := by decide +kernel
theorem dX8_lease_242 : decode cX8_lease 242 = .ok (.iconst 0, 1) := by decide +kernel
theorem dX8_lease_243 : decode cX8_lease 243 = .ok (.iastore, 1) := by decide +kernel
theorem dX8_lease_244 : decode cX8_lease 244 = .ok (.iconst 0, 1) := by decide +kernel
theorem dX8_lease_245 : decode cX8_lease 245 = .ok (.istore 7, 2) := by decide +kernel
theorem dX8_lease_247 : decode cX8_lease 247 = .ok (.iload 7, 2) := by decide +kernel
theorem dX8_lease_249 : decode cX8_lease 249 = .ok (.bipush 6, 2) := by decide +kernel
theorem dX8_lease_251 : decode cX8_lease 251 = .ok (.if_icmp .ge 71, 3) := by decide +kernel
theorem dX8_lease_254 : decode cX8_lease 254 = .ok (.aload_n 0, 1) := by decide +kernel
theorem dX8_lease_255 : decode cX8_lease 255 = .ok (.getfield 13, 3) := by decide +kernel
theorem dX8_lease_258 : decode cX8_lease 258 = .ok (.iload_n 1, 1) := by decide +kernel
theorem dX8_lease_259 : decode cX8_lease 259 = .ok (.sipush 180, 3) := by decide +kernel
theorem dX8_lease_262 : decode cX8_lease 262 = .ok (.bipush 6, 2) := by decide +kernel
theorem dX8_lease_264 : decode cX8_lease 264 = .ok (.iload 5, 2) := by decide +kernel
theorem dX8_lease_266 : decode cX8_lease 266 = .ok (.imul, 1) := by decide +kernel
theorem dX8_lease_267 : decode cX8_lease 267 = .ok (.iload 7, 2) := by decide +kernel
theorem dX8_lease_269 : decode cX8_lease 269 = .ok (.iadd, 1) := by decide +kernel
theorem dX8_lease_270 : decode cX8_lease 270 = .ok (.invokestatic 173, 3) := by decide +kernel
theorem dX8_lease_273 : decode cX8_lease 273 = .ok (.iload 6, 2) := by decide +kernel
theorem dX8_lease_275 : decode cX8_lease 275 = .ok (.aload_n 0, 1) := by decide +kernel
theorem dX8_lease_276 : decode cX8_lease 276 = .ok (.iload 5, 2) := by decide +kernel
theorem dX8_lease_278 : decode cX8_lease 278 = .ok (.iload 7, 2) := by decide +kernel
theorem dX8_lease_280 : decode cX8_lease 280 = .ok (.invokevirtual 203, 3) := by decide +kernel
theorem dX8_lease_283 : decode cX8_lease 283 = .ok (.imul, 1) := by decide +kernel
theorem dX8_lease_284 : decode cX8_lease 284 = .ok (.iastore, 1) := by decide +kernel
theorem dX8_lease_285 : decode cX8_lease 285 = .ok (.aload_n 0, 1) := by decide +kernel
theorem dX8_lease_286 : decode cX8_lease 286 = .ok (.getfield 13, 3) := by decide +kernel
theorem dX8_lease_289 : decode cX8_lease 289 = .ok (.iload_n 1, 1) := by decide +kernel
theorem dX8_lease_290 : decode cX8_lease 290 = .ok (.sipush 540, 3) := by decide +kernel
theorem dX8_lease_293 : decode cX8_lease 293 = .ok (.bipush 6, 2) := by decide +kernel
theorem dX8_lease_295 : decode cX8_lease 295 = .ok (.iload 5, 2) := by decide +kernel
theorem dX8_lease_297 : decode cX8_lease 297 = .ok (.imul, 1) := by decide +kernel
theorem dX8_lease_298 : decode cX8_lease 298 = .ok (.iload 7, 2) := by decide +kernel
theorem dX8_lease_300 : decode cX8_lease 300 = .ok (.iadd, 1) := by decide +kernel
theorem dX8_lease_301 : decode cX8_lease 301 = .ok (.invokestatic 173, 3) := by decide +kernel
theorem dX8_lease_304 : decode cX8_lease 304 = .ok (.iload 6, 2) := by decide +kernel
theorem dX8_lease_306 : decode cX8_lease 306 = .ok (.aload_n 0, 1) := by decide +kernel
theorem dX8_lease_307 : decode cX8_lease 307 = .ok (.iload 5, 2) := by decide +kernel
theorem dX8_lease_309 : decode cX8_lease 309 = .ok (.iload 7, 2) := by decide +kernel
theorem dX8_lease_311 : decode cX8_lease 311 = .ok (.invokevirtual 203, 3) := by decide +kernel
theorem dX8_lease_314 : decode cX8_lease 314 = .ok (.imul, 1) := by decide +kernel
theorem dX8_lease_315 : decode cX8_lease 315 = .ok (.iastore, 1) := by decide +kernel
theorem dX8_lease_316 : decode cX8_lease 316 = .ok (.iinc 7 1, 3) := by decide +kernel
theorem dX8_lease_319 : decode cX8_lease 319 = .ok (.goto (-72), 3) := by decide +kernel
theorem dX8_lease_322 : decode cX8_lease 322 = .ok (.iinc 5 1, 3) := by decide +kernel
theorem dX8_lease_325 : decode cX8_lease 325 = .ok (.goto (-168), 3) := by decide +kernel
theorem dX8_lease_328 : decode cX8_lease 328 = .ok (.aload_n 0, 1) := by decide +kernel
theorem dX8_lease_329 : decode cX8_lease 329 = .ok (.getfield 13, 3) := by decide +kernel
theorem dX8_lease_332 : decode cX8_lease 332 = .ok (.iconst 0, 1) := by decide +kernel
theorem dX8_lease_333 : decode cX8_lease 333 = .ok (.iaload, 1) := by decide +kernel
theorem dX8_lease_334 : decode cX8_lease 334 = .ok (.iload_n 3, 1) := by decide +kernel
theorem dX8_lease_335 : decode cX8_lease 335 = .ok (.iadd, 1) := by decide +kernel
theorem dX8_lease_336 : decode cX8_lease 336 = .ok (.ireturn, 1) := by decide +kernel
theorem dX8_renew_0 : decode cX8_renew 0 = .ok (.aload_n 0, 1) := by decide +kernel
theorem dX8_renew_1 : decode cX8_renew 1 = .ok (.iconst 0, 1) := by decide +kernel
theorem dX8_renew_2 : decode cX8_renew 2 = .ok (.putfield 38, 3) := by decide +kernel
theorem dX8_renew_5 : decode cX8_renew 5 = .ok (.aload_n 0, 1) := by decide +kernel
theorem dX8_renew_6 : decode cX8_renew 6 = .ok (.aload_n 0, 1) := by decide +kernel
theorem dX8_renew_7 : decode cX8_renew 7 = .ok (.iload_n 1, 1) := by decide +kernel
theorem dX8_renew_8 : decode cX8_renew 8 = .ok (.invokevirtual 188, 3) := by decide +kernel
theorem dX8_renew_11 : decode cX8_renew 11 = .ok (.iconst 1, 1) := by decide +kernel
theorem dX8_renew_12 : decode cX8_renew 12 = .ok (.invokevirtual 49, 3) := by decide +kernel
theorem dX8_renew_15 : decode cX8_renew 15 = .ok (.ifCond .ne 64, 3) := by decide +kernel
theorem dX8_renew_18 : decode cX8_renew 18 = .ok (.aload_n 0, 1) := by decide +kernel
theorem dX8_renew_19 : decode cX8_renew 19 = .ok (.iload_n 2, 1) := by decide +kernel
theorem dX8_renew_20 : decode cX8_renew 20 = .ok (.iconst 1, 1) := by decide +kernel
theorem dX8_renew_21 : decode cX8_renew 21 = .ok (.bipush 100, 2) := by decide +kernel
theorem dX8_renew_23 : decode cX8_renew 23 = .ok (.invokestatic 53, 3) := by decide +kernel
theorem dX8_renew_26 : decode cX8_renew 26 = .ok (.iconst 2, 1) := by decide +kernel
theorem dX8_renew_27 : decode cX8_renew 27 = .ok (.invokevirtual 49, 3) := by decide +kernel
theorem dX8_renew_30 : decode cX8_renew 30 = .ok (.ifCond .ne 49, 3) := by decide +kernel
theorem dX8_renew_33 : decode cX8_renew 33 = .ok (.aload_n 0, 1) := by decide +kernel
theorem dX8_renew_34 : decode cX8_renew 34 = .ok (.aload_n 0, 1) := by decide +kernel
theorem dX8_renew_35 : decode cX8_renew 35 = .ok (.iload_n 1, 1) := by decide +kernel
theorem dX8_renew_36 : decode cX8_renew 36 = .ok (.invokevirtual 177, 3) := by decide +kernel
theorem dX8_renew_39 : decode cX8_renew 39 = .ok (.ifCond .eq 32, 3) := by decide +kernel
theorem dX8_renew_42 : decode cX8_renew 42 = .ok (.aload_n 0, 1) := by decide +kernel
theorem dX8_renew_43 : decode cX8_renew 43 = .ok (.getfield 13, 3) := by decide +kernel
theorem dX8_renew_46 : decode cX8_renew 46 = .ok (.iconst 0, 1) := by decide +kernel
theorem dX8_renew_47 : decode cX8_renew 47 = .ok (.iaload, 1) := by decide +kernel
theorem dX8_renew_48 : decode cX8_renew 48 = .ok (.iload_n 2, 1) := by decide +kernel
theorem dX8_renew_49 : decode cX8_renew 49 = .ok (.iadd, 1) := by decide +kernel
theorem dX8_renew_50 : decode cX8_renew 50 = .ok (.aload_n 0, 1) := by decide +kernel
theorem dX8_renew_51 : decode cX8_renew 51 = .ok (.getfield 13, 3) := by decide +kernel
theorem dX8_renew_54 : decode cX8_renew 54 = .ok (.sipush 611, 3) := by decide +kernel
theorem dX8_renew_57 : decode cX8_renew 57 = .ok (.iconst 3, 1) := by decide +kernel
theorem dX8_renew_58 : decode cX8_renew 58 = .ok (.iload_n 1, 1) := by decide +kernel
theorem dX8_renew_59 : decode cX8_renew 59 = .ok (.imul, 1) := by decide +kernel
theorem dX8_renew_60 : decode cX8_renew 60 = .ok (.iadd, 1) := by decide +kernel
theorem dX8_renew_61 : decode cX8_renew 61 = .ok (.iconst 1, 1) := by decide +kernel
theorem dX8_renew_62 : decode cX8_renew 62 = .ok (.iadd, 1) := by decide +kernel
theorem dX8_renew_63 : decode cX8_renew 63 = .ok (.iaload, 1) := by decide +kernel
theorem dX8_renew_64 : decode cX8_renew 64 = .ok (.if_icmp .le 7, 3) := by decide +kernel
theorem dX8_renew_67 : decode cX8_renew 67 = .ok (.iconst 1, 1) := by decide +kernel
theorem dX8_renew_68 : decode cX8_renew 68 = .ok (.goto 4, 3) := by decide +kernel
theorem dX8_renew_71 : decode cX8_renew 71 = .ok (.iconst 0, 1) := by decide +kernel
theorem dX8_renew_72 : decode cX8_renew 72 = .ok (.iconst 3, 1) := by decide +kernel
theorem dX8_renew_73 : decode cX8_renew 73 = .ok (.invokevirtual 49, 3) := by decide +kernel
theorem dX8_renew_76 : decode cX8_renew 76 = .ok (.ifCond .eq 5, 3) := by decide +kernel
theorem dX8_renew_79 : decode cX8_renew 79 = .ok (.iconst 0, 1) := by decide +kernel
theorem dX8_renew_80 : decode cX8_renew 80 = .ok (.ireturn, 1) := by decide +kernel
theorem dX8_renew_81 : decode cX8_renew 81 = .ok (.aload_n 0, 1) := by decide +kernel
theorem dX8_renew_82 : decode cX8_renew 82 = .ok (.invokevirtual 201, 3) := by decide +kernel
theorem dX8_renew_85 : decode cX8_renew 85 = .ok (.aload_n 0, 1) := by decide +kernel
theorem dX8_renew_86 : decode cX8_renew 86 = .ok (.getfield 13, 3) := by decide +kernel
theorem dX8_renew_89 : decode cX8_renew 89 = .ok (.sipush 611, 3) := by decide +kernel
theorem dX8_renew_92 : decode cX8_renew 92 = .ok (.iconst 3, 1) := by decide +kernel
theorem dX8_renew_93 : decode cX8_renew 93 = .ok (.iload_n 1, 1) := by decide +kernel
theorem dX8_renew_94 : decode cX8_renew 94 = .ok (.imul, 1) := by decide +kernel
theorem dX8_renew_95 : decode cX8_renew 95 = .ok (.iadd, 1) := by decide +kernel
theorem dX8_renew_96 : decode cX8_renew 96 = .ok (.iconst 1, 1) := by decide +kernel
theorem dX8_renew_97 : decode cX8_renew 97 = .ok (.iadd, 1) := by decide +kernel
theorem dX8_renew_98 : decode cX8_renew 98 = .ok (.aload_n 0, 1) := by decide +kernel
theorem dX8_renew_99 : decode cX8_renew 99 = .ok (.getfield 13, 3) := by decide +kernel
theorem dX8_renew_102 : decode cX8_renew 102 = .ok (.iconst 0, 1) := by decide +kernel
theorem dX8_renew_103 : decode cX8_renew 103 = .ok (.iaload, 1) := by decide +kernel
theorem dX8_renew_104 : decode cX8_renew 104 = .ok (.iload_n 2, 1) := by decide +kernel
theorem dX8_renew_105 : decode cX8_renew 105 = .ok (.iadd, 1) := by decide +kernel
theorem dX8_renew_106 : decode cX8_renew 106 = .ok (.iastore, 1) := by decide +kernel
theorem dX8_renew_107 : decode cX8_renew 107 = .ok (.aload_n 0, 1) := by decide +kernel
theorem dX8_renew_108 : decode cX8_renew 108 = .ok (.getfield 13, 3) := by decide +kernel
theorem dX8_renew_111 : decode cX8_renew 111 = .ok (.iconst 0, 1) := by decide +kernel
theorem dX8_renew_112 : decode cX8_renew 112 = .ok (.iaload, 1) := by decide +kernel
theorem dX8_renew_113 : decode cX8_renew 113 = .ok (.iload_n 2, 1) := by decide +kernel
theorem dX8_renew_114 : decode cX8_renew 114 = .ok (.iadd, 1) := by decide +kernel
theorem dX8_renew_115 : decode cX8_renew 115 = .ok (.ireturn, 1) := by decide +kernel
theorem dX8_setField_0 : decode cX8_setField 0 = .ok (.aload_n 0, 1) := by decide +kernel
theorem dX8_setField_1 : decode cX8_setField 1 = .ok (.iconst 0, 1) := by decide +kernel
theorem dX8_setField_2 : decode cX8_setField 2 = .ok (.putfield 38, 3) := by decide +kernel
theorem dX8_setField_5 : decode cX8_setField 5 = .ok (.aload_n 0, 1) := by decide +kernel
theorem dX8_setField_6 : decode cX8_setField 6 = .ok (.aload_n 0, 1) := by decide +kernel
theorem dX8_setField_7 : decode cX8_setField 7 = .ok (.iload_n 1, 1) := by decide +kernel
theorem dX8_setField_8 : decode cX8_setField 8 = .ok (.invokevirtual 188, 3) := by decide +kernel
theorem dX8_setField_11 : decode cX8_setField 11 = .ok (.ifCond .eq 23, 3) := by decide +kernel
theorem dX8_setField_14 : decode cX8_setField 14 = .ok (.aload_n 0, 1) := by decide +kernel
theorem dX8_setField_15 : decode cX8_setField 15 = .ok (.iload_n 2, 1) := by decide +kernel
theorem dX8_setField_16 : decode cX8_setField 16 = .ok (.invokevirtual 191, 3) := by decide +kernel
theorem dX8_setField_19 : decode cX8_setField 19 = .ok (.ifCond .eq 15, 3) := by decide +kernel
theorem dX8_setField_22 : decode cX8_setField 22 = .ok (.aload_n 0, 1) := by decide +kernel
theorem dX8_setField_23 : decode cX8_setField 23 = .ok (.iload_n 3, 1) := by decide +kernel
theorem dX8_setField_24 : decode cX8_setField 24 = .ok (.invokevirtual 205, 3) := by decide +kernel
theorem dX8_setField_27 : decode cX8_setField 27 = .ok (.ifCond .eq 7, 3) := by decide +kernel
theorem dX8_setField_30 : decode cX8_setField 30 = .ok (.iconst 1, 1) := by decide +kernel
theorem dX8_setField_31 : decode cX8_setField 31 = .ok (.goto 4, 3) := by decide +kernel
theorem dX8_setField_34 : decode cX8_setField 34 = .ok (.iconst 0, 1) := by decide +kernel
theorem dX8_setField_35 : decode cX8_setField 35 = .ok (.iconst 1, 1) := by decide +kernel
theorem dX8_setField_36 : decode cX8_setField 36 = .ok (.invokevirtual 49, 3) := by decide +kernel
theorem dX8_setField_39 : decode cX8_setField 39 = .ok (.ifCond .ne 20, 3) := by decide +kernel
theorem dX8_setField_42 : decode cX8_setField 42 = .ok (.aload_n 0, 1) := by decide +kernel
theorem dX8_setField_43 : decode cX8_setField 43 = .ok (.iload 4, 2) := by decide +kernel
theorem dX8_setField_45 : decode cX8_setField 45 = .ok (.ldc 208, 2) := by decide +kernel
theorem dX8_setField_47 : decode cX8_setField 47 = .ok (.ldc 135, 2) := by decide +kernel
theorem dX8_setField_49 : decode cX8_setField 49 = .ok (.invokestatic 53, 3) := by decide +kernel
theorem dX8_setField_52 : decode cX8_setField 52 = .ok (.iconst 2, 1) := by decide +kernel
theorem dX8_setField_53 : decode cX8_setField 53 = .ok (.invokevirtual 49, 3) := by decide +kernel
theorem dX8_setField_56 : decode cX8_setField 56 = .ok (.ifCond .eq 5, 3) := by decide +kernel
theorem dX8_setField_59 : decode cX8_setField 59 = .ok (.iconst 0, 1) := by decide +kernel
theorem dX8_setField_60 : decode cX8_setField 60 = .ok (.ireturn, 1) := by decide +kernel
theorem dX8_setField_61 : decode cX8_setField 61 = .ok (.aload_n 0, 1) := by decide +kernel
theorem dX8_setField_62 : decode cX8_setField 62 = .ok (.aload_n 0, 1) := by decide +kernel
theorem dX8_setField_63 : decode cX8_setField 63 = .ok (.iload_n 1, 1) := by decide +kernel
theorem dX8_setField_64 : decode cX8_setField 64 = .ok (.invokevirtual 177, 3) := by decide +kernel
theorem dX8_setField_67 : decode cX8_setField 67 = .ok (.ifCond .eq 32, 3) := by decide +kernel
theorem dX8_setField_70 : decode cX8_setField 70 = .ok (.aload_n 0, 1) := by decide +kernel
theorem dX8_setField_71 : decode cX8_setField 71 = .ok (.iload_n 1, 1) := by decide +kernel
theorem dX8_setField_72 : decode cX8_setField 72 = .ok (.bipush 60, 2) := by decide +kernel
theorem dX8_setField_74 : decode cX8_setField 74 = .ok (.iload_n 2, 1) := by decide +kernel
theorem dX8_setField_75 : decode cX8_setField 75 = .ok (.invokevirtual 209, 3) := by decide +kernel
theorem dX8_setField_78 : decode cX8_setField 78 = .ok (.ifCond .eq 21, 3) := by decide +kernel
theorem dX8_setField_81 : decode cX8_setField 81 = .ok (.aload_n 0, 1) := by decide +kernel
theorem dX8_setField_82 : decode cX8_setField 82 = .ok (.getfield 13, 3) := by decide +kernel
theorem dX8_setField_85 : decode cX8_setField 85 = .ok (.sipush 131, 3) := by decide +kernel
theorem dX8_setField_88 : decode cX8_setField 88 = .ok (.iload_n 2, 1) := by decide +kernel
theorem dX8_setField_89 : decode cX8_setField 89 = .ok (.iadd, 1) := by decide +kernel
theorem dX8_setField_90 : decode cX8_setField 90 = .ok (.iaload, 1) := by decide +kernel
theorem dX8_setField_91 : decode cX8_setField 91 = .ok (.iconst 1, 1) := by decide +kernel
theorem dX8_setField_92 : decode cX8_setField 92 = .ok (.if_icmp .ne 7, 3) := by decide +kernel
theorem dX8_setField_95 : decode cX8_setField 95 = .ok (.iconst 1, 1) := by decide +kernel
theorem dX8_setField_96 : decode cX8_setField 96 = .ok (.goto 4, 3) := by decide +kernel
theorem dX8_setField_99 : decode cX8_setField 99 = .ok (.iconst 0, 1) := by decide +kernel
theorem dX8_setField_100 : decode cX8_setField 100 = .ok (.iconst 3, 1) := by decide +kernel
theorem dX8_setField_101 : decode cX8_setField 101 = .ok (.invokevirtual 49, 3) := by decide +kernel
theorem dX8_setField_104 : decode cX8_setField 104 = .ok (.ifCond .eq 5, 3) := by decide +kernel
theorem dX8_setField_107 : decode cX8_setField 107 = .ok (.iconst 0, 1) := by decide +kernel
theorem dX8_setField_108 : decode cX8_setField 108 = .ok (.ireturn, 1) := by decide +kernel
theorem dX8_setField_109 : decode cX8_setField 109 = .ok (.aload_n 0, 1) := by decide +kernel
theorem dX8_setField_110 : decode cX8_setField 110 = .ok (.invokevirtual 201, 3) := by decide +kernel
theorem dX8_setField_113 : decode cX8_setField 113 = .ok (.aload_n 0, 1) := by decide +kernel
theorem dX8_setField_114 : decode cX8_setField 114 = .ok (.iload_n 1, 1) := by decide +kernel
theorem dX8_setField_115 : decode cX8_setField 115 = .ok (.iload_n 2, 1) := by decide +kernel
theorem dX8_setField_116 : decode cX8_setField 116 = .ok (.iload_n 3, 1) := by decide +kernel
theorem dX8_setField_117 : decode cX8_setField 117 = .ok (.invokevirtual 212, 3) := by decide +kernel
theorem dX8_setField_120 : decode cX8_setField 120 = .ok (.istore 5, 2) := by decide +kernel
theorem dX8_setField_122 : decode cX8_setField 122 = .ok (.aload_n 0, 1) := by decide +kernel
theorem dX8_setField_123 : decode cX8_setField 123 = .ok (.getfield 13, 3) := by decide +kernel
theorem dX8_setField_126 : decode cX8_setField 126 = .ok (.iload_n 1, 1) := by decide +kernel
theorem dX8_setField_127 : decode cX8_setField 127 = .ok (.sipush 540, 3) := by decide +kernel
theorem dX8_setField_130 : decode cX8_setField 130 = .ok (.bipush 6, 2) := by decide +kernel
theorem dX8_setField_132 : decode cX8_setField 132 = .ok (.iload_n 2, 1) := by decide +kernel
theorem dX8_setField_133 : decode cX8_setField 133 = .ok (.imul, 1) := by decide +kernel
theorem dX8_setField_134 : decode cX8_setField 134 = .ok (.iload_n 3, 1) := by decide +kernel
theorem dX8_setField_135 : decode cX8_setField 135 = .ok (.iadd, 1) := by decide +kernel
theorem dX8_setField_136 : decode cX8_setField 136 = .ok (.invokestatic 173, 3) := by decide +kernel
theorem dX8_setField_139 : decode cX8_setField 139 = .ok (.iload 4, 2) := by decide +kernel
theorem dX8_setField_141 : decode cX8_setField 141 = .ok (.iastore, 1) := by decide +kernel
theorem dX8_setField_142 : decode cX8_setField 142 = .ok (.iload 5, 2) := by decide +kernel
theorem dX8_setField_144 : decode cX8_setField 144 = .ok (.ireturn, 1) := by decide +kernel
theorem dX8_isToAdd_0 : decode cX8_isToAdd 0 = .ok (.aload_n 0, 1) := by decide +kernel
theorem dX8_isToAdd_1 : decode cX8_isToAdd 1 = .ok (.iload_n 1, 1) := by decide +kernel
theorem dX8_isToAdd_2 : decode cX8_isToAdd 2 = .ok (.invokevirtual 177, 3) := by decide +kernel
theorem dX8_isToAdd_5 : decode cX8_isToAdd 5 = .ok (.ifCond .eq 42, 3) := by decide +kernel
theorem dX8_isToAdd_8 : decode cX8_isToAdd 8 = .ok (.aload_n 0, 1) := by decide +kernel
theorem dX8_isToAdd_9 : decode cX8_isToAdd 9 = .ok (.iload_n 1, 1) := by decide +kernel
theorem dX8_isToAdd_10 : decode cX8_isToAdd 10 = .ok (.bipush 60, 2) := by decide +kernel
theorem dX8_isToAdd_12 : decode cX8_isToAdd 12 = .ok (.iload_n 2, 1) := by decide +kernel
theorem dX8_isToAdd_13 : decode cX8_isToAdd 13 = .ok (.invokevirtual 209, 3) := by decide +kernel
theorem dX8_isToAdd_16 : decode cX8_isToAdd 16 = .ok (.ifCond .eq 31, 3) := by decide +kernel
theorem dX8_isToAdd_19 : decode cX8_isToAdd 19 = .ok (.aload_n 0, 1) := by decide +kernel
theorem dX8_isToAdd_20 : decode cX8_isToAdd 20 = .ok (.getfield 13, 3) := by decide +kernel
theorem dX8_isToAdd_23 : decode cX8_isToAdd 23 = .ok (.sipush 131, 3) := by decide +kernel
theorem dX8_isToAdd_26 : decode cX8_isToAdd 26 = .ok (.iload_n 2, 1) := by decide +kernel
theorem dX8_isToAdd_27 : decode cX8_isToAdd 27 = .ok (.iadd, 1) := by decide +kernel
theorem dX8_isToAdd_28 : decode cX8_isToAdd 28 = .ok (.iaload, 1) := by decide +kernel
theorem dX8_isToAdd_29 : decode cX8_isToAdd 29 = .ok (.ifCond .ne 18, 3) := by decide +kernel
theorem dX8_isToAdd_32 : decode cX8_isToAdd 32 = .ok (.aload_n 0, 1) := by decide +kernel
theorem dX8_isToAdd_33 : decode cX8_isToAdd 33 = .ok (.getfield 13, 3) := by decide +kernel
theorem dX8_isToAdd_36 : decode cX8_isToAdd 36 = .ok (.iconst 3, 1) := by decide +kernel
theorem dX8_isToAdd_37 : decode cX8_isToAdd 37 = .ok (.iaload, 1) := by decide +kernel
theorem dX8_isToAdd_38 : decode cX8_isToAdd 38 = .ok (.bipush 60, 2) := by decide +kernel
theorem dX8_isToAdd_40 : decode cX8_isToAdd 40 = .ok (.if_icmp .ge 7, 3) := by decide +kernel
theorem dX8_isToAdd_43 : decode cX8_isToAdd 43 = .ok (.iconst 1, 1) := by decide +kernel
theorem dX8_isToAdd_44 : decode cX8_isToAdd 44 = .ok (.goto 4, 3) := by decide +kernel
theorem dX8_isToAdd_47 : decode cX8_isToAdd 47 = .ok (.iconst 0, 1) := by decide +kernel
theorem dX8_isToAdd_48 : decode cX8_isToAdd 48 = .ok (.istore 4, 2) := by decide +kernel
theorem dX8_isToAdd_50 : decode cX8_isToAdd 50 = .ok (.iconst 0, 1) := by decide +kernel
theorem dX8_isToAdd_51 : decode cX8_isToAdd 51 = .ok (.istore 5, 2) := by decide +kernel
theorem dX8_isToAdd_53 : decode cX8_isToAdd 53 = .ok (.iload 5, 2) := by decide +kernel
theorem dX8_isToAdd_55 : decode cX8_isToAdd 55 = .ok (.aload_n 0, 1) := by decide +kernel
theorem dX8_isToAdd_56 : decode cX8_isToAdd 56 = .ok (.getfield 13, 3) := by decide +kernel
theorem dX8_isToAdd_59 : decode cX8_isToAdd 59 = .ok (.iconst 3, 1) := by decide +kernel
theorem dX8_isToAdd_60 : decode cX8_isToAdd 60 = .ok (.iaload, 1) := by decide +kernel
theorem dX8_isToAdd_61 : decode cX8_isToAdd 61 = .ok (.if_icmp .ge 61, 3) := by decide +kernel
theorem dX8_isToAdd_64 : decode cX8_isToAdd 64 = .ok (.iload 4, 2) := by decide +kernel
theorem dX8_isToAdd_66 : decode cX8_isToAdd 66 = .ok (.ifCond .eq 56, 3) := by decide +kernel
theorem dX8_isToAdd_69 : decode cX8_isToAdd 69 = .ok (.aload_n 0, 1) := by decide +kernel
theorem dX8_isToAdd_70 : decode cX8_isToAdd 70 = .ok (.iload_n 1, 1) := by decide +kernel
theorem dX8_isToAdd_71 : decode cX8_isToAdd 71 = .ok (.bipush 60, 2) := by decide +kernel
theorem dX8_isToAdd_73 : decode cX8_isToAdd 73 = .ok (.iload 5, 2) := by decide +kernel
theorem dX8_isToAdd_75 : decode cX8_isToAdd 75 = .ok (.invokevirtual 209, 3) := by decide +kernel
theorem dX8_isToAdd_78 : decode cX8_isToAdd 78 = .ok (.ifCond .eq 31, 3) := by decide +kernel
theorem dX8_isToAdd_81 : decode cX8_isToAdd 81 = .ok (.aload_n 0, 1) := by decide +kernel
theorem dX8_isToAdd_82 : decode cX8_isToAdd 82 = .ok (.getfield 13, 3) := by decide +kernel
theorem dX8_isToAdd_85 : decode cX8_isToAdd 85 = .ok (.bipush 11, 2) := by decide +kernel
theorem dX8_isToAdd_87 : decode cX8_isToAdd 87 = .ok (.iload 5, 2) := by decide +kernel
theorem dX8_isToAdd_89 : decode cX8_isToAdd 89 = .ok (.iadd, 1) := by decide +kernel
theorem dX8_isToAdd_90 : decode cX8_isToAdd 90 = .ok (.iaload, 1) := by decide +kernel
theorem dX8_isToAdd_91 : decode cX8_isToAdd 91 = .ok (.iload_n 2, 1) := by decide +kernel
theorem dX8_isToAdd_92 : decode cX8_isToAdd 92 = .ok (.if_icmp .ne 17, 3) := by decide +kernel
theorem dX8_isToAdd_95 : decode cX8_isToAdd 95 = .ok (.aload_n 0, 1) := by decide +kernel
theorem dX8_isToAdd_96 : decode cX8_isToAdd 96 = .ok (.getfield 13, 3) := by decide +kernel
theorem dX8_isToAdd_99 : decode cX8_isToAdd 99 = .ok (.bipush 71, 2) := by decide +kernel
theorem dX8_isToAdd_101 : decode cX8_isToAdd 101 = .ok (.iload 5, 2) := by decide +kernel
theorem dX8_isToAdd_103 : decode cX8_isToAdd 103 = .ok (.iadd, 1) := by decide +kernel
theorem dX8_isToAdd_104 : decode cX8_isToAdd 104 = .ok (.iaload, 1) := by decide +kernel
theorem dX8_isToAdd_105 : decode cX8_isToAdd 105 = .ok (.iload_n 3, 1) := by decide +kernel
theorem dX8_isToAdd_106 : decode cX8_isToAdd 106 = .ok (.if_icmp .eq 7, 3) := by decide +kernel
theorem dX8_isToAdd_109 : decode cX8_isToAdd 109 = .ok (.iconst 1, 1) := by decide +kernel
theorem dX8_isToAdd_110 : decode cX8_isToAdd 110 = .ok (.goto 4, 3) := by decide +kernel
theorem dX8_isToAdd_113 : decode cX8_isToAdd 113 = .ok (.iconst 0, 1) := by decide +kernel
theorem dX8_isToAdd_114 : decode cX8_isToAdd 114 = .ok (.istore 4, 2) := by decide +kernel
theorem dX8_isToAdd_116 : decode cX8_isToAdd 116 = .ok (.iinc 5 1, 3) := by decide +kernel
theorem dX8_isToAdd_119 : decode cX8_isToAdd 119 = .ok (.goto (-66), 3) := by decide +kernel
theorem dX8_isToAdd_122 : decode cX8_isToAdd 122 = .ok (.iload 4, 2) := by decide +kernel
theorem dX8_isToAdd_124 : decode cX8_isToAdd 124 = .ok (.ireturn, 1) := by decide +kernel
theorem dX8_addNode_0 : decode cX8_addNode 0 = .ok (.aload_n 0, 1) := by decide +kernel
theorem dX8_addNode_1 : decode cX8_addNode 1 = .ok (.iconst 0, 1) := by decide +kernel
theorem dX8_addNode_2 : decode cX8_addNode 2 = .ok (.putfield 38, 3) := by decide +kernel
theorem dX8_addNode_5 : decode cX8_addNode 5 = .ok (.aload_n 0, 1) := by decide +kernel
theorem dX8_addNode_6 : decode cX8_addNode 6 = .ok (.aload_n 0, 1) := by decide +kernel
theorem dX8_addNode_7 : decode cX8_addNode 7 = .ok (.iload_n 1, 1) := by decide +kernel
theorem dX8_addNode_8 : decode cX8_addNode 8 = .ok (.invokevirtual 188, 3) := by decide +kernel
theorem dX8_addNode_11 : decode cX8_addNode 11 = .ok (.ifCond .eq 15, 3) := by decide +kernel
theorem dX8_addNode_14 : decode cX8_addNode 14 = .ok (.aload_n 0, 1) := by decide +kernel
theorem dX8_addNode_15 : decode cX8_addNode 15 = .ok (.iload_n 2, 1) := by decide +kernel
theorem dX8_addNode_16 : decode cX8_addNode 16 = .ok (.invokevirtual 191, 3) := by decide +kernel
theorem dX8_addNode_19 : decode cX8_addNode 19 = .ok (.ifCond .eq 7, 3) := by decide +kernel
theorem dX8_addNode_22 : decode cX8_addNode 22 = .ok (.iconst 1, 1) := by decide +kernel
theorem dX8_addNode_23 : decode cX8_addNode 23 = .ok (.goto 4, 3) := by decide +kernel
theorem dX8_addNode_26 : decode cX8_addNode 26 = .ok (.iconst 0, 1) := by decide +kernel
theorem dX8_addNode_27 : decode cX8_addNode 27 = .ok (.iconst 1, 1) := by decide +kernel
theorem dX8_addNode_28 : decode cX8_addNode 28 = .ok (.invokevirtual 49, 3) := by decide +kernel
theorem dX8_addNode_31 : decode cX8_addNode 31 = .ok (.ifCond .ne 34, 3) := by decide +kernel
theorem dX8_addNode_34 : decode cX8_addNode 34 = .ok (.aload_n 0, 1) := by decide +kernel
theorem dX8_addNode_35 : decode cX8_addNode 35 = .ok (.iload_n 3, 1) := by decide +kernel
theorem dX8_addNode_36 : decode cX8_addNode 36 = .ok (.iconst 0, 1) := by decide +kernel
theorem dX8_addNode_37 : decode cX8_addNode 37 = .ok (.sipush 999, 3) := by decide +kernel
theorem dX8_addNode_40 : decode cX8_addNode 40 = .ok (.invokestatic 53, 3) := by decide +kernel
theorem dX8_addNode_43 : decode cX8_addNode 43 = .ok (.iconst 2, 1) := by decide +kernel
theorem dX8_addNode_44 : decode cX8_addNode 44 = .ok (.invokevirtual 49, 3) := by decide +kernel
theorem dX8_addNode_47 : decode cX8_addNode 47 = .ok (.ifCond .ne 18, 3) := by decide +kernel
theorem dX8_addNode_50 : decode cX8_addNode 50 = .ok (.aload_n 0, 1) := by decide +kernel
theorem dX8_addNode_51 : decode cX8_addNode 51 = .ok (.aload_n 0, 1) := by decide +kernel
theorem dX8_addNode_52 : decode cX8_addNode 52 = .ok (.iload_n 1, 1) := by decide +kernel
theorem dX8_addNode_53 : decode cX8_addNode 53 = .ok (.iload_n 2, 1) := by decide +kernel
theorem dX8_addNode_54 : decode cX8_addNode 54 = .ok (.iload_n 3, 1) := by decide +kernel
theorem dX8_addNode_55 : decode cX8_addNode 55 = .ok (.invokevirtual 215, 3) := by decide +kernel
theorem dX8_addNode_58 : decode cX8_addNode 58 = .ok (.iconst 3, 1) := by decide +kernel
theorem dX8_addNode_59 : decode cX8_addNode 59 = .ok (.invokevirtual 49, 3) := by decide +kernel
theorem dX8_addNode_62 : decode cX8_addNode 62 = .ok (.ifCond .eq 5, 3) := by decide +kernel
theorem dX8_addNode_65 : decode cX8_addNode 65 = .ok (.iconst 0, 1) := by decide +kernel
theorem dX8_addNode_66 : decode cX8_addNode 66 = .ok (.ireturn, 1) := by decide +kernel
theorem dX8_addNode_67 : decode cX8_addNode 67 = .ok (.aload_n 0, 1) := by decide +kernel
